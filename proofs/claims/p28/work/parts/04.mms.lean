/-! THE MINI MACHINE, part 3: a simple instruction of it is one of the machine -/
def mmGood : List Jvm.Cond := lw_tbl.filter goodWord
def mmIsNest : Jvm.Cond → Bool
  | .fieldLinkNest _ _ _ _ _ _ => true
  | .methodLinkNest _ _ _ _ => true
  | _ => false
def mmNest : List Jvm.Cond := lw_tbl.filter mmIsNest
def mmTys : List (Nat × FieldType) := [(1000, .int), (1001, .array .int), (1002, .array (.array .int))]
/-- the classes of rows, of arrays of rows, and of arrays of those -/
def mmAr (cA : (Nat → ClassId) × Cell) (U : State) : Prop := (∃ k comp, U.vm.classes[cA.1 1000]? = some k ∧ k.kind = .array comp .int) ∧ (∃ k, U.vm.classes[cA.1 1001]? = some k ∧ k.kind = .array (cA.1 1000) (.array .int)) ∧ ∃ k, U.vm.classes[cA.1 1002]? = some k ∧ k.kind = .array (cA.1 1001) (.array (.array .int))
theorem mmAr.moved {cA : (Nat → ClassId) × Cell} {u U : State} (hvm : u.vm.Alike U.vm) (h : mmAr cA u) : mmAr cA U := by
  obtain ⟨⟨k, comp, a1, a2⟩, ⟨k1, b1, b2⟩, k2, c1, c2⟩ := h
  obtain ⟨k', hk', he⟩ := hvm.2.2 _ _ a1
  obtain ⟨k1', hk1', he1⟩ := hvm.2.2 _ _ b1
  obtain ⟨k2', hk2', he2⟩ := hvm.2.2 _ _ c1
  exact ⟨⟨k', comp, hk', by rw [he]; exact a2⟩, ⟨k1', hk1', by rw [he1]; exact b2⟩, k2', hk2', by rw [he2]; exact c2⟩
def mmK (D : va_G) (cA : (Nat → ClassId) × Cell) (U : State) : Prop := (∀ (c : Nat) (q : vw_C), vwCl[c]? = some q → u_Kn U q.1 q.2.1 q.2.2 (D.1 c) (D.2 c)) ∧ (∀ (t : Nat) (ty : FieldType), (t, ty) ∈ mmTys → ArrOfT U (cA.1 t) ty ∧ va_RA U (cA.1 t) ty) ∧ (∀ w ∈ mmNest, va_Nw w U) ∧ U.isArrayOf cA.2 .int ∧ cA.2.vm ≠ .unknown ∧ mmAr cA U
theorem mmNest_tab {w : Jvm.Cond} (h : w ∈ mmNest) : mmIsNest w = true := (List.mem_filter.mp h).2
theorem mmK.warm {D : va_G} {cA : (Nat → ClassId) × Cell} {s U : State} (hW : s.WarmedH U.vm) (h : mmK D cA s) : mmK D cA U := by
  refine ⟨fun c q hq => u_Kn_moved hW.alike (h.1 c q hq), fun t ty ht => ⟨arrOfT_moved hW.alike (h.2.1 t ty ht).1, (h.2.1 t ty ht).2.moved hW.alike⟩, fun w hw => ?_, State.isArrayOf_alike hW.alike h.2.2.2.1, h.2.2.2.2.1, h.2.2.2.2.2.moved hW.alike⟩
  have h1 := h.2.2.1 w hw
  have h2 := mmNest_tab hw
  cases w <;> first | exact va_Nw.warmF hW h1 | exact va_Nw.warmM hW h1 | cases h2
theorem mmK.same {D : va_G} {cA : (Nat → ClassId) × Cell} {u U : State} (e : u.vm = U.vm) (h : mmK D cA u) : mmK D cA U := by
  have ha : u.vm.Alike U.vm := by rw [e]; exact Vm.Alike.refl _
  refine ⟨fun c q hq => u_Kn_moved ha (h.1 c q hq), fun t ty ht => ⟨arrOfT_moved ha (h.2.1 t ty ht).1, (h.2.1 t ty ht).2.moved ha⟩, fun w hw => ?_, State.isArrayOf_alike ha h.2.2.2.1, h.2.2.2.2.1, h.2.2.2.2.2.moved ha⟩
  have h2 := mmNest_tab hw
  refine va_Nw.same ?_ e (h.2.2.1 w hw)
  cases w <;> first | rfl | cases h2
def mmLayB (q : vw_C) : Bool := (u_ws q.1 q.2.1 q.2.2).all (fun w => decide (w ∈ mmGood)) && (List.range q.2.2).all (fun k => (parseFieldDescriptor (q.2.1 k).2.2.1).isSome && (List.range q.2.2).all (fun j => j == k || (q.2.1 k).2.1 != (q.2.1 j).2.1))
set_option maxRecDepth 100000 in
theorem mmLay_ok : vwCl.all mmLayB = true := by decide +kernel
theorem mmLay {ci : Nat} {q : vw_C} (h : vwCl[ci]? = some q) : (∀ w ∈ u_ws q.1 q.2.1 q.2.2, w ∈ mmGood) ∧ (∀ k, k < q.2.2 → ∃ ty, parseFieldDescriptor (q.2.1 k).2.2.1 = some ty) ∧ ∀ a, a < q.2.2 → ∀ b, b < q.2.2 → a ≠ b → (q.2.1 a).2.1 ≠ (q.2.1 b).2.1 := by
  have h1 := List.all_eq_true.mp mmLay_ok q (List.mem_of_getElem? h)
  unfold mmLayB at h1
  rw [Bool.and_eq_true, List.all_eq_true, List.all_eq_true] at h1
  refine ⟨fun w hw => of_decide_eq_true (h1.1 w hw), fun k hk => ?_, fun a ha b hb hab => ?_⟩
  · have h2 := h1.2 k (List.mem_range.mpr hk)
    rw [Bool.and_eq_true] at h2
    exact Option.isSome_iff_exists.mp h2.1
  · have h2 := h1.2 a (List.mem_range.mpr ha)
    rw [Bool.and_eq_true, List.all_eq_true] at h2
    have h3 := h2.2 b (List.mem_range.mpr hb)
    simp only [Bool.or_eq_true, beq_iff_eq, bne_iff_ne] at h3
    rcases h3 with h3 | h3
    · exact absurd h3.symm hab
    · exact h3
def mmLen : Instr → Nat
  | .bipush _ | .newarray _ | .iload _ | .istore _ | .lload _ | .lstore _ | .aload _ | .astore _ | .ldc _ => 2
  | .sipush _ | .ldc_w _ | .ldc2_w _ | .iinc _ _ | .getfield _ | .putfield _ | .new _ | .ifCond _ _ | .if_icmp _ _ | .goto _ | .invokevirtual _ | .invokestatic _ | .invokespecial _ => 3
  | .multianewarray _ _ => 4
  | _ => 1
/-- the method's own field, or a nest mate's -/
def mmOkF (M : mmM) (i ci k : Nat) (nest : Bool) : Prop := ∃ q, vwCl[ci]? = some q ∧ k < q.2.2 ∧
  (Cond.fieldLink M.1.cls i (q.2.1 k).1 (q.2.1 k).2.1 (q.2.1 k).2.2.1 ∈ mmGood ∨ nest = true ∧ ∃ host, Cond.fieldLinkNest M.1.cls i (q.2.1 k).1 (q.2.1 k).2.1 (q.2.1 k).2.2.1 host ∈ mmNest)
def mmTc : Nat → FieldType → Bool
  | 0, .int => true
  | 1, .boolean => true
  | 2, .long => true
  | 3, .object _ => true
  | 3, .array _ => true
  | _, _ => false
def mmOkP (M : mmM) (i ci k tc : Nat) : Prop := ∃ q ty, vwCl[ci]? = some q ∧ k < q.2.2 ∧ parseFieldDescriptor (q.2.1 k).2.2.1 = some ty ∧ mmTc tc ty = true ∧
  ((q.2.1 k).2.2.2 = true ∧ M.1.name = "<init>" ∧ (q.2.1 k).1 = M.1.cls ∧ Cond.fieldLink M.1.cls i (q.2.1 k).1 (q.2.1 k).2.1 (q.2.1 k).2.2.1 ∈ mmGood ∨
   (q.2.1 k).2.2.2 = false ∧ (Cond.fieldLink M.1.cls i (q.2.1 k).1 (q.2.1 k).2.1 (q.2.1 k).2.2.1 ∈ mmGood ∨ ∃ host, Cond.fieldLinkNest M.1.cls i (q.2.1 k).1 (q.2.1 k).2.1 (q.2.1 k).2.2.1 host ∈ mmNest))
def mmOkS (M : mmM) (ins : Instr) (ax : List Nat) : Prop := match ins with
  | .ldc i => ∀ b t, ax = b :: t → Cond.constant M.1.cls i (Int32.ofNat b) ∈ mmGood
  | .ldc_w i => ∀ b t, ax = b :: t → Cond.constant M.1.cls i (Int32.ofNat b) ∈ mmGood
  | .ldc2_w i => ∀ b t, ax = b :: t → Cond.constantLong M.1.cls i (Int64.ofNat b) ∈ mmGood
  | .getfield i => ∀ ci k t, ax = ci :: k :: t → mmOkF M i ci k true
  | .putfield i => ∀ ci k tc t, ax = ci :: k :: tc :: t → mmOkP M i ci k tc
  | .new i => ∀ ci t, ax = ci :: t → ∃ q, vwCl[ci]? = some q ∧ Cond.classLink M.1.cls i q.1 ∈ mmGood ∧ Cond.instantiable q.1 q.2.2 ∈ mmGood ∧ Cond.initialized q.1 ∈ mmGood
  | .newarray .int => Cond.arrayClass .int ∈ mmGood
  | .multianewarray i 2 => ∀ tg t, ax = tg :: t → (tg = 1001 → Cond.classLink M.1.cls i "[[I" ∈ mmGood) ∧ (tg = 1002 → Cond.classLink M.1.cls i "[[[I" ∈ mmGood)
  | _ => True
theorem mmTc_narrow {tc : Nat} {ty : FieldType} {v : Value} {r : Nat → Nat} (h1 : mmTc tc ty = true) (h2 : mmFit tc v = true) : narrow ty (mmv r v) = mmv r v ∧ fits ty (mmv r v) = true := by
  rcases tc with _ | _ | _ | _ | tc <;> cases ty <;> first
    | (simp [mmTc] at h1; done)
    | (cases v <;> first
        | (simp [mmFit] at h2; done)
        | exact ⟨rfl, rfl⟩
        | (simp only [mmFit, Bool.or_eq_true, decide_eq_true_eq] at h2; rcases h2 with rfl | rfl <;> (simp only [mmv]; decide)))
theorem mm_arrV {cI : ClassId} {N : Nat} {f g : Nat → Value} (h : ∀ k, k < N → f k = g k) : arrV cI N f = arrV cI N g := by
  unfold arrV
  have e : (fun j : Fin N => f j.val) = fun j => g j.val := funext fun j => h j.val j.isLt
  rw [e]
theorem mmKit_of {r : Nat → Nat} {lv : List (Option Value)} {i : Nat} {v : Value} (h : mmGet lv i = some v) : ∃ k : Nat, (mmKit r lv)[k]? = some (i, mmv r v) := List.getElem?_of_mem (mmKit_mem.mpr ⟨v, h, rfl⟩)
theorem mm_pushlen {h h0 : List mmC} (c : mmC) (hle : h0.length ≤ h.length) : (h ++ [c]).length - h0.length = (h.length - h0.length) + 1 := by simp; omega
theorem mm_pushsl {h h0 : List mmC} (c : mmC) (hsl : mmSl h0 ≤ mmSl h) : mmSl (h ++ [c]) - mmSl h0 = (mmSl h - mmSl h0) + c.2.length := by rw [mmSl_push]; omega
section MMS
variable {p : Program} {l : Launch} {e : Env} {R : Room} {s : State} {m : MethodId} {args : Array Value} {below : List Frame} {meth : Method} {c : Code} {Q : State → Prop}
variable {D : va_G} {cA : (Nat → ClassId) × Cell} {r : Nat → Nat} {M : mmM} {h0 : List mmC}
/-- what holds inside a method -/
def mmCtx (D : va_G) (cA : (Nat → ClassId) × Cell) (p : Program) (s : State) (m : MethodId) (args : Array Value) (meth : Method) (c : Code) (M : mmM) : Prop :=
  p.tables.exec = Jvm.exec ∧ c.code = M.2.1 ∧ c.maxLocals = M.2.2.1 ∧ meth.sig.returnType = M.2.2.2.1 ∧ meth.locks = false ∧ s.vm.findClass M.1.cls = some m.cls ∧ (∀ w ∈ mmGood, w.before args s = true) ∧ mmK D cA s ∧ (M.1.name = "<init>" → meth.name = "<init>")
theorem mm_getf {i ci k pc a : Nat} {v : Value} {st : List Value} {ls : Array Slot} {h : List mmC} {H : Heap} {locs : List Loc} {cells slots : Nat} {cl : mmC} (C : mmCtx D cA p s m args meth c M) (hok : mmOkF M i ci k true) (hdg : decode M.2.1 pc = .ok (.getfield i, 3)) (hW : mmW D cA r h H) (ha : h[a]? = some cl) (hci : cl.1 = ci ∧ ci < 1000) (hv : cl.2[k]? = some v)
    (kk : W p l e R s m args below meth c H locs cells slots Q (F0 m (pc + 3) ls (mmv r v :: st))) : W p l e R s m args below meth c H locs cells slots Q (F0 m pc ls (.ref (r a) :: st)) := by
  obtain ⟨hx, hb, -, -, -, hown, hts, hK, -⟩ := C
  obtain ⟨q, g1, g2, g3⟩ := hok
  obtain ⟨rfl, hlt⟩ := hci
  obtain ⟨q', f1, f2, cell, q1, q2, q3, q4⟩ := (hW.1 a cl ha).1 hlt
  cases g1.symm.trans f1
  obtain ⟨hS, hfc, kC, hkC, hkind⟩ := hK.1 _ _ g1
  obtain ⟨cf, kf, fi, f, hi, hsl⟩ := hS k g2
  have hst := (u_facts hfc hkC (u_lays hts (mmLay g1).1 g2) hi).1
  have hval : cell.slots[f.slot]? = some (mmv r v) := by
    rw [hsl, q4 k g2]
    simp [mmV, List.getD, hv]
  rcases g3 with g3 | ⟨-, host, g3⟩
  · exact W.getf hx hb hown (hts _ g3) hi hst q1 (by rw [q3]; exact fun z => by cases z) hval rfl rfl hdg kk
  · exact va_Wgetf hx hb hown (va_Nw.use rfl (hK.2.2.1 _ g3)) hi hst q1 (by rw [q3]; exact fun z => by cases z) hval rfl rfl hdg kk
theorem mmV_set {r : Nat → Nat} {fs : List Value} {k : Nat} (hk : k < fs.length) (v : Value) (j : Nat) : updV (mmV r fs) k (mmv r v) j = mmV r (fs.set k v) j := by
  unfold updV mmV
  by_cases hj : j = k
  · subst hj
    simp [List.getD, List.getElem?_set_self hk]
  · rw [if_neg hj]
    simp [List.getD, List.getElem?_set_ne (Ne.symm hj)]
theorem mm_putf {i ci k tc pc a : Nat} {v : Value} {st : List Value} {ls : Array Slot} {h : List mmC} {H : Heap} {locs : List Loc} {cells slots : Nat} {cl : mmC} (C : mmCtx D cA p s m args meth c M) (hok : mmOkP M i ci k tc) (hdg : decode M.2.1 pc = .ok (.putfield i, 3)) (hW : mmW D cA r h H) (hS0 : va_S (mmA r h0) s.heap H locs) (hb0 : ∀ j : Nat, h0.length ≤ j → r j + h0.length = s.heap.size + j) (ha : h[a]? = some cl) (hci : cl.1 = ci ∧ ci < 1000 ∧ k < cl.2.length ∧ mmFit tc v = true ∧ mmRo ≤ a)
    (kk : ∀ (H' : Heap) (locs' : List Loc), mmW D cA r (h.set a (ci, cl.2.set k v)) H' → va_S (mmA r h0) s.heap H' locs' → W p l e R s m args below meth c H' locs' cells slots Q (F0 m (pc + 3) ls st)) : W p l e R s m args below meth c H locs cells slots Q (F0 m pc ls (mmv r v :: .ref (r a) :: st)) := by
  obtain ⟨hx, hb, -, -, -, hown, hts, hK, hnm⟩ := C
  obtain ⟨q, ty, g1, g2, g3, g4, g5⟩ := hok
  obtain ⟨rfl, hlt, hkl, hft, hro⟩ := hci
  obtain ⟨q', f1, f2, cell, q1, q2, q3, q4⟩ := (hW.1 a cl ha).1 hlt
  cases g1.symm.trans f1
  obtain ⟨hS, hfc, kC, hkC, hkind⟩ := hK.1 _ _ g1
  obtain ⟨cf, kf, fi, f, hi, hsl⟩ := hS k g2
  obtain ⟨hn, hf⟩ := mmTc_narrow (r := r) g4 hft
  have hst := (u_facts hfc hkC (u_lays hts (mmLay g1).1 g2) hi).1
  have hap : ∀ x y, x < q.2.2 → y < q.2.2 → x ≠ y → (D.2 cl.1) x ≠ (D.2 cl.1) y := by
    intro x y hx hy hne
    obtain ⟨_, _, _, fa, hia, ea⟩ := hS x hx
    obtain ⟨_, _, _, fb, hib, eb⟩ := hS y hy
    rw [← ea, ← eb]
    refine u_apart (u_lays hts (mmLay g1).1 hx) (u_lays hts (mmLay g1).1 hy) hia hib ?_
    obtain ⟨tx, htx⟩ := (mmLay g1).2.1 x hx
    obtain ⟨ty', hty'⟩ := (mmLay g1).2.1 y hy
    rw [(State.fieldFound?_type hia htx).1, (State.fieldFound?_type hib hty').1]
    exact (mmLay g1).2.2 x hx y hy hne
  have hai : a < h.length := (List.getElem?_eq_some_iff.mp ha).1
  have fin : ∀ H' : Heap, H'[r a]? = some (cell.setSlot f.slot (mmv r v)) → H'.size = H.size → (∀ x : Nat, x ≠ r a → H'[x]? = H[x]?) → W p l e R s m args below meth c H' (locs ++ [⟨r a, f.slot⟩]) cells slots Q (F0 m (pc + 3) ls st) := by
    intro H' e1 e2 e3
    refine kk H' _ (hW.set hai e2 e3 ⟨fun _ => ⟨q, g1, by rw [f2]; simp, ?_⟩, fun hh => absurd hlt hh, fun hh => absurd hlt (by show ¬ cl.1 < 1000; have h9 : cl.1 = 1999 := hh; omega)⟩) (hS0.put e2 e3 (mmA.of hb0 hro))
    rw [hsl] at e1
    exact t_OB.to (V := updV (mmV r cl.2) k (mmv r v)) ⟨_, e1, q2, q3, t_set q4 hap g2 (mmv r v)⟩ (fun j _ => mmV_set hkl v j)
  have hslot : f.slot < cell.slots.size := by rw [hsl]; exact k2_hasslot (q4 k g2)
  have hlay := hts _ ((mmLay g1).1 _ (u_in_lay g2))
  unfold u_lay at hlay
  rcases g5 with ⟨k1, k2, k3, k4⟩ | ⟨k1, k2⟩
  · rw [if_pos k1] at hlay
    have hcf : m.cls = cf := by
      obtain ⟨_, _, c', _, _, _, -, -, hf', -, -, -, hown2, -⟩ := Cond.laysFinal_spec hlay
      have e1 : c' = cf := by have := hi.symm.trans hf'; simp at this; exact this.1.symm
      rw [k3] at hown2
      rw [← e1]; exact Option.some.inj (hown.symm.trans hown2)
    have h6 := u_fits hfc hkC hkind (Or.inr hlay) hi g3 hn hf
    exact W.putFinK hx hb hown (hts _ k4) hi hst hcf (hnm k2) (by rw [q2]; exact h6) q1 q3 hslot rfl rfl hdg fin
  · rw [if_neg (by rw [k1]; decide)] at hlay
    have h6 := u_store hfc hkC hkind hlay hi g3 hn hf
    rcases k2 with k2 | ⟨host, k2⟩
    · exact W.putK hx hb (f := f) ⟨hown, hts _ k2, ⟨_, _, _, hi⟩, hst⟩ (by rw [q2]; exact h6) q1 q3 hslot rfl rfl hdg fin
    · exact va_WputK hx hb (f := f) hown (va_Nw.use rfl (hK.2.2.1 _ k2)) hi hst (by rw [q2]; exact h6) q1 q3 hslot rfl rfl hdg fin
theorem mm_int {D : va_G} {cA : (Nat → ClassId) × Cell} {s : State} (hK : mmK D cA s) : ArrOfT s (cA.1 1000) .int ∧ va_RA s (cA.1 1000) .int := hK.2.1 1000 .int List.mem_cons_self
theorem mm_iald {pc a : Nat} {j x : Int32} {st : List Value} {ls : Array Slot} {h : List mmC} {H : Heap} {locs : List Loc} {cells slots : Nat} {cl : mmC} (C : mmCtx D cA p s m args meth c M) (hdg : decode M.2.1 pc = .ok (.iaload, 1)) (hW : mmW D cA r h H) (ha : h[a]? = some cl) (hci : (cl.1 = 1000 ∨ cl.1 = 1999) ∧ ¬ j < 0) (hv : cl.2[j.toNatClampNeg]? = some (.int x))
    (kk : W p l e R s m args below meth c H locs cells slots Q (F0 m (pc + 1) ls (.int x :: st))) : W p l e R s m args below meth c H locs cells slots Q (F0 m pc ls (.int j :: .ref (r a) :: st)) := by
  obtain ⟨hx, hb, -, -, -, hown, hts, hK, hnm⟩ := C
  have hlt : j.toNatClampNeg < cl.2.length := (List.getElem?_eq_some_iff.mp hv).1
  have hmv : mmV r cl.2 j.toNatClampNeg = .int x := by simp [mmV, List.getD, hv, mmv]
  rcases hci with ⟨h1 | h1, h2⟩
  · have hc := (hW.1 a cl ha).2.1 (by rw [h1]; decide) (by rw [h1]; decide)
    rw [h1] at hc
    refine W.iald hx hb hc ((mm_int hK).1 _ _) (fun z => by cases z) (fun z => ?_) (v := .int x) ?_ rfl rfl hdg kk
    · rw [arrV_size] at z
      rcases z with z | z
      · exact h2 z
      · omega
    · rw [arrV_read _ _ hlt, hmv]
  · obtain ⟨hc, hz, hs⟩ := (hW.1 a cl ha).2.2 h1
    refine W.iald hx hb hc hK.2.2.2.1 hK.2.2.2.2.1 (fun z => ?_) (v := .int x) ?_ rfl rfl hdg kk
    · rw [← hz] at z
      rcases z with z | z
      · exact h2 z
      · omega
    · rw [hs _ hlt, hmv]
theorem mm_iast {pc a : Nat} {j x : Int32} {st : List Value} {ls : Array Slot} {h : List mmC} {H : Heap} {locs : List Loc} {cells slots : Nat} {cl : mmC} (C : mmCtx D cA p s m args meth c M) (hdg : decode M.2.1 pc = .ok (.iastore, 1)) (hW : mmW D cA r h H) (hS0 : va_S (mmA r h0) s.heap H locs) (hb0 : ∀ j : Nat, h0.length ≤ j → r j + h0.length = s.heap.size + j) (ha : h[a]? = some cl) (hci : cl.1 = 1000 ∧ ¬ j < 0 ∧ j.toNatClampNeg < cl.2.length ∧ mmRo ≤ a)
    (kk : ∀ (H' : Heap) (locs' : List Loc), mmW D cA r (h.set a (1000, cl.2.set j.toNatClampNeg (.int x))) H' → va_S (mmA r h0) s.heap H' locs' → W p l e R s m args below meth c H' locs' cells slots Q (F0 m (pc + 1) ls st)) : W p l e R s m args below meth c H locs cells slots Q (F0 m pc ls (.int x :: .int j :: .ref (r a) :: st)) := by
  obtain ⟨hx, hb, -, -, -, hown, hts, hK, hnm⟩ := C
  have hc := (hW.1 a cl ha).2.1 (by rw [hci.1]; decide) (by rw [hci.1]; decide)
  rw [hci.1] at hc
  have hai : a < h.length := (List.getElem?_eq_some_iff.mp ha).1
  refine W.iast hx hb hc ((mm_int hK).1 _ _) (fun z => by cases z) (fun z => ?_) rfl rfl hdg (fun H' e1 e2 e3 => ?_)
  · rw [arrV_size] at z
    rcases z with z | z
    · exact hci.2.1 z
    · omega
  · refine kk H' _ (hW.set hai e2 e3 ⟨fun hh => absurd hh (Nat.lt_irrefl 1000), fun _ _ => ?_, fun hh => absurd hh (by show ¬ (1000 : Nat) = 1999; decide)⟩) (hS0.put e2 e3 (mmA.of hb0 hci.2.2.2))
    rw [e1, arrV_store]
    refine congrArg some ?_
    rw [List.length_set]
    exact congrArg (arrV (cA.1 1000) cl.2.length) (funext fun k => mmV_set hci.2.2.1 (.int x) k)
theorem mm_alen {pc a : Nat} {st : List Value} {ls : Array Slot} {h : List mmC} {H : Heap} {locs : List Loc} {cells slots : Nat} {cl : mmC} (C : mmCtx D cA p s m args meth c M) (hdg : decode M.2.1 pc = .ok (.arraylength, 1)) (hW : mmW D cA r h H) (ha : h[a]? = some cl) (hci : cl.1 = 1000 ∨ cl.1 = 1999)
    (kk : W p l e R s m args below meth c H locs cells slots Q (F0 m (pc + 1) ls (.int (nI cl.2.length) :: st))) : W p l e R s m args below meth c H locs cells slots Q (F0 m pc ls (.ref (r a) :: st)) := by
  obtain ⟨hx, hb, -, -, -, hown, hts, hK, hnm⟩ := C
  rcases hci with h1 | h1
  · have hc := (hW.1 a cl ha).2.1 (by rw [h1]; decide) (by rw [h1]; decide)
    rw [h1] at hc
    exact W.alen hx hb hc ((mm_int hK).1 _ _) (n := nI cl.2.length) (by rw [arrV_size]; rfl) rfl rfl hdg kk
  · obtain ⟨hc, hz, hs⟩ := (hW.1 a cl ha).2.2 h1
    exact W.alen hx hb hc hK.2.2.2.1 (n := nI cl.2.length) (by rw [hz]; rfl) rfl rfl hdg kk
theorem mm_newa {pc : Nat} {n : Int32} {st : List Value} {ls : Array Slot} {h : List mmC} {H : Heap} {locs : List Loc} {cells slots : Nat} (C : mmCtx D cA p s m args meth c M) (hok : Cond.arrayClass .int ∈ mmGood) (hdg : decode M.2.1 pc = .ok (.newarray .int, 2)) (hW : mmW D cA r h H) (hS0 : va_S (mmA r h0) s.heap H locs) (hn : ¬ n < 0 ∧ n.toNatClampNeg ≤ 100000) (hcells : cells + 1 ≤ R.cells) (hslots : slots + n.toNatClampNeg ≤ R.slots)
    (kk : ∀ (H' : Heap), mmW D cA r (h ++ [(1000, List.replicate n.toNatClampNeg (.int 0))]) H' → va_S (mmA r h0) s.heap H' locs → W p l e R s m args below meth c H' locs (cells + 1) (slots + n.toNatClampNeg) Q (F0 m (pc + 2) ls (.ref (r h.length) :: st))) : W p l e R s m args below meth c H locs cells slots Q (F0 m pc ls (.int n :: st)) := by
  obtain ⟨hx, hb, -, -, -, hown, hts, hK, hnm⟩ := C
  refine W.newa (atype := .int) hx hb (hts _ hok) rfl hdg rfl hn.1 (Nat.le_trans (Nat.mul_le_mul_right _ hn.2) (by decide)) hcells hslots (fun cI kI comp h1 h2 h3 => ?_)
  have hcc : cI = cA.1 1000 := Option.some.inj (h1.symm.trans (mm_int hK).2)
  have z : (H.push ({ cls := cI, slots := Array.replicate n.toNatClampNeg (defaultValue (newarray.typeOf .int)), vm := .none } : Cell)).size = H.size + 1 := by simp
  have oq : ∀ q : Nat, q < H.size → (H.push ({ cls := cI, slots := Array.replicate n.toNatClampNeg (defaultValue (newarray.typeOf .int)), vm := .none } : Cell))[q]? = H[q]? := fun q hq => by
    rw [Array.getElem?_push, if_neg (Nat.ne_of_lt hq)]
  have hk := kk _ (hW.push (c := (1000, List.replicate n.toNatClampNeg (.int 0))) z oq ⟨fun hh => absurd hh (Nat.lt_irrefl 1000), fun _ _ => ?_, fun hh => absurd hh (by show ¬ (1000 : Nat) = 1999; decide)⟩) ⟨by rw [z]; exact Nat.le_succ_of_le hS0.1, fun q h1 h2 => by rw [oq q (Nat.lt_of_lt_of_le h1 hS0.1)]; exact hS0.2.1 q h1 h2, hS0.2.2⟩
  · rw [hW.base] at hk
    exact hk
  · rw [hcc, arrV_new, Array.getElem?_push, if_pos rfl]
    refine congrArg some ?_
    show arrV (cA.1 1000) _ _ = arrV (cA.1 1000) (List.replicate n.toNatClampNeg (Value.int 0)).length _
    rw [List.length_replicate]
    refine mm_arrV fun k hk2 => ?_
    unfold mmV
    simp [List.getD, List.getElem?_replicate, hk2, mmv, defaultValue, newarray.typeOf]
theorem mm_aald {pc a x : Nat} {j : Int32} {st : List Value} {ls : Array Slot} {h : List mmC} {H : Heap} {locs : List Loc} {cells slots : Nat} {cl : mmC} (C : mmCtx D cA p s m args meth c M) (hdg : decode M.2.1 pc = .ok (.aaload, 1)) (hW : mmW D cA r h H) (ha : h[a]? = some cl) (hci : (cl.1 = 1001 ∨ cl.1 = 1002) ∧ ¬ j < 0) (hv : cl.2[j.toNatClampNeg]? = some (.ref x))
    (kk : W p l e R s m args below meth c H locs cells slots Q (F0 m (pc + 1) ls (.ref (r x) :: st))) : W p l e R s m args below meth c H locs cells slots Q (F0 m pc ls (.int j :: .ref (r a) :: st)) := by
  obtain ⟨hx, hb, -, -, -, hown, hts, hK, hnm⟩ := C
  have hlt : j.toNatClampNeg < cl.2.length := (List.getElem?_eq_some_iff.mp hv).1
  have hmv : mmV r cl.2 j.toNatClampNeg = .ref (r x) := by simp [mmV, List.getD, hv, mmv]
  have hin : ∀ cI : ClassId, ¬ (j < 0 ∨ (arrV cI cl.2.length (mmV r cl.2)).slots.size ≤ j.toNatClampNeg) := fun cI z => by
    rw [arrV_size] at z
    rcases z with z | z
    · exact hci.2 z
    · omega
  rcases hci with ⟨h1 | h1, h2⟩
  · have hc := (hW.1 a cl ha).2.1 (by rw [h1]; decide) (by rw [h1]; decide)
    rw [h1] at hc
    exact W.aald (v := .ref (r x)) (ty := .array .int) hx hb hc ((hK.2.1 1001 (.array .int) (by simp [mmTys])).1 _ _) rfl (fun z => by cases z) (hin _) (by rw [arrV_read _ _ hlt, hmv]) rfl rfl hdg kk
  · have hc := (hW.1 a cl ha).2.1 (by rw [h1]; decide) (by rw [h1]; decide)
    rw [h1] at hc
    exact W.aald (v := .ref (r x)) (ty := .array (.array .int)) hx hb hc ((hK.2.1 1002 (.array (.array .int)) (by simp [mmTys])).1 _ _) rfl (fun z => by cases z) (hin _) (by rw [arrV_read _ _ hlt, hmv]) rfl rfl hdg kk
theorem mm_asgn (vm : Vm) (k : ClassId) : vm.assignable k k = true := by
  unfold Vm.assignable
  rw [Vm.assignableAux]
  simp
theorem mm_aast {pc a b : Nat} {j : Int32} {st : List Value} {ls : Array Slot} {h : List mmC} {H : Heap} {locs : List Loc} {cells slots : Nat} {cl cd : mmC} (C : mmCtx D cA p s m args meth c M) (hdg : decode M.2.1 pc = .ok (.aastore, 1)) (hW : mmW D cA r h H) (hS0 : va_S (mmA r h0) s.heap H locs) (hb0 : ∀ j : Nat, h0.length ≤ j → r j + h0.length = s.heap.size + j) (ha : h[a]? = some cl) (hd : h[b]? = some cd) (hci : (cl.1 = 1001 ∧ cd.1 = 1000 ∨ cl.1 = 1002 ∧ cd.1 = 1001) ∧ ¬ j < 0 ∧ j.toNatClampNeg < cl.2.length ∧ mmRo ≤ a)
    (kk : ∀ (H' : Heap) (locs' : List Loc), mmW D cA r (h.set a (cl.1, cl.2.set j.toNatClampNeg (.ref b))) H' → va_S (mmA r h0) s.heap H' locs' → W p l e R s m args below meth c H' locs' cells slots Q (F0 m (pc + 1) ls st)) : W p l e R s m args below meth c H locs cells slots Q (F0 m pc ls (.ref (r b) :: .int j :: .ref (r a) :: st)) := by
  obtain ⟨hx, hb, -, -, -, hown, hts, hK, hnm⟩ := C
  obtain ⟨htag, hj0, hjl, hro⟩ := hci
  obtain ⟨⟨k0, comp0, k01, k02⟩, ⟨k1, k11, k12⟩, k2, k21, k22⟩ := hK.2.2.2.2.2
  have hai : a < h.length := (List.getElem?_eq_some_iff.mp ha).1
  have hc1 : ¬ cl.1 < 1000 ∧ cl.1 ≠ 1999 := by omega
  have hd1 : ¬ cd.1 < 1000 ∧ cd.1 ≠ 1999 := by omega
  have hc := (hW.1 a cl ha).2.1 hc1.1 hc1.2
  have hv := (hW.1 b cd hd).2.1 hd1.1 hd1.2
  have fin : ∀ H' : Heap, H'[r a]? = some ((arrV (cA.1 cl.1) cl.2.length (mmV r cl.2)).setSlot j.toNatClampNeg (.ref (r b))) → H'.size = H.size → (∀ q, q ≠ r a → H'[q]? = H[q]?) → W p l e R s m args below meth c H' (locs ++ [⟨r a, j.toNatClampNeg⟩]) cells slots Q (F0 m (pc + 1) ls st) := fun H' e1 e2 e3 => by
    refine kk H' _ (hW.set hai e2 e3 ⟨fun hh => absurd hh hc1.1, fun _ _ => ?_, fun hh => absurd hh hc1.2⟩) (hS0.put e2 e3 (mmA.of hb0 hro))
    rw [e1, arrV_store]
    refine congrArg some ?_
    show arrV (cA.1 cl.1) cl.2.length _ = arrV (cA.1 cl.1) (cl.2.set j.toNatClampNeg (.ref b)).length _
    rw [List.length_set]
    exact congrArg (arrV (cA.1 cl.1) cl.2.length) (funext fun k => mmV_set hjl (.ref b) k)
  rcases htag with ⟨t1, t2⟩ | ⟨t1, t2⟩
  · rw [t1] at hc fin
    rw [t2] at hv
    exact W.aast hx hb hc (fun q h => by cases h) (fun h => by cases h) k11 k12 rfl k01 ⟨hj0, by rw [arrV_size]; exact hjl⟩ hv (fun q h => by cases h) k01 (mm_asgn _ _) rfl rfl hdg fin
  · rw [t1] at hc fin
    rw [t2] at hv
    exact W.aast hx hb hc (fun q h => by cases h) (fun h => by cases h) k21 k22 rfl k11 ⟨hj0, by rw [arrV_size]; exact hjl⟩ hv (fun q h => by cases h) k11 (mm_asgn _ _) rfl rfl hdg fin
theorem mmMulti_len (tg b n k : Nat) : (mmMulti tg b n k).length = n + 1 := by simp [mmMulti]
theorem mmMulti_sl (tg b n k : Nat) : mmSl (mmMulti tg b n k) = n + n * k := by
  unfold mmMulti mmSl
  by_cases h : tg = 1001
  · simp [h]
  · simp [h]
theorem mmSl_app (h t : List mmC) : mmSl (h ++ t) = mmSl h + mmSl t := by simp [mmSl]
theorem mm_mullen {h h0 : List mmC} (tg b n k : Nat) (hle : h0.length ≤ h.length) : (h ++ mmMulti tg b n k).length - h0.length = (h.length - h0.length) + (n + 1) := by
  rw [List.length_append, mmMulti_len]
  omega
theorem mm_mulsl {h h0 : List mmC} (tg b n k : Nat) (hsl : mmSl h0 ≤ mmSl h) : mmSl (h ++ mmMulti tg b n k) - mmSl h0 = (mmSl h - mmSl h0) + (n + n * k) := by
  rw [mmSl_app, mmMulti_sl]
  omega
theorem mm_multi_at {H H' : Heap} {h : List mmC} {tg n k : Nat} (hW : mmW D cA r h H) (htg : tg = 1001 ∨ tg = 1002) (e0 : H'[H.size]? = some (arrV (cA.1 tg) n fun i => .ref (H.size + 1 + i))) (ei : ∀ i, i < n → H'[H.size + 1 + i]? = some (arrV (cA.1 (if tg = 1001 then 1000 else 1001)) k fun _ => if tg = 1001 then .int 0 else .null)) (i : Nat) (c : mmC) (hi : (mmMulti tg h.length n k)[i]? = some c) : mmAt D cA r H' (H.size + i) c := by
  have t1 : ¬ tg < 1000 := by rcases htg with h1 | h1 <;> rw [h1] <;> decide
  have t2 : tg ≠ 1999 := by rcases htg with h1 | h1 <;> rw [h1] <;> decide
  unfold mmMulti at hi
  cases i with
  | zero =>
    rw [List.getElem?_cons_zero] at hi
    cases hi
    refine ⟨fun hh => absurd hh t1, fun _ _ => ?_, fun hh => absurd hh t2⟩
    show H'[H.size]? = _
    rw [e0]
    refine congrArg some ?_
    show arrV (cA.1 tg) n _ = arrV (cA.1 tg) (List.map (fun i => Value.ref (h.length + 1 + i)) (List.range n)).length _
    rw [List.length_map, List.length_range]
    refine mm_arrV fun j hj => ?_
    have hr := hW.2.2 (h.length + 1 + j) (by omega)
    have e1 : (List.map (fun i => Value.ref (h.length + 1 + i)) (List.range n)).getD j .null = .ref (h.length + 1 + j) := by
      rw [List.getD_eq_getElem?_getD, List.getElem?_map, List.getElem?_range hj]
      rfl
    unfold mmV
    rw [e1]
    show Value.ref (H.size + 1 + j) = Value.ref (r (h.length + 1 + j))
    rw [show r (h.length + 1 + j) = H.size + 1 + j by omega]
  | succ i =>
    rw [List.getElem?_cons_succ, List.getElem?_replicate] at hi
    split at hi
    · rename_i hn
      cases hi
      rw [show H.size + (i + 1) = H.size + 1 + i by omega]
      have e := ei i hn
      rcases htg with h1 | h1
      · subst h1
        rw [if_pos rfl] at e ⊢
        refine ⟨fun hh => absurd hh (Nat.lt_irrefl 1000), fun _ _ => ?_, fun hh => absurd hh (by show ¬ (1000 : Nat) = 1999; decide)⟩
        rw [e]
        refine congrArg some ?_
        show arrV (cA.1 1000) k _ = arrV (cA.1 1000) (List.replicate k (Value.int 0)).length _
        rw [List.length_replicate]
        refine mm_arrV fun j hj => ?_
        unfold mmV
        simp [List.getD, List.getElem?_replicate, hj, mmv]
      · subst h1
        rw [if_neg (by decide)] at e ⊢
        refine ⟨fun hh => absurd hh (by show ¬ (1001 : Nat) < 1000; decide), fun _ _ => ?_, fun hh => absurd hh (by show ¬ (1001 : Nat) = 1999; decide)⟩
        rw [e]
        refine congrArg some ?_
        show arrV (cA.1 1001) k _ = arrV (cA.1 1001) (List.replicate k Value.null).length _
        rw [List.length_replicate]
        refine mm_arrV fun j hj => ?_
        unfold mmV
        simp [List.getD, List.getElem?_replicate, hj, mmv]
    · cases hi
theorem mm_multi {i pc tg : Nat} {n k : Int32} {st : List Value} {ls : Array Slot} {h : List mmC} {H : Heap} {locs : List Loc} {cells slots : Nat} (C : mmCtx D cA p s m args meth c M) (hok : (tg = 1001 → Cond.classLink M.1.cls i "[[I" ∈ mmGood) ∧ (tg = 1002 → Cond.classLink M.1.cls i "[[[I" ∈ mmGood)) (hdg : decode M.2.1 pc = .ok (.multianewarray i 2, 4)) (hW : mmW D cA r h H) (hS0 : va_S (mmA r h0) s.heap H locs) (hle : r h0.length ≤ r h.length) (hn : (tg = 1001 ∨ tg = 1002) ∧ ¬ n < 0 ∧ ¬ k < 0 ∧ n.toNatClampNeg ≤ 100 ∧ k.toNatClampNeg ≤ 100) (hcells : cells + (n.toNatClampNeg + 1) ≤ R.cells) (hslots : slots + (n.toNatClampNeg + n.toNatClampNeg * k.toNatClampNeg) ≤ R.slots)
    (kk : ∀ (H' : Heap) (locs' : List Loc), mmW D cA r (h ++ mmMulti tg h.length n.toNatClampNeg k.toNatClampNeg) H' → va_S (mmA r h0) s.heap H' locs' → W p l e R s m args below meth c H' locs' (cells + (n.toNatClampNeg + 1)) (slots + (n.toNatClampNeg + n.toNatClampNeg * k.toNatClampNeg)) Q (F0 m (pc + 4) ls (.ref (r h.length) :: st))) : W p l e R s m args below meth c H locs cells slots Q (F0 m pc ls (.int k :: .int n :: st)) := by
  obtain ⟨hx, hb, -, -, -, hown, hts, hK, hnm⟩ := C
  obtain ⟨htg, hn0, hk0, hn1, hk1⟩ := hn
  obtain ⟨⟨k0, comp0, k01, k02⟩, ⟨k1, k11, k12⟩, k2, k21, k22⟩ := hK.2.2.2.2.2
  have hbase := hW.base
  have fin : ∀ (H' : Heap), H'.size = H.size + (n.toNatClampNeg + 1) → (∀ q : Nat, q < H.size → H'[q]? = H[q]?) → H'[H.size]? = some (arrV (cA.1 tg) n.toNatClampNeg fun i => .ref (H.size + 1 + i)) → (∀ i, i < n.toNatClampNeg → H'[H.size + 1 + i]? = some (arrV (cA.1 (if tg = 1001 then 1000 else 1001)) k.toNatClampNeg fun _ => if tg = 1001 then .int 0 else .null)) →
      W p l e R s m args below meth c H' (locs ++ (List.range n.toNatClampNeg).map fun i => ⟨H.size, i⟩) (cells + (n.toNatClampNeg + 1)) (slots + (n.toNatClampNeg + n.toNatClampNeg * k.toNatClampNeg)) Q (F0 m (pc + 4) ls (.ref H.size :: st)) := fun H' z oq e0 ei => by
    rw [← hbase]
    rw [hbase]
    have hk := kk H' (locs ++ (List.range n.toNatClampNeg).map fun i => ⟨H.size, i⟩) (hW.app (by rw [mmMulti_len]; exact z) oq (fun i c hi => mm_multi_at hW htg e0 ei i c hi)) ⟨by rw [z]; exact Nat.le_trans hS0.1 (Nat.le_add_right _ _), fun q h1 h2 => by rw [oq q (Nat.lt_of_lt_of_le h1 hS0.1)]; exact hS0.2.1 q h1 h2, fun q hq => ?_⟩
    · rw [hbase] at hk
      exact hk
    · rcases List.mem_append.mp hq with h1 | h1
      · exact hS0.2.2 q h1
      · obtain ⟨i, -, rfl⟩ := List.mem_map.mp h1
        refine Or.inr ?_
        show r h0.length ≤ H.size
        rw [← hbase]
        exact hle
  rcases htg with h1 | h1
  · subst h1
    refine W.mq hx hb hown (hts _ (hok.1 rfl)) (ca := cA.1 1001) (cb := cA.1 1000) ?_ k11 k12 rfl k01 k02 rfl rfl rfl hdg rfl hn0 hk0 hn1 hk1 (by decide) hcells hslots (fun H' z oq e0 ei => fin H' z oq e0 ?_)
    · exact (hK.2.1 1001 (.array .int) (by simp [mmTys])).2
    · intro i hi
      exact ei i hi
  · subst h1
    refine W.mq hx hb hown (hts _ (hok.2 rfl)) (ca := cA.1 1002) (cb := cA.1 1001) ?_ k21 k22 rfl k11 k12 rfl rfl rfl hdg rfl hn0 hk0 hn1 hk1 (by decide) hcells hslots (fun H' z oq e0 ei => fin H' z oq e0 ?_)
    · exact (hK.2.1 1002 (.array (.array .int)) (by simp [mmTys])).2
    · intro i hi
      exact ei i hi
theorem mmv_def (r : Nat → Nat) (ty : FieldType) : mmv r (defaultValue ty) = defaultValue ty := by cases ty <;> rfl
theorem mm_new {i ci pc : Nat} {fs : List Value} {st : List Value} {ls : Array Slot} {h : List mmC} {H : Heap} {locs : List Loc} {cells slots : Nat} (C : mmCtx D cA p s m args meth c M) (hok : ∃ q, vwCl[ci]? = some q ∧ Cond.classLink M.1.cls i q.1 ∈ mmGood ∧ Cond.instantiable q.1 q.2.2 ∈ mmGood ∧ Cond.initialized q.1 ∈ mmGood) (hdg : decode M.2.1 pc = .ok (.new i, 3)) (hW : mmW D cA r h H) (hS0 : va_S (mmA r h0) s.heap H locs) (hfs : mmDefs[ci]? = some fs) (hci : ci < 1000) (hcells : cells + 1 ≤ R.cells) (hslots : slots + fs.length ≤ R.slots)
    (kk : ∀ (H' : Heap), mmW D cA r (h ++ [(ci, fs)]) H' → va_S (mmA r h0) s.heap H' locs → W p l e R s m args below meth c H' locs (cells + 1) (slots + fs.length) Q (F0 m (pc + 3) ls (.ref (r h.length) :: st))) : W p l e R s m args below meth c H locs cells slots Q (F0 m pc ls st) := by
  obtain ⟨hx, hb, -, -, -, hown, hts, hK, hnm⟩ := C
  obtain ⟨q, g1, g2, g3, g4⟩ := hok
  have hfe : fs = (List.range q.2.2).map fun k => match parseFieldDescriptor (q.2.1 k).2.2.1 with
      | some ty => defaultValue ty
      | none => .null := by
    unfold mmDefs at hfs
    rw [List.getElem?_map, g1] at hfs
    exact (Option.some.inj hfs).symm
  have hlen : fs.length = q.2.2 := by rw [hfe]; simp
  have hKn := hK.1 _ _ g1
  rw [hlen] at kk hslots
  refine W.newcK hx hb hown (hts _ g2) (hts _ g3) (hts _ g4) rfl hdg hcells hslots hKn.2.1 rfl (fun H' kC hkC e1 z oq => ?_)
  have ho := u_born (o := H.size) (H := H') (fun k => (parseFieldDescriptor (q.2.1 k).2.2.1).getD .int) hts (mmLay g1).1 hKn hkC e1 (fun k hk => by
    obtain ⟨ty, hty⟩ := (mmLay g1).2.1 k hk
    rw [hty]; rfl)
  have hk := kk H' (hW.push (c := (ci, fs)) z oq ⟨fun _ => ⟨q, g1, hlen.symm, ?_⟩, fun hh => absurd hci hh, fun hh => absurd hci (by have h9 : ci = 1999 := hh; omega)⟩) ⟨by rw [z]; exact Nat.le_succ_of_le hS0.1, fun x h1 h2 => by rw [oq x (Nat.lt_of_lt_of_le h1 hS0.1)]; exact hS0.2.1 x h1 h2, hS0.2.2⟩
  · rw [hW.base] at hk
    exact hk
  · refine ho.to fun k hk => ?_
    obtain ⟨ty, hty⟩ := (mmLay g1).2.1 k hk
    have hfk : fs.getD k .null = defaultValue ty := by
      rw [hfe]
      simp [List.getD, hk, hty]
    unfold mmV
    rw [hfk, mmv_def]
    simp [hty]
/-- a simple instruction -/
theorem mmS_sound {ins : Instr} {ax : List Nat} {pc pc' : Nat} {lv lv' : List (Option Value)} {st st' : List Value} {h h' : List mmC} {ls : Array Slot} {H : Heap} {locs : List Loc} (C : mmCtx D cA p s m args meth c M) (hok : mmOkS M ins ax) (hdg : decode M.2.1 pc = .ok (ins, mmLen ins)) (hs : mmS ins ax pc lv st h = some (pc', lv', st', h')) (hL : mmLs r ls lv) (hW : mmW D cA r h H) (hS : va_S (mmA r h0) s.heap H locs) (hb0 : ∀ j : Nat, h0.length ≤ j → r j + h0.length = s.heap.size + j) (hle : h0.length ≤ h.length) (hsl : mmSl h0 ≤ mmSl h) (hcells : h'.length - h0.length ≤ R.cells) (hslots : mmSl h' - mmSl h0 ≤ R.slots)
    (kk : ∀ (ls' : Array Slot) (H' : Heap) (locs' : List Loc), mmLs r ls' lv' → mmW D cA r h' H' → va_S (mmA r h0) s.heap H' locs' → h.length ≤ h'.length → mmSl h ≤ mmSl h' → W p l e R s m args below meth c H' locs' (h'.length - h0.length) (mmSl h' - mmSl h0) Q (F0 m pc' ls' (st'.map (mmv r)))) :
    W p l e R s m args below meth c H locs (h.length - h0.length) (mmSl h - mmSl h0) Q (F0 m pc ls (st.map (mmv r))) := by
  have hx := C.1
  have hb := C.2.1
  have hown := C.2.2.2.2.2.1
  have hts := C.2.2.2.2.2.2.1
  unfold mmS at hs
  split at hs
  · cases hs
    exact lv_iconst hx hb hdg rfl (kk ls H locs hL hW hS (Nat.le_refl _) (Nat.le_refl _))
  · cases hs
    exact lv_bipush hx hb hdg rfl (kk ls H locs hL hW hS (Nat.le_refl _) (Nat.le_refl _))
  · cases hs
    exact lv_sipush hx hb hdg rfl (kk ls H locs hL hW hS (Nat.le_refl _) (Nat.le_refl _))
  · split at hs
    · cases hs
      exact lv_ldc hx hb hown (hts _ (hok _ _ rfl)) hdg (kk ls H locs hL hW hS (Nat.le_refl _) (Nat.le_refl _))
    · cases hs
  · split at hs
    · cases hs
      exact lv_ldcw hx hb hown (hts _ (hok _ _ rfl)) hdg (kk ls H locs hL hW hS (Nat.le_refl _) (Nat.le_refl _))
    · cases hs
  · split at hs
    · cases hs
      exact lv_ldc2 hx hb hown (hts _ (hok _ _ rfl)) hdg (kk ls H locs hL hW hS (Nat.le_refl _) (Nat.le_refl _))
    · cases hs
  · split at hs
    · rename_i hv
      cases hs
      exact lv_iload_n hx hb hdg rfl (hL.at hv) (kk ls H locs hL hW hS (Nat.le_refl _) (Nat.le_refl _))
    · cases hs
  · split at hs
    · rename_i hv
      cases hs
      exact lv_iload hx hb hdg (hL.at hv) (kk ls H locs hL hW hS (Nat.le_refl _) (Nat.le_refl _))
    · cases hs
  · split at hs
    · rename_i hv
      cases hs
      exact lv_lload_n hx hb hdg rfl (hL.at hv) (kk ls H locs hL hW hS (Nat.le_refl _) (Nat.le_refl _))
    · cases hs
  · split at hs
    · rename_i hv
      cases hs
      exact lv_lload hx hb hdg (hL.at hv) (kk ls H locs hL hW hS (Nat.le_refl _) (Nat.le_refl _))
    · cases hs
  · split at hs
    · rename_i hv
      cases hs
      exact lv_aload_n hx hb hdg rfl (hL.at hv) (kk ls H locs hL hW hS (Nat.le_refl _) (Nat.le_refl _))
    · cases hs
  · split at hs
    · rename_i hv
      cases hs
      exact lv_aload hx hb hdg (hL.at hv) (kk ls H locs hL hW hS (Nat.le_refl _) (Nat.le_refl _))
    · cases hs
  · split at hs
    · obtain ⟨lv2, hv, he⟩ := Option.map_eq_some_iff.mp hs
      cases he
      exact lv_istore_n hx hb hdg rfl hL.kit (mmSet1_lt hv) rfl (fun ls' hl => kk ls' H locs (mmLs.set1 hv hl) hW hS (Nat.le_refl _) (Nat.le_refl _))
    · cases hs
  · split at hs
    · obtain ⟨lv2, hv, he⟩ := Option.map_eq_some_iff.mp hs
      cases he
      exact lv_istore hx hb hdg hL.kit (mmSet1_lt hv) rfl (fun ls' hl => kk ls' H locs (mmLs.set1 hv hl) hW hS (Nat.le_refl _) (Nat.le_refl _))
    · cases hs
  · split at hs
    · obtain ⟨lv2, hv, he⟩ := Option.map_eq_some_iff.mp hs
      cases he
      exact lv_lstore_n hx hb hdg rfl hL.kit (mmSet2_lt hv) rfl (fun ls' hl => kk ls' H locs (mmLs.set2 hv hl) hW hS (Nat.le_refl _) (Nat.le_refl _))
    · cases hs
  · split at hs
    · obtain ⟨lv2, hv, he⟩ := Option.map_eq_some_iff.mp hs
      cases he
      exact lv_lstore hx hb hdg hL.kit (mmSet2_lt hv) rfl (fun ls' hl => kk ls' H locs (mmLs.set2 hv hl) hW hS (Nat.le_refl _) (Nat.le_refl _))
    · cases hs
  · split at hs
    · obtain ⟨lv2, hv, he⟩ := Option.map_eq_some_iff.mp hs
      cases he
      exact lv_astore_n hx hb hdg rfl hL.kit (mmSet1_lt hv) rfl (fun ls' hl => kk ls' H locs (mmLs.set1 hv hl) hW hS (Nat.le_refl _) (Nat.le_refl _))
    · cases hs
  · split at hs
    · obtain ⟨lv2, hv, he⟩ := Option.map_eq_some_iff.mp hs
      cases he
      exact lv_astore hx hb hdg hL.kit (mmSet1_lt hv) rfl (fun ls' hl => kk ls' H locs (mmLs.set1 hv hl) hW hS (Nat.le_refl _) (Nat.le_refl _))
    · cases hs
  · split at hs
    · rename_i hg
      obtain ⟨lv2, hv, he⟩ := Option.map_eq_some_iff.mp hs
      cases he
      obtain ⟨k0, hk0⟩ := mmKit_of (r := r) hg
      exact lv_iinc hx hb hdg hL.kit hk0 rfl (mmSet1_lt hv) rfl (fun ls' hl => kk ls' H locs (mmLs.set1 hv hl) hW hS (Nat.le_refl _) (Nat.le_refl _))
    · cases hs
  · split at hs
    · cases hs
      exact lv_iadd hx hb hdg (kk ls H locs hL hW hS (Nat.le_refl _) (Nat.le_refl _))
    · cases hs
  · split at hs
    · cases hs
      exact lv_isub hx hb hdg (kk ls H locs hL hW hS (Nat.le_refl _) (Nat.le_refl _))
    · cases hs
  · split at hs
    · cases hs
      exact lv_imul hx hb hdg (kk ls H locs hL hW hS (Nat.le_refl _) (Nat.le_refl _))
    · cases hs
  · split at hs
    · cases hs
      exact lv_iand hx hb hdg (kk ls H locs hL hW hS (Nat.le_refl _) (Nat.le_refl _))
    · cases hs
  · split at hs
    · cases hs
      exact lv_ior hx hb hdg (kk ls H locs hL hW hS (Nat.le_refl _) (Nat.le_refl _))
    · cases hs
  · split at hs
    · cases hs
      exact lv_ixor hx hb hdg (kk ls H locs hL hW hS (Nat.le_refl _) (Nat.le_refl _))
    · cases hs
  · split at hs
    · cases hs
      exact lv_ishl hx hb hdg (kk ls H locs hL hW hS (Nat.le_refl _) (Nat.le_refl _))
    · cases hs
  · split at hs
    · cases hs
      exact lv_ishr hx hb hdg (kk ls H locs hL hW hS (Nat.le_refl _) (Nat.le_refl _))
    · cases hs
  · split at hs
    · cases hs
      exact lv_iushr hx hb hdg rfl (kk ls H locs hL hW hS (Nat.le_refl _) (Nat.le_refl _))
    · cases hs
  · split at hs
    · split at hs
      · cases hs
      · rename_i hne
        cases hs
        exact lv_idiv hx hb hdg hne (kk ls H locs hL hW hS (Nat.le_refl _) (Nat.le_refl _))
    · cases hs
  · split at hs
    · split at hs
      · cases hs
      · rename_i hne
        cases hs
        exact lv_irem hx hb hdg hne (kk ls H locs hL hW hS (Nat.le_refl _) (Nat.le_refl _))
    · cases hs
  · split at hs
    · cases hs
      exact lv_i2l hx hb hdg rfl (kk ls H locs hL hW hS (Nat.le_refl _) (Nat.le_refl _))
    · cases hs
  · split at hs
    · cases hs
      exact lv_ladd hx hb hdg (kk ls H locs hL hW hS (Nat.le_refl _) (Nat.le_refl _))
    · cases hs
  · split at hs
    · cases hs
      exact lv_lmul hx hb hdg (kk ls H locs hL hW hS (Nat.le_refl _) (Nat.le_refl _))
    · cases hs
  · split at hs
    · cases hs
      exact W.lcmp hx hb hdg (kk ls H locs hL hW hS (Nat.le_refl _) (Nat.le_refl _))
    · cases hs
  · split at hs
    · cases hs
      exact lv_dup hx hb hdg rfl (kk ls H locs hL hW hS (Nat.le_refl _) (Nat.le_refl _))
    · cases hs
      exact lv_dup hx hb hdg rfl (kk ls H locs hL hW hS (Nat.le_refl _) (Nat.le_refl _))
    · cases hs
  · split at hs
    · cases hs
      exact lv_dup2_11 hx hb hdg rfl rfl (kk ls H locs hL hW hS (Nat.le_refl _) (Nat.le_refl _))
    · cases hs
  · split at hs
    · cases hs
      exact lv_pop hx hb hdg rfl (kk ls H locs hL hW hS (Nat.le_refl _) (Nat.le_refl _))
    · cases hs
      exact lv_pop hx hb hdg rfl (kk ls H locs hL hW hS (Nat.le_refl _) (Nat.le_refl _))
    · cases hs
  · split at hs
    · split at hs
      · rename_i ha
        split at hs
        · rename_i hci
          obtain ⟨v, hv, he⟩ := Option.map_eq_some_iff.mp hs
          cases he
          exact mm_getf C (hok _ _ _ rfl) hdg hW ha hci hv (kk ls H locs hL hW hS (Nat.le_refl _) (Nat.le_refl _))
        · cases hs
      · cases hs
    · cases hs
  · split at hs
    · split at hs
      · rename_i ha
        split at hs
        · rename_i hci
          cases hs
          refine mm_putf C (hok _ _ _ _ rfl) hdg hW hS hb0 ha hci (fun H' locs' w1 w2 => ?_)
          have := kk ls H' locs' hL w1 w2 (by rw [List.length_set]; exact Nat.le_refl _) (by rw [mmSl_set ha (by rw [List.length_set])]; exact Nat.le_refl _)
          rw [List.length_set, mmSl_set ha (by rw [List.length_set])] at this
          exact this
        · cases hs
      · cases hs
    · cases hs
  · split at hs
    · split at hs
      · rename_i ha
        split at hs
        · rename_i hci
          split at hs
          · rename_i hv
            cases hs
            exact mm_iald C hdg hW ha hci hv (kk ls H locs hL hW hS (Nat.le_refl _) (Nat.le_refl _))
          · cases hs
        · cases hs
      · cases hs
    · cases hs
  · split at hs
    · split at hs
      · rename_i ha
        split at hs
        · rename_i hci
          cases hs
          refine mm_iast C hdg hW hS hb0 ha hci (fun H' locs' w1 w2 => ?_)
          have := kk ls H' locs' hL w1 w2 (by rw [List.length_set]; exact Nat.le_refl _) (by rw [mmSl_set ha (by rw [List.length_set])]; exact Nat.le_refl _)
          rw [List.length_set, mmSl_set ha (by rw [List.length_set])] at this
          exact this
        · cases hs
      · cases hs
    · cases hs
  · split at hs
    · split at hs
      · rename_i ha
        split at hs
        · rename_i hci
          cases hs
          exact mm_alen C hdg hW ha hci (kk ls H locs hL hW hS (Nat.le_refl _) (Nat.le_refl _))
        · cases hs
      · cases hs
    · cases hs
  · split at hs
    · split at hs
      · rename_i hn
        cases hs
        rw [mm_pushlen _ hle] at hcells
        rw [mm_pushsl _ hsl, List.length_replicate] at hslots
        refine mm_newa C hok hdg hW hS hn hcells hslots (fun H' w1 w2 => ?_)
        have := kk ls H' locs hL w1 w2 (by simp) (by rw [mmSl_push]; exact Nat.le_add_right _ _)
        rw [mm_pushlen _ hle, mm_pushsl _ hsl, List.length_replicate] at this
        exact this
      · cases hs
    · cases hs
  · split at hs
    · split at hs
      · rename_i hfs
        split at hs
        · rename_i hci
          cases hs
          rw [mm_pushlen _ hle] at hcells
          rw [mm_pushsl _ hsl] at hslots
          refine mm_new C (hok _ _ rfl) hdg hW hS hfs hci hcells hslots (fun H' w1 w2 => ?_)
          have := kk ls H' locs hL w1 w2 (by simp) (by rw [mmSl_push]; exact Nat.le_add_right _ _)
          rw [mm_pushlen _ hle, mm_pushsl _ hsl] at this
          exact this
        · cases hs
      · cases hs
    · cases hs
  · split at hs
    · split at hs
      · rename_i ha
        split at hs
        · rename_i hci
          split at hs
          · rename_i hv
            cases hs
            exact mm_aald C hdg hW ha hci hv (kk ls H locs hL hW hS (Nat.le_refl _) (Nat.le_refl _))
          · cases hs
        · cases hs
      · cases hs
    · cases hs
  · split at hs
    · split at hs
      · rename_i ha hd
        split at hs
        · rename_i hci
          cases hs
          refine mm_aast C hdg hW hS hb0 ha hd hci (fun H' locs' w1 w2 => ?_)
          have := kk ls H' locs' hL w1 w2 (by rw [List.length_set]; exact Nat.le_refl _) (by rw [mmSl_set ha (by rw [List.length_set])]; exact Nat.le_refl _)
          rw [List.length_set, mmSl_set ha (by rw [List.length_set])] at this
          exact this
        · cases hs
      · cases hs
    · cases hs
  · split at hs
    · split at hs
      · rename_i hn
        cases hs
        rw [mm_mullen _ _ _ _ hle] at hcells
        rw [mm_mulsl _ _ _ _ hsl] at hslots
        refine mm_multi C (hok _ _ rfl) hdg hW hS (by have q1 := hb0 h0.length (Nat.le_refl _); have q2 := hb0 h.length hle; omega) hn hcells hslots (fun H' locs' w1 w2 => ?_)
        have := kk ls H' locs' hL w1 w2 (by simp) (by rw [mmSl_app]; exact Nat.le_add_right _ _)
        rw [mm_mullen _ _ _ _ hle, mm_mulsl _ _ _ _ hsl] at this
        exact this
      · cases hs
    · cases hs
  · cases hs
end MMS
