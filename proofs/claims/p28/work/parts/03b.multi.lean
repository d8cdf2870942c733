/-! AN ARRAY OF ARRAYS, as the machine makes it: the outer one, then row by row -/
def mq_out (ca : ClassId) (n b j : Nat) : Cell := arrV ca n fun i => if i < j then .ref (b + 1 + i) else .null
def mq_st (T : State) (ca cb : ClassId) (n k : Nat) (dv : Value) : Nat → State
  | 0 => T.pushCell (mq_out ca n T.heap.size 0)
  | j + 1 => ((mq_st T ca cb n k dv j).pushCell (arrV cb k fun _ => dv)).setCell T.heap.size (mq_out ca n T.heap.size (j + 1))
theorem mq_out_set (ca : ClassId) (n b j : Nat) : (mq_out ca n b j).setSlot j (.ref (b + 1 + j)) = mq_out ca n b (j + 1) := by
  unfold mq_out
  rw [arrV_store]
  refine congrArg (arrV ca n) (funext fun i => ?_)
  unfold updV
  by_cases h : i = j
  · subst h
    rw [if_pos rfl, if_pos (Nat.lt_succ_self _)]
  · rw [if_neg h]
    show (if i < j then Value.ref (b + 1 + i) else Value.null) = _
    by_cases h2 : i < j
    · rw [if_pos h2, if_pos (by omega)]
    · rw [if_neg h2, if_neg (by omega)]
theorem mq_out_0 (ca : ClassId) (n b : Nat) : mq_out ca n b 0 = arrV ca n fun _ => .null := by
  unfold mq_out
  refine congrArg (arrV ca n) (funext fun i => ?_)
  rw [if_neg (Nat.not_lt_zero _)]
section MULTI
variable {T : State} {ca cb : ClassId} {n k : Nat} {dv : Value}
theorem mq_facts : ∀ j, (mq_st T ca cb n k dv j).heap.size = T.heap.size + 1 + j ∧ (mq_st T ca cb n k dv j).heap[T.heap.size]? = some (mq_out ca n T.heap.size j) ∧ (mq_st T ca cb n k dv j).vm = T.vm ∧ (mq_st T ca cb n k dv j).slotsUsed = T.slotsUsed + n + j * k ∧ (∀ q : Nat, q < T.heap.size → (mq_st T ca cb n k dv j).heap[q]? = T.heap[q]?) ∧ ∀ i, i < j → (mq_st T ca cb n k dv j).heap[T.heap.size + 1 + i]? = some (arrV cb k fun _ => dv)
  | 0 => by
    have e : (mq_st T ca cb n k dv 0).heap = T.heap.push (mq_out ca n T.heap.size 0) := rfl
    refine ⟨by rw [e]; simp, by rw [e]; simp, rfl, ?_, fun q hq => by rw [e, Array.getElem?_push, if_neg (Nat.ne_of_lt hq)], fun i hi => by omega⟩
    show T.slotsUsed + (mq_out ca n T.heap.size 0).slots.size = _
    unfold mq_out
    rw [arrV_size]
    simp
  | j + 1 => by
    obtain ⟨a1, a2, a3, a4, a5, a6⟩ := mq_facts j
    have e : (mq_st T ca cb n k dv (j + 1)).heap = ((mq_st T ca cb n k dv j).heap.push (arrV cb k fun _ => dv)).setIfInBounds T.heap.size (mq_out ca n T.heap.size (j + 1)) := rfl
    refine ⟨by rw [e]; simp [a1]; omega, ?_, a3, ?_, fun q hq => ?_, fun i hi => ?_⟩
    · rw [e, Array.getElem?_setIfInBounds, if_pos rfl, if_pos (by simp [a1]; omega)]
    · show (mq_st T ca cb n k dv j).slotsUsed + (arrV cb k fun _ => dv).slots.size = _
      rw [a4, arrV_size, Nat.succ_mul]
      omega
    · rw [e, Array.getElem?_setIfInBounds, if_neg (by omega), Array.getElem?_push, if_neg (by omega)]
      exact a5 q hq
    · rw [e, Array.getElem?_setIfInBounds, if_neg (by omega), Array.getElem?_push, a1]
      by_cases h : i = j
      · subst h
        rw [if_pos rfl]
      · rw [if_neg (by omega)]
        exact a6 i (by omega)
theorem mq_top (f : JFrame) : ∀ j, mq_st (T.setTop f) ca cb n k dv j = (mq_st T ca cb n k dv j).setTop f
  | 0 => rfl
  | j + 1 => by
    show ((mq_st (T.setTop f) ca cb n k dv j).pushCell _).setCell _ _ = _
    rw [mq_top f j]
    rfl
end MULTI
section MULTIWP
variable {E : CtlPost} {e : Env} {d : Bool} {acts : List Action} {s : State}
theorem mq_new {ca comp : ClassId} {ka : Class} {ty : FieldType} {len : Nat} {iv : Value} (h1 : s.vm.classes[ca]? = some ka) (h2 : ka.kind = .array comp ty) (hl : ¬ len > e.platform.arrayLengthLimit) (hh : ¬ len * componentBytes ty > e.platform.maxHeapBytes) (hf : fits ty iv = true) (hd : iv.isDefault = true) (c1 : s.heap.size < e.platform.maxCells) (c2 : s.slotsUsed + len ≤ e.platform.maxSlots) {Q : Addr → Pre}
    (hq : Q s.heap.size d acts (s.pushCell (arrV ca len fun _ => iv))) : wp (Jvm.newArray ca len iv) Q E e d acts s := by
  have g1 : ∀ i v, (Array.replicate len iv)[i]? = some v → s.fitsSlot ca .none i v = true := fun i v hv => by
    rw [Array.getElem?_replicate] at hv
    split at hv
    · cases hv
      simp [State.fitsSlot, State.slotType?, h1, h2, hf]
    · cases hv
  have g2 : allocActs (Array.replicate len iv) s.heap.size acts = acts := by
    unfold allocActs
    rw [if_pos (by rw [Array.all_replicate]; split <;> simp [hd])]
  rw [← arrV_new] at hq
  simp only [Jvm.newArray, Jvm.arrayFits, wp_bind', W.ask, W.ite, hl, if_false, wp_pure', W.theClass, h1, h2, hh, W.alloc, W.stop, Option.some.injEq, exists_eq_left', Array.size_replicate, g2]
  rw [if_neg (by omega)]
  exact ⟨c1, c2, g1, hq⟩
theorem mq_null {t : FieldType} (h : t.isReference = true) : fits t .null = true := by
  cases t <;> first | rfl | cases h
theorem mq_ref {t : FieldType} (h : t.isReference = true) (a : Addr) : fits t (.ref a) = true := by
  cases t <;> first | rfl | cases h
theorem mq_make {ca cb cd : ClassId} {ka kb : Class} {t0 t1 : FieldType} {n k : Int32} (hka : s.vm.classes[ca]? = some ka) (hia : ka.kind = .array cb t0) (href : t0.isReference = true) (hkb : s.vm.classes[cb]? = some kb) (hib : kb.kind = .array cd t1) (hn : ¬ n < 0) (hk : ¬ k < 0)
    (l1 : ¬ n.toNatClampNeg > e.platform.arrayLengthLimit) (b1 : ¬ n.toNatClampNeg * componentBytes t0 > e.platform.maxHeapBytes) (l2 : ¬ k.toNatClampNeg > e.platform.arrayLengthLimit) (b2 : ¬ k.toNatClampNeg * componentBytes t1 > e.platform.maxHeapBytes) (hdf : fits t1 (defaultValue t1) = true) (hdd : (defaultValue t1).isDefault = true)
    (c1 : s.heap.size + 1 + n.toNatClampNeg ≤ e.platform.maxCells) (c2 : s.slotsUsed + n.toNatClampNeg + n.toNatClampNeg * k.toNatClampNeg ≤ e.platform.maxSlots) {Q : Addr → Pre} (hq : ∀ d' acts', Q s.heap.size d' acts' (mq_st s ca cb n.toNatClampNeg k.toNatClampNeg (defaultValue t1) n.toNatClampNeg)) :
    wp (Op.multianewarray.make ca [n, k]) Q E e d acts s := by
  have hno : ([k].find? (· < 0)) = none := by simp [hk]
  rw [Op.multianewarray.make]
  simp only [wp_bind', W.ite, hn, if_false, wp_pure', W.theClass, hka, hia, Option.some.injEq, exists_eq_left']
  refine mq_new hka hia l1 b1 (mq_null href) rfl (by omega) (Nat.le_trans (Nat.le_add_right _ _) c2) ?_
  rw [← mq_out_0 ca n.toNatClampNeg s.heap.size]
  simp only [hno]
  rw [ite_self, wp_bind', Std.Legacy.Range.forIn_eq_forIn_range', show ([:n.toNatClampNeg] : Std.Legacy.Range).size = n.toNatClampNeg by simp [Std.Legacy.Range.size]]
  generalize hN : n.toNatClampNeg = N at *
  generalize hK : k.toNatClampNeg = K at *
  show wp (forIn (List.range' 0 N 1) PUnit.unit _) _ E e d acts _
  refine wp_forIn_inv (fun rest s' => ∃ j, rest.length + j = N ∧ rest = List.range' j (N - j) ∧ s' = mq_st s ca cb N K (defaultValue t1) j) _ _ ⟨0, by simp, rfl, rfl⟩ ?_ ?_
  · rintro x rest s' d' acts' Q' ⟨j, hj, hr, rfl⟩ hnext
    have hlt : j < N := by
      rw [List.length_cons] at hj
      omega
    rw [show N - j = (N - (j + 1)) + 1 by omega, List.range'_succ] at hr
    injection hr with hx hr
    subst hx
    obtain ⟨f1, f2, f3, f4, -, -⟩ := mq_facts (T := s) (ca := ca) (cb := cb) (n := N) (k := K) (dv := defaultValue t1) x
    have hm : x * K + K ≤ N * K := by
      have := Nat.mul_le_mul_right K (show x + 1 ≤ N from hlt)
      rwa [Nat.succ_mul] at this
    simp only [wp_bind']
    rw [Op.multianewarray.make]
    simp only [wp_bind', W.ite, hk, if_false, wp_pure', W.theClass, f3, hkb, hib, Option.some.injEq, exists_eq_left']
    refine mq_new (by rw [f3]; exact hkb) hib (by rw [hK]; exact l2) (by rw [hK]; exact b2) hdf hdd (by rw [f1]; omega) (by rw [f4, hK]; omega) ?_
    rw [hK]
    simp only [wp_bind', W.writeLoc, wp_pure']
    refine ⟨mq_out ca N s.heap.size x, ?_, (fun z => by cases z), by unfold mq_out; rw [arrV_size]; exact hlt, ?_, hnext _ _ _ ⟨x + 1, by rw [List.length_cons] at hj; omega, hr, ?_⟩⟩
    · show ((mq_st s ca cb N K (defaultValue t1) x).heap.push _)[s.heap.size]? = _
      rw [Array.getElem?_push, if_neg (by omega)]
      exact f2
    · show State.fitsSlot _ ca .none x _ = true
      simp [State.fitsSlot, State.slotType?, f3, hka, hia, mq_ref href]
    · rw [f1, mq_out_set]
      rfl
  · rintro s' d' acts' ⟨j, hj, hr, rfl⟩
    have : j = N := by simpa using hj
    subst this
    simp only [wp_pure']
    exact hq _ _
end MULTIWP
section MULTIW
variable {p : Program} {l : Launch} {e : Env} {R : Room} {s : State} {m : MethodId} {args : Array Value} {below : List Frame} {meth : Method} {c : Code} {T : State} {H : Heap} {locs : List Loc} {cells slots : Nat} {Q : State → Prop}
theorem mq_stand (X : Stand p l e R s m args below meth c T locs cells slots) (ca cb : ClassId) (n k : Nat) (dv : Value) : ∀ j, Stand p l e R s m args below meth c (mq_st T ca cb n k dv j) (locs ++ (List.range j).map fun i => ⟨T.heap.size, i⟩) (cells + (j + 1)) (slots + (n + j * k))
  | 0 => by
    have h := X.pushed (mq_out ca n T.heap.size 0)
    have e1 : (mq_out ca n T.heap.size 0).slots.size = n := arrV_size _ _ _
    rw [e1] at h
    simpa [mq_st] using h
  | j + 1 => by
    have h0 := mq_stand X ca cb n k dv j
    obtain ⟨f1, f2, -⟩ := mq_facts (T := T) (ca := ca) (cb := cb) (n := n) (k := k) (dv := dv) j
    have hc : ((mq_st T ca cb n k dv j).pushCell (arrV cb k fun _ => dv)).heap[T.heap.size]? = some (mq_out ca n T.heap.size j) := by
      show ((mq_st T ca cb n k dv j).heap.push _)[T.heap.size]? = _
      rw [Array.getElem?_push, if_neg (by omega)]
      exact f2
    have h := (h0.pushed (arrV cb k fun _ => dv)).stored hc j (.ref (T.heap.size + 1 + j))
    rw [mq_out_set, arrV_size] at h
    rw [List.range_succ, List.map_append, ← List.append_assoc, show slots + (n + (j + 1) * k) = slots + (n + j * k) + k by rw [Nat.succ_mul]; omega]
    exact h
theorem W.mq {cc : ByteArray} (hexec : p.tables.exec = Jvm.exec) (hb : c.code = cc) {own C : String} {index : Nat} (hown : s.vm.findClass own = some m.cls) (hclink : (Cond.classLink own index C).before args s = true)
    {ca cb cd : ClassId} {ka kb : Class} {t0 t1 : FieldType} (hfc : s.vm.findClass C = some ca) (hka : s.vm.classes[ca]? = some ka) (hia : ka.kind = .array cb t0) (href : t0.isReference = true) (hkb : s.vm.classes[cb]? = some kb) (hib : kb.kind = .array cd t1) (hdf : fits t1 (defaultValue t1) = true) (hdd : (defaultValue t1).isDefault = true)
    {g : JFrame} (hg : g.method = m) (hdg : decode cc g.pc = .ok (.multianewarray index 2, 4)) {n k : Int32} {rest : List Value} (hstack : g.stack = .int k :: .int n :: rest) (hn : ¬ n < 0) (hk : ¬ k < 0) (hn1 : n.toNatClampNeg ≤ 100) (hk1 : k.toNatClampNeg ≤ 100) (hbt : componentBytes t0 ≤ 8 ∧ componentBytes t1 ≤ 8)
    (hcells : cells + (n.toNatClampNeg + 1) ≤ R.cells) (hslots : slots + (n.toNatClampNeg + n.toNatClampNeg * k.toNatClampNeg) ≤ R.slots)
    (kk : ∀ H' : Heap, H'.size = H.size + (n.toNatClampNeg + 1) → (∀ q : Nat, q < H.size → H'[q]? = H[q]?) → H'[H.size]? = some (arrV ca n.toNatClampNeg fun i => .ref (H.size + 1 + i)) → (∀ i, i < n.toNatClampNeg → H'[H.size + 1 + i]? = some (arrV cb k.toNatClampNeg fun _ => defaultValue t1)) →
      W p l e R s m args below meth c H' (locs ++ (List.range n.toNatClampNeg).map fun i => ⟨H.size, i⟩) (cells + (n.toNatClampNeg + 1)) (slots + (n.toNatClampNeg + n.toNatClampNeg * k.toNatClampNeg)) Q { g with pc := g.pc + 4, stack := .ref H.size :: rest }) : W p l e R s m args below meth c H locs cells slots Q g := by
  intro T hT X
  subst hT
  subst hb
  subst hg
  have hpl : e.platform.magicAccessors = ({} : Platform).magicAccessors := by rw [X.admits.platform]
  obtain ⟨c0, hfc0, hcl⟩ := Cond.classLink_spec hown hclink e.platform hpl
  cases hfc.symm.trans hfc0
  obtain ⟨hg₁, hwarm₁, -⟩ := State.classEntry (e := e) X.warmed hcl
  generalize T.vm.noted g.method.cls index (.cls ca) = vm₁ at hg₁ hwarm₁
  obtain ⟨ka₁, hka₁, hea⟩ := hwarm₁.alike.2.2 _ _ hka
  obtain ⟨kb₁, hkb₁, heb⟩ := hwarm₁.alike.2.2 _ _ hkb
  have hia₁ : ka₁.kind = .array cb t0 := by rw [hea]; exact hia
  have hib₁ : kb₁.kind = .array cd t1 := by rw [heb]; exact hib
  obtain ⟨hr1, hr2⟩ := X.roomAbove hcells hslots
  have XF := mq_stand (X.noted hwarm₁) ca cb n.toNatClampNeg k.toNatClampNeg (defaultValue t1) n.toNatClampNeg
  obtain ⟨f1, f2, f3, f4, f5, f6⟩ := mq_facts (T := T.setVm vm₁) (ca := ca) (cb := cb) (n := n.toNatClampNeg) (k := k.toNatClampNeg) (dv := defaultValue t1) n.toNatClampNeg
  have f2' : mq_out ca n.toNatClampNeg (T.setVm vm₁).heap.size n.toNatClampNeg = arrV ca n.toNatClampNeg fun i => .ref (T.heap.size + 1 + i) := by
    unfold mq_out
    unfold arrV
    refine congrArg (fun z => ({ cls := ca, slots := z, vm := .none } : Cell)) ?_
    refine congrArg Array.ofFn (funext fun j => ?_)
    show (if (j : Nat) < n.toNatClampNeg then Value.ref ((T.setVm vm₁).heap.size + 1 + j) else Value.null) = _
    rw [if_pos j.isLt]
    rfl
  rw [f2'] at f2
  obtain ⟨t, a1, b1⟩ := kk _ (by rw [f1]; show T.heap.size + 1 + _ = _; omega) f5 f2 f6 _ rfl XF
  refine ⟨t, ?_, b1⟩
  have l1 : ¬ n.toNatClampNeg > e.platform.arrayLengthLimit := by rw [Launch.admits_arrayLengthLimit X.admits]; omega
  have l2 : ¬ k.toNatClampNeg > e.platform.arrayLengthLimit := by rw [Launch.admits_arrayLengthLimit X.admits]; omega
  have m1 : n.toNatClampNeg * componentBytes t0 ≤ 100 * 8 := Nat.mul_le_mul hn1 hbt.1
  have m2 : k.toNatClampNeg * componentBytes t1 ≤ 100 * 8 := Nat.mul_le_mul hk1 hbt.2
  have b1 : ¬ n.toNatClampNeg * componentBytes t0 > e.platform.maxHeapBytes := by rw [Launch.admits_maxHeapBytes X.admits]; omega
  have b2 : ¬ k.toNatClampNeg * componentBytes t1 > e.platform.maxHeapBytes := by rw [Launch.admits_maxHeapBytes X.admits]; omega
  jvm_step X.here [hexec, hdg]
  simp only [Op.multianewarray.sem, wp_bind', W.resolveClassAt_links (State.method?_setTop g X.here.top) hg₁]
  rw [W.popN, if_neg (by decide)]
  refine ⟨g, State.topJava?_setTop' (s := T.setVm vm₁) g X.here.top, [.int n, .int k], rest, rfl, hstack, ?_⟩
  simp only [List.mapM_cons, List.mapM_nil, wp_bind', wp_pure']
  refine mq_make (ka := ka₁) (kb := kb₁) (cb := cb) (cd := cd) (t0 := t0) (t1 := t1) hka₁ hia₁ href hkb₁ hib₁ hn hk l1 b1 l2 b2 hdf hdd (by show T.heap.size + 1 + _ ≤ _; omega) (by show T.slotsUsed + _ + _ ≤ _; omega) (fun d' acts' => ?_)
  have eS : ((T.setTop g).setVm vm₁).setTop { g with stack := rest } = (T.setVm vm₁).setTop { g with stack := rest } := by
    show ((T.setVm vm₁).setTop g).setTop _ = _
    rw [State.setTop_setTop]
  rw [eS, mq_top]
  simp only [wp_bind', W.mark, W.pushRef, State.topJava?_setTop' _ XF.here.top, Option.some.injEq, exists_eq_left', State.setTop_setTop, State.heap_setTop]
  intro acts
  simp [jvm, XF.here.top]
  exact a1
end MULTIW
