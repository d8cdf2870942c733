/-! THE LAW OUT OF A RUN: what is left is pure -/
def mmScr (L : Nat) (xs : Nat → Int32) : mmC := (1999, (List.range L).map fun k => .int (xs k))
def mmHasInst : Bool := vwCl.all fun q => mmGood.any fun w => match w with
  | .instantiable c _ => c == q.1
  | _ => false
set_option maxRecDepth 100000 in
theorem mmHasInst_ok : mmHasInst = true := by decide +kernel
set_option maxRecDepth 100000 in
theorem mmHasArr : Cond.arrayClass .int ∈ mmGood := by decide +kernel
set_option maxRecDepth 100000 in
theorem mmHasOv1 : Cond.arrayOver (.array .int) ∈ lw_tbl := by decide +kernel
set_option maxRecDepth 100000 in
theorem mmHasOv2 : Cond.arrayOver (.array (.array .int)) ∈ lw_tbl := by decide +kernel
theorem mmK_start {s : State} {b L : Nat} {xs : Nat → Int32} {args : Array Value} (hts : ∀ w ∈ lw_tbl, w.before args s = true) {scr : Cell} (hof : s.isArrayOf scr .int) (hkn : scr.vm ≠ .unknown) : ∃ (D : va_G) (cA : Nat → ClassId), mmK D (cA, scr) s := by
  have hg : ∀ w ∈ mmGood, w.before args s = true := fun w hw => hts w (List.mem_filter.mp hw).1
  obtain ⟨cA0, kA, comp, hfind, hkA, hkind⟩ := Cond.arrayClass_spec (hg _ mmHasArr)
  have hx : ∀ k : Nat, ∃ f : ClassId × (Nat → Nat), ∀ q, vwCl[k]? = some q → u_Kn s q.1 q.2.1 q.2.2 f.1 f.2 := by
    intro k
    cases hk : vwCl[k]? with
    | none => exact ⟨(0, fun _ => 0), fun q h => by cases h⟩
    | some q =>
      have h1 := List.all_eq_true.mp mmHasInst_ok q (List.mem_of_getElem? hk)
      obtain ⟨w, hw, h2⟩ := List.any_eq_true.mp h1
      split at h2
      · rename_i c n
        have hc : c = q.1 := by simpa using h2
        subst hc
        obtain ⟨cC, iS, hKn⟩ := u_known hg (mmLay hk).1 (hg _ hw)
        exact ⟨(cC, iS), fun q' h => by cases h; exact hKn⟩
      · cases h2
  obtain ⟨f, hf⟩ := Classical.skolem.mp hx
  obtain ⟨c0, c1, q1, f0, -, g1, g2, g3⟩ := arrayOverA_spec (hts _ mmHasOv1)
  obtain ⟨c1', c2, q2, f1, -, e1, e2, e3⟩ := arrayOverA_spec (hts _ mmHasOv2)
  have hc0 : c0 = cA0 := Option.some.inj (f0.symm.trans hfind)
  have hc1 : c1' = c1 := Option.some.inj (f1.symm.trans g3)
  subst hc0 hc1
  have n1 : (fun t : Nat => if t = 1000 then c0 else if t = 1001 then c1' else c2) 1000 = c0 := rfl
  have n2 : (fun t : Nat => if t = 1000 then c0 else if t = 1001 then c1' else c2) 1001 = c1' := rfl
  have n3 : (fun t : Nat => if t = 1000 then c0 else if t = 1001 then c1' else c2) 1002 = c2 := rfl
  refine ⟨(fun k => (f k).1, fun k => (f k).2), fun t : Nat => if t = 1000 then c0 else if t = 1001 then c1' else c2, fun c q hq => hf c q hq, fun t ty ht => ?_, fun w hw => ?_, hof, hkn, ⟨kA, comp, hkA, hkind⟩, ⟨q1, g1, g2⟩, q2, e1, e2⟩
  · simp only [mmTys, List.mem_cons, List.not_mem_nil, or_false, Prod.mk.injEq] at ht
    rcases ht with ⟨rfl, rfl⟩ | ⟨rfl, rfl⟩ | ⟨rfl, rfl⟩
    · exact ⟨fun n z => ⟨fun k h => (by cases h), kA, hkA, comp, hkind⟩, hfind⟩
    · exact ⟨fun n z => ⟨fun k h => (by cases h), q1, g1, c0, g2⟩, g3⟩
    · exact ⟨fun n z => ⟨fun k h => (by cases h), q2, e1, c1', e2⟩, e3⟩
  · have h2 := (List.mem_filter.mp hw).2
    refine va_Nw.of ?_ (hts w (List.mem_filter.mp hw).1)
    cases w <;> first | rfl | cases h2
def mmTop (b n : Nat) (i : Nat) : Nat := if i = 0 then b else n + (i - 1)
set_option maxHeartbeats 4000000 in
theorem whole_of_run {p : Program} {e : Env} {s : State} {m : MethodId} {below : List Frame} {meth : Method} {c : Code} (l : Launch) {b L : Nat} {xs : Nat → Int32} (C0 : lw_At p s m meth c b L xs) {hE : List mmC} (hrun : Ev mmPT tbL_law 0 (mmEntry 13 [.ref 0]) [] [mmScr L xs] (some (.int 1), hE)) (hc1 : hE.length ≤ 600087) (hc2 : mmSl hE ≤ 7301442) : W p l e room_1 s m #[Value.ref b] below meth c s.heap [] 0 0 (lw_Z below #[Value.ref b] s) (entryFrame m ([Value.ref b] : List Value).toArray 13) := by
  obtain ⟨hx, hb, hr, hml, hown, hts, ⟨scr, g1, g2, g3, g4, g5⟩, hbl, hlocks, hgv⟩ := C0
  obtain ⟨D, cA, hK⟩ := mmK_start (b := b) (L := L) (xs := xs) hts g2 g3
  obtain ⟨n, hn⟩ := hrun
  have C : mmCtx D (cA, scr) p s m #[Value.ref b] meth c mL_law := ⟨hx, hb, hml, hr, hlocks, hown, fun w hw => hts w (List.mem_filter.mp hw).1, hK, fun hh => absurd hh (by decide)⟩
  have hW : mmW D (cA, scr) (mmTop b s.heap.size) [mmScr L xs] s.heap := by
    refine ⟨fun i ci hi => ?_, fun i j hi hj _ => ?_, fun j hj => ?_⟩
    · match i, hi with
      | 0, hi =>
        cases hi
        refine ⟨fun hh => absurd hh (by show ¬ (1999 : Nat) < 1000; decide), fun _ hh => absurd rfl hh, fun _ => ⟨g1, ?_, fun j hj => ?_⟩⟩
        · simp [mmScr, g4]
        · have hj' : j < L := by simpa [mmScr] using hj
          rw [g5 j hj']
          simp [mmScr, mmV, List.getD, hj', mmv]
      | i + 1, hi => simp at hi
    · simp at hi hj
      omega
    · simp at hj
      unfold mmTop
      rw [if_neg (by omega)]
      simp
      omega
  have hS : va_S (mmA (mmTop b s.heap.size) [mmScr L xs]) s.heap s.heap [] := va_S.rf
  rw [lg_entry_eq]
  have h0 := mx_sound (l := l) (D := D) (cA := (cA, scr)) (r := mmTop b s.heap.size) mmPT_ok n (R := room_1) (e := e) (below := below) (Q := lw_Z below #[Value.ref b] s) (mmChk_ok ckL_law) C (by decide) (by decide) (h0 := [mmScr L xs]) (hE := hE) (v := some (.int 1)) (by show hE.length - 1 ≤ 600086; omega) (Nat.le_trans (Nat.sub_le _ _) hc2) hW.2.2 (fun pc ls H locs hdg _ hWE hSE => ?_) hn (by rfl) (mmEntry_ls (n := 13) (vs := [.ref 0]) (mmTop b s.heap.size) (by decide)) hW hS (Nat.le_refl _) (Nat.le_refl _)
  · rw [Nat.sub_self, Nat.sub_self] at h0
    exact h0
  · refine va_forget (fun q hq => ?_) ?_
    · rcases hSE.2.2 q hq with ⟨i, h1, h2, -⟩ | h1
      · simp [mmRo] at h1 h2
        omega
      · exact h1
    · refine W.widen (k := 600086) (n := 7301442) (by simp; omega) (Nat.le_trans (Nat.sub_le _ _) hc2) ?_
      exact lw_ret hx hb hr hlocks hdg
