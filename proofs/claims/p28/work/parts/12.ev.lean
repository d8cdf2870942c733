/-! RUNS: enough steps, and rules for them -/
def mxB (PT : List mmM) (F : List mmI → Nat → List (Option Value) → List Value → List mmC → Option (Option Value × List mmC)) (t : List mmI) (pc : Nat) (lv : List (Option Value)) (st : List Value) (h : List mmC) : Option (Option Value × List mmC) :=
    match mmFetch t pc with
    | none => none
    | some (ins, _, ax) =>
      match ins with
      | .ifCond cd _ => match st, ax with
        | .int x :: r, tg :: _ => if mmIf cd x = true then F t tg lv r h else F t (pc + 3) lv r h
        | _, _ => none
      | .if_icmp cd _ => match st, ax with
        | .int y :: .int x :: r, tg :: _ => if mmIc cd x y = true then F t tg lv r h else F t (pc + 3) lv r h
        | _, _ => none
      | .goto _ => match ax with
        | tg :: _ => F t tg lv st h
        | _ => none
      | .tableswitch _ lo hi _ => match st, ax with
        | .int x :: r, df :: tgs => if x.toInt < lo ∨ hi < x.toInt then F t df lv r h else match tgs[(x.toInt - lo).toNat]? with
          | some tg => F t tg lv r h
          | none => none
        | _, _ => none
      | .ireturn => match st, ax with
        | [.int x], [] => some (some (.int x), h)
        | [.int x], [_] => if x = 0 ∨ x = 1 then some (some (.int x), h) else none
        | _, _ => none
      | .lreturn => match st with
        | [.long x] => some (some (.long x), h)
        | _ => none
      | .return_ => match st with
        | [] => some (none, h)
        | _ => none
      | .invokevirtual _ => match mmCall PT ax st h with
        | none => none
        | some (M, as, r) => match F M.2.2.2.2.2.2 0 (mmEntry M.2.2.1 as) [] h with
          | none => none
          | some (v, h') => F t (pc + 3) lv (v.toList ++ r) h'
      | .invokestatic _ => match ax with
        | [8, _, _] => match mmCopy st h with
          | some (r, h') => F t (pc + 3) lv r h'
          | none => none
        | _ => match mmCall PT ax st h with
          | none => none
          | some (M, as, r) => match F M.2.2.2.2.2.2 0 (mmEntry M.2.2.1 as) [] h with
            | none => none
            | some (v, h') => F t (pc + 3) lv (v.toList ++ r) h'
      | .invokespecial _ => match ax with
        | [9, _, _] => match st with
          | .ref _ :: r => if mmWords r ≤ 8 then F t (pc + 3) lv r h else none
          | _ => none
        | _ => match mmCall PT ax st h with
          | none => none
          | some (M, as, r) => match F M.2.2.2.2.2.2 0 (mmEntry M.2.2.1 as) [] h with
            | none => none
            | some (v, h') => F t (pc + 3) lv (v.toList ++ r) h'
      | _ => match mmS ins ax pc lv st h with
        | some (pc', lv', st', h') => F t pc' lv' st' h'
        | none => none
theorem mx_eq (PT : List mmM) (n : Nat) (t : List mmI) (pc : Nat) (lv : List (Option Value)) (st : List Value) (h : List mmC) : mx PT (n + 1) t pc lv st h = mxB PT (mx PT n) t pc lv st h := rfl
theorem mxB_call {F G : List mmI → Nat → List (Option Value) → List Value → List mmC → Option (Option Value × List mmC)} (hF : ∀ t pc lv st h x, F t pc lv st h = some x → G t pc lv st h = some x) {t t' : List mmI} {pc : Nat} {lv lv' : List (Option Value)} {r : List Value} {h : List mmC} {x : Option Value × List mmC}
    (hx : (match F t' 0 lv' [] h with
          | none => none
          | some (v, h') => F t pc lv (v.toList ++ r) h') = some x) : (match G t' 0 lv' [] h with
          | none => none
          | some (v, h') => G t pc lv (v.toList ++ r) h') = some x := by
  split at hx
  · cases hx
  · rename_i h1
    rw [hF _ _ _ _ _ _ h1]
    exact hF _ _ _ _ _ _ hx
theorem mxB_mono {PT : List mmM} {F G : List mmI → Nat → List (Option Value) → List Value → List mmC → Option (Option Value × List mmC)} (hF : ∀ t pc lv st h x, F t pc lv st h = some x → G t pc lv st h = some x) {t : List mmI} {pc : Nat} {lv : List (Option Value)} {st : List Value} {h : List mmC} {x : Option Value × List mmC} (hx : mxB PT F t pc lv st h = some x) : mxB PT G t pc lv st h = some x := by
  unfold mxB at hx ⊢
  split at hx
  · cases hx
  rename_i ins len ax hf
  (try rw [hf])
  (try dsimp only at hx ⊢)
  split at hx
  · (try dsimp only)
    split at hx
    · split at hx
      · rename_i hc
        (try rw [if_pos hc]); exact hF _ _ _ _ _ _ hx
      · rename_i hc
        (try rw [if_neg hc]); exact hF _ _ _ _ _ _ hx
    · cases hx
  · (try dsimp only)
    split at hx
    · split at hx
      · rename_i hc
        (try rw [if_pos hc]); exact hF _ _ _ _ _ _ hx
      · rename_i hc
        (try rw [if_neg hc]); exact hF _ _ _ _ _ _ hx
    · cases hx
  · (try dsimp only)
    split at hx
    · exact hF _ _ _ _ _ _ hx
    · cases hx
  · (try dsimp only)
    split at hx
    · split at hx
      · rename_i hc
        (try rw [if_pos hc]); exact hF _ _ _ _ _ _ hx
      · rename_i hc
        (try rw [if_neg hc])
        split at hx
        · rename_i htg
          (try rw [htg]); exact hF _ _ _ _ _ _ hx
        · cases hx
    · cases hx
  · exact hx
  · exact hx
  · exact hx
  · (try dsimp only)
    split at hx
    · cases hx
    · rename_i hc
      (try rw [hc])
      exact mxB_call hF hx
  · (try dsimp only)
    split at hx
    · split at hx
      · rename_i hc
        (try rw [hc]); exact hF _ _ _ _ _ _ hx
      · cases hx
    · split at hx
      · cases hx
      · rename_i hc
        (try rw [hc])
        exact mxB_call hF hx
  · (try dsimp only)
    split at hx
    · split at hx
      · split at hx
        · rename_i hc
          (try rw [if_pos hc]); exact hF _ _ _ _ _ _ hx
        · cases hx
      · cases hx
    · split at hx
      · cases hx
      · rename_i hc
        (try rw [hc])
        exact mxB_call hF hx
  · split at hx
    · rename_i hs
      (try rw [hs]); exact hF _ _ _ _ _ _ hx
    · cases hx
theorem mx_succ (PT : List mmM) : ∀ (n : Nat) (t : List mmI) (pc : Nat) (lv : List (Option Value)) (st : List Value) (h : List mmC) (x : Option Value × List mmC), mx PT n t pc lv st h = some x → mx PT (n + 1) t pc lv st h = some x := by
  intro n
  induction n with
  | zero => intro t pc lv st h x hx; cases hx
  | succ n ih =>
    intro t pc lv st h x hx
    rw [mx_eq] at hx ⊢
    exact mxB_mono ih hx
theorem mx_more {PT : List mmM} {n m : Nat} (hnm : n ≤ m) {t : List mmI} {pc : Nat} {lv : List (Option Value)} {st : List Value} {h : List mmC} {x : Option Value × List mmC} (hx : mx PT n t pc lv st h = some x) : mx PT m t pc lv st h = some x := by
  obtain ⟨k, rfl⟩ := Nat.exists_eq_add_of_le hnm
  induction k with
  | zero => exact hx
  | succ k ih => exact mx_succ PT _ _ _ _ _ _ _ (ih (Nat.le_add_right _ _))
def Ev (PT : List mmM) (t : List mmI) (pc : Nat) (lv : List (Option Value)) (st : List Value) (h : List mmC) (x : Option Value × List mmC) : Prop := ∃ n, mx PT n t pc lv st h = some x
section EV
variable {PT : List mmM} {t : List mmI} {pc len : Nat} {lv : List (Option Value)} {st : List Value} {h : List mmC} {x : Option Value × List mmC} {ax : List Nat}
/-- a simple instruction -/
theorem Ev.s {ins : Instr} {pc' : Nat} {lv' : List (Option Value)} {st' : List Value} {h' : List mmC} (hf : mmFetch t pc = some (ins, len, ax)) (hs : mmS ins ax pc lv st h = some (pc', lv', st', h')) (k : Ev PT t pc' lv' st' h' x) : Ev PT t pc lv st h x := by
  obtain ⟨n, hn⟩ := k
  refine ⟨n + 1, ?_⟩
  rw [mx_eq]
  unfold mxB
  rw [hf]
  cases ins <;> first | (unfold mmS at hs; cases hs; done) | (dsimp only; rw [hs]; exact hn)
theorem Ev.call {ins : Instr} {i : Nat} {M : mmM} {as r : List Value} {v : Option Value} {h' : List mmC} (hi : ins = .invokevirtual i ∨ ins = .invokestatic i ∧ ax.length ≠ 3 ∨ ins = .invokespecial i ∧ ax.length ≠ 3) (hf : mmFetch t pc = some (ins, len, ax)) (hc : mmCall PT ax st h = some (M, as, r)) (hm : Ev PT M.2.2.2.2.2.2 0 (mmEntry M.2.2.1 as) [] h (v, h')) (k : Ev PT t (pc + 3) lv (v.toList ++ r) h' x) : Ev PT t pc lv st h x := by
  obtain ⟨n, hn⟩ := hm
  obtain ⟨n2, hn2⟩ := k
  refine ⟨max n n2 + 1, ?_⟩
  rw [mx_eq]
  unfold mxB
  rw [hf]
  have g1 := mx_more (Nat.le_max_left n n2) hn
  have g2 := mx_more (Nat.le_max_right n n2) hn2
  rcases hi with rfl | ⟨rfl, hl⟩ | ⟨rfl, hl⟩
  · dsimp only
    rw [hc]
    dsimp only
    rw [g1]
    exact g2
  · dsimp only
    split
    · exact absurd rfl hl
    · rw [hc]
      dsimp only
      rw [g1]
      exact g2
  · dsimp only
    split
    · exact absurd rfl hl
    · rw [hc]
      dsimp only
      rw [g1]
      exact g2
theorem Ev.copy {i a b : Nat} {r : List Value} {h' : List mmC} (hf : mmFetch t pc = some (.invokestatic i, len, [8, a, b])) (hc : mmCopy st h = some (r, h')) (k : Ev PT t (pc + 3) lv r h' x) : Ev PT t pc lv st h x := by
  obtain ⟨n, hn⟩ := k
  refine ⟨n + 1, ?_⟩
  rw [mx_eq]
  unfold mxB
  rw [hf]
  dsimp only
  rw [hc]
  exact hn
theorem Ev.obj {i a b q : Nat} {r : List Value} (hf : mmFetch t pc = some (.invokespecial i, len, [9, a, b])) (hs : st = .ref q :: r) (hw : mmWords r ≤ 8) (k : Ev PT t (pc + 3) lv r h x) : Ev PT t pc lv st h x := by
  obtain ⟨n, hn⟩ := k
  refine ⟨n + 1, ?_⟩
  rw [mx_eq]
  unfold mxB
  rw [hf]
  subst hs
  dsimp only
  rw [if_pos hw]
  exact hn
theorem Ev.if1 {cd : ClassFile.Cond} {off : Int} {tg : Nat} {ax' : List Nat} {y : Int32} {r : List Value} (hf : mmFetch t pc = some (.ifCond cd off, len, tg :: ax')) (hs : st = .int y :: r) (kt : mmIf cd y = true → Ev PT t tg lv r h x) (kf : mmIf cd y = false → Ev PT t (pc + 3) lv r h x) : Ev PT t pc lv st h x := by
  subst hs
  cases hb : mmIf cd y with
  | true =>
    obtain ⟨n, hn⟩ := kt hb
    refine ⟨n + 1, ?_⟩
    rw [mx_eq]
    unfold mxB
    rw [hf]
    dsimp only
    rw [if_pos hb]
    exact hn
  | false =>
    obtain ⟨n, hn⟩ := kf hb
    refine ⟨n + 1, ?_⟩
    rw [mx_eq]
    unfold mxB
    rw [hf]
    dsimp only
    rw [if_neg (by rw [hb]; decide)]
    exact hn
theorem Ev.if2 {cd : ClassFile.Cond} {off : Int} {tg : Nat} {ax' : List Nat} {y z : Int32} {r : List Value} (hf : mmFetch t pc = some (.if_icmp cd off, len, tg :: ax')) (hs : st = .int z :: .int y :: r) (kt : mmIc cd y z = true → Ev PT t tg lv r h x) (kf : mmIc cd y z = false → Ev PT t (pc + 3) lv r h x) : Ev PT t pc lv st h x := by
  subst hs
  cases hb : mmIc cd y z with
  | true =>
    obtain ⟨n, hn⟩ := kt hb
    refine ⟨n + 1, ?_⟩
    rw [mx_eq]
    unfold mxB
    rw [hf]
    dsimp only
    rw [if_pos hb]
    exact hn
  | false =>
    obtain ⟨n, hn⟩ := kf hb
    refine ⟨n + 1, ?_⟩
    rw [mx_eq]
    unfold mxB
    rw [hf]
    dsimp only
    rw [if_neg (by rw [hb]; decide)]
    exact hn
theorem Ev.goto {off : Int} {tg : Nat} {ax' : List Nat} (hf : mmFetch t pc = some (.goto off, len, tg :: ax')) (k : Ev PT t tg lv st h x) : Ev PT t pc lv st h x := by
  obtain ⟨n, hn⟩ := k
  refine ⟨n + 1, ?_⟩
  rw [mx_eq]
  unfold mxB
  rw [hf]
  exact hn
theorem Ev.iret {y : Int32} (hf : mmFetch t pc = some (.ireturn, len, [])) (hs : st = [.int y]) (hx : x = (some (.int y), h)) : Ev PT t pc lv st h x := by
  subst hs; subst hx
  refine ⟨1, ?_⟩
  rw [mx_eq]
  unfold mxB
  rw [hf]
theorem Ev.zret {y : Int32} {a : Nat} (hf : mmFetch t pc = some (.ireturn, len, [a])) (hs : st = [.int y]) (hy : y = 0 ∨ y = 1) (hx : x = (some (.int y), h)) : Ev PT t pc lv st h x := by
  subst hs; subst hx
  refine ⟨1, ?_⟩
  rw [mx_eq]
  unfold mxB
  rw [hf]
  dsimp only
  rw [if_pos hy]
theorem Ev.lret {y : Int64} (hf : mmFetch t pc = some (.lreturn, len, ax)) (hs : st = [.long y]) (hx : x = (some (.long y), h)) : Ev PT t pc lv st h x := by
  subst hs; subst hx
  refine ⟨1, ?_⟩
  rw [mx_eq]
  unfold mxB
  rw [hf]
theorem Ev.vret (hf : mmFetch t pc = some (.return_, len, ax)) (hs : st = []) (hx : x = (none, h)) : Ev PT t pc lv st h x := by
  subst hs; subst hx
  refine ⟨1, ?_⟩
  rw [mx_eq]
  unfold mxB
  rw [hf]
theorem Ev.sw {dflt lo hi : Int} {offs : Array Int} {y : Int32} {r : List Value} {df : Nat} {tgs : List Nat} {tg : Nat} (hf : mmFetch t pc = some (.tableswitch dflt lo hi offs, len, df :: tgs)) (hs : st = .int y :: r) (htg : (if y.toInt < lo ∨ hi < y.toInt then some df else tgs[(y.toInt - lo).toNat]?) = some tg) (k : Ev PT t tg lv r h x) : Ev PT t pc lv st h x := by
  subst hs
  obtain ⟨n, hn⟩ := k
  refine ⟨n + 1, ?_⟩
  rw [mx_eq]
  unfold mxB
  rw [hf]
  dsimp only
  split at htg
  · rename_i hc
    cases htg
    rw [if_pos hc]
    exact hn
  · rename_i hc
    rw [if_neg hc, htg]
    exact hn
end EV
