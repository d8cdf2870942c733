/-! THE MINI MACHINE, part 7: its tables are checked by computing -/
def mmIn (p : Nat) (w : Jvm.Cond) : Bool := decide (lw_tbl[p]? = some w) && goodWord w
theorem mmIn_ok {p : Nat} {w : Jvm.Cond} (h : mmIn p w = true) : w ∈ mmGood := by
  unfold mmIn at h
  rw [Bool.and_eq_true, decide_eq_true_eq] at h
  exact List.mem_filter.mpr ⟨List.mem_of_getElem? h.1, h.2⟩
def mmInF (p : Nat) (own : String) (i : Nat) (O f d : String) : Bool := match lw_tbl[p]? with
  | some (.fieldLink a b c e g) => decide (a = own ∧ b = i ∧ c = O ∧ e = f ∧ g = d) && goodWord (.fieldLink own i O f d)
  | some (.fieldLinkNest a b c e g _) => decide (a = own ∧ b = i ∧ c = O ∧ e = f ∧ g = d)
  | _ => false
theorem mmInF_ok {p : Nat} {own : String} {i : Nat} {O f d : String} (h : mmInF p own i O f d = true) : Cond.fieldLink own i O f d ∈ mmGood ∨ ∃ host, Cond.fieldLinkNest own i O f d host ∈ mmNest := by
  unfold mmInF at h
  split at h
  · rename_i hp
    rw [Bool.and_eq_true, decide_eq_true_eq] at h
    obtain ⟨⟨rfl, rfl, rfl, rfl, rfl⟩, h2⟩ := h
    exact Or.inl (List.mem_filter.mpr ⟨List.mem_of_getElem? hp, h2⟩)
  · rename_i hp
    rw [decide_eq_true_eq] at h
    obtain ⟨rfl, rfl, rfl, rfl, rfl⟩ := h
    exact Or.inr ⟨_, List.mem_filter.mpr ⟨List.mem_of_getElem? hp, rfl⟩⟩
  · cases h
def mmInM (p : Nat) (own : String) (i : Nat) (y : MethodName) (nest : Bool) : Bool := match lw_tbl[p]? with
  | some (.methodLink a b c) => !nest && decide (a = own ∧ b = i ∧ c = y) && goodWord (.methodLink own i y)
  | some (.methodLinkNest a b c _) => nest && decide (a = own ∧ b = i ∧ c = y)
  | _ => false
theorem mmInM_ok {p : Nat} {own : String} {i : Nat} {y : MethodName} {nest : Bool} (h : mmInM p own i y nest = true) : nest = false ∧ Cond.methodLink own i y ∈ mmGood ∨ nest = true ∧ ∃ host, Cond.methodLinkNest own i y host ∈ mmNest := by
  unfold mmInM at h
  split at h
  · rename_i hp
    rw [Bool.and_eq_true, Bool.and_eq_true, decide_eq_true_eq] at h
    obtain ⟨⟨h0, rfl, rfl, rfl⟩, h2⟩ := h
    exact Or.inl ⟨by simpa using h0, List.mem_filter.mpr ⟨List.mem_of_getElem? hp, h2⟩⟩
  · rename_i hp
    rw [Bool.and_eq_true, decide_eq_true_eq] at h
    obtain ⟨h0, rfl, rfl, rfl⟩ := h
    exact Or.inr ⟨h0, _, List.mem_filter.mpr ⟨List.mem_of_getElem? hp, rfl⟩⟩
  · cases h
/-- a call's words, by their places: of the link, the code, the class, the kind of method, the selection -/
def mmChkC (PT : List mmM) (M : mmM) (i : Nat) (vi : Nat) (ax : List Nat) : Bool := match ax with
  | kd :: y :: k :: ci :: pl :: pc :: pi :: pm :: ps :: _ => match PT[y]? with
    | none => false
    | some M' =>
      (kd == vi || kd == vi + 1) &&
      decide (M'.1.cls ≠ "java/lang/invoke/MethodHandle" ∧ M'.1.cls ≠ "java/lang/invoke/VarHandle") && decide (M'.2.2.2.2.1 + 1 ≤ M.2.2.2.2.1) && decide (8 + (M'.2.2.1 + 11) + M'.2.2.2.2.2.1 ≤ M.2.2.2.2.2.1) &&
      mmIn pc (.code M'.1 M'.2.1 M'.2.2.1 M'.2.2.2.1) && mmIn pi (.initialized M'.1.cls) &&
      mmInM pl M.1.cls i M'.1 (kd == vi + 1) &&
      (match vi with
        | 0 => decide ((parseMethodDescriptor M'.1.desc).map (fun d => d.parameters.length + 1) = some k) && mmIn pm (.instanceMethod M'.1) && mmIn ps (.selects M'.1.cls M'.1 M'.1) && decide ((vwCl[ci]?).map (·.1) = some M'.1.cls)
        | 2 => decide ((parseMethodDescriptor M'.1.desc).map (fun d => d.parameters.length) = some k) && mmIn pm (.static M'.1)
        | 4 => decide ((parseMethodDescriptor M'.1.desc).map (fun d => d.parameters.length + 1) = some k) && mmIn pm (.instanceMethod M'.1) && decide (M'.1.name = "<init>") && decide (M'.2.2.2.1 = none)
        | _ => false)
  | _ => match ax with
    | [] => true
    | [_] => true
    | [_, _] => true
    | [_, _, _] => true
    | _ => false
theorem mmChkC_ok {PT : List mmM} {M : mmM} {i vi : Nat} {ax : List Nat} (h : mmChkC PT M i vi ax = true) : ∀ kd y k ci t, ax = kd :: y :: k :: ci :: t → (kd = vi ∨ kd = vi + 1) ∧ ∀ M', PT[y]? = some M' → mmOkC M i kd k ci M' := by
  rintro kd y k ci t rfl
  unfold mmChkC at h
  split at h
  · rename_i kd y k ci pl pc pi pm ps t' he
    cases he
    split at h
    · cases h
    · rename_i M' hy
      simp only [Bool.and_eq_true, Bool.or_eq_true, beq_iff_eq, decide_eq_true_eq] at h
      obtain ⟨⟨⟨⟨⟨⟨⟨h1, h2⟩, h3⟩, h4⟩, h5⟩, h6⟩, h7⟩, h8⟩ := h
      refine ⟨h1, fun M2 hy2 => ?_⟩
      cases hy.symm.trans hy2
      have e7 := mmInM_ok h7
      have hl : (kd = vi ∧ Cond.methodLink M.1.cls i M'.1 ∈ mmGood) ∨ (kd = vi + 1 ∧ ∃ host, Cond.methodLinkNest M.1.cls i M'.1 host ∈ mmNest) := by
        rcases e7 with ⟨e, q⟩ | ⟨e, q⟩
        · rw [beq_eq_false_iff_ne] at e
          exact Or.inl ⟨h1.resolve_right e, q⟩
        · rw [beq_iff_eq] at e
          exact Or.inr ⟨e, q⟩
      split at h8
      · simp only [Bool.and_eq_true, decide_eq_true_eq] at h8
        obtain ⟨⟨⟨g1, g2⟩, g3⟩, g4⟩ := h8
        obtain ⟨q, q1, q2⟩ := Option.map_eq_some_iff.mp g4
        refine ⟨h2, h3, h4, mmIn_ok h5, mmIn_ok h6, Or.inl ⟨h1, g1, mmIn_ok g2, mmIn_ok g3, q, q1, q2⟩, ?_⟩
        rcases hl with ⟨e, q⟩ | ⟨e, q⟩
        · exact Or.inl ⟨Or.inl e, q⟩
        · exact Or.inr ⟨Or.inl e, q⟩
      · simp only [Bool.and_eq_true, decide_eq_true_eq] at h8
        obtain ⟨g1, g2⟩ := h8
        refine ⟨h2, h3, h4, mmIn_ok h5, mmIn_ok h6, Or.inr (Or.inl ⟨h1, g1, mmIn_ok g2⟩), ?_⟩
        rcases hl with ⟨e, q⟩ | ⟨e, q⟩
        · exact Or.inl ⟨Or.inr (Or.inl e), q⟩
        · exact Or.inr ⟨Or.inr (Or.inl e), q⟩
      · simp only [Bool.and_eq_true, decide_eq_true_eq] at h8
        obtain ⟨⟨⟨g1, g2⟩, g3⟩, g4⟩ := h8
        refine ⟨h2, h3, h4, mmIn_ok h5, mmIn_ok h6, Or.inr (Or.inr ⟨h1, g1, mmIn_ok g2, g3, g4⟩), ?_⟩
        rcases hl with ⟨e, q⟩ | ⟨e, q⟩
        · exact Or.inl ⟨Or.inr (Or.inr e), q⟩
        · exact Or.inr ⟨Or.inr (Or.inr e), q⟩
      · cases h8
  · split at h
    · rename_i he; cases he
    · rename_i he; cases he
    · rename_i he; cases he
    · rename_i he; cases he
    · cases h
def mmChkI (PT : List mmM) (M : mmM) (pc : Nat) (ins : Instr) (ax : List Nat) : Bool := match ins with
  | .ifCond _ off => match ax with
    | tg :: _ => decide ((pc : Int) + off = (tg : Int))
    | _ => true
  | .if_icmp _ off => match ax with
    | tg :: _ => decide ((pc : Int) + off = (tg : Int))
    | _ => true
  | .goto off => match ax with
    | tg :: _ => decide ((pc : Int) + off = (tg : Int))
    | _ => true
  | .tableswitch dflt _ _ offs => match ax with
    | df :: tgs => decide ((pc : Int) + dflt = (df : Int)) && decide (tgs.map (fun (tg : Nat) => (tg : Int)) = offs.toList.map fun o => (pc : Int) + o)
    | _ => true
  | .ireturn => match ax with
    | [] => decide (M.2.2.2.1 = some .int)
    | _ => decide (M.2.2.2.1 = some .boolean)
  | .lreturn => decide (M.2.2.2.1 = some .long)
  | .return_ => decide (M.2.2.2.1 = none)
  | .invokevirtual i => mmChkC PT M i 0 ax
  | .invokestatic i => mmChkC PT M i 2 ax && (match ax with
    | [8, p, _] => decide (1 ≤ M.2.2.2.2.1) && decide (8 + (nativeFrameWords "java/lang/System" "arraycopy" 5 + 11) ≤ M.2.2.2.2.2.1) && mmIn p (.methodLink M.1.cls i arraycopyName) && decide (Cond.native arraycopyName ∈ mmGood) && decide (Cond.static arraycopyName ∈ mmGood) && decide (Cond.initialized "java/lang/System" ∈ mmGood)
    | _ => true)
  | .invokespecial i => mmChkC PT M i 4 ax && (match ax with
    | [9, p, _] => decide (1 ≤ M.2.2.2.2.1) && decide (20 ≤ M.2.2.2.2.2.1) && mmIn p (.methodLink M.1.cls i objectInit) && decide (Cond.instanceMethod objectInit ∈ mmGood) && decide (Cond.code objectInit ⟨#[0xb1]⟩ 1 none ∈ mmGood)
    | _ => true)
  | .ldc i => match ax with
    | b :: p :: _ => mmIn p (.constant M.1.cls i (Int32.ofNat b))
    | [] => true
    | _ => false
  | .ldc_w i => match ax with
    | b :: p :: _ => mmIn p (.constant M.1.cls i (Int32.ofNat b))
    | [] => true
    | _ => false
  | .ldc2_w i => match ax with
    | b :: p :: _ => mmIn p (.constantLong M.1.cls i (Int64.ofNat b))
    | [] => true
    | _ => false
  | .getfield i => match ax with
    | ci :: k :: p :: _ => match vwCl[ci]? with
      | some q => decide (k < q.2.2) && mmInF p M.1.cls i (q.2.1 k).1 (q.2.1 k).2.1 (q.2.1 k).2.2.1
      | none => false
    | [] => true
    | _ => false
  | .putfield i => match ax with
    | ci :: k :: tc :: p :: _ => match vwCl[ci]? with
      | some q => decide (k < q.2.2) && (match parseFieldDescriptor (q.2.1 k).2.2.1 with
          | some ty => mmTc tc ty
          | none => false) && (if (q.2.1 k).2.2.2 = true then decide (M.1.name = "<init>") && decide ((q.2.1 k).1 = M.1.cls) && mmIn p (.fieldLink M.1.cls i (q.2.1 k).1 (q.2.1 k).2.1 (q.2.1 k).2.2.1) else mmInF p M.1.cls i (q.2.1 k).1 (q.2.1 k).2.1 (q.2.1 k).2.2.1)
      | none => false
    | [] => true
    | _ => false
  | .new i => match ax with
    | ci :: p1 :: p2 :: p3 :: _ => match vwCl[ci]? with
      | some q => mmIn p1 (.classLink M.1.cls i q.1) && mmIn p2 (.instantiable q.1 q.2.2) && mmIn p3 (.initialized q.1)
      | none => false
    | [] => true
    | _ => false
  | .newarray .int => match ax with
    | p :: _ => mmIn p (.arrayClass .int)
    | _ => false
  | .multianewarray i 2 => match ax with
    | [tg, p] => mmIn p (.classLink M.1.cls i (if tg = 1001 then "[[I" else "[[[I"))
    | [] => true
    | _ => false
  | _ => true
theorem mmChkI_ok {PT : List mmM} {M : mmM} {pc : Nat} {ins : Instr} {ax : List Nat} (h : mmChkI PT M pc ins ax = true) : mmOkI PT M pc ins ax := by
  cases ins
  case ifCond => rintro tg t rfl; exact of_decide_eq_true h
  case if_icmp => rintro tg t rfl; exact of_decide_eq_true h
  case goto => rintro tg t rfl; exact of_decide_eq_true h
  case tableswitch =>
    rintro df tgs rfl
    simp only [mmChkI, Bool.and_eq_true, decide_eq_true_eq] at h
    refine ⟨h.1, fun j tg hj => ?_⟩
    have h2 := congrArg (fun l => l[j]?) h.2
    simp only [List.getElem?_map, hj, Option.map_some] at h2
    obtain ⟨o, h3, h4⟩ := Option.map_eq_some_iff.mp h2.symm
    exact ⟨o, by rw [← Array.getElem?_toList]; exact h3, h4⟩
  case ireturn =>
    refine ⟨fun e => ?_, fun e => ?_⟩
    · subst e; exact of_decide_eq_true h
    · cases ax with
      | nil => exact absurd rfl e
      | cons a t => exact of_decide_eq_true h
  case lreturn => exact of_decide_eq_true (p := M.2.2.2.1 = some .long) h
  case return_ => exact of_decide_eq_true (p := M.2.2.2.1 = none) h
  case invokevirtual => exact mmChkC_ok h
  case invokestatic =>
    simp only [mmChkI, Bool.and_eq_true] at h
    refine ⟨?_, mmChkC_ok h.1⟩
    rintro a b rfl
    have h2 := h.2
    simp only [Bool.and_eq_true, decide_eq_true_eq] at h2
    obtain ⟨⟨⟨⟨⟨g1, g2⟩, g3⟩, g4⟩, g5⟩, g6⟩ := h2
    exact ⟨g1, g2, mmIn_ok g3, g4, g5, g6⟩
  case invokespecial =>
    simp only [mmChkI, Bool.and_eq_true] at h
    refine ⟨?_, mmChkC_ok h.1⟩
    rintro a b rfl
    have h2 := h.2
    simp only [Bool.and_eq_true, decide_eq_true_eq] at h2
    obtain ⟨⟨⟨⟨g1, g2⟩, g3⟩, g4⟩, g5⟩ := h2
    exact ⟨g1, g2, mmIn_ok g3, g4, g5⟩
  case ldc =>
    rintro b t rfl
    cases t with
    | nil => cases h
    | cons p t => exact mmIn_ok h
  case ldc_w =>
    rintro b t rfl
    cases t with
    | nil => cases h
    | cons p t => exact mmIn_ok h
  case ldc2_w =>
    rintro b t rfl
    cases t with
    | nil => cases h
    | cons p t => exact mmIn_ok h
  case getfield =>
    rintro ci k t rfl
    cases t with
    | nil => cases h
    | cons p t =>
      simp only [mmChkI] at h
      split at h
      · rename_i q hq
        rw [Bool.and_eq_true, decide_eq_true_eq] at h
        refine ⟨q, hq, h.1, ?_⟩
        rcases mmInF_ok h.2 with g | g
        · exact Or.inl g
        · exact Or.inr ⟨rfl, g⟩
      · cases h
  case putfield =>
    rintro ci k tc t rfl
    cases t with
    | nil => cases h
    | cons p t =>
      simp only [mmChkI] at h
      split at h
      · rename_i q hq
        rw [Bool.and_eq_true, Bool.and_eq_true, decide_eq_true_eq] at h
        obtain ⟨⟨h1, h2⟩, h3⟩ := h
        split at h2
        · rename_i ty hty
          refine ⟨q, ty, hq, h1, hty, h2, ?_⟩
          split at h3
          · rename_i hf
            rw [Bool.and_eq_true, Bool.and_eq_true, decide_eq_true_eq, decide_eq_true_eq] at h3
            exact Or.inl ⟨hf, h3.1.1, h3.1.2, mmIn_ok h3.2⟩
          · rename_i hf
            exact Or.inr ⟨by simpa using hf, mmInF_ok h3⟩
        · cases h2
      · cases h
  case new =>
    rintro ci t rfl
    cases t with
    | nil => cases h
    | cons p1 t => cases t with
      | nil => cases h
      | cons p2 t => cases t with
        | nil => cases h
        | cons p3 t =>
          simp only [mmChkI] at h
          split at h
          · rename_i q hq
            rw [Bool.and_eq_true, Bool.and_eq_true] at h
            exact ⟨q, hq, mmIn_ok h.1.1, mmIn_ok h.1.2, mmIn_ok h.2⟩
          · cases h
  case multianewarray i d =>
    rcases d with _ | _ | _ | d
    · trivial
    · trivial
    · rintro tg t rfl
      match t, h with
      | [p], h =>
        have h1 := mmIn_ok h
        refine ⟨fun e => ?_, fun e => ?_⟩
        · subst e
          exact h1
        · subst e
          exact h1
      | [], h => cases h
      | _ :: _ :: _, h => cases h
    · trivial
  case newarray ty =>
    cases ty <;> first | trivial | skip
    cases ax with
    | nil => cases h
    | cons p t => exact mmIn_ok h
  all_goals trivial
def mmChk (PT : List mmM) (M : mmM) : Bool := plainFor M.1 && M.2.2.2.2.2.2.all fun q => decide (decode M.2.1 q.1 = .ok (q.2.1, q.2.2.1)) && (mmIsSw q.2.1 || q.2.2.1 == mmLen q.2.1) && mmChkI PT M q.1 q.2.1 q.2.2.2
theorem mmFetch_mem {t : List mmI} {pc : Nat} {x : Instr × Nat × List Nat} (h : mmFetch t pc = some x) : (pc, x) ∈ t := by
  induction t with
  | nil => cases h
  | cons q t ih =>
    unfold mmFetch at h
    cases hb : Nat.beq q.1 pc with
    | true =>
      rw [hb] at h
      have he := Nat.eq_of_beq_eq_true hb
      have : q = (pc, x) := Prod.ext he (Option.some.inj h)
      rw [this]
      exact List.mem_cons_self
    | false =>
      rw [hb] at h
      exact List.mem_cons_of_mem _ (ih h)
theorem mmChk_ok {PT : List mmM} {M : mmM} (h : mmChk PT M = true) : mmOkM PT M := by
  unfold mmChk at h
  rw [Bool.and_eq_true, List.all_eq_true] at h
  refine ⟨h.1, fun pc ins len ax hf => ?_⟩
  have h2 := h.2 _ (mmFetch_mem hf)
  simp only [Bool.and_eq_true, decide_eq_true_eq, Bool.or_eq_true, beq_iff_eq] at h2
  exact ⟨h2.1.1, h2.1.2, mmChkI_ok h2.2⟩
