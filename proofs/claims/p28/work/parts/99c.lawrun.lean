/-! THE LAW: runs are right */ -/
section LAWRUN
variable {to ma tr cn nu de ru la tb tf ph : Ob} {cs : Int64}
def hsP (t : Ob) (n : Nat) : Int32 := itr (fun i s => s * 31 + t.1 1 i) 0 n 0
def hsC (t : Ob) (s : Int32) : Int32 := itr (fun i s => s * 31 + t.1 0 i) 0 8 s
theorem itr_same {β : Type} {f g : Nat → β → β} : ∀ (d i : Nat) (s : β), (∀ k s, i ≤ k → k < i + d → f k s = g k s) → itr f i d s = itr g i d s := by
  intro d
  induction d with
  | zero => intro i s _; rfl
  | succ d ih =>
    intro i s h
    show itr f (i + 1) d (f i s) = itr g (i + 1) d (g i s)
    rw [h i s (Nat.le_refl _) (by omega)]
    exact ih (i + 1) _ fun k s h1 h2 => h k s (by omega) (by omega)
def LR (o : Option (Bool × Ob × Ob × Ob × Ob × Ob × Ob × Ob × Ob × Ob × Int64)) : Prop := ∃ tr cn nu de ru la tb tf ph cs, o = some (true, tr, cn, nu, de, ru, la, tb, tf, ph, cs) ∧ ph.2.2 0 = true
theorem min_60 {L : Nat} (hL : L < 2 ^ 31) : J_min 60 (nI L) = nI (min 60 L) := by
  unfold J_min
  by_cases q : L < 60
  · rw [if_pos (show nI L < 60 from nI_lt (a := L) (b := 60) q (by decide)), Nat.min_eq_right (by omega)]
  · rw [if_neg (show ¬ nI L < 60 from nI_nlt (a := L) (b := 60) (by omega) (by omega)), Nat.min_eq_left (by omega)]
    rfl
theorem printed_at {L i : Nat} (h2 : la.2.1 2 = nI L) (hL : L < 2 ^ 31) (hi : i < min 60 L) : Ph_printed la (nI i) = some (la.1 1 i) := by
  unfold Ph_printed
  rw [if_neg (show ¬ nI i < 0 from nI_nlt (a := i) (b := 0) (by omega) (by omega)), h2, if_pos (nI_lt (by omega) hL), if_pos (show nI i < 60 from nI_lt (a := i) (b := 60) (by omega) (by decide)), oat_rs (show i < 60 by omega) (by decide)]
theorem cell_at {i : Nat} (hi : i < 8) : Ph_cell la (nI i) = some (la.1 0 i) := by
  unfold Ph_cell
  rw [if_neg (show ¬ nI i < 0 from nI_nlt (a := i) (b := 0) (by omega) (by omega)), if_pos (show nI i < 8 from nI_lt (a := i) (b := 8) hi (by decide)), oat_rs hi (by decide)]
theorem run_63 {L : Nat} (h2 : la.2.1 2 = nI L) (hL : L < 2 ^ 31) (v2 v3 v4 v5 v6 v8 : Int32) : Law_isRunRight_L63 to ma tr cn nu de ru la tb tf ph cs v2 v3 v4 v5 v6 (nI L) v8 0 0 = Law_isRunRight_L98 to ma tr cn nu de ru la tb tf ph cs v2 v3 v4 v5 v6 (nI L) v8 (hsP la (min 60 L)) 0 := by
  unfold Law_isRunRight_L63
  refine (loop_itr (fun a : Int32 × Int32 => Law_isRunRight_L63b to ma tr cn nu de ru la tb tf ph cs v2 v3 v4 v5 v6 (nI L) v8 a.1 a.2) (fun i (s : Int32) => (s, nI i)) (fun i s => s * 31 + la.1 1 i) (fun s => Law_isRunRight_L98 to ma tr cn nu de ru la tb tf ph cs v2 v3 v4 v5 v6 (nI L) v8 s 0) (fun _ _ => True) (min 60 L) (fun i s hi _ => ⟨?_, trivial⟩) (fun s _ => ?_) (min 60 L) 0 0 (by omega) trivial).1
  · show Law_isRunRight_L63b to ma tr cn nu de ru la tb tf ph cs v2 v3 v4 v5 v6 (nI L) v8 s (nI i) = _
    unfold Law_isRunRight_L63b
    rw [min_60 hL, if_pos (nI_lt hi (by omega)), printed_at h2 hL hi, obn_some, nI_1]
  · show Law_isRunRight_L63b to ma tr cn nu de ru la tb tf ph cs v2 v3 v4 v5 v6 (nI L) v8 s (nI (min 60 L)) = _
    unfold Law_isRunRight_L63b
    rw [min_60 hL, if_neg (nI_nlt (Nat.le_refl _) (by omega))]
theorem run_98 {how : Nat} (hh : how ≤ 2) (v2 v3 v4 v6 v7 v8 v9 : Int32) (h6 : how = 0 ∨ v6 = 0) : Law_isRunRight_L98 to ma tr cn nu de ru la tb tf ph cs v2 v3 v4 (nI how) v6 v7 v8 v9 0 = Law_isRunRight_146 to ma tr cn nu de ru la tb tf ph cs v2 v3 v4 (nI how) v6 v7 v8 (hsC la v9) := by
  unfold Law_isRunRight_L98
  refine (loop_itr (fun a : Int32 × Int32 => Law_isRunRight_L98b to ma tr cn nu de ru la tb tf ph cs v2 v3 v4 (nI how) v6 v7 v8 a.1 a.2) (fun i (s : Int32) => (s, nI i)) (fun i s => s * 31 + la.1 0 i) (fun s => Law_isRunRight_146 to ma tr cn nu de ru la tb tf ph cs v2 v3 v4 (nI how) v6 v7 v8 s) (fun _ _ => True) 8 (fun i s hi _ => ⟨?_, trivial⟩) (fun s _ => ?_) 8 0 v9 rfl trivial).1
  · show Law_isRunRight_L98b to ma tr cn nu de ru la tb tf ph cs v2 v3 v4 (nI how) v6 v7 v8 s (nI i) = _
    unfold Law_isRunRight_L98b
    rw [if_pos (show nI i < 8 from nI_lt (a := i) (b := 8) hi (by decide)), cell_at hi, obn_some, nI_1]
  · show Law_isRunRight_L98b to ma tr cn nu de ru la tb tf ph cs v2 v3 v4 (nI how) v6 v7 v8 s (nI 8) = _
    unfold Law_isRunRight_L98b
    rw [if_neg (show ¬ nI 8 < 8 by decide), if_neg (show ¬ nI how < 0 from nI_nlt (a := how) (b := 0) (by omega) (by omega)), if_neg (show ¬ (2 : Int32) < nI how from nI_nlt (a := 2) (b := how) hh (by decide))]
    by_cases q : nI how = 0
    · rw [if_pos q]
    · rw [if_neg q, if_pos (h6.resolve_left fun z => q (by rw [z]; rfl))]
theorem run_146 {how n : Nat} (hh : how ≤ 2) (h0 : la.2.1 0 = nI how) (h4 : la.2.1 4 = nI n) (hn : n ≤ 300) (hn2 : how = 2 → n = 300) (v2 v3 v4 v6 v7 v8 v9 : Int32) : Law_isRunRight_146 to ma tr cn nu de ru la tb tf ph cs v2 v3 v4 (nI how) v6 v7 v8 v9 = Law_isRunRight_186 to ma tr cn nu de ru la tb tf ph cs v2 v3 v4 (nI how) v6 v7 v8 v9 := by
  have e0 : Ph_ofRun la ph 0 = some (la.2.1 0) := by unfold Ph_ofRun; rw [if_pos rfl]
  have e4 : Ph_ofRun la ph 4 = some (la.2.1 4) := by
    unfold Ph_ofRun
    rw [if_neg (show ¬ (4 : Int32) = 0 by decide), if_neg (show ¬ (4 : Int32) = 1 by decide), if_neg (show ¬ (4 : Int32) = 2 by decide), if_neg (show ¬ (4 : Int32) = 3 by decide), if_pos rfl]
  unfold Law_isRunRight_146
  rw [e0, obn_some, h0, if_pos rfl, e4, obn_some, h4, if_neg (show ¬ (300 : Int32) < nI n from nI_nlt (a := 300) (b := n) hn (by decide))]
  by_cases q : nI how = 2
  · have : how = 2 := nI_inj (a := how) (b := 2) (by omega) (by decide) q
    rw [if_pos q, obn_some, hn2 this, if_pos (show nI 300 = 300 by decide)]
  · rw [if_neg q]
end LAWRUN
