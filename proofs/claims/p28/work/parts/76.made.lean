/-! A FORM THAT IS MADE of blocks: what it is, and that it runs as they do -/
def lk (to : Ob) (b k : Nat) : Nat := tn (to.1 1 (b * 8 + k))
def ld (to : Ob) (b k : Nat) : Nat := tn (to.1 2 (b * 8 + k))
def nl (to : Ob) (b : Nat) : Nat := tn (to.1 0 b)
def setsL (to : Ob) (b k x : Nat) : Prop := lk to b k ≤ 6 ∧ ld to b k = x
/-- an operand, by what is held -/
def mkA (h : Nat → Ag) (o : Int32) : Ag := if o < 100 then .inr o else h (tn (o - 100))
def lnF (to : Ob) (b : Nat) (ln : Nat → Nat → Nat) (l : List Nat) : List Nat := (l.filter fun k => !decide (lk to b k = 0)).map (ln b)
def phF (PH : Nat → Nat → Bool) (ph : Nat → Nat → Nat) (b : Nat) : List Nat := ((List.range 6).filter (PH b)).map (ph b)
def MKh (to : Ob) (idm : Nat → Nat) (PH : Nat → Nat → Bool) (ph ln : Nat → Nat → Nat) (hL : Nat → Nat → Nat → Ag) (C : Nat → Prop) : Prop :=
  (∀ b x, C b → x < 6 → hL b 0 x = if PH b x = true then .inl (ph b x) else if b = 0 then .inl x else hL (idm b) (nl to (idm b)) x) ∧
  ∀ b k x, C b → k < nl to b → x < 6 → hL b (k + 1) x = if lk to b k = 0 then (if x = ld to b k then mkA (hL b k) (to.1 3 (b * 8 + k)) else hL b k x) else if lk to b k ≤ 6 ∧ x = ld to b k then .inl (ln b k) else hL b k x
def MKl (A : AF) (pl : Pl) (to : Ob) (PH : Nat → Nat → Bool) (ph ln : Nat → Nat → Nat) (C : Nat → Prop) : Prop :=
  (∀ b, C b → aLs A b = phF PH ph b ++ lnF to b ln (List.range (nl to b))) ∧ (∀ b, C b → (aLs A b).Nodup) ∧ (∀ b v, C b → (v ∈ aLs A b ↔ pl v = some b)) ∧ (∀ v p, pl v = some p → 6 ≤ v ∧ v < 140 ∧ C p) ∧
  (∀ b x, C b → x < 6 → PH b x = true → aKd A (ph b x) = 9) ∧ (∀ b k, C b → k < nl to b → lk to b k ≠ 0 → aKd A (ln b k) = lk to b k ∧ lk to b k < 9) ∧ ∀ x, PH 0 x = false
def MKa (A : AF) (to : Ob) (PH : Nat → Nat → Bool) (ph ln : Nat → Nat → Nat) (hL : Nat → Nat → Nat → Ag) (C : Nat → Prop) : Prop :=
  (∀ b k, C b → k < nl to b → lk to b k ≠ 0 → aAg A (ln b k) = if lk to b k ≤ 5 ∨ lk to b k = 7 then [mkA (hL b k) (to.1 3 (b * 8 + k)), mkA (hL b k) (to.1 4 (b * 8 + k))] else [mkA (hL b k) (to.1 3 (b * 8 + k))]) ∧
  (∀ b, C b → aAg A (140 + b) = if tEk to b = 1 then [] else [mkA (hL b (nl to b)) (to.1 6 b)]) ∧
  ∀ b x, C b → x < 6 → PH b x = true → aAg A (ph b x) = (aEd A b).map fun w => hL (w / 2) (nl to (w / 2)) x
def MKe (A : AF) (to : Ob) (C : Nat → Prop) : Prop :=
  (∀ b, C b → aEk A b = tEk to b ∧ tEk to b ≤ 2) ∧ (∀ b j, C b → j < tEk to b → aTg A (b * 2 + j) = some (tn (to.1 7 (b * 2 + j)))) ∧ (∀ w t, aTg A w = some t → C (w / 2) ∧ w % 2 < aEk A (w / 2)) ∧ (∀ w t, w ∈ aEd A t ↔ aTg A w = some t) ∧ (∀ t, (aEd A t).Nodup) ∧ aEd A 0 = [] ∧ (∀ b, C b ↔ RW (aE A C) none b)
def MKw (A : AF) (to : Ob) (PH : Nat → Nat → Bool) (C : Nat → Prop) (wn jn : Nat → Nat → Prop) : Prop :=
  (∀ b k, C b → k < nl to b → (lk to b k ≤ 6 → ld to b k < 6) ∧ opOk (to.1 3 (b * 8 + k)) ∧ opOk (to.1 4 (b * 8 + k))) ∧ (∀ b, C b → opOk (to.1 6 b)) ∧
  (∀ b k x, C b → k < nl to b → x < 6 → (to.1 3 (b * 8 + k) - 100 = nI x ∧ ¬ to.1 3 (b * 8 + k) < 100) ∨ (to.1 4 (b * 8 + k) - 100 = nI x ∧ ¬ to.1 4 (b * 8 + k) < 100) → (∃ j, j < k ∧ setsL to b j x) ∨ wn b x) ∧
  (∀ b x, C b → x < 6 → to.1 6 b - 100 = nI x → ¬ to.1 6 b < 100 → (∃ j, j < nl to b ∧ setsL to b j x) ∨ wn b x) ∧
  (∀ b c x, aE A C b c → x < 6 → wn c x → wn b x ∨ ∃ j, j < nl to b ∧ setsL to b j x) ∧
  (∀ c x, C c → x < 6 → (PH c x = true ↔ jn x c ∧ wn c x)) ∧
  ∀ x d o c, x < 6 → ((d = 0 ∨ ∃ j, j < nl to d ∧ setsL to d j x) ∨ jn x d) → Dm (aE A C) d o → aE A C o c → ¬ (Dm (aE A C) d c ∧ d ≠ c) → jn x c
section MADE
variable {A : AF} {pl : Pl} {C : Nat → Prop} {to : Ob} {idm : Nat → Nat} {PH : Nat → Nat → Bool} {ph ln : Nat → Nat → Nat} {hL : Nat → Nat → Nat → Ag} {wn jn : Nat → Nat → Prop}
def preM (to : Ob) (PH : Nat → Nat → Bool) (ph ln : Nat → Nat → Nat) (b k : Nat) : List Nat := phF PH ph b ++ lnF to b ln (List.range k)
theorem lnF_s (to : Ob) (b : Nat) (ln : Nat → Nat → Nat) (k : Nat) : lnF to b ln (List.range (k + 1)) = lnF to b ln (List.range k) ++ (if lk to b k = 0 then [] else [ln b k]) := by
  unfold lnF
  rw [List.range_succ, List.filter_append, List.map_append]
  congr 1
  by_cases h : lk to b k = 0
  · rw [if_pos h, List.filter_cons_of_neg (by simp [h])]; rfl
  · rw [if_neg h, List.filter_cons_of_pos (by simp [h])]; rfl
theorem ls_at (hl : MKl A pl to PH ph ln C) {b k : Nat} (hb : C b) (hk : k < nl to b) (h0 : lk to b k ≠ 0) : ∃ l2, aLs A b = preM to PH ph ln b k ++ ln b k :: l2 := by
  have : List.range (nl to b) = List.range k ++ k :: (List.range (nl to b - (k + 1))).map fun i => k + 1 + i := by
    conv => lhs; rw [show nl to b = k + 1 + (nl to b - (k + 1)) by omega, List.range_add, List.range_succ]
    simp
  refine ⟨lnF to b ln ((List.range (nl to b - (k + 1))).map fun i => k + 1 + i), ?_⟩
  rw [hl.1 b hb, this]
  unfold preM lnF
  rw [List.filter_append, List.map_append, List.filter_cons_of_pos (by simp [h0]), List.map_cons, List.append_assoc]
theorem ln_not (hl : MKl A pl to PH ph ln C) {b k : Nat} (hb : C b) (hk : k < nl to b) (h0 : lk to b k ≠ 0) : pl (ln b k) = some b ∧ ln b k ∉ preM to PH ph ln b k := by
  obtain ⟨l2, e⟩ := ls_at hl hb hk h0
  have hn := hl.2.1 b hb
  rw [e] at hn
  exact ⟨(hl.2.2.1 b _ hb).mp (by rw [e]; exact List.mem_append_right _ List.mem_cons_self), fun q => (List.nodup_append.mp hn).2.2 _ q _ List.mem_cons_self rfl⟩
theorem avl_down {i b v : Nat} {l : List Nat} (hb : RW (aE A C) none b) (hi : Dm (aE A C) i b) (hib : i ≠ b) (h : avl A pl C i (aLs A i) v) : avl A pl C b l v := by
  rcases h with h | ⟨h, -⟩ | ⟨p, h1, h2, h3⟩
  · exact Or.inl h
  · exact Or.inr (Or.inr ⟨i, h, hib, hi.2⟩)
  · refine Or.inr (Or.inr ⟨p, h1, fun e => ?_, dom_trans hb h3 hi.2⟩)
    subst e
    exact hib (Dm_anti hi ⟨Dm_left hi, h3⟩)
/-- what is held is there -/
theorem held_av (hh : MKh to idm PH ph ln hL C) (hl : MKl A pl to PH ph ln C) (he : MKe A to C) (hi : idmOk (aE A C) idm) (hw : MKw A to PH C wn jn) {b : Nat} (hb : C b) : ∀ k, k ≤ nl to b → ∀ x, x < 6 → ∀ v, hL b k x = .inl v → usb A v ∧ avl A pl C b (preM to PH ph ln b k) v := by
  have hC := he.2.2.2.2.2.2
  have inner : ∀ d, C d → (∀ x, x < 6 → ∀ v, hL d 0 x = .inl v → usb A v ∧ avl A pl C d (preM to PH ph ln d 0) v) → ∀ k, k ≤ nl to d → ∀ x, x < 6 → ∀ v, hL d k x = .inl v → usb A v ∧ avl A pl C d (preM to PH ph ln d k) v := by
    intro d hd h0 k
    induction k with
    | zero => intro _; exact h0
    | succ k ih =>
      intro hk x hx v hv
      have ihk := ih (by omega)
      have up : ∀ {y w}, y < 6 → hL d k y = .inl w → usb A w ∧ avl A pl C d (preM to PH ph ln d (k + 1)) w := fun hy hw' => by
        obtain ⟨q1, q2⟩ := ihk _ hy _ hw'
        refine ⟨q1, q2.mono fun z hz => ?_⟩
        unfold preM at hz ⊢
        rw [lnF_s, ← List.append_assoc]
        exact List.mem_append_left _ hz
      rw [hh.2 d k x hd hk hx] at hv
      by_cases h0' : lk to d k = 0
      · rw [if_pos h0'] at hv
        by_cases hxd : x = ld to d k
        · rw [if_pos hxd] at hv
          unfold mkA at hv
          by_cases hop : to.1 3 (d * 8 + k) < 100
          · rw [if_pos hop] at hv; cases hv
          · rw [if_neg hop] at hv
            obtain ⟨j, hj, ej⟩ := (hw.1 d k hd hk).2.1 hop
            rw [ej, tn_nI (by omega)] at hv
            exact up hj hv
        · rw [if_neg hxd] at hv
          exact up hx hv
      · rw [if_neg h0'] at hv
        by_cases hs : lk to d k ≤ 6 ∧ x = ld to d k
        · rw [if_pos hs] at hv
          have := Sum.inl.inj hv
          subst this
          obtain ⟨k1, k2⟩ := hl.2.2.2.2.2.1 d k hd hk h0'
          refine ⟨Or.inr (Or.inl (by omega)), Or.inr (Or.inl ⟨(ln_not hl hd hk h0').1, Or.inr ?_⟩)⟩
          unfold preM
          rw [lnF_s, if_neg h0', ← List.append_assoc]
          exact List.mem_append_right _ List.mem_cons_self
        · rw [if_neg hs] at hv
          exact up hx hv
  have phi : ∀ d x, C d → x < 6 → PH d x = true → usb A (ph d x) ∧ ∀ l, avl A pl C d l (ph d x) := fun d x hd hx hp => by
    have hk := hl.2.2.2.2.1 d x hd hx hp
    have hm : ph d x ∈ aLs A d := by
      rw [hl.1 d hd]
      exact List.mem_append_left _ (List.mem_map.mpr ⟨x, List.mem_filter.mpr ⟨List.mem_range.mpr hx, hp⟩, rfl⟩)
    exact ⟨Or.inr (Or.inr hk), fun l => Or.inr (Or.inl ⟨(hl.2.2.1 d _ hd).mp hm, Or.inl hk⟩)⟩
  refine dom_ind (E := aE A C) (idm := idm) (P := fun b => ∀ k, k ≤ nl to b → ∀ x, x < 6 → ∀ v, hL b k x = .inl v → usb A v ∧ avl A pl C b (preM to PH ph ln b k) v) hi ?_ (fun d hd hd0 ih => ?_) ((hC b).mp hb)
  · refine inner 0 ((hC 0).mpr (RW_base (by simp))) fun x hx v hv => ?_
    rw [hh.1 0 x ((hC 0).mpr (RW_base (by simp))) hx, hl.2.2.2.2.2.2 x, if_neg (by decide), if_pos rfl] at hv
    rw [← Sum.inl.inj hv]
    exact ⟨Or.inl hx, Or.inl hx⟩
  · have hdC := (hC d).mpr hd
    obtain ⟨i1, i2, -⟩ := hi d hd hd0
    have hiC : C (idm d) := (hC _).mpr (Dm_left i1)
    refine inner d hdC fun x hx v hv => ?_
    rw [hh.1 d x hdC hx] at hv
    by_cases hp : PH d x = true
    · rw [if_pos hp] at hv
      rw [← Sum.inl.inj hv]
      obtain ⟨q1, q2⟩ := phi d x hdC hx hp
      exact ⟨q1, q2 _⟩
    · rw [if_neg hp, if_neg hd0] at hv
      obtain ⟨q1, q2⟩ := ih (nl to (idm d)) (Nat.le_refl _) x hx v hv
      have e : preM to PH ph ln (idm d) (nl to (idm d)) = aLs A (idm d) := (hl.1 _ hiC).symm
      rw [e] at q2
      exact ⟨q1, avl_down hd i1 i2 q2⟩
end MADE
