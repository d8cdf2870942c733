/-! ALL VALUES OF A BLOCK MOVE, in rows -/
/-- of blocks that are not there nothing is left -/
def EA (A : AF) (C : Nat → Prop) : Prop := ∀ c, ¬ C c → aLs A c = [] ∧ aEd A c = [] ∧ aAg A (140 + c) = []
theorem EA_rep {A : AF} {C : Nat → Prop} (h : EA A C) {v : Nat} (hv : v < 140) (a : Ag) : EA (aRep A v a) C := fun c hc => by
  obtain ⟨h1, h2, h3⟩ := h c hc
  refine ⟨?_, h2, ?_⟩
  · show (aLs A c).filter _ = []
    rw [h1]; rfl
  · show (if 140 + c = v then [] else (aAg A (140 + c)).map (sb v a)) = []
    rw [h3]
    split <;> rfl
theorem EA_dead {A : AF} {C : Nat → Prop} (h : EA A C) (D : Nat → Bool) : EA (aDead A D) C := fun c hc => by
  obtain ⟨h1, h2, h3⟩ := h c hc
  refine ⟨?_, h2, ?_⟩
  · show (aLs A c).filter _ = []
    rw [h1]; rfl
  · show (if 140 + c < 140 ∧ D (140 + c) = true then [] else aAg A (140 + c)) = []
    rw [h3]
    split <;> rfl
theorem EA_drop {A : AF} {pl : Pl} {C : Nat → Prop} (hW : gW A pl allC) (h : EA A C) (w : Nat) : EA (aDrop A w) C := fun c hc => by
  obtain ⟨h1, h2, h3⟩ := h c hc
  refine ⟨by rw [(drop_same A w).2.1]; exact h1, List.eq_nil_iff_forall_not_mem.mpr fun x hx => ?_, drop_nil A w _ h3⟩
  have := ((drop_ed hW w trivial x).mp hx).1
  rw [h2] at this
  cases this
theorem EA_chg {A : AF} {pl : Pl} {C : Nat → Prop} (hW : gW A pl allC) (h : EA A C) {w w' : Nat} (hI : ∀ t, aTg A w = some t → w ∈ aEd A t) (hw' : w ≠ w' → aTg A w' = none) : EA (aChg A w w') C := fun c hc => by
  obtain ⟨h1, h2, h3⟩ := h c hc
  refine ⟨by rw [(chg_same A w w').2.1]; exact h1, ?_, by rw [(chg_same A w w').2.2.2]; exact h3⟩
  by_cases hww : w = w'
  · have : aChg A w w' = A := by
      unfold aChg
      split
      · rfl
      · split
        · rfl
        · rw [if_pos hww]
    rw [this]
    exact h2
  · refine List.eq_nil_iff_forall_not_mem.mpr fun x hx => ?_
    obtain ⟨i, hi⟩ := List.getElem?_of_mem hx
    rw [(chg_all hW hI hww (hw' hww)).1, h2] at hi
    cases hi
theorem EA_lose {A : AF} {C : Nat → Prop} {n : Nat} (h : EA A C) : EA (aLose A n) (fun c => C c ∧ c ≠ n) := fun c hc => by
  by_cases hcn : c = n
  · refine ⟨if_pos hcn, if_pos hcn, if_pos (Or.inr (by rw [hcn]))⟩
  · obtain ⟨h1, h2, h3⟩ := h c fun q => hc ⟨q, hcn⟩
    refine ⟨?_, ?_, ?_⟩
    · show (if c = n then [] else aLs A c) = []
      rw [if_neg hcn]; exact h1
    · show (if c = n then [] else aEd A c) = []
      rw [if_neg hcn]; exact h2
    · show (if 140 + c ∈ aLs A n ∨ 140 + c = 140 + n then [] else aAg A (140 + c)) = []
      rw [h3]
      split <;> rfl
theorem EA_join {A : AF} {pl : Pl} {C : Nat → Prop} (hG : GG A pl C) (h : EA A C) {b n : Nat} (hj : joinP A C b n) : EA (aJoin A b n) (fun c => C c ∧ c ≠ n) := fun c hc => by
  obtain ⟨f1, f2, f3, f4, f5, f6, f7, f8, f9, f10, f11, f12, f13, f14, f15, fW⟩ := join_facts hG hj
  by_cases hcn : c = n
  · rw [hcn]
    exact ⟨f5, if_pos rfl, if_pos (Or.inr rfl)⟩
  · have hcC : ¬ C c := fun q => hc ⟨q, hcn⟩
    have hcb : c ≠ b := fun e => hcC (by rw [e]; exact hj.1)
    obtain ⟨h1, h2, h3⟩ := h c hcC
    refine ⟨by rw [f6 c hcb hcn]; exact h1, List.eq_nil_iff_forall_not_mem.mpr fun x hx => ?_, by rw [f11 c hcb hcn]; exact h3⟩
    obtain ⟨i, hi⟩ := List.getElem?_of_mem hx
    rw [f12 c i hcn, h2] at hi
    cases hi
/-- raw lists have no more than what has its place there -/
def tidy (f : Ob) : Prop := ∀ b s k, b < tn (f.2.1 0) → f.1 7 b = nI s → s ≤ 140 → k < s → f.1 1 (tn (f.1 8 (b * 140 + k))) = nI b
theorem nodup_len : ∀ (n : Nat) (l : List Nat), l.Nodup → (∀ x, x ∈ l → x < n) → l.length ≤ n := by
  intro n
  induction n with
  | zero =>
    intro l _ h
    match l with
    | [] => exact Nat.le_refl _
    | x :: _ => exact absurd (h x List.mem_cons_self) (Nat.not_lt_zero _)
  | succ n ih =>
    intro l hn h
    by_cases hm : n ∈ l
    · have h1 := len_filter_one (p := fun _ => true) (v := n) l hn hm rfl
      have h2 := ih (l.filter fun w => true && !decide (w = n)) (hn.filter _) fun x hx => by
        have := List.mem_filter.mp hx
        have h3 := h x this.1
        have h4 : x ≠ n := by simpa using this.2
        omega
      have h3 : (l.filter fun _ => true).length = l.length := by rw [List.filter_eq_self.mpr fun _ _ => rfl]
      omega
    · refine Nat.le_succ_of_le (ih l hn fun x hx => ?_)
      have h3 := h x hx
      have h4 : x ≠ n := fun e => hm (by rw [← e]; exact hx)
      omega
theorem pref_of {P : Nat → Prop} : ∀ n, (∀ i j, i < j → j < n → P j → P i) → ∃ m, m ≤ n ∧ ∀ k, k < n → (P k ↔ k < m) := by
  intro n
  induction n with
  | zero => intro _; exact ⟨0, Nat.le_refl _, fun k hk => absurd hk (Nat.not_lt_zero _)⟩
  | succ n ih =>
    intro h
    by_cases hp : P n
    · refine ⟨n + 1, Nat.le_refl _, fun k hk => ⟨fun _ => hk, fun _ => ?_⟩⟩
      by_cases hkn : k = n
      · rw [hkn]; exact hp
      · exact h k n (by omega) (by omega) hp
    · obtain ⟨m, hm, q⟩ := ih fun i j hij hj => h i j hij (by omega)
      refine ⟨m, by omega, fun k hk => ?_⟩
      by_cases hkn : k = n
      · rw [hkn]
        exact ⟨fun z => absurd z hp, fun z => by omega⟩
      · exact q k (by omega)
section MOVES
variable {f g : Ob} {nb nv : Nat}
theorem frw_get {b s k : Nat} (hs : f.1 7 b = nI s) (hs1 : s ≤ 140) : (frw f b)[k]? = if k < s then some (tn (f.1 8 (b * 140 + k))) else none := by
  unfold frw
  rw [hs, tn_nI (by omega), List.getElem?_map]
  by_cases h : k < s
  · rw [if_pos h, List.getElem?_range h]; rfl
  · rw [if_neg h, List.getElem?_eq_none (by rw [List.length_range]; omega)]; rfl
theorem tidy_ls (h : CI f nb nv) (ht : tidy f) {b : Nat} (hbn : b < nb) : aLs (fS f) b = frw f b := by
  have hb : b < 10 := by have := h.1.2.2.1; omega
  show (if b < 10 then (frw f b).filter (fun v => decide (f.1 1 v = nI b)) else []) = _
  rw [if_pos hb]
  obtain ⟨s, hs, hs7, -⟩ := h.2.2.2.1 b hb
  refine List.filter_eq_self.mpr fun v hv => ?_
  obtain ⟨k, hk, e⟩ := (frw_mem hs7 hs v).mp hv
  rw [← e]
  exact decide_eq_true (ht b s k (by rw [nbt h]; exact hbn) hs7 hs hk)
/-- the argument that stands at a place of a user -/
theorem arg_at (h : CI f nb nv) {u k : Nat} {a : Ag} (hu : u < 150) (hk : k < 290) (ha : (aAg (fS f) u)[k]? = some a) : agOf (Form_valueOf f (nI u) (nI k)) (Form_numberOf f (nI u) (nI k)) = a ∧ (Form_valueOf f (nI u) (nI k) = -1 ∨ ∃ w, w < nv ∧ a = .inl w ∧ Form_valueOf f (nI u) (nI k) = nI w) := by
  obtain ⟨c, s, e1, e2, e3, e4, e5, e6⟩ := h.2.1.1 u hu
  have hnv := h.1.2.2.2.2.2
  have ha' : (fag f u)[k]? = some a := by
    have : aAg (fS f) u = fag f u := if_pos hu
    rw [← this]
    exact ha
  rw [fag_get e1 e2 e3 e4] at ha'
  by_cases hkc : k < c
  · rw [if_pos hkc] at ha'
    have hag := Option.some.inj ha'
    rw [valueOf_eq hu (by omega) e1 e2 e3 (fun _ => by have := e5 (by omega); omega), numberOf_eq hu (by omega) e1 e2 e3 (fun _ => by have := e5 (by omega); omega), if_pos hkc, if_pos hkc]
    refine ⟨hag, (e6 k hkc).imp id fun ⟨w, hw, e⟩ => ⟨w, hw, ?_, e⟩⟩
    rw [← hag]
    unfold ag1
    rw [e, if_neg (nI_m1 (by omega)), tn_nI (by omega)]
  · rw [if_neg hkc] at ha'
    cases ha'
/-- what is moved: those behind the m-th of n -/
def movd (f g : Ob) (b n m s sb i : Nat) : Prop := g.2 = f.2 ∧ (∀ j, j ≠ 1 → j ≠ 7 → j ≠ 8 → g.1 j = f.1 j) ∧ (∀ u, u < 140 → g.1 1 u = if ∃ j, j < i ∧ m ≤ j ∧ f.1 8 (n * 140 + j) = nI u then nI b else f.1 1 u) ∧ (∀ c, g.1 7 c = if c = b then nI (sb + (i - m)) else f.1 7 c) ∧ ∀ x, g.1 8 x = if b * 140 + sb ≤ x ∧ x < b * 140 + sb + (i - m) then f.1 8 (n * 140 + m + (x - (b * 140 + sb))) else f.1 8 x
theorem movd_0 {b n m s sb : Nat} (hb : f.1 7 b = nI sb) : movd f f b n m s sb m := by
  refine ⟨rfl, fun _ _ _ _ => rfl, fun u _ => ?_, fun c => ?_, fun x => ?_⟩
  · rw [if_neg]
    rintro ⟨j, h1, h2, -⟩
    omega
  · by_cases hc : c = b
    · rw [if_pos hc, hc, hb, Nat.sub_self]; rfl
    · rw [if_neg hc]
  · rw [if_neg (by omega)]
theorem movd_s {b n m s sb i v : Nat} (hb : b < 10) (hn : n < 10) (hbn : b ≠ n) (hmi : m ≤ i) (his : i < s) (hs : s ≤ 140) (hsum : sb + (s - m) ≤ 140) (hv : v < 140) (hvi : f.1 8 (n * 140 + i) = nI v) (h : movd f g b n m s sb i) : movd f (Form_putInto g (nI v) (nI b)) b n m s sb (i + 1) := by
  obtain ⟨h1, h2, h3, h4, h5⟩ := h
  have h7 : g.1 7 b = nI (sb + (i - m)) := by rw [h4, if_pos rfl]
  rw [putInto_eq hv hb h7 (by omega)]
  refine ⟨h1, fun j q1 q2 q3 => by rw [rs_r _ _ _ _ q2, rs_r _ _ _ _ q3, rs_r _ _ _ _ q1]; exact h2 j q1 q2 q3, fun u hu => ?_, fun c => ?_, fun x => ?_⟩
  · rw [rs_r _ _ _ _ (show 1 ≠ 7 by decide), rs_r _ _ _ _ (show 1 ≠ 8 by decide), rs_i]
    by_cases huv : u = v
    · rw [if_pos huv, if_pos ⟨i, by omega, hmi, by rw [huv]; exact hvi⟩]
    · rw [if_neg huv, h3 u hu]
      by_cases q : ∃ j, j < i ∧ m ≤ j ∧ f.1 8 (n * 140 + j) = nI u
      · rw [if_pos q, if_pos]
        obtain ⟨j, a1, a2, a3⟩ := q
        exact ⟨j, by omega, a2, a3⟩
      · rw [if_neg q, if_neg]
        rintro ⟨j, a1, a2, a3⟩
        have hji : j ≠ i := fun e => by
          rw [e, hvi] at a3
          exact huv (nI_inj (by omega) (by omega) a3.symm)
        exact q ⟨j, by omega, a2, a3⟩
  · rw [rs_i, rs_r _ _ _ _ (show 7 ≠ 8 by decide), rs_r _ _ _ _ (show 7 ≠ 1 by decide), h4]
    by_cases hc : c = b
    · rw [if_pos hc, if_pos hc, show sb + (i + 1 - m) = sb + (i - m) + 1 by omega]
    · rw [if_neg hc, if_neg hc, if_neg hc]
  · rw [rs_r _ _ _ _ (show 8 ≠ 7 by decide), rs_i, rs_r _ _ _ _ (show 8 ≠ 1 by decide), h5]
    by_cases hx : x = b * 140 + (sb + (i - m))
    · rw [if_pos hx, if_pos (by omega), show n * 140 + m + (x - (b * 140 + sb)) = n * 140 + i by omega, hvi]
    · rw [if_neg hx]
      by_cases q : b * 140 + sb ≤ x ∧ x < b * 140 + sb + (i - m)
      · rw [if_pos q, if_pos (by omega)]
      · rw [if_neg q, if_neg (by omega)]
/-- all are moved -/
theorem movd_CI (h : CI f nb nv) {b n m s sb : Nat} (hb : b < nb) (hn : n < 10) (hbn : b ≠ n) (hms : m ≤ s) (hs : f.1 7 n = nI s) (hs1 : s ≤ 140) (hsb : f.1 7 b = nI sb) (hsb1 : sb ≤ 140) (tb : ∀ k, k < sb → f.1 1 (tn (f.1 8 (b * 140 + k))) = nI b) (tm : ∀ k, k < m → f.1 1 (tn (f.1 8 (n * 140 + k))) = -1) (tk : ∀ k, m ≤ k → k < s → f.1 1 (tn (f.1 8 (n * 140 + k))) = nI n ∧ f.1 0 (tn (f.1 8 (n * 140 + k))) ≠ 9) (hsum : sb + (s - m) ≤ 140) (hM : movd f g b n m s sb s) : CI g nb nv ∧ fS g = aMv (fS f) b n ∧ fP g = plJ (fP f) b n ∧ (∀ k, k < sb + (s - m) → g.1 1 (tn (g.1 8 (b * 140 + k))) = nI b) ∧ (∀ T, KT f nv T → KT g nv T) := by
  obtain ⟨hI, hA, hV, hL, hE⟩ := id h
  obtain ⟨E1, E2, E3, E4⟩ := id hE
  obtain ⟨r2, r, r1, r7, r8⟩ := hM
  have hnv := hI.2.2.2.2.2
  have hnb := hI.2.2.1
  obtain ⟨sn, hsn, hsn7, n1, n2, n3⟩ := hL n hn
  have : sn = s := nI_inj (by omega) (by omega) (hsn7.symm.trans hs)
  subst this
  obtain ⟨sb', hsb', hsb7, b1, b2, b3⟩ := hL b (by omega)
  have : sb' = sb := nI_inj (by omega) (by omega) (hsb7.symm.trans hsb)
  subst this
  -- whose place is n
  have pn : ∀ u, u < nv → ((∃ j, j < sn ∧ m ≤ j ∧ f.1 8 (n * 140 + j) = nI u) ↔ f.1 1 u = nI n) := fun u hu => by
    constructor
    · rintro ⟨j, a1, a2, a3⟩
      have := (tk j a2 a1).1
      rw [a3, tn_nI (by omega)] at this
      exact this
    · intro q
      obtain ⟨j, a1, a2⟩ := n3 u hu q
      refine ⟨j, a1, Nat.le_of_not_lt fun z => ?_, a2⟩
      have := tm j z
      rw [a2, tn_nI (by omega), q] at this
      exact nI_m1 (a := n) (by omega) this
  have p1 : ∀ u, u < nv → g.1 1 u = if f.1 1 u = nI n then nI b else f.1 1 u := fun u hu => by
    rw [r1 u (by omega)]
    have := pn u hu
    by_cases q : f.1 1 u = nI n
    · rw [if_pos q, if_pos (this.mpr q)]
    · rw [if_neg q, if_neg fun z => q (this.mp z)]
  have pm : ∀ u, u < 140 → (g.1 1 u = -1 ↔ f.1 1 u = -1) := fun u hu => by
    rw [r1 u hu]
    by_cases q : ∃ j, j < sn ∧ m ≤ j ∧ f.1 8 (n * 140 + j) = nI u
    · rw [if_pos q]
      obtain ⟨j, a1, a2, a3⟩ := q
      have := (tk j a2 a1).1
      rw [a3, tn_nI (by omega)] at this
      rw [this]
      exact ⟨fun z => absurd z (nI_m1 (by omega)), fun z => absurd z (nI_m1 (by omega))⟩
    · rw [if_neg q]
  have o0 := r 0 (by decide) (by decide) (by decide)
  have o3 := r 3 (by decide) (by decide) (by decide)
  have o4 := r 4 (by decide) (by decide) (by decide)
  have o5 := r 5 (by decide) (by decide) (by decide)
  have o6 := r 6 (by decide) (by decide) (by decide)
  have o9 := r 9 (by decide) (by decide) (by decide)
  have o10 := r 10 (by decide) (by decide) (by decide)
  have o11 := r 11 (by decide) (by decide) (by decide)
  have o12 := r 12 (by decide) (by decide) (by decide)
  have g7b : g.1 7 b = nI (sb' + (sn - m)) := by rw [r7, if_pos rfl]
  -- rows of the block
  have k1 : ∀ k, k < sb' → g.1 8 (b * 140 + k) = f.1 8 (b * 140 + k) := fun k hk => by rw [r8, if_neg (by omega)]
  have k2 : ∀ k, sb' ≤ k → k < sb' + (sn - m) → g.1 8 (b * 140 + k) = f.1 8 (n * 140 + (m + (k - sb'))) := fun k h1 h2 => by
    rw [r8, if_pos (by omega), show n * 140 + m + (b * 140 + k - (b * 140 + sb')) = n * 140 + (m + (k - sb')) by omega]
  have ko : ∀ c k, c < 10 → c ≠ b → k < 140 → g.1 8 (c * 140 + k) = f.1 8 (c * 140 + k) := fun c k hc hcb hk => by rw [r8, if_neg (by omega)]
  have tb' : ∀ k, k < sb' + (sn - m) → ∃ v, v < nv ∧ g.1 8 (b * 140 + k) = nI v ∧ g.1 1 v = nI b := fun k hk => by
    by_cases q : k < sb'
    · obtain ⟨v, hv, ev, -⟩ := b1 k q
      have := tb k q
      rw [ev, tn_nI (by omega)] at this
      refine ⟨v, hv, by rw [k1 k q]; exact ev, ?_⟩
      rw [p1 v hv]
      by_cases z : f.1 1 v = nI n
      · rw [if_pos z]
      · rw [if_neg z]; exact this
    · obtain ⟨v, hv, ev, -⟩ := n1 (m + (k - sb')) (by omega)
      have := (tk (m + (k - sb')) (by omega) (by omega)).1
      rw [ev, tn_nI (by omega)] at this
      exact ⟨v, hv, by rw [k2 k (by omega) hk]; exact ev, by rw [p1 v hv, if_pos this]⟩
  have hCI : CI g nb nv := by
    refine ⟨by rw [r2]; exact hI, ⟨by rw [o3, o4, o5]; exact hA.1, by unfold inSeg; rw [o3, o4]; exact hA.2.1, fun u hu q => ?_⟩, fun w hw => ?_, fun c hc => ?_, fun c hc => ?_, by rw [o12]; exact E2, by rw [o11]; exact E3, by rw [r2]; exact E4⟩
    · rw [o3]
      exact hA.2.2 u hu (q.imp id (pm u hu).mp)
    · obtain ⟨y1, y2, y3⟩ := hV w hw
      rw [o0, p1 w hw]
      refine ⟨y1, ?_, fun q => ?_⟩
      · by_cases z : f.1 1 w = nI n
        · rw [if_pos z]; exact Or.inr ⟨b, hb, rfl⟩
        · rw [if_neg z]; exact y2
      · have := y3 q
        rw [if_neg fun e => nI_m1 (a := n) (by omega) (e.symm.trans this.1)]
        exact this
    · by_cases hcb : c = b
      · subst hcb
        refine ⟨sb' + (sn - m), hsum, g7b, fun k hk => ?_, fun k k' hk hk' e => ?_, fun v hv e => ?_⟩
        · obtain ⟨v, hv, ev, e1⟩ := tb' k hk
          exact ⟨v, hv, ev, fun _ => Or.inl e1⟩
        · by_cases q : k < sb'
          · by_cases q' : k' < sb'
            · rw [k1 k q, k1 k' q'] at e
              exact b2 k k' q q' e
            · exfalso
              rw [k1 k q, k2 k' (by omega) hk'] at e
              have h1 := tb k q
              have h2 := (tk (m + (k' - sb')) (by omega) (by omega)).1
              rw [← e, h1] at h2
              exact hbn (nI_inj (by omega) (by omega) h2)
          · by_cases q' : k' < sb'
            · exfalso
              rw [k2 k (by omega) hk, k1 k' q'] at e
              have h1 := tb k' q'
              have h2 := (tk (m + (k - sb')) (by omega) (by omega)).1
              rw [e, h1] at h2
              exact hbn (nI_inj (by omega) (by omega) h2)
            · rw [k2 k (by omega) hk, k2 k' (by omega) hk'] at e
              have := n2 _ _ (by omega) (by omega) e
              omega
        · rw [p1 v hv] at e
          by_cases z : f.1 1 v = nI n
          · obtain ⟨j, a1, a2, a3⟩ := (pn v hv).mpr z
            exact ⟨sb' + (j - m), by omega, by rw [k2 _ (by omega) (by omega), show m + (sb' + (j - m) - sb') = j by omega]; exact a3⟩
          · rw [if_neg z] at e
            obtain ⟨k, hk, ek⟩ := b3 v hv e
            exact ⟨k, by omega, by rw [k1 k hk]; exact ek⟩
      · obtain ⟨s', hs', hs7', y1, y2, y3⟩ := hL c hc
        refine ⟨s', hs', by rw [r7, if_neg hcb]; exact hs7', fun k hk => ?_, fun k k' hk hk' e => y2 k k' hk hk' (by rw [ko c k hc hcb (by omega), ko c k' hc hcb (by omega)] at e; exact e), fun v hv e => ?_⟩
        · rw [ko c k hc hcb (by omega), o0]
          obtain ⟨w, hw, ew, e9⟩ := y1 k hk
          refine ⟨w, hw, ew, fun z => ?_⟩
          rw [p1 w hw]
          rcases e9 z with q | q
          · by_cases hcn : c = n
            · exfalso
              obtain ⟨j, a1, a2, a3⟩ := (pn w hw).mpr (by rw [q, hcn])
              have := (tk j a2 a1).2
              rw [a3, tn_nI (by omega)] at this
              exact this z
            · rw [if_neg fun e => hcn (nI_inj (by omega) (by omega) (q.symm.trans e))]
              exact Or.inl q
          · rw [if_neg fun e => nI_m1 (a := n) (by omega) (e.symm.trans q)]
            exact Or.inr q
        · rw [p1 v hv] at e
          by_cases z : f.1 1 v = nI n
          · rw [if_pos z] at e
            exact absurd (nI_inj (by omega) (by omega) e.symm) hcb
          · rw [if_neg z] at e
            obtain ⟨k, hk, ek⟩ := y3 v hv e
            exact ⟨k, hk, by rw [ko c k hc hcb (by omega)]; exact ek⟩
    · unfold eOk
      rw [o9, o10]
      exact E1 c hc
  refine ⟨hCI, AF_ext (fun v => ?_) (fun u => ?_) (fun c => ?_) (fun c => ?_) (fun c => ?_) (fun x => ?_), ?_, fun k hk => ?_, fun T ⟨gn, t1, t2⟩ => ⟨gn, by rw [r2]; exact t1, ?_⟩⟩
  · show tn (g.1 0 v) = tn (f.1 0 v)
    rw [o0]
  · show (if u < 150 then fag g u else []) = if u < 150 then fag f u else []
    rw [fag_congr (f := f) (g := g) (u := u) (by rw [o3]) (by rw [o4]) fun i _ => by rw [o5, o6]; exact ⟨rfl, rfl⟩]
  · show (if c < 10 then (frw g c).filter (fun z => decide (g.1 1 z = nI c)) else []) = if c = b then aLs (fS f) b ++ aLs (fS f) n else if c = n then [] else if c < 10 then (frw f c).filter (fun z => decide (f.1 1 z = nI c)) else []
    by_cases hcb : c = b
    · subst hcb
      rw [if_pos rfl, if_pos (by omega)]
      have e1 : (frw g c).filter (fun z => decide (g.1 1 z = nI c)) = frw g c := by
        refine List.filter_eq_self.mpr fun z hz => ?_
        obtain ⟨k, hk, e⟩ := (frw_mem g7b hsum z).mp hz
        obtain ⟨v, hv, ev, ep⟩ := tb' k hk
        rw [ev, tn_nI (by omega)] at e
        rw [← e]
        exact decide_eq_true ep
      have e2 : aLs (fS f) c = frw f c := by
        show (if c < 10 then (frw f c).filter (fun v => decide (f.1 1 v = nI c)) else []) = _
        rw [if_pos (by omega)]
        refine List.filter_eq_self.mpr fun v hv => ?_
        obtain ⟨k, hk, e⟩ := (frw_mem hsb hsb1 v).mp hv
        rw [← e]
        exact decide_eq_true (tb k hk)
      have e3 : aLs (fS f) n = (List.range (sn - m)).map fun k => tn (f.1 8 (n * 140 + (m + k))) := by
        show (if n < 10 then (frw f n).filter (fun v => decide (f.1 1 v = nI n)) else []) = _
        rw [if_pos hn]
        have hsp : frw f n = ((List.range m).map fun k => tn (f.1 8 (n * 140 + k))) ++ (List.range (sn - m)).map fun k => tn (f.1 8 (n * 140 + (m + k))) := by
          unfold frw
          rw [hs, tn_nI (by omega)]
          conv => lhs; rw [show sn = m + (sn - m) by omega, List.range_add, List.map_append, List.map_map]
          rfl
        rw [hsp, List.filter_append]
        have a1 : ((List.range m).map fun k => tn (f.1 8 (n * 140 + k))).filter (fun v => decide (f.1 1 v = nI n)) = [] := by
          refine List.filter_eq_nil_iff.mpr fun v hv => ?_
          obtain ⟨k, hk, e⟩ := List.mem_map.mp hv
          rw [← e, tm k (List.mem_range.mp hk)]
          simp only [decide_eq_true_eq]
          exact fun e => nI_m1 (a := n) (by omega) e.symm
        have a2 : ((List.range (sn - m)).map fun k => tn (f.1 8 (n * 140 + (m + k)))).filter (fun v => decide (f.1 1 v = nI n)) = (List.range (sn - m)).map fun k => tn (f.1 8 (n * 140 + (m + k))) := by
          refine List.filter_eq_self.mpr fun v hv => ?_
          obtain ⟨k, hk, e⟩ := List.mem_map.mp hv
          have hk' := List.mem_range.mp hk
          rw [← e]
          exact decide_eq_true (tk (m + k) (by omega) (by omega)).1
        rw [a1, a2, List.nil_append]
      rw [e1, e2, e3]
      unfold frw
      rw [g7b, hsb, tn_nI (by omega), tn_nI (by omega), List.range_add, List.map_append, List.map_map]
      congr 1
      · exact List.map_congr_left fun k hk => by rw [k1 k (List.mem_range.mp hk)]
      · refine List.map_congr_left fun k hk => ?_
        show tn (g.1 8 (c * 140 + (sb' + k))) = _
        rw [k2 _ (by omega) (by have := List.mem_range.mp hk; omega), show m + (sb' + k - sb') = m + k by omega]
    · rw [if_neg hcb]
      by_cases hcn : c = n
      · rw [if_pos hcn, hcn, if_pos hn]
        refine List.filter_eq_nil_iff.mpr fun z hz => ?_
        have hz' : z ∈ frw f n := by
          rw [← frw_congr (g := g) (f := f) (by rw [r7, if_neg (by rw [← hcn]; exact hcb)]) fun k hk => ?_]
          · exact hz
          · rw [hs, tn_nI (by omega)] at hk
            exact ko n k hn hbn.symm (by omega)
        obtain ⟨k, hk, e⟩ := (frw_mem hs hs1 z).mp hz'
        obtain ⟨w, hw, ew, -⟩ := n1 k hk
        rw [ew, tn_nI (by omega)] at e
        subst e
        rw [p1 w hw]
        simp only [decide_eq_true_eq]
        by_cases y : f.1 1 w = nI n
        · rw [if_pos y]
          exact fun e => hbn (nI_inj (by omega) (by omega) e)
        · rw [if_neg y]
          exact y
      · rw [if_neg hcn]
        by_cases hc : c < 10
        · rw [if_pos hc, if_pos hc]
          obtain ⟨s', hs', hs7', y1, y2, y3⟩ := hL c hc
          rw [frw_congr (f := f) (by rw [r7, if_neg hcb]) fun k hk => by
            rw [hs7', tn_nI (by omega)] at hk
            exact ko c k hc hcb (by omega)]
          refine List.filter_congr fun z hz => ?_
          obtain ⟨k, hk, e⟩ := (frw_mem hs7' hs' z).mp hz
          obtain ⟨w, hw, ew, -⟩ := y1 k hk
          rw [ew, tn_nI (by omega)] at e
          subst e
          rw [p1 w hw]
          by_cases y : f.1 1 w = nI n
          · have z1 : ¬ nI b = nI c := fun e => hcb (nI_inj (by omega) (by omega) e.symm)
            have z2 : ¬ nI n = nI c := fun e => hcn (nI_inj (by omega) (by omega) e.symm)
            rw [if_pos y, y, decide_eq_false z1, decide_eq_false z2]
          · rw [if_neg y]
        · rw [if_neg hc, if_neg hc]
  · show (if c < 10 then fed g c else []) = if c < 10 then fed f c else []
    rw [fed_congr (f := f) (by rw [o9]) fun k _ => by rw [o10]]
  · show tn (g.1 11 c) = tn (f.1 11 c)
    rw [o11]
  · show (if x < 20 then ftg g x else none) = if x < 20 then ftg f x else none
    unfold ftg
    rw [o12]
  · funext v
    by_cases hv : v < nv
    · unfold plJ
      by_cases z : f.1 1 v = nI n
      · have hnn : n < nb := by
          obtain ⟨c, hc, ec⟩ := (hV v hv).2.1.resolve_left (by rw [z]; exact nI_m1 (by omega))
          have : c = n := nI_inj (by omega) (by omega) (ec.symm.trans z)
          omega
        rw [if_pos ((fP_some h).mpr ⟨hv, z, hnn⟩)]
        exact (fP_some hCI).mpr ⟨hv, by rw [p1 v hv, if_pos z], hb⟩
      · rw [if_neg fun e => z ((fP_some h).mp e).2.1]
        unfold fP
        rw [p1 v hv, if_neg z, r2]
    · rw [(fP_none hCI).mpr (Or.inl (by omega))]
      unfold plJ
      rw [(fP_none h).mpr (Or.inl (by omega)), if_neg (by simp)]
  · obtain ⟨v, hv, ev, ep⟩ := tb' k hk
    rw [ev, tn_nI (by omega)]
    exact ep
  · have c1 : cntV g nv = cntV f nv := by
      unfold cntV
      congr 1
      refine List.filter_congr fun w hw => ?_
      have := pm w (by have := List.mem_range.mp hw; omega)
      by_cases z : f.1 1 w = -1
      · rw [decide_eq_true z, decide_eq_true (this.mpr z)]
      · rw [decide_eq_false z, decide_eq_false fun y => z (this.mp y)]
    have c2 : thc g = thc f := by unfold thc; rw [r2]
    omega
end MOVES
