/-! RUNS of a form: what the runner does is what is told of -/
def ag1 (f : Ob) (i : Nat) : Ag := if f.1 5 i = -1 then .inr (f.1 6 i) else .inl (tn (f.1 5 i))
def fag (f : Ob) (u : Nat) : List Ag := (List.range (tn (f.1 3 u))).map fun k => ag1 f (tn (f.1 4 u) + k)
def frw (f : Ob) (b : Nat) : List Nat := (List.range (tn (f.1 7 b))).map fun k => tn (f.1 8 (b * 140 + k))
def fed (f : Ob) (b : Nat) : List Nat := (List.range (tn (f.1 9 b))).map fun k => tn (f.1 10 (b * 20 + k))
def ftg (f : Ob) (w : Nat) : Option Nat := if f.1 12 w = -1 then none else some (tn (f.1 12 w))
def fA (f : Ob) : AF := (fun v => tn (f.1 0 v), fag f, frw f, fed f, fun b => tn (f.1 11 b), ftg f)
/-- the rows of users are within -/
def uOk (f : Ob) : Prop := ∀ u, u < 150 → ∃ c a, f.1 3 u = nI c ∧ c < 291 ∧ f.1 4 u = nI a ∧ a < 291 ∧ (0 < c → a + c ≤ 290) ∧ ∀ k, k < c → f.1 5 (a + k) = -1 ∨ ∃ v, v < 140 ∧ f.1 5 (a + k) = nI v
def lOk (f : Ob) (b : Nat) : Prop := ∃ s, s ≤ 140 ∧ f.1 7 b = nI s ∧ ∀ k, k < s → ∃ v kk, v < 140 ∧ f.1 8 (b * 140 + k) = nI v ∧ f.1 0 v = nI kk ∧ kk < 10
def hOk (ru : Ob) (H : Hd) : Prop := ∀ i, i < 140 → ru.1 1 i = H i
theorem hOk.set {ru : Ob} {H : Hd} (h : hOk ru H) {v : Nat} (hv : v < 140) (x : Int32) : hOk (oput ru 1 140 (nI v) x) (uH H v x) := by
  intro i hi
  rw [oput_rs hv (by decide), rs_i]
  unfold uH
  by_cases hid : i = v
  · rw [if_pos hid, if_pos hid]
  · rw [if_neg hid, if_neg hid]; exact h i hi
theorem fag_get {f : Ob} {u c a k : Nat} (hc : f.1 3 u = nI c) (hc1 : c < 291) (ha : f.1 4 u = nI a) (ha1 : a < 291) : (fag f u)[k]? = if k < c then some (ag1 f (a + k)) else none := by
  unfold fag
  rw [hc, ha, tn_nI (by omega), tn_nI (by omega), List.getElem?_map]
  by_cases h : k < c
  · rw [if_pos h, List.getElem?_range h]; rfl
  · rw [if_neg h, List.getElem?_eq_none (by rw [List.length_range]; omega)]; rfl
theorem reckon_eq {f ru : Ob} {H : Hd} (hf : uOk f) (hH : hOk ru H) {u k : Nat} (hu : u < 150) (hk : k < 100000) : Runner_reckon f ru (nI u) (nI k) = evK (fA f) H u k := by
  obtain ⟨c, a, h1, h2, h3, h4, h5, h6⟩ := hf u hu
  unfold Runner_reckon evK
  rw [valueOf_eq hu hk h1 h2 h3 (fun z => by have := h5 (by omega); omega), numberOf_eq hu hk h1 h2 h3 (fun z => by have := h5 (by omega); omega)]
  show _ = match (fag f u)[k]? with
    | some a => evA H a
    | none => 0
  rw [fag_get h1 h2 h3 h4]
  by_cases hkc : k < c
  · rw [if_pos hkc, if_pos hkc, if_pos hkc]
    unfold ag1
    rcases h6 k hkc with h | ⟨v, hv, h⟩
    · rw [h, if_pos rfl, if_pos rfl]; rfl
    · rw [h, if_neg (nI_m1 (by omega)), if_neg (nI_m1 (by omega)), oat_rs hv (by decide), tn_nI (by omega)]
      exact hH v hv
  · rw [if_neg hkc, if_neg hkc, if_neg hkc, if_pos rfl]
theorem reckon_m1 {f ru : Ob} {u : Int32} : Runner_reckon f ru u (-1) = 0 := by
  unfold Runner_reckon
  rw [valueOf_m1, if_pos rfl, numberOf_m1]
def eI : Option Nat → Int32
  | none => -1
  | some k => nI k
theorem reckon_e {f ru : Ob} {H : Hd} (hf : uOk f) (hH : hOk ru H) {u : Nat} {e : Option Nat} (hu : u < 150) (he : ∀ k, e = some k → k < 100000) : Runner_reckon f ru (nI u) (eI e) = evE (fA f) H u e := by
  cases e with
  | none => exact reckon_m1
  | some k => exact reckon_eq hf hH hu (he k rfl)
theorem frw_mem {f : Ob} {b s : Nat} (hs : f.1 7 b = nI s) (hs1 : s ≤ 140) (v : Nat) : v ∈ frw f b ↔ ∃ k, k < s ∧ tn (f.1 8 (b * 140 + k)) = v := by
  unfold frw
  rw [hs, tn_nI (by omega), List.mem_map]
  constructor
  · rintro ⟨k, hk, e⟩; exact ⟨k, List.mem_range.mp hk, e⟩
  · rintro ⟨k, hk, e⟩; exact ⟨k, List.mem_range.mpr hk, e⟩
theorem doPhis_spec {f ru : Ob} {H : Hd} {b : Nat} {e : Option Nat} (hf : uOk f) (hb : b < 10) (hL : lOk f b) (he : ∀ k, e = some k → k < 100000) (hH : hOk ru H) : hOk (Runner_doPhis f ru (nI b) (eI e)) (phA (fA f) b e H) := by
  obtain ⟨s, hs, hs7, hlist⟩ := hL
  have hmem := frw_mem hs7 hs
  have second : ∀ ru2 : Ob, hOk ru2 H → (∀ v, v ∈ frw f b → tn (f.1 0 v) = 9 → ru2.1 2 v = evE (fA f) H v e) → hOk (Runner_doPhis_L65 f ru2 (nI b) 0) (phA (fA f) b e H) := by
    intro ru2 hH2 hfr
    unfold Runner_doPhis_L65
    refine loop_cnt (B := fun a : Int32 × Ob => Runner_doPhis_L65b f a.2 (nI b) a.1) (mk := fun i (g : Ob) => (nI i, g)) (n := s)
      (I := fun n g => g.1 2 = ru2.1 2 ∧ ∀ i, i < 140 → g.1 1 i = if (∃ k, k < n ∧ tn (f.1 8 (b * 140 + k)) = i) ∧ tn (f.1 0 i) = 9 then evE (fA f) H i e else H i) (P := fun g => hOk g (phA (fA f) b e H)) (fun n g hn hI => ?_) (fun g hI => ?_) s 0 ru2 (by omega) ⟨rfl, fun i hi => by rw [if_neg (fun z => by obtain ⟨⟨k, hk, -⟩, -⟩ := z; omega)]; exact hH2 i hi⟩
    · obtain ⟨h1, h2⟩ := hI
      obtain ⟨v, kk, hv, hvk, hkk, hkk10⟩ := hlist n hn
      have hB : Runner_doPhis_L65b f g (nI b) (nI n) = if nI kk = 9 then .inl (nI (n + 1), oput g 1 140 (nI v) (oat g 2 140 (nI v))) else .inl (nI (n + 1), g) := by
        unfold Runner_doPhis_L65b Runner_doPhis_119
        rw [oat_rs hb (by decide), hs7, if_pos (show nI n < nI s from nI_lt hn (by omega)), valueIn_eq (by omega), hvk, oat_rs hv (by decide), hkk, nI_1]
      have hg : g.1 2 v = ru2.1 2 v := by rw [h1]
      by_cases h9 : kk = 9
      · subst h9
        refine ⟨oput g 1 140 (nI v) (oat g 2 140 (nI v)), by show Runner_doPhis_L65b f g (nI b) (nI n) = _; rw [hB, if_pos (show nI 9 = 9 from rfl)], ?_, fun i hi => ?_⟩
        · rw [oput_rs hv (by decide), rs_r _ _ _ _ (show 2 ≠ 1 by decide)]; exact h1
        · rw [oput_rs hv (by decide), rs_i, oat_rs hv (by decide), hg]
          by_cases hiv : i = v
          · subst hiv
            rw [if_pos rfl, if_pos ⟨⟨n, by omega, by rw [hvk, tn_nI (by omega)]⟩, by rw [hkk, tn_nI (by omega)]⟩]
            exact hfr i ((hmem i).mpr ⟨n, hn, by rw [hvk, tn_nI (by omega)]⟩) (by rw [hkk, tn_nI (by omega)])
          · rw [if_neg hiv, h2 i hi]
            by_cases hq : (∃ k, k < n ∧ tn (f.1 8 (b * 140 + k)) = i) ∧ tn (f.1 0 i) = 9
            · rw [if_pos hq, if_pos ⟨by obtain ⟨⟨k, z1, z2⟩, -⟩ := hq; exact ⟨k, by omega, z2⟩, hq.2⟩]
            · rw [if_neg hq, if_neg (fun z => hq ⟨by
                obtain ⟨⟨k, z1, z2⟩, -⟩ := z
                have hkn : k ≠ n := fun q => by
                  subst q
                  rw [hvk, tn_nI (by omega)] at z2
                  exact hiv z2.symm
                exact ⟨k, by omega, z2⟩, z.2⟩)]
      · refine ⟨g, by show Runner_doPhis_L65b f g (nI b) (nI n) = _; rw [hB, if_neg (show ¬ nI kk = 9 from fun q => h9 (nI_inj (a := kk) (b := 9) (by omega) (by omega) q))], h1, fun i hi => ?_⟩
        rw [h2 i hi]
        by_cases hq : (∃ k, k < n ∧ tn (f.1 8 (b * 140 + k)) = i) ∧ tn (f.1 0 i) = 9
        · rw [if_pos hq, if_pos ⟨by obtain ⟨⟨k, z1, z2⟩, -⟩ := hq; exact ⟨k, by omega, z2⟩, hq.2⟩]
        · rw [if_neg hq, if_neg (fun z => hq ⟨by
            obtain ⟨⟨k, z1, z2⟩, z3⟩ := z
            have hkn : k ≠ n := fun q => by
              subst q
              rw [hvk, tn_nI (by omega)] at z2
              subst z2
              rw [hkk, tn_nI (by omega)] at z3
              exact h9 z3
            exact ⟨k, by omega, z2⟩, z.2⟩)]
    · refine ⟨g, ?_, fun i hi => ?_⟩
      · show Runner_doPhis_L65b f g (nI b) (nI s) = _
        unfold Runner_doPhis_L65b
        rw [oat_rs hb (by decide), hs7, if_neg (show ¬ nI s < nI s from nI_nlt (Nat.le_refl _) (by omega))]
      · rw [hI.2 i hi]
        unfold phA
        have hiff : ((∃ k, k < s ∧ tn (f.1 8 (b * 140 + k)) = i) ∧ tn (f.1 0 i) = 9) ↔ (i ∈ aLs (fA f) b ∧ aKd (fA f) i = 9) := by
          show _ ↔ i ∈ frw f b ∧ tn (f.1 0 i) = 9
          rw [hmem i]
        by_cases hq : (∃ k, k < s ∧ tn (f.1 8 (b * 140 + k)) = i) ∧ tn (f.1 0 i) = 9
        · rw [if_pos hq, if_pos (hiff.mp hq)]
        · rw [if_neg hq, if_neg (fun z => hq (hiff.mpr z))]
  unfold Runner_doPhis Runner_doPhis_L3
  refine loop_cnt (B := fun a : Int32 × Ob => Runner_doPhis_L3b f a.2 (nI b) (eI e) a.1) (mk := fun i (g : Ob) => (nI i, g)) (n := s)
    (I := fun n g => hOk g H ∧ ∀ k, k < n → ∀ v, v < 140 → f.1 8 (b * 140 + k) = nI v → tn (f.1 0 v) = 9 → g.1 2 v = evE (fA f) H v e) (P := fun g => hOk g (phA (fA f) b e H)) (fun n g hn hI => ?_) (fun g hI => ?_) s 0 ru (by omega) ⟨hH, fun k hk => by omega⟩
  · obtain ⟨h1, h2⟩ := hI
    obtain ⟨v, kk, hv, hvk, hkk, hkk10⟩ := hlist n hn
    have hB : Runner_doPhis_L3b f g (nI b) (eI e) (nI n) = if nI kk = 9 then .inl (nI (n + 1), oput g 2 140 (nI v) (Runner_reckon f g (nI v) (eI e))) else .inl (nI (n + 1), g) := by
      unfold Runner_doPhis_L3b Runner_doPhis_56
      rw [oat_rs hb (by decide), hs7, if_pos (show nI n < nI s from nI_lt hn (by omega)), valueIn_eq (by omega), hvk, oat_rs hv (by decide), hkk, nI_1]
    by_cases h9 : kk = 9
    · subst h9
      have hre := reckon_e hf h1 (u := v) (e := e) (by omega) he
      refine ⟨oput g 2 140 (nI v) (Runner_reckon f g (nI v) (eI e)), by show Runner_doPhis_L3b f g (nI b) (eI e) (nI n) = _; rw [hB, if_pos (show nI 9 = 9 from rfl)], fun i hi => ?_, fun k hk w hw hwk hw9 => ?_⟩
      · rw [oput_rs hv (by decide), rs_r _ _ _ _ (show 1 ≠ 2 by decide)]
        exact h1 i hi
      · rw [oput_rs hv (by decide), rs_i, hre]
        by_cases hwv : w = v
        · subst hwv; rw [if_pos rfl]
        · rw [if_neg hwv]
          have hkn : k ≠ n := fun q => by
            subst q
            exact hwv (nI_inj (by omega) (by omega) (hwk.symm.trans hvk))
          exact h2 k (by omega) w hw hwk hw9
    · refine ⟨g, by show Runner_doPhis_L3b f g (nI b) (eI e) (nI n) = _; rw [hB, if_neg (show ¬ nI kk = 9 from fun q => h9 (nI_inj (a := kk) (b := 9) (by omega) (by omega) q))], h1, fun k hk w hw hwk hw9 => ?_⟩
      have hkn : k ≠ n := fun q => by
        subst q
        have := nI_inj (by omega) (by omega) (hwk.symm.trans hvk)
        subst this
        rw [hkk, tn_nI (by omega)] at hw9
        exact h9 hw9
      exact h2 k (by omega) w hw hwk hw9
  · refine ⟨_, ?_, second g hI.1 (fun v hv hv9 => ?_)⟩
    · show Runner_doPhis_L3b f g (nI b) (eI e) (nI s) = _
      unfold Runner_doPhis_L3b
      rw [oat_rs hb (by decide), hs7, if_neg (show ¬ nI s < nI s from nI_nlt (Nat.le_refl _) (by omega))]
    · obtain ⟨k, hk, hkv⟩ := (hmem v).mp hv
      obtain ⟨w, kk, hw, hwk, -, -⟩ := hlist k hk
      rw [hwk, tn_nI (by omega)] at hkv
      subst hkv
      exact hI.2 k hk w hw hwk hv9
