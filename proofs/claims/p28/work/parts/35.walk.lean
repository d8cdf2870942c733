/-! RUNS of a form, 2: the values, the blocks -/
theorem frw_eq {f : Ob} {b s : Nat} (hs : f.1 7 b = nI s) (hs1 : s ≤ 140) : frw f b = (List.range' 0 (s - 0)).map fun k => tn (f.1 8 (b * 140 + k)) := by
  unfold frw
  rw [hs, tn_nI (by omega), List.range_eq_range']
  rfl
theorem actM_len (k : Nat) (p q : Int32) (m : Me) : (actM k p q m).2.1.2.length ≤ m.2.length + 1 := by
  unfold actM
  repeat' split
  all_goals first | exact Nat.le_succ _ | (rw [List.length_append]; exact Nat.le_refl _)
theorem vaA_len (A : AF) : ∀ (l : List Nat) (H : Hd) (m : Me) (c : Nat), (vaA A l H m c).2.1.2.length ≤ m.2.length + l.length := by
  intro l
  induction l with
  | nil => intro H m c; exact Nat.le_refl _
  | cons v r ih =>
    intro H m c
    unfold vaA
    split
    · have h2 := ih H m c
      simp only [List.length_cons]
      omega
    · split
      · have h1 := actM_len (aKd A v) (evK A H v 0) (evK A H v 1) m
        simp only [List.length_cons]
        omega
      · have h1 := actM_len (aKd A v) (evK A H v 0) (evK A H v 1) m
        have h2 := ih (uH H v (actM (aKd A v) (evK A H v 0) (evK A H v 1) m).1) (actM (aKd A v) (evK A H v 0) (evK A H v 1) m).2.1 (c + coN (aKd A v))
        simp only [List.length_cons]
        omega
theorem bool_f {b : Bool} (h : ¬ b = true) : b = false := by
  cases b with
  | false => rfl
  | true => exact absurd rfl h
theorem len_keep {y l k N : Nat} (h2 : y + (l - k) < N) : y + (l - (k + 1)) < N := by omega
/-- a form that can be run: th are the blocks that are there -/
def eOk (f : Ob) (b : Nat) : Prop := ∃ e, e ≤ 20 ∧ f.1 9 b = nI e ∧ ∀ k, k < e → ∃ w, w < 20 ∧ f.1 10 (b * 20 + k) = nI w
def rGood (f : Ob) (th : Nat → Prop) : Prop := uOk f ∧ th 0 ∧ ∀ b, th b → b < 10 ∧ lOk f b ∧ eOk f b ∧ ∃ k, k ≤ 2 ∧ f.1 11 b = nI k ∧ ∀ j, j < k → ∃ t, th t ∧ f.1 12 (b * 2 + j) = nI t
theorem fed_get {f : Ob} {b e k : Nat} (he : f.1 9 b = nI e) (he1 : e ≤ 20) (hk : k < e) : (fed f b)[k]? = some (tn (f.1 10 (b * 20 + k))) := by
  unfold fed
  rw [he, tn_nI (by omega), List.getElem?_map, List.getElem?_range hk]
  rfl
theorem edge_eq {f : Ob} {b w : Nat} (hb : b < 10) (hE : eOk f b) (hw : w < 20) : Form_edgeOf f (nI b) (nI w) = eI (edI (fA f) b w) ∧ ∀ k, edI (fA f) b w = some k → k < 100000 := by
  obtain ⟨e, he1, he, hlist⟩ := hE
  have hlen : (fed f b).length = e := by unfold fed; rw [he, tn_nI (by omega), List.length_map, List.length_range]
  have hget : ∀ k (hk : k < e), ∃ x, x < 20 ∧ f.1 10 (b * 20 + k) = nI x ∧ (fed f b)[k]? = some x := fun k hk => by
    obtain ⟨x, hx, hxk⟩ := hlist k hk
    exact ⟨x, hx, hxk, by rw [fed_get he he1 hk, hxk, tn_nI (by omega)]⟩
  have hed : edI (fA f) b w = (fed f b).findIdx? fun z => z == w := rfl
  rcases edgeOf_eq (nI w) hb he he1 with ⟨k, hk, hkw, hlt, h1⟩ | ⟨h1, h2⟩
  · have hs : edI (fA f) b w = some k := by
      rw [hed, List.findIdx?_eq_some_iff_getElem]
      refine ⟨by rw [hlen]; exact hk, ?_, fun j hj => ?_⟩
      · obtain ⟨x, hx, hxk, hg⟩ := hget k hk
        obtain ⟨hl, hge⟩ := List.getElem?_eq_some_iff.mp hg
        rw [hge]
        have : x = w := nI_inj (by omega) (by omega) (hxk.symm.trans hkw)
        simp [this]
      · obtain ⟨x, hx, hxk, hg⟩ := hget j (by omega)
        obtain ⟨hl, hge⟩ := List.getElem?_eq_some_iff.mp hg
        rw [hge]
        have : x ≠ w := fun q => hlt j hj (by rw [hxk, q])
        simp [this]
    rw [hs]
    exact ⟨h1, fun j hj => by cases hj; omega⟩
  · have hs : edI (fA f) b w = none := by
      rw [hed, List.findIdx?_eq_none_iff]
      intro x hx
      obtain ⟨k, hkx⟩ := List.getElem?_of_mem hx
      have hk : k < e := by
        have := (List.getElem?_eq_some_iff.mp hkx).1
        omega
      obtain ⟨y, hy, hyk, hg⟩ := hget k hk
      rw [hkx] at hg
      cases hg
      have : x ≠ w := fun q => h2 k hk (by rw [hyk, q])
      simp [this]
    rw [hs]
    exact ⟨h1, fun j hj => by cases hj⟩
theorem edge_m1 {f : Ob} {b : Nat} (hb : b < 10) (hE : eOk f b) : Form_edgeOf f (nI b) (-1) = -1 := by
  obtain ⟨e, he1, he, hlist⟩ := hE
  rcases edgeOf_eq (-1) hb he he1 with ⟨k, hk, hkw, -, -⟩ | ⟨h1, -⟩
  · obtain ⟨w, hw, hwk⟩ := hlist k hk
    rw [hwk] at hkw
    exact absurd hkw (nI_m1 (by omega))
  · exact h1
def vaInv (f : Ob) (b s n : Nat) (q : Hd × Me × Nat × Bool) (a : Int32 × Ob × Ob) : Prop := ∃ k, k ≤ s ∧ a.1 = nI k ∧ ((∃ H m c, tpAt a.2.2 true 0 0 m c n ∧ tpKept 60 a.2.2 m ∧ hOk a.2.1 H ∧ m.2.length + (s - k) < 1000000 ∧ vaA (fA f) ((List.range' k (s - k)).map fun k => tn (f.1 8 (b * 140 + k))) H m c = q) ∨ (tpAt a.2.2 false 1 0 q.2.1 q.2.2.1 n ∧ tpKept 60 a.2.2 q.2.1 ∧ q.2.2.2 = true))
theorem doValues_spec {f ru t : Ob} {b n c s : Nat} {H : Hd} {m : Me} (hf : uOk f) (hb : b < 10) (hs : s ≤ 140) (hs7 : f.1 7 b = nI s) (hlist : ∀ k, k < s → ∃ v kk, v < 140 ∧ f.1 8 (b * 140 + k) = nI v ∧ f.1 0 v = nI kk ∧ kk < 10) (ht : tpAt t true 0 0 m c n) (hK : tpKept 60 t m) (hH : hOk ru H) (hm : m.2.length + s < 1000000) :
    (fun r : Ob × Ob => (fun q : Hd × Me × Nat × Bool => tpAt r.2 (!q.2.2.2) (if q.2.2.2 = true then 1 else 0) 0 q.2.1 q.2.2.1 n ∧ tpKept 60 r.2 q.2.1 ∧ (q.2.2.2 = false → hOk r.1 q.1)) (vaA (fA f) (aLs (fA f) b) H m c)) (Runner_doValues f ru t (nI b)) := by
  have htl : aLs (fA f) b = (List.range' 0 (s - 0)).map fun k => tn (f.1 8 (b * 140 + k)) := frw_eq hs7 hs
  rw [htl]
  generalize hq : vaA (fA f) ((List.range' 0 (s - 0)).map fun k => tn (f.1 8 (b * 140 + k))) H m c = q
  unfold Runner_doValues Runner_doValues_L3
  refine loopW_inv (fun a : Int32 × Ob × Ob => Runner_doValues_L3b f a.2.1 a.2.2 (nI b) a.1) (fun a => s + 1 - tn a.1) (vaInv f b s n q) (fun r => (fun q : Hd × Me × Nat × Bool => tpAt r.2 (!q.2.2.2) (if q.2.2.2 = true then 1 else 0) 0 q.2.1 q.2.2.1 n ∧ tpKept 60 r.2 q.2.1 ∧ (q.2.2.2 = false → hOk r.1 q.1)) q) (fun a hI => ?_) (0, ru, t) ⟨0, Nat.zero_le _, rfl, Or.inl ⟨H, m, c, ht, hK, hH, hm, hq⟩⟩
  obtain ⟨k, hkl, hak, hcase⟩ := hI
  obtain ⟨a1, ru1, t1⟩ := a
  dsimp only at hak hcase ⊢
  subst hak
  rcases hcase with ⟨H1, m1, c1, h1, h2, h3, h4, h5⟩ | ⟨h1, h2, h3⟩
  · rcases Nat.lt_or_ge k s with hlt | hge
    · obtain ⟨v, kk, hv, hvk, hkk, hkk10⟩ := hlist k hlt
      have hl2 : (List.range' k (s - k)).map (fun k => tn (f.1 8 (b * 140 + k))) = v :: (List.range' (k + 1) (s - (k + 1))).map fun k => tn (f.1 8 (b * 140 + k)) := by
        rw [sub_s hlt, List.range'_succ, List.map_cons, hvk, tn_nI (by omega)]
      rw [hl2] at h5
      unfold vaA at h5
      have hkd : aKd (fA f) v = kk := by show tn (f.1 0 v) = kk; rw [hkk, tn_nI (by omega)]
      rw [hkd] at h5
      have hmu : s + 1 - tn (nI (k + 1)) < s + 1 - tn (nI k) := by rw [tn_nI (by omega), tn_nI (by omega)]; omega
      by_cases h9 : kk = 9
      · subst h9
        rw [if_pos rfl] at h5
        have hB : Runner_doValues_L3b f ru1 t1 (nI b) (nI k) = .inl (nI (k + 1), ru1, t1) := by
          unfold Runner_doValues_L3b Runner_doValues_81
          rw [if_pos h1.1, oat_rs hb (by decide), hs7, if_pos (show nI k < nI s from nI_lt hlt (by omega)), valueIn_eq (by omega), hvk, oat_rs hv (by decide), hkk, if_pos (show nI 9 = 9 from rfl), nI_1]
        refine ⟨fun a' ha' => ?_, fun w hw => by rw [hB] at hw; cases hw⟩
        rw [hB] at ha'
        cases ha'
        exact ⟨⟨k + 1, by omega, rfl, Or.inl ⟨H1, m1, c1, h1, h2, h3, len_keep h4, h5⟩⟩, hmu⟩
      · rw [if_neg h9] at h5
        have hk9 : kk < 9 := by omega
        have r0 := reckon_eq hf h3 (u := v) (k := 0) (by omega) (by decide)
        have r1 := reckon_eq hf h3 (u := v) (k := 1) (by omega) (by decide)
        obtain ⟨s1, s2, s3⟩ := act_spec (p := evK (fA f) H1 v 0) (q := evK (fA f) H1 v 1) h1 h2 hk9 (by omega)
        have hB : Runner_doValues_L3b f ru1 t1 (nI b) (nI k) = .inl (nI (k + 1), oput ru1 1 140 (nI v) (Tape_act t1 (nI kk) (evK (fA f) H1 v 0) (evK (fA f) H1 v 1)).1, (Tape_act t1 (nI kk) (evK (fA f) H1 v 0) (evK (fA f) H1 v 1)).2) := by
          unfold Runner_doValues_L3b Runner_doValues_78 Runner_doValues_81
          rw [if_pos h1.1, oat_rs hb (by decide), hs7, if_pos (show nI k < nI s from nI_lt hlt (by omega)), valueIn_eq (by omega), hvk, oat_rs hv (by decide), hkk, if_neg (show ¬ nI kk = 9 from fun q => h9 (nI_inj (a := kk) (b := 9) (by omega) (by omega) q)), nI_1]
          rw [show Runner_reckon f ru1 (nI v) 0 = evK (fA f) H1 v 0 from r0, show Runner_reckon f ru1 (nI v) 1 = evK (fA f) H1 v 1 from r1]
        refine ⟨fun a' ha' => ?_, fun w hw => by rw [hB] at hw; cases hw⟩
        rw [hB] at ha'
        cases ha'
        refine ⟨⟨k + 1, by omega, rfl, ?_⟩, hmu⟩
        have hlen := actM_len kk (evK (fA f) H1 v 0) (evK (fA f) H1 v 1) m1
        by_cases htr : (actM kk (evK (fA f) H1 v 0) (evK (fA f) H1 v 1) m1).2.2 = true
        · right
          rw [if_pos htr] at h5
          subst h5
          rw [htr] at s2
          exact ⟨s2, s3, rfl⟩
        · left
          rw [if_neg htr] at h5
          rw [bool_f htr] at s2
          exact ⟨_, _, _, s2, s3, by rw [s1]; exact hOk.set h3 hv _, len_step hlen h4 hlt, h5⟩
    · have hkl2 : k = s := by omega
      subst hkl2
      rw [Nat.sub_self] at h5
      have hB : Runner_doValues_L3b f ru1 t1 (nI b) (nI k) = .inr (ru1, t1) := by
        unfold Runner_doValues_L3b
        rw [if_pos h1.1, oat_rs hb (by decide), hs7, if_neg (show ¬ nI k < nI k from nI_nlt (Nat.le_refl _) (by omega))]
      refine ⟨(fun a' ha' => by rw [hB] at ha'; cases ha'), fun w hw => ?_⟩
      rw [hB] at hw
      cases hw
      have h6 : (H1, m1, c1, false) = q := h5
      subst h6
      exact ⟨h1, h2, fun _ => h3⟩
  · have hB : Runner_doValues_L3b f ru1 t1 (nI b) (nI k) = .inr (ru1, t1) := by
      unfold Runner_doValues_L3b
      rw [if_neg (by rw [h1.1]; decide)]
    refine ⟨(fun a' ha' => by rw [hB] at ha'; cases ha'), fun w hw => ?_⟩
    rw [hB] at hw
    cases hw
    dsimp only
    rw [h3]
    exact ⟨h1, h2, fun z => by cases z⟩
def wfInv (f : Ob) (th : Nat → Prop) (r : Oc) (a : Int32 × Int32 × Int32 × Ob × Ob) : Prop := ∃ v, v ≤ 301 ∧ a.2.2.1 = nI v ∧ ((∃ d b H m c e, d + v = 300 ∧ th b ∧ a.1 = nI b ∧ Form_edgeOf f (nI b) a.2.1 = eI e ∧ (∀ k, e = some k → k < 100000) ∧ tpAt a.2.2.2.2 true 0 0 m c v ∧ tpKept 60 a.2.2.2.2 m ∧ hOk a.2.2.2.1 H ∧ m.2.length ≤ 140 * v ∧ ruA (fA f) d b e H m c v = r) ∨ tpOc 60 a.2.2.2.2 r ∧ a.2.2.2.2.2.2 0 = false)
theorem walkForm_spec {f ru t : Ob} {th : Nat → Prop} (hG : rGood f th) (x y : Int32) : tpOc 60 (Runner_walkForm f ru t x y).2 (runA (fA f) x y) ∧ (Runner_walkForm f ru t x y).2.2.2 0 = false := by
  obtain ⟨hU, h0, hT⟩ := hG
  generalize hr : runA (fA f) x y = r
  unfold Runner_walkForm Runner_walkForm_L40
  refine loopW_inv (fun a : Int32 × Int32 × Int32 × Ob × Ob => Runner_walkForm_L40b f a.2.2.2.1 a.2.2.2.2 a.1 a.2.1 a.2.2.1) (fun a => 302 - tn a.2.2.1) (wfInv f th r) (fun w => tpOc 60 w.2 r ∧ w.2.2.2 0 = false) (fun a hI => ?_) _ ⟨0, by decide, rfl, Or.inl ⟨300, 0, H0 x y, m0, 0, none, rfl, h0, rfl, edge_m1 (by decide) (hT 0 h0).2.2.1, (fun k hk => by cases hk), (begin_spec t).1, (begin_spec t).2 60, ?_, Nat.zero_le _, hr⟩⟩
  · obtain ⟨v, hv, hav, hcase⟩ := hI
    obtain ⟨a1, a2, a3, ru1, t1⟩ := a
    dsimp only at hav hcase ⊢
    subst hav
    rcases hcase with ⟨d, b, H, m, c, e, hd, hb, hab, hed, hek, h1, h2, h3, h4, h5⟩ | ⟨h1, h2⟩
    · subst hab
      obtain ⟨hb', ⟨s, hs, hs7, hlist⟩, hE, kk, hk2, hk11, hways⟩ := hT b hb
      have p1 := doPhis_spec hU hb' ⟨s, hs, hs7, hlist⟩ hek h3
      rw [← hed] at p1
      obtain ⟨s1, s2, s3⟩ := doValues_spec (c := c) hU hb' hs hs7 hlist h1 h2 p1 (by omega)
      have hlen := vaA_len (fA f) (aLs (fA f) b) (phA (fA f) b e H) m c
      have hll : (aLs (fA f) b).length = s := by show (frw f b).length = s; unfold frw; rw [hs7, tn_nI (by omega), List.length_map, List.length_range]
      have hekk : aEk (fA f) b = kk := by show tn (f.1 11 b) = kk; rw [hk11, tn_nI (by omega)]
      generalize hdl : Runner_doValues f (Runner_doPhis f ru1 (nI b) (Form_edgeOf f (nI b) a2)) t1 (nI b) = dl at s1 s2 s3
      have hB : Runner_walkForm_L40b f ru1 t1 (nI b) a2 (nI v) = .inl (oat f 12 20 (nI b * 2 + (Tape_leaveBy dl.2 (nI kk) (Runner_reckon f dl.1 ((140 : Int32) + nI b) 0)).1), nI b * 2 + (Tape_leaveBy dl.2 (nI kk) (Runner_reckon f dl.1 ((140 : Int32) + nI b) 0)).1, nI (v + 1), dl.1, (Tape_leaveBy dl.2 (nI kk) (Runner_reckon f dl.1 ((140 : Int32) + nI b) 0)).2) := by
        unfold Runner_walkForm_L40b Runner_walkForm_80 Runner_walkForm_110
        rw [if_pos h1.1, if_neg (show ¬ (300 : Int32) < nI v from nI_nlt (a := 300) (b := v) (by omega) (by decide)), oat_rs (n := 10) hb' (by decide), hk11, nI_1, hdl]
      refine ⟨fun a' ha' => ?_, fun w hw => by rw [hB] at hw; cases hw⟩
      rw [hB] at ha'
      cases ha'
      have hmu : 302 - tn (nI (v + 1)) < 302 - tn (nI v) := by rw [tn_nI (by omega), tn_nI (by omega)]; omega
      refine ⟨⟨v + 1, by omega, rfl, ?_⟩, hmu⟩
      generalize hq : vaA (fA f) (aLs (fA f) b) (phA (fA f) b e H) m c = q at s1 s2 s3 hlen
      by_cases htr : q.2.2.2 = true
      · right
        rw [htr] at s1
        have hoff : dl.2.2.2 0 = false := s1.1
        dsimp only
        rw [leave_off hoff]
        refine ⟨?_, hoff⟩
        have hr2 : r = some (true, 0, q.2.1, q.2.2.1, v) := by
          rw [← h5]
          cases d with
          | zero => unfold ruA; rw [hq, if_pos htr]
          | succ d => unfold ruA; rw [hq, if_pos htr]
        rw [hr2]
        exact ⟨s1, s2⟩
      · have hf := bool_f htr
        rw [hf] at s1
        have hrd : Runner_reckon f dl.1 ((140 : Int32) + nI b) 0 = evK (fA f) q.1 (140 + b) 0 := by
          rw [ix140u]
          exact reckon_eq hU (s3 hf) (u := 140 + b) (k := 0) (by omega) (by decide)
        dsimp only
        rw [hrd]
        obtain ⟨k1, k2, k3, k4⟩ := leave_spec (x := evK (fA f) q.1 (140 + b) 0) s1 (show kk < 3 by omega) (show v ≤ 300 by omega)
        cases d with
        | zero =>
          right
          have h300 : v = 300 := by omega
          have hr2 : r = none := by
            rw [← h5]
            unfold ruA
            rw [hq, if_neg htr]
          have hc := k2 h300
          rw [hr2]
          subst h300
          exact ⟨⟨_, _, hc, kept_row k1 s2⟩, hc.1⟩
        | succ d =>
          have hlt : v < 300 := by omega
          by_cases he0 : kk = 0
          · right
            have hc := k3 hlt he0
            have hr2 : r = some (false, evK (fA f) q.1 (140 + b) 0, q.2.1, q.2.2.1, v + 1) := by
              rw [← h5]
              unfold ruA
              rw [hq, if_neg htr, hekk, if_pos he0]
            rw [hr2]
            exact ⟨⟨hc, kept_row k1 s2⟩, hc.1⟩
          · left
            obtain ⟨k5, k6⟩ := k4 hlt he0
            have hw : wyN kk (evK (fA f) q.1 (140 + b) 0) < kk := by
              unfold wyN
              split
              · rename_i hz; omega
              · omega
            obtain ⟨tt, ht1, ht2⟩ := hways _ hw
            have hw2 : wyN kk (evK (fA f) q.1 (140 + b) 0) < 2 := by omega
            have htt := (hT tt ht1).1
            obtain ⟨z1, z2⟩ := edge_eq (w := b * 2 + wyN kk (evK (fA f) q.1 (140 + b) 0)) htt (hT tt ht1).2.2.1 (by omega)
            refine ⟨d, tt, q.1, q.2.1, _, edI (fA f) tt (b * 2 + wyN kk (evK (fA f) q.1 (140 + b) 0)), by omega, ht1, ?_, ?_, z2, k6, kept_row k1 s2, s3 hf, by omega, ?_⟩
            · rw [k5, ix2, oat_rs (n := 20) (by omega) (by decide), ht2]
            · rw [k5, ix2]
              exact z1
            · rw [← h5]
              conv => rhs; unfold ruA
              have htg : aTg (fA f) (b * 2 + wyN kk (evK (fA f) q.1 (140 + b) 0)) = some tt := by
                show ftg f _ = some tt
                unfold ftg
                rw [ht2, if_neg (nI_m1 (by omega)), tn_nI (by omega)]
              rw [hq, if_neg htr, hekk, if_neg he0, htg]
    · have hB : Runner_walkForm_L40b f ru1 t1 a1 a2 (nI v) = .inr (ru1, t1) := by
        unfold Runner_walkForm_L40b
        rw [if_neg (by rw [h2]; decide)]
      refine ⟨(fun a' ha' => by rw [hB] at ha'; cases ha'), fun w hw => ?_⟩
      rw [hB] at hw
      cases hw
      exact ⟨h1, h2⟩
  · intro i hi
    show (oput (oput (ofil ru 1 0) 1 140 (nI 0) x) 1 140 (nI 1) y).1 1 i = _
    rw [oput_rs (show 1 < 140 by decide) (by decide), oput_rs (show 0 < 140 by decide) (by decide), rs_i, rs_i]
    unfold H0 uH ofil
    rw [oR_1, if_pos rfl]
def vaInv_k (f : Ob) (b s n : Nat) (q : Hd × Me × Nat × Bool) (a : Int32 × Ob × Ob) : Prop := ∃ k, k ≤ s ∧ a.1 = nI k ∧ ((∃ H m c, tpAt a.2.2 true 0 0 m c n ∧ tpKept 2408 a.2.2 m ∧ hOk a.2.1 H ∧ m.2.length + (s - k) < 1000000 ∧ vaA (fA f) ((List.range' k (s - k)).map fun k => tn (f.1 8 (b * 140 + k))) H m c = q) ∨ (tpAt a.2.2 false 1 0 q.2.1 q.2.2.1 n ∧ tpKept 2408 a.2.2 q.2.1 ∧ q.2.2.2 = true))
theorem doValues_spec_k {f ru t : Ob} {b n c s : Nat} {H : Hd} {m : Me} (hf : uOk f) (hb : b < 10) (hs : s ≤ 140) (hs7 : f.1 7 b = nI s) (hlist : ∀ k, k < s → ∃ v kk, v < 140 ∧ f.1 8 (b * 140 + k) = nI v ∧ f.1 0 v = nI kk ∧ kk < 10) (ht : tpAt t true 0 0 m c n) (hK : tpKept 2408 t m) (hH : hOk ru H) (hm : m.2.length + s < 1000000) :
    (fun r : Ob × Ob => (fun q : Hd × Me × Nat × Bool => tpAt r.2 (!q.2.2.2) (if q.2.2.2 = true then 1 else 0) 0 q.2.1 q.2.2.1 n ∧ tpKept 2408 r.2 q.2.1 ∧ (q.2.2.2 = false → hOk r.1 q.1)) (vaA (fA f) (aLs (fA f) b) H m c)) (Runner_doValues_k f ru t (nI b)) := by
  have htl : aLs (fA f) b = (List.range' 0 (s - 0)).map fun k => tn (f.1 8 (b * 140 + k)) := frw_eq hs7 hs
  rw [htl]
  generalize hq : vaA (fA f) ((List.range' 0 (s - 0)).map fun k => tn (f.1 8 (b * 140 + k))) H m c = q
  unfold Runner_doValues_k Runner_doValues_k_L3
  refine loopW_inv (fun a : Int32 × Ob × Ob => Runner_doValues_k_L3b f a.2.1 a.2.2 (nI b) a.1) (fun a => s + 1 - tn a.1) (vaInv_k f b s n q) (fun r => (fun q : Hd × Me × Nat × Bool => tpAt r.2 (!q.2.2.2) (if q.2.2.2 = true then 1 else 0) 0 q.2.1 q.2.2.1 n ∧ tpKept 2408 r.2 q.2.1 ∧ (q.2.2.2 = false → hOk r.1 q.1)) q) (fun a hI => ?_) (0, ru, t) ⟨0, Nat.zero_le _, rfl, Or.inl ⟨H, m, c, ht, hK, hH, hm, hq⟩⟩
  obtain ⟨k, hkl, hak, hcase⟩ := hI
  obtain ⟨a1, ru1, t1⟩ := a
  dsimp only at hak hcase ⊢
  subst hak
  rcases hcase with ⟨H1, m1, c1, h1, h2, h3, h4, h5⟩ | ⟨h1, h2, h3⟩
  · rcases Nat.lt_or_ge k s with hlt | hge
    · obtain ⟨v, kk, hv, hvk, hkk, hkk10⟩ := hlist k hlt
      have hl2 : (List.range' k (s - k)).map (fun k => tn (f.1 8 (b * 140 + k))) = v :: (List.range' (k + 1) (s - (k + 1))).map fun k => tn (f.1 8 (b * 140 + k)) := by
        rw [sub_s hlt, List.range'_succ, List.map_cons, hvk, tn_nI (by omega)]
      rw [hl2] at h5
      unfold vaA at h5
      have hkd : aKd (fA f) v = kk := by show tn (f.1 0 v) = kk; rw [hkk, tn_nI (by omega)]
      rw [hkd] at h5
      have hmu : s + 1 - tn (nI (k + 1)) < s + 1 - tn (nI k) := by rw [tn_nI (by omega), tn_nI (by omega)]; omega
      by_cases h9 : kk = 9
      · subst h9
        rw [if_pos rfl] at h5
        have hB : Runner_doValues_k_L3b f ru1 t1 (nI b) (nI k) = .inl (nI (k + 1), ru1, t1) := by
          unfold Runner_doValues_k_L3b Runner_doValues_k_81
          rw [if_pos h1.1, oat_rs hb (by decide), hs7, if_pos (show nI k < nI s from nI_lt hlt (by omega)), valueIn_eq (by omega), hvk, oat_rs hv (by decide), hkk, if_pos (show nI 9 = 9 from rfl), nI_1]
        refine ⟨fun a' ha' => ?_, fun w hw => by rw [hB] at hw; cases hw⟩
        rw [hB] at ha'
        cases ha'
        exact ⟨⟨k + 1, by omega, rfl, Or.inl ⟨H1, m1, c1, h1, h2, h3, len_keep h4, h5⟩⟩, hmu⟩
      · rw [if_neg h9] at h5
        have hk9 : kk < 9 := by omega
        have r0 := reckon_eq hf h3 (u := v) (k := 0) (by omega) (by decide)
        have r1 := reckon_eq hf h3 (u := v) (k := 1) (by omega) (by decide)
        obtain ⟨s1, s2, s3⟩ := act_spec_k (p := evK (fA f) H1 v 0) (q := evK (fA f) H1 v 1) h1 h2 hk9 (by omega)
        have hB : Runner_doValues_k_L3b f ru1 t1 (nI b) (nI k) = .inl (nI (k + 1), oput ru1 1 140 (nI v) (Tape_act_k t1 (nI kk) (evK (fA f) H1 v 0) (evK (fA f) H1 v 1)).1, (Tape_act_k t1 (nI kk) (evK (fA f) H1 v 0) (evK (fA f) H1 v 1)).2) := by
          unfold Runner_doValues_k_L3b Runner_doValues_k_78 Runner_doValues_k_81
          rw [if_pos h1.1, oat_rs hb (by decide), hs7, if_pos (show nI k < nI s from nI_lt hlt (by omega)), valueIn_eq (by omega), hvk, oat_rs hv (by decide), hkk, if_neg (show ¬ nI kk = 9 from fun q => h9 (nI_inj (a := kk) (b := 9) (by omega) (by omega) q)), nI_1]
          rw [show Runner_reckon f ru1 (nI v) 0 = evK (fA f) H1 v 0 from r0, show Runner_reckon f ru1 (nI v) 1 = evK (fA f) H1 v 1 from r1]
        refine ⟨fun a' ha' => ?_, fun w hw => by rw [hB] at hw; cases hw⟩
        rw [hB] at ha'
        cases ha'
        refine ⟨⟨k + 1, by omega, rfl, ?_⟩, hmu⟩
        have hlen := actM_len kk (evK (fA f) H1 v 0) (evK (fA f) H1 v 1) m1
        by_cases htr : (actM kk (evK (fA f) H1 v 0) (evK (fA f) H1 v 1) m1).2.2 = true
        · right
          rw [if_pos htr] at h5
          subst h5
          rw [htr] at s2
          exact ⟨s2, s3, rfl⟩
        · left
          rw [if_neg htr] at h5
          rw [bool_f htr] at s2
          exact ⟨_, _, _, s2, s3, by rw [s1]; exact hOk.set h3 hv _, len_step hlen h4 hlt, h5⟩
    · have hkl2 : k = s := by omega
      subst hkl2
      rw [Nat.sub_self] at h5
      have hB : Runner_doValues_k_L3b f ru1 t1 (nI b) (nI k) = .inr (ru1, t1) := by
        unfold Runner_doValues_k_L3b
        rw [if_pos h1.1, oat_rs hb (by decide), hs7, if_neg (show ¬ nI k < nI k from nI_nlt (Nat.le_refl _) (by omega))]
      refine ⟨(fun a' ha' => by rw [hB] at ha'; cases ha'), fun w hw => ?_⟩
      rw [hB] at hw
      cases hw
      have h6 : (H1, m1, c1, false) = q := h5
      subst h6
      exact ⟨h1, h2, fun _ => h3⟩
  · have hB : Runner_doValues_k_L3b f ru1 t1 (nI b) (nI k) = .inr (ru1, t1) := by
      unfold Runner_doValues_k_L3b
      rw [if_neg (by rw [h1.1]; decide)]
    refine ⟨(fun a' ha' => by rw [hB] at ha'; cases ha'), fun w hw => ?_⟩
    rw [hB] at hw
    cases hw
    dsimp only
    rw [h3]
    exact ⟨h1, h2, fun z => by cases z⟩
def wfInv_k (f : Ob) (th : Nat → Prop) (r : Oc) (a : Int32 × Int32 × Int32 × Ob × Ob) : Prop := ∃ v, v ≤ 301 ∧ a.2.2.1 = nI v ∧ ((∃ d b H m c e, d + v = 300 ∧ th b ∧ a.1 = nI b ∧ Form_edgeOf f (nI b) a.2.1 = eI e ∧ (∀ k, e = some k → k < 100000) ∧ tpAt a.2.2.2.2 true 0 0 m c v ∧ tpKept 2408 a.2.2.2.2 m ∧ hOk a.2.2.2.1 H ∧ m.2.length ≤ 140 * v ∧ ruA (fA f) d b e H m c v = r) ∨ tpOc 2408 a.2.2.2.2 r ∧ a.2.2.2.2.2.2 0 = false)
theorem walkForm_spec_k {f ru t : Ob} {th : Nat → Prop} (hG : rGood f th) (x y : Int32) : tpOc 2408 (Runner_walkForm_k f ru t x y).2 (runA (fA f) x y) ∧ (Runner_walkForm_k f ru t x y).2.2.2 0 = false := by
  obtain ⟨hU, h0, hT⟩ := hG
  generalize hr : runA (fA f) x y = r
  unfold Runner_walkForm_k Runner_walkForm_k_L40
  refine loopW_inv (fun a : Int32 × Int32 × Int32 × Ob × Ob => Runner_walkForm_k_L40b f a.2.2.2.1 a.2.2.2.2 a.1 a.2.1 a.2.2.1) (fun a => 302 - tn a.2.2.1) (wfInv_k f th r) (fun w => tpOc 2408 w.2 r ∧ w.2.2.2 0 = false) (fun a hI => ?_) _ ⟨0, by decide, rfl, Or.inl ⟨300, 0, H0 x y, m0, 0, none, rfl, h0, rfl, edge_m1 (by decide) (hT 0 h0).2.2.1, (fun k hk => by cases hk), (begin_spec_k t).1, (begin_spec_k t).2 2408, ?_, Nat.zero_le _, hr⟩⟩
  · obtain ⟨v, hv, hav, hcase⟩ := hI
    obtain ⟨a1, a2, a3, ru1, t1⟩ := a
    dsimp only at hav hcase ⊢
    subst hav
    rcases hcase with ⟨d, b, H, m, c, e, hd, hb, hab, hed, hek, h1, h2, h3, h4, h5⟩ | ⟨h1, h2⟩
    · subst hab
      obtain ⟨hb', ⟨s, hs, hs7, hlist⟩, hE, kk, hk2, hk11, hways⟩ := hT b hb
      have p1 := doPhis_spec hU hb' ⟨s, hs, hs7, hlist⟩ hek h3
      rw [← hed] at p1
      obtain ⟨s1, s2, s3⟩ := doValues_spec_k (c := c) hU hb' hs hs7 hlist h1 h2 p1 (by omega)
      have hlen := vaA_len (fA f) (aLs (fA f) b) (phA (fA f) b e H) m c
      have hll : (aLs (fA f) b).length = s := by show (frw f b).length = s; unfold frw; rw [hs7, tn_nI (by omega), List.length_map, List.length_range]
      have hekk : aEk (fA f) b = kk := by show tn (f.1 11 b) = kk; rw [hk11, tn_nI (by omega)]
      generalize hdl : Runner_doValues_k f (Runner_doPhis f ru1 (nI b) (Form_edgeOf f (nI b) a2)) t1 (nI b) = dl at s1 s2 s3
      have hB : Runner_walkForm_k_L40b f ru1 t1 (nI b) a2 (nI v) = .inl (oat f 12 20 (nI b * 2 + (Tape_leaveBy_k dl.2 (nI kk) (Runner_reckon f dl.1 ((140 : Int32) + nI b) 0)).1), nI b * 2 + (Tape_leaveBy_k dl.2 (nI kk) (Runner_reckon f dl.1 ((140 : Int32) + nI b) 0)).1, nI (v + 1), dl.1, (Tape_leaveBy_k dl.2 (nI kk) (Runner_reckon f dl.1 ((140 : Int32) + nI b) 0)).2) := by
        unfold Runner_walkForm_k_L40b Runner_walkForm_k_80 Runner_walkForm_k_110
        rw [if_pos h1.1, if_neg (show ¬ (300 : Int32) < nI v from nI_nlt (a := 300) (b := v) (by omega) (by decide)), oat_rs (n := 10) hb' (by decide), hk11, nI_1, hdl]
      refine ⟨fun a' ha' => ?_, fun w hw => by rw [hB] at hw; cases hw⟩
      rw [hB] at ha'
      cases ha'
      have hmu : 302 - tn (nI (v + 1)) < 302 - tn (nI v) := by rw [tn_nI (by omega), tn_nI (by omega)]; omega
      refine ⟨⟨v + 1, by omega, rfl, ?_⟩, hmu⟩
      generalize hq : vaA (fA f) (aLs (fA f) b) (phA (fA f) b e H) m c = q at s1 s2 s3 hlen
      by_cases htr : q.2.2.2 = true
      · right
        rw [htr] at s1
        have hoff : dl.2.2.2 0 = false := s1.1
        dsimp only
        rw [leave_off_k hoff]
        refine ⟨?_, hoff⟩
        have hr2 : r = some (true, 0, q.2.1, q.2.2.1, v) := by
          rw [← h5]
          cases d with
          | zero => unfold ruA; rw [hq, if_pos htr]
          | succ d => unfold ruA; rw [hq, if_pos htr]
        rw [hr2]
        exact ⟨s1, s2⟩
      · have hf := bool_f htr
        rw [hf] at s1
        have hrd : Runner_reckon f dl.1 ((140 : Int32) + nI b) 0 = evK (fA f) q.1 (140 + b) 0 := by
          rw [ix140u]
          exact reckon_eq hU (s3 hf) (u := 140 + b) (k := 0) (by omega) (by decide)
        dsimp only
        rw [hrd]
        obtain ⟨k1, k2, k3, k4⟩ := leave_spec_k (x := evK (fA f) q.1 (140 + b) 0) s1 (show kk < 3 by omega) (show v ≤ 300 by omega)
        cases d with
        | zero =>
          right
          have h300 : v = 300 := by omega
          have hr2 : r = none := by
            rw [← h5]
            unfold ruA
            rw [hq, if_neg htr]
          have hc := k2 h300
          rw [hr2]
          subst h300
          exact ⟨⟨_, _, hc, kept_row k1 s2⟩, hc.1⟩
        | succ d =>
          have hlt : v < 300 := by omega
          by_cases he0 : kk = 0
          · right
            have hc := k3 hlt he0
            have hr2 : r = some (false, evK (fA f) q.1 (140 + b) 0, q.2.1, q.2.2.1, v + 1) := by
              rw [← h5]
              unfold ruA
              rw [hq, if_neg htr, hekk, if_pos he0]
            rw [hr2]
            exact ⟨⟨hc, kept_row k1 s2⟩, hc.1⟩
          · left
            obtain ⟨k5, k6⟩ := k4 hlt he0
            have hw : wyN kk (evK (fA f) q.1 (140 + b) 0) < kk := by
              unfold wyN
              split
              · rename_i hz; omega
              · omega
            obtain ⟨tt, ht1, ht2⟩ := hways _ hw
            have hw2 : wyN kk (evK (fA f) q.1 (140 + b) 0) < 2 := by omega
            have htt := (hT tt ht1).1
            obtain ⟨z1, z2⟩ := edge_eq (w := b * 2 + wyN kk (evK (fA f) q.1 (140 + b) 0)) htt (hT tt ht1).2.2.1 (by omega)
            refine ⟨d, tt, q.1, q.2.1, _, edI (fA f) tt (b * 2 + wyN kk (evK (fA f) q.1 (140 + b) 0)), by omega, ht1, ?_, ?_, z2, k6, kept_row k1 s2, s3 hf, by omega, ?_⟩
            · rw [k5, ix2, oat_rs (n := 20) (by omega) (by decide), ht2]
            · rw [k5, ix2]
              exact z1
            · rw [← h5]
              conv => rhs; unfold ruA
              have htg : aTg (fA f) (b * 2 + wyN kk (evK (fA f) q.1 (140 + b) 0)) = some tt := by
                show ftg f _ = some tt
                unfold ftg
                rw [ht2, if_neg (nI_m1 (by omega)), tn_nI (by omega)]
              rw [hq, if_neg htr, hekk, if_neg he0, htg]
    · have hB : Runner_walkForm_k_L40b f ru1 t1 a1 a2 (nI v) = .inr (ru1, t1) := by
        unfold Runner_walkForm_k_L40b
        rw [if_neg (by rw [h2]; decide)]
      refine ⟨(fun a' ha' => by rw [hB] at ha'; cases ha'), fun w hw => ?_⟩
      rw [hB] at hw
      cases hw
      exact ⟨h1, h2⟩
  · intro i hi
    show (oput (oput (ofil ru 1 0) 1 140 (nI 0) x) 1 140 (nI 1) y).1 1 i = _
    rw [oput_rs (show 1 < 140 by decide) (by decide), oput_rs (show 0 < 140 by decide) (by decide), rs_i, rs_i]
    unfold H0 uH ofil
    rw [oR_1, if_pos rfl]
