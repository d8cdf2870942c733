/-! WHAT IS KNOWN of values -/
def knA (kn : Nat → Nat) (nu : Nat → Int32) : Ag → Nat × Int32
  | .inl v => (kn v, nu v)
  | .inr n => (1, n)
def leK (p q : Nat × Int32) : Prop := p.1 = 0 ∨ q.1 = 2 ∨ p = q
noncomputable def rkK (k : Nat) (p q : Nat × Int32) : Nat × Int32 := if p.1 = 2 ∨ q.1 = 2 ∨ (k = 4 ∧ q.2 = 0) then (2, 0) else (1, Ph_reckoned (nI k) p.2 q.2)
def wayK (A : AF) (C : Nat → Prop) (al : Nat → Prop) (w : Nat) : Prop := al w ∧ ∃ t, aTg A w = some t ∧ C t
def aL (A : AF) (C : Nat → Prop) (al : Nat → Prop) (a c : Nat) : Prop := C a ∧ C c ∧ ∃ j, j < aEk A a ∧ al (a * 2 + j) ∧ aTg A (a * 2 + j) = some c
def VS1 (kn : Nat → Nat) (nu : Nat → Int32) : Prop := (∀ v, kn v ≤ 2) ∧ (∀ v, v < 2 → kn v = 2) ∧ ∀ v, 2 ≤ v → v < 6 → kn v ≠ 0 ∧ (kn v = 1 → nu v = 0)
def VS2 (A : AF) (C : Nat → Prop) (kn : Nat → Nat) (nu : Nat → Int32) : Prop := ∀ b u, C b → u ∈ aLs A b → (aKd A u = 6 → kn u = 2) ∧ (aKd A u = 7 ∨ aKd A u = 8 → kn u ≠ 1) ∧ (rck A u → ∀ x y, aAg A u = [x, y] → (knA kn nu x).1 ≠ 0 → (knA kn nu y).1 ≠ 0 → leK (rkK (aKd A u) (knA kn nu x) (knA kn nu y)) (kn u, nu u))
def VS3 (A : AF) (C : Nat → Prop) (kn : Nat → Nat) (nu : Nat → Int32) (al : Nat → Prop) : Prop := ∀ b u w x, C b → u ∈ aLs A b → aKd A u = 9 → (w, x) ∈ (aEd A b).zip (aAg A u) → C (w / 2) → al w → leK (knA kn nu x) (kn u, nu u)
def VS4 (A : AF) (C : Nat → Prop) (kn : Nat → Nat) (nu : Nat → Int32) (al : Nat → Prop) : Prop := ∀ b, C b → (aEk A b = 1 → wayK A C al (b * 2)) ∧ (aEk A b = 2 → ∀ x, aAg A (140 + b) = [x] → ((knA kn nu x).1 = 2 → wayK A C al (b * 2) ∧ wayK A C al (b * 2 + 1)) ∧ ((knA kn nu x).1 = 1 → wayK A C al (b * 2 + wyN 2 (knA kn nu x).2) ∧ ¬ al (b * 2 + (1 - wyN 2 (knA kn nu x).2))))
def VS (A : AF) (C : Nat → Prop) (kn : Nat → Nat) (nu : Nat → Int32) (al : Nat → Prop) : Prop := VS1 kn nu ∧ VS2 A C kn nu ∧ VS3 A C kn nu al ∧ VS4 A C kn nu al ∧ ∀ b, C b → RW (aL A C al) none b
theorem wyN_lt (x : Int32) : wyN 2 x < 2 := by
  unfold wyN
  split <;> decide
theorem wyN_1 (x : Int32) : wyN 1 x = 0 := by
  unfold wyN
  rw [if_neg (by omega)]
section KNOWN
variable {A : AF} {pl : Pl} {C : Nat → Prop} {kn : Nat → Nat} {nu : Nat → Int32} {al : Nat → Prop}
theorem way_zip (hg : gd A pl C) {b u w : Nat} (hb : C b) (hu : u ∈ aLs A b) (h9 : aKd A u = 9) (hw : w ∈ aEd A b) : ∃ x, (w, x) ∈ (aEd A b).zip (aAg A u) := by
  obtain ⟨x, hz, -⟩ := evE_way (H := fun _ => 0) hw ((hg.2.2.1.1 b u hb hu).1 h9)
  exact ⟨x, hz⟩
theorem two_args {l : List Ag} (h : l.length = 2) : ∃ x y, l = [x, y] := by
  match l, h with
  | [x, y], _ => exact ⟨x, y, rfl⟩
theorem one_arg {l : List Ag} (h : l.length = 1) : ∃ x, l = [x] := by
  match l, h with
  | [x], _ => exact ⟨x, rfl⟩
theorem leK_1 {p q : Nat × Int32} (h : leK p q) (hp : p.1 ≠ 0) : q.1 ≠ 0 := by
  rcases h with h | h | h
  · exact absurd h hp
  · omega
  · rw [← h]; exact hp
theorem leK_num {p q : Nat × Int32} (h : leK p q) (hp : p.1 ≠ 0) (hq : q.1 = 1) : p = q := by
  rcases h with h | h | h
  · exact absurd h hp
  · omega
  · exact h
theorem rkK_1 (k : Nat) (p q : Nat × Int32) : (rkK k p q).1 ≠ 0 := by
  unfold rkK
  split <;> simp
theorem usb_rck (hg : gd A pl C) {b u : Nat} (hb : C b) (hu : u ∈ aLs A b) (hs : usb A u) (h9 : aKd A u ≠ 9) : aKd A u = 6 ∨ rck A u := by
  have h := hg.1.2.2.1 u b ((hg.1.1 b hb u).mp hu)
  unfold rck
  rcases hs with h1 | h1 | h1
  · omega
  · omega
  · exact absurd h1 h9
/-- behind what is known at a block's beginning -/
theorem VS_blk (hg : gd A pl C) (h2 : VS2 A C kn nu) {b : Nat} (hb : C b) (h0 : ∀ v, usb A v → avl A pl C b [] v → kn v ≠ 0) : ∀ (n : Nat) (l1 l2 : List Nat), l1.length = n → aLs A b = l1 ++ l2 → ∀ v, usb A v → avl A pl C b l1 v → kn v ≠ 0 := by
  intro n
  induction n with
  | zero =>
    intro l1 l2 hn _ v hs ha
    rw [List.length_eq_zero_iff.mp hn] at ha
    exact h0 v hs ha
  | succ n ih =>
    intro l1 l2 hn hl v hs ha
    rcases List.eq_nil_or_concat l1 with e | ⟨l', u, e⟩
    · rw [e] at hn; cases hn
    · rw [List.concat_eq_append] at e
      subst e
      have hn' : l'.length = n := by simpa using hn
      have hl' : aLs A b = l' ++ u :: l2 := by rw [hl]; simp
      have hu : u ∈ aLs A b := by rw [hl']; exact List.mem_append_right _ List.mem_cons_self
      rcases avl.app ha with e | ha'
      · subst e
        by_cases h9 : aKd A v = 9
        · exact h0 v hs (Or.inr (Or.inl ⟨(hg.1.1 b hb v).mp hu, Or.inl h9⟩))
        · rcases usb_rck hg hb hu hs h9 with h6 | hr
          · rw [(h2 b v hb hu).1 h6]
            decide
          · obtain ⟨x, y, hxy⟩ := two_args (((hg.2.2.1.1 b v hb hu).2.1) (Or.inl hr.2))
            have arg : ∀ z, z ∈ aAg A v → (knA kn nu z).1 ≠ 0 := fun z hz => by
              cases z with
              | inr n => exact Nat.one_ne_zero
              | inl w =>
                obtain ⟨q1, q2⟩ := hg.2.2.2.1 b l' v l2 hb hl' h9 w hz
                exact ih l' (v :: l2) hn' hl' w q1 q2
            exact leK_1 ((h2 b v hb hu).2.2 hr x y hxy (arg x (by rw [hxy]; simp)) (arg y (by rw [hxy]; simp))) (rkK_1 _ _ _)
      · exact ih l' (u :: l2) hn' hl' v hs ha'
theorem VS_beg (hg : gd A pl C) (hv : VS A C kn nu al) {b : Nat} (hb : C b) : ∀ v, usb A v → avl A pl C b [] v → kn v ≠ 0 := by
  obtain ⟨⟨k1, k2, k3⟩, h2, h3, h4, h5⟩ := hv
  have low : ∀ v, v < 6 → kn v ≠ 0 := fun v hv6 => by
    by_cases hv2 : v < 2
    · rw [k2 v hv2]; decide
    · exact (k3 v (by omega) hv6).1
  refine RW_ind (E := aL A C al) (o := none) (P := fun b => ∀ v, usb A v → avl A pl C b [] v → kn v ≠ 0) (fun _ v hs ha => ?_) (fun a c ha ih he _ _ v hs hav => ?_) (h5 b hb)
  · rcases ha with h | ⟨h, h9⟩ | ⟨p, h, hp, h3⟩
    · exact low v h
    · rcases h9 with h9 | h9
      · exact absurd h9 (hg.1.2.2.2.1 v ((hg.1.1 0 hg.2.1.1 v).mpr h))
      · cases h9
    · exact absurd (RW_base fun e => hp (Option.some.inj e)) h3
  · obtain ⟨hCa, hCc, j, hj, hal, htg⟩ := he
    have end_ : ∀ v, usb A v → avl A pl C a (aLs A a) v → kn v ≠ 0 := VS_blk hg h2 hCa ih _ (aLs A a) [] rfl (by simp)
    rcases avl.edge hg ⟨hCa, j, hj, htg⟩ hav with ⟨q1, q2⟩ | ⟨q1, q2⟩
    · have hvm := (hg.1.1 c hCc v).mpr q1
      obtain ⟨x, hz⟩ := way_zip hg hCc hvm q2 (hg.2.1.2.2.2.1 c a j hCc hCa hj htg)
      have hj2 : (a * 2 + j) / 2 = a := by have := hg.2.1.2.2.2.2.2.2 a hCa; omega
      refine leK_1 (h3 c v _ x hCc hvm q2 hz (by rw [hj2]; exact hCa) hal) ?_
      cases x with
      | inr n => exact Nat.one_ne_zero
      | inl w =>
        have := hg.2.2.2.2.2 c v _ w hCc hvm q2 hz (by rw [hj2]; exact hCa)
        rw [hj2] at this
        exact end_ w this.1 this.2
    · exact end_ v hs q2
/-- all that may be used is known -/
theorem VS_av (hg : gd A pl C) (hv : VS A C kn nu al) {b : Nat} (hb : C b) {l1 l2 : List Nat} (hl : aLs A b = l1 ++ l2) {v : Nat} (hs : usb A v) (ha : avl A pl C b l1 v) : kn v ≠ 0 := VS_blk hg hv.2.1 hb (VS_beg hg hv hb) _ l1 l2 rfl hl v hs ha
theorem VS_end (hg : gd A pl C) (hv : VS A C kn nu al) {b : Nat} {x : Ag} (hb : C b) (hx : x ∈ aAg A (140 + b)) : (knA kn nu x).1 ≠ 0 := by
  cases x with
  | inr n => exact Nat.one_ne_zero
  | inl w =>
    obtain ⟨q1, q2⟩ := hg.2.2.2.2.1 b w hb hx
    exact VS_av hg hv hb (l1 := aLs A b) (l2 := []) (by simp) q1 q2
def VSP (A : AF) (pl : Pl) (C : Nat → Prop) (kn : Nat → Nat) (nu : Nat → Int32) (b : Nat) (l : List Nat) (H : Hd) : Prop := C b ∧ ∀ v, avl A pl C b l v → kn v = 1 → H v = nu v
theorem VSP_ag {b : Nat} {l : List Nat} {H : Hd} (h : VSP A pl C kn nu b l H) {x : Ag} (hx : ∀ w, x = .inl w → avl A pl C b l w) (h1 : (knA kn nu x).1 = 1) : evA H x = (knA kn nu x).2 := by
  cases x with
  | inr n => rfl
  | inl w => exact h.2 w (hx w rfl) h1
theorem VSP_way (hg : gd A pl C) (hv : VS A C kn nu al) {b : Nat} {H : Hd} (h : VSP A pl C kn nu b (aLs A b) H) (h0 : aEk A b ≠ 0) : wayK A C al (wyA A b H) := by
  have hb := h.1
  have h2 := hg.2.1.2.2.2.2.2.2 b hb
  unfold wyA
  rcases show aEk A b = 1 ∨ aEk A b = 2 by omega with e | e
  · rw [e, wyN_1]
    exact (hv.2.2.2.1 b hb).1 e
  · obtain ⟨x, hx⟩ := one_arg ((hg.2.2.1.2 b hb).2 (by omega))
    have hxm : x ∈ aAg A (140 + b) := by rw [hx]; exact List.mem_cons_self
    have hev : evK A H (140 + b) 0 = evA H x := by unfold evK; rw [hx]; rfl
    have hk0 := VS_end hg hv hb hxm
    have hk2 : (knA kn nu x).1 ≤ 2 := by
      cases x with
      | inr n => exact Nat.le_succ 1
      | inl w => exact hv.1.1 w
    obtain ⟨g1, g2⟩ := (hv.2.2.2.1 b hb).2 e x hx
    rw [e, hev]
    rcases show (knA kn nu x).1 = 1 ∨ (knA kn nu x).1 = 2 by omega with k | k
    · rw [VSP_ag h (fun w hw => (hg.2.2.2.2.1 b w hb (by rw [← hw]; exact hxm)).2) k]
      exact (g2 k).1
    · have := wyN_lt (evA H x)
      rcases show wyN 2 (evA H x) = 0 ∨ wyN 2 (evA H x) = 1 by omega with q | q
      · rw [q]; exact (g1 k).1
      · rw [q]; exact (g1 k).2
/-- a number that is reckoned of numbers -/
theorem VS_rk (hg : gd A pl C) (hv : VS A C kn nu al) {b v : Nat} {l1 l2 : List Nat} {H : Hd} (hp : VSP A pl C kn nu b l1 H) (hl : aLs A b = l1 ++ v :: l2) (hr : rck A v) (h1 : kn v = 1) : ∃ p q, evK A H v 0 = p ∧ evK A H v 1 = q ∧ ¬ (aKd A v = 4 ∧ q = 0) ∧ Ph_reckoned (nI (aKd A v)) p q = nu v := by
  have hb := hp.1
  have hu : v ∈ aLs A b := by rw [hl]; exact List.mem_append_right _ List.mem_cons_self
  have h9 : aKd A v ≠ 9 := by have := hr.2; omega
  obtain ⟨x, y, hxy⟩ := two_args (((hg.2.2.1.1 b v hb hu).2.1) (Or.inl hr.2))
  have av : ∀ z, z ∈ aAg A v → ∀ w, z = .inl w → usb A w ∧ avl A pl C b l1 w := fun z hz w e => hg.2.2.2.1 b l1 v l2 hb hl h9 w (by rw [← e]; exact hz)
  have kz : ∀ z, z ∈ aAg A v → (knA kn nu z).1 ≠ 0 := fun z hz => by
    cases z with
    | inr n => exact Nat.one_ne_zero
    | inl w => exact VS_av hg hv hb hl (av _ hz w rfl).1 (av _ hz w rfl).2
  have hx : x ∈ aAg A v := by rw [hxy]; simp
  have hy : y ∈ aAg A v := by rw [hxy]; simp
  have q := leK_num ((hv.2.1 b v hb hu).2.2 hr x y hxy (kz x hx) (kz y hy)) (rkK_1 _ _ _) h1
  unfold rkK at q
  by_cases hq : (knA kn nu x).1 = 2 ∨ (knA kn nu y).1 = 2 ∨ (aKd A v = 4 ∧ (knA kn nu y).2 = 0)
  · rw [if_pos hq] at q
    have := (Prod.mk.inj q).1
    omega
  · rw [if_neg hq] at q
    have le2 : ∀ z, (knA kn nu z).1 ≤ 2 := fun z => by
      cases z with
      | inr n => exact Nat.le_succ 1
      | inl w => exact hv.1.1 w
    have x1 : (knA kn nu x).1 = 1 := by have := kz x hx; have := le2 x; omega
    have y1 : (knA kn nu y).1 = 1 := by have := kz y hy; have := le2 y; omega
    have e0 : evK A H v 0 = (knA kn nu x).2 := by
      rw [← VSP_ag hp (fun w hw => (av x hx w hw).2) x1]
      unfold evK; rw [hxy]; rfl
    have e1 : evK A H v 1 = (knA kn nu y).2 := by
      rw [← VSP_ag hp (fun w hw => (av y hy w hw).2) y1]
      unfold evK; rw [hxy]; rfl
    exact ⟨_, _, e0, e1, fun z => hq (Or.inr (Or.inr z)), (Prod.mk.inj q).2⟩
theorem VS_inv (hg : gd A pl C) (hv : VS A C kn nu al) : PInv A (VSP A pl C kn nu) := by
  obtain ⟨⟨k1, k2, k3⟩, h2, h3, h4, h5⟩ := id hv
  refine ⟨fun x y => ⟨hg.2.1.1, fun v ha h1 => ?_⟩, fun b l1 u l2 H m hl hp h9 hf => ⟨hp.1, fun v ha h1 => ?_⟩, fun b l1 u l2 H hl hp h9 => ⟨hp.1, fun v ha h1 => hp.2 v ?_ h1⟩, fun b H t hp h0 ht => ?_⟩
  · rcases ha with h | ⟨h, q9⟩ | ⟨p, h, hp, q3⟩
    · have hv2 : ¬ v < 2 := fun q => by rw [k2 v q] at h1; cases h1
      rw [phA_out fun q => hg.1.2.2.2.1 v q]
      rw [(k3 v (by omega) h).2 h1]
      unfold H0 uH
      rw [if_neg (by omega), if_neg (by omega)]
    · rcases q9 with q9 | q9
      · exact absurd q9 (hg.1.2.2.2.1 v ((hg.1.1 0 hg.2.1.1 v).mpr h))
      · cases q9
    · exact absurd (RW_base fun e => hp (Option.some.inj e)) q3
  · have hb := hp.1
    have hu : u ∈ aLs A b := by rw [hl]; exact List.mem_append_right _ List.mem_cons_self
    show uH H u _ v = nu v
    unfold uH
    by_cases hvu : v = u
    · rw [if_pos hvu]
      subst hvu
      have hr : rck A v := by
        have h := hg.1.2.2.1 v b ((hg.1.1 b hb v).mp hu)
        refine ⟨h.2.2.1, ?_⟩
        have q := h2 b v hb hu
        refine Classical.byContradiction fun hn => ?_
        rcases show aKd A v = 6 ∨ (aKd A v = 7 ∨ aKd A v = 8) by omega with z | z
        · rw [q.1 z] at h1; cases h1
        · exact q.2.1 z h1
      obtain ⟨p, q, e0, e1, -, hq⟩ := VS_rk hg hv hp hl hr h1
      rw [act_rck hr.1 hr.2, e0, e1]
      exact hq
    · rw [if_neg hvu]
      exact hp.2 v ((avl.app ha).resolve_left hvu) h1
  · rcases avl.app ha with e | ha'
    · subst e
      exact Or.inr (Or.inl ⟨(hg.1.1 b hp.1 v).mp (by rw [hl]; exact List.mem_append_right _ List.mem_cons_self), Or.inl h9⟩)
    · exact ha'
  · obtain ⟨hal, t', ht', htC⟩ := VSP_way hg hv hp h0
    have e : t' = t := Option.some.inj (ht'.symm.trans ht)
    subst e
    refine ⟨htC, fun v ha h1 => ?_⟩
    have hb := hp.1
    have he := wyA_edge hg hb h0 ht
    rcases avl.edge hg he ha with ⟨q1, q9⟩ | ⟨q1, q2⟩
    · have hvm := (hg.1.1 t' htC v).mpr q1
      obtain ⟨j, hj, ew⟩ := wyA_lt (H := H) (hg.2.1.2.2.2.2.2.2 b hb) h0
      have hj2 : j < 2 := by have := hg.2.1.2.2.2.2.2.2 b hb; omega
      have hw : wyA A b H ∈ aEd A t' := by rw [ew]; exact hg.2.1.2.2.2.1 t' b j htC hb hj (by rw [← ew]; exact ht)
      obtain ⟨x, hz, hx⟩ := evE_way (H := H) hw ((hg.2.2.1.1 t' v htC hvm).1 q9)
      have hw2 : wyA A b H / 2 = b := by omega
      have hph : phA A t' (edI A t' (wyA A b H)) H v = evA H x := by
        rw [← hx]
        unfold phA
        rw [if_pos ⟨hvm, q9⟩]
      have av : ∀ w, x = .inl w → usb A w ∧ avl A pl C b (aLs A b) w := fun w e => by
        have := hg.2.2.2.2.2 t' v _ w htC hvm q9 (by rw [← e]; exact hz) (by rw [hw2]; exact hb)
        rw [hw2] at this
        exact this
      have kx : (knA kn nu x).1 ≠ 0 := by
        cases x with
        | inr n => exact Nat.one_ne_zero
        | inl w => exact VS_av hg hv hb (l1 := aLs A b) (l2 := []) (by simp) (av w rfl).1 (av w rfl).2
      have q := leK_num (h3 t' v _ x htC hvm q9 hz (by rw [hw2]; exact hb) hal) kx h1
      rw [hph, VSP_ag hp (fun w hw => (av w hw).2) (by rw [q]; exact h1), q]
    · rw [phA_out fun q => absurd ((hg.1.1 t' htC v).mp q) q1]
      exact hp.2 v q2 h1
end KNOWN
