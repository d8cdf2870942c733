section LOSE
variable {A B : AF} {pl : Pl} {C : Nat → Prop} {kn : Nat → Nat} {nu : Nat → Int32} {al : Nat → Prop}
/-- a block is lost, with all that is in it -/
def aLose (A : AF) (n : Nat) : AF := (aKd A, fun u => if u ∈ aLs A n ∨ u = 140 + n then [] else aAg A u, fun b => if b = n then [] else aLs A b, fun b => if b = n then [] else aEd A b, aEk A, aTg A)
def plL (pl : Pl) (n : Nat) : Pl := fun z => if pl z = some n then none else pl z
def aGone (A : AF) (n : Nat) : AF := aLose (aDrop (aDrop A (n * 2)) (n * 2 + 1)) n
theorem plL_iff {n b v : Nat} (h : b ≠ n) : plL pl n v = some b ↔ pl v = some b := by
  unfold plL
  by_cases hv : pl v = some n
  · rw [if_pos hv]
    constructor
    · intro q; cases q
    · intro q; exact absurd (Option.some.inj (q.symm.trans hv)) h
  · rw [if_neg hv]
theorem plL_sub {n p v : Nat} (h : plL pl n v = some p) : pl v = some p := by
  unfold plL at h
  by_cases hv : pl v = some n
  · rw [if_pos hv] at h; cases h
  · rw [if_neg hv] at h; exact h
theorem gone_facts (hW : gW A pl allC) (n : Nat) :
    (∀ v, aKd (aGone A n) v = aKd A v) ∧ (∀ c, c ≠ n → aLs (aGone A n) c = aLs A c) ∧ (∀ c, aEk (aGone A n) c = aEk A c) ∧ (∀ w, w / 2 ≠ n → aTg (aGone A n) w = aTg A w) ∧
    (∀ c u, c ≠ n → u ∈ aLs A c → aKd A u ≠ 9 → aAg (aGone A n) u = aAg A u) ∧ (∀ c, c ≠ n → aAg (aGone A n) (140 + c) = aAg A (140 + c)) ∧
    (∀ c, c ≠ n → ∀ w, w ∈ aEd (aGone A n) c ↔ w ∈ aEd A c ∧ w / 2 ≠ n) ∧
    (∀ c u, c ≠ n → u ∈ aLs A c → aKd A u = 9 → ∀ w a, (w, a) ∈ (aEd (aGone A n) c).zip (aAg (aGone A n) u) ↔ (w, a) ∈ (aEd A c).zip (aAg A u) ∧ w / 2 ≠ n) ∧ gW (aGone A n) (plL pl n) allC := by
  have W1 := drop_W hW (n * 2)
  have W2 := drop_W W1 (n * 2 + 1)
  obtain ⟨d1, d2, d3⟩ := drop_same A (n * 2)
  obtain ⟨d4, d5, d6⟩ := drop_same (aDrop A (n * 2)) (n * 2 + 1)
  have hls : aLs (aDrop (aDrop A (n * 2)) (n * 2 + 1)) = aLs A := d5.trans d2
  have hkd : aKd (aDrop (aDrop A (n * 2)) (n * 2 + 1)) = aKd A := d4.trans d1
  have hne : ∀ c u, c ≠ n → u ∈ aLs A c → ¬ (u ∈ aLs (aDrop (aDrop A (n * 2)) (n * 2 + 1)) n ∨ u = 140 + n) := fun c u hc hu q => by
    rcases q with q | q
    · rw [hls] at q
      exact hc (Option.some.inj ((hW.1 c u hu).1.symm.trans (hW.1 n u q).1))
    · have := (hW.1 c u hu).2
      omega
  have hag : ∀ c u, c ≠ n → u ∈ aLs A c → aAg (aGone A n) u = aAg (aDrop (aDrop A (n * 2)) (n * 2 + 1)) u := fun c u hc hu => if_neg (hne c u hc hu)
  have hed : ∀ c, c ≠ n → aEd (aGone A n) c = aEd (aDrop (aDrop A (n * 2)) (n * 2 + 1)) c := fun c hc => if_neg hc
  have hlc : ∀ c, c ≠ n → aLs (aGone A n) c = aLs A c := fun c hc => by
    show (if c = n then [] else aLs (aDrop (aDrop A (n * 2)) (n * 2 + 1)) c) = _
    rw [if_neg hc, hls]
  have htg : ∀ w, w / 2 ≠ n → aTg (aGone A n) w = aTg A w := fun w hw => by
    show aTg (aDrop (aDrop A (n * 2)) (n * 2 + 1)) w = _
    rw [drop_tg _ _ _ (by omega), drop_tg _ _ _ (by omega)]
  have hem : ∀ c, c ≠ n → ∀ w, w ∈ aEd (aGone A n) c ↔ w ∈ aEd A c ∧ w / 2 ≠ n := fun c hc w => by
    rw [hed c hc, drop_ed W1 _ trivial, drop_ed hW _ trivial]
    constructor
    · rintro ⟨⟨q1, q2⟩, q3⟩
      exact ⟨q1, by omega⟩
    · rintro ⟨q1, q2⟩
      exact ⟨⟨q1, by omega⟩, by omega⟩
  refine ⟨fun v => by show aKd (aDrop (aDrop A (n * 2)) (n * 2 + 1)) v = _; rw [hkd], hlc, fun c => by show aEk (aDrop (aDrop A (n * 2)) (n * 2 + 1)) c = _; rw [d6, d3], htg, fun c u hc hu h9 => ?_, fun c hc => ?_, hem, fun c u hc hu h9 w a => ?_, ⟨fun c v hv => ?_, fun c _ => ?_, fun c u _ hu h9 => ?_, fun c w _ hw => ?_⟩⟩
  · rw [hag c u hc hu, drop_ag _ _ _ fun _ _ => by rw [d1]; exact h9, drop_ag _ _ _ fun _ _ => h9]
  · show (if 140 + c ∈ aLs (aDrop (aDrop A (n * 2)) (n * 2 + 1)) n ∨ 140 + c = 140 + n then [] else aAg (aDrop (aDrop A (n * 2)) (n * 2 + 1)) (140 + c)) = _
    rw [if_neg]
    · rw [drop_ag _ _ _ fun t ht => by rw [d2] at ht; have := (hW.1 t _ ht).2; omega, drop_ag _ _ _ fun t ht => by have := (hW.1 t _ ht).2; omega]
    · rintro (q | q)
      · rw [hls] at q
        have := (hW.1 n _ q).2
        omega
      · omega
  · rw [hag c u hc hu, hed c hc, drop_zip W1 _ trivial (by rw [d2]; exact hu) (by rw [d1]; exact h9), drop_zip hW _ trivial hu h9]
    constructor
    · rintro ⟨⟨q1, q2⟩, q3⟩
      exact ⟨q1, by omega⟩
    · rintro ⟨q1, q2⟩
      exact ⟨⟨q1, by omega⟩, by omega⟩
  · by_cases hc : c = n
    · rw [hc] at hv
      have hv' : v ∈ (if n = n then [] else aLs (aDrop (aDrop A (n * 2)) (n * 2 + 1)) n) := hv
      rw [if_pos rfl] at hv'
      cases hv'
    · rw [hlc c hc] at hv
      exact ⟨(plL_iff hc).mpr (hW.1 c v hv).1, (hW.1 c v hv).2⟩
  · by_cases hc : c = n
    · show (if c = n then [] else aEd (aDrop (aDrop A (n * 2)) (n * 2 + 1)) c).Nodup
      rw [if_pos hc]
      exact List.nodup_nil
    · rw [hed c hc]
      exact W2.2.1 c trivial
  · by_cases hc : c = n
    · rw [hc] at hu
      have hu' : u ∈ (if n = n then [] else aLs (aDrop (aDrop A (n * 2)) (n * 2 + 1)) n) := hu
      rw [if_pos rfl] at hu'
      cases hu'
    · rw [hlc c hc] at hu
      rw [hag c u hc hu, hed c hc]
      exact W2.2.2.1 c u trivial (by rw [hls]; exact hu) h9
  · by_cases hc : c = n
    · rw [hc] at hw
      have hw' : w ∈ (if n = n then [] else aEd (aDrop (aDrop A (n * 2)) (n * 2 + 1)) n) := hw
      rw [if_pos rfl] at hw'
      cases hw'
    · obtain ⟨q1, q2⟩ := (hem c hc w).mp hw
      rw [htg w q2]
      exact hW.2.2.2 c w trivial q1
theorem gone_ok (hg : gd A pl C) (hW : gW A pl allC) (hv : VS A C kn nu al) {n : Nat} (hn : ¬ C n) : gd (aGone A n) (plL pl n) C ∧ VS (aGone A n) C kn nu al ∧ ∀ x y, noWorse (runA A x y) (runA (aGone A n) x y) := by
  obtain ⟨f1, f2, f3, f4, f5, f6, f7, f8, fW⟩ := gone_facts hW n
  have hgL := hg.1
  obtain ⟨e1, e2, e3, e4, e5, e6, e7⟩ := hg.2.1
  have ne : ∀ {c}, C c → c ≠ n := fun hc e => hn (by rw [← e]; exact hc)
  have tg : ∀ a j, C a → j < aEk A a → aTg (aGone A n) (a * 2 + j) = aTg A (a * 2 + j) := fun a j ha hj => f4 _ (by have := ne ha; have := e7 a ha; omega)
  have hE : ∀ a c, aE (aGone A n) C a c → aE A C a c := fun a c ⟨q1, j, q2, q3⟩ => by
    rw [f3] at q2
    rw [tg a j q1 q2] at q3
    exact ⟨q1, j, q2, q3⟩
  have hA : ∀ {c v : Nat} {l : List Nat}, C c → avl A pl C c l v → avl (aGone A n) (plL pl n) C c l v := fun hc h => avl_anti f1 hE (fun p hp q => (plL_iff (by
    rcases q with q | q
    · rw [q]; exact ne hc
    · exact ne (dom_C hg hc q))).mpr hp) h
  have hU : ∀ {v : Nat}, usb A v → usb (aGone A n) v := fun h => by unfold usb; rw [f1]; exact h
  have hV5 : ∀ c, C c → RW (aL (aGone A n) C al) none c := fun c hc => by
    refine RW_mono (fun a d q => ?_) (hv.2.2.2.2 c hc)
    obtain ⟨qa, qd, i, q1, q2, q3⟩ := q
    exact ⟨qa, qd, i, by rw [f3]; exact q1, q2, by rw [tg a i qa q1]; exact q3⟩
  refine ⟨⟨⟨fun c hc v => by rw [f2 c (ne hc), plL_iff (ne hc)]; exact hgL.1 c hc v, fun c hc => by rw [f2 c (ne hc)]; exact hgL.2.1 c hc, fun v p hp => by rw [f1]; exact hgL.2.2.1 v p (plL_sub hp), fun v => by rw [f2 0 (ne e1), f1]; exact hgL.2.2.2.1 v, fun c l1 u l2 hc => by rw [f2 c (ne hc), f1]; intro q1 q2 z hz; rw [f1]; exact hgL.2.2.2.2 c l1 u l2 hc q1 q2 z hz⟩, ⟨e1, fun c hc => ?_, fun c hc => fW.2.1 c trivial, fun c s i hc hs hi q => ?_, fun c w hc hw hwC => ⟨?_, fW.2.2.2 c w trivial hw⟩, ?_, fun c hc => by rw [f3]; exact e7 c hc⟩, ⟨fun c u hc hu => ?_, fun c hc => by rw [f3, f6 c (ne hc)]; exact hg.2.2.1.2 c hc⟩, ⟨fun c l1 u l2 hc hl h9 v hv' => ?_, fun c v hc hv' => ?_, fun c u w v hc hu h9 hz hwC => ?_⟩⟩, ⟨hv.1, fun c u hc hu => ?_, fun c u w a hc hu h9 hz hwC hal => ?_, fun c hc => ?_, hV5⟩, fun x y => ?_⟩
  · refine RW_mono (fun a d q => ?_) (hV5 c hc)
    obtain ⟨qa, qd, i, q1, q2, q3⟩ := q
    exact ⟨⟨qa, i, q1, q3⟩, qd⟩
  · rw [f3] at hi
    rw [tg s i hs hi] at q
    exact (f7 c (ne hc) _).mpr ⟨e4 c s i hc hs hi q, by have := ne hs; have := e7 s hs; omega⟩
  · obtain ⟨q1, q2⟩ := (f7 c (ne hc) w).mp hw
    rw [f3]
    exact (e5 c w hc q1 hwC).1
  · refine List.eq_nil_iff_forall_not_mem.mpr fun w hw => ?_
    have := ((f7 0 (ne e1) w).mp hw).1
    rw [e6] at this
    cases this
  · rw [f2 c (ne hc)] at hu
    rw [f1]
    have hnn := hg.2.2.1.1 c u hc hu
    refine ⟨fun h9 => fW.2.2.1 c u trivial (by rw [f2 c (ne hc)]; exact hu) (by rw [f1]; exact h9), fun q => ?_, fun q => ?_⟩
    · rw [f5 c u (ne hc) hu (by omega)]; exact hnn.2.1 q
    · rw [f5 c u (ne hc) hu (by omega)]; exact hnn.2.2 q
  · rw [f2 c (ne hc)] at hl
    rw [f1] at h9
    rw [f5 c u (ne hc) (by rw [hl]; exact List.mem_append_right _ List.mem_cons_self) h9] at hv'
    obtain ⟨q1, q2⟩ := hg.2.2.2.1 c l1 u l2 hc hl h9 v hv'
    exact ⟨hU q1, hA hc q2⟩
  · rw [f6 c (ne hc)] at hv'
    obtain ⟨q1, q2⟩ := hg.2.2.2.2.1 c v hc hv'
    rw [f2 c (ne hc)]
    exact ⟨hU q1, hA hc q2⟩
  · rw [f2 c (ne hc)] at hu
    rw [f1] at h9
    obtain ⟨q1, q2⟩ := hg.2.2.2.2.2 c u w v hc hu h9 ((f8 c u (ne hc) hu h9 w _).mp hz).1 hwC
    rw [f2 _ (ne hwC)]
    exact ⟨hU q1, hA hwC q2⟩
  · rw [f2 c (ne hc)] at hu
    rw [f1]
    obtain ⟨q1, q2, q3⟩ := hv.2.1 c u hc hu
    refine ⟨q1, q2, fun hr => ?_⟩
    have hr' : rck A u := by unfold rck at hr ⊢; rw [f1] at hr; exact hr
    rw [f5 c u (ne hc) hu (by have := hr'.2; omega)]
    exact q3 hr'
  · rw [f2 c (ne hc)] at hu
    rw [f1] at h9
    exact hv.2.2.1 c u w a hc hu h9 ((f8 c u (ne hc) hu h9 w _).mp hz).1 hwC hal
  · have wk : ∀ i, i < 2 → wayK A C al (c * 2 + i) → wayK (aGone A n) C al (c * 2 + i) := fun i hi q => ⟨q.1, by rw [f4 _ (by have := ne hc; omega)]; exact q.2⟩
    rw [f3, f6 c (ne hc)]
    obtain ⟨g1, g2⟩ := hv.2.2.2.1 c hc
    refine ⟨fun q => wk 0 (by decide) (g1 q), fun q a ha => ?_⟩
    obtain ⟨g3, g4⟩ := g2 q a ha
    exact ⟨fun k => ⟨wk 0 (by decide) (g3 k).1, wk 1 (by decide) (g3 k).2⟩, fun k => ⟨wk _ (wyN_lt _) (g4 k).1, (g4 k).2⟩⟩
  · refine way_sim (B := aGone A n) (C := C) (VS_inv hg hv) (fun c l H h => h.1) f1 (fun c hc => f2 c (ne hc)) (fun c u hc hu h9 => f5 c u (ne hc) hu h9) (fun c hc h0 => ⟨by rw [f3]; exact h0, f6 c (ne hc)⟩) (fun c H s hp h0 hs => ?_) x y
    have hc := hp.1
    obtain ⟨i, hi, ew⟩ := wyA_lt (H := H) (e7 c hc) h0
    have hi2 : i < 2 := by have := e7 c hc; omega
    have hsC : C s := by
      obtain ⟨-, s', q1, q2⟩ := VSP_way hg hv hp h0
      rw [q1] at hs
      cases hs
      exact q2
    have hmem : wyA A c H ∈ aEd A s := by rw [ew]; exact e4 s c i hsC hc hi (by rw [← ew]; exact hs)
    have hw2 : wyA A c H / 2 ≠ n := by have := ne hc; omega
    have hwB : wyA (aGone A n) c H = wyA A c H := by
      unfold wyA evK
      rw [f3, f6 c (ne hc)]
    rw [f3, hwB]
    refine ⟨h0, id, by rw [f4 _ hw2]; exact hs, fun u hu h9 => ?_⟩
    obtain ⟨z, hz⟩ := way_zip hg hsC hu h9 hmem
    rw [evE_zip (e3 s hsC) hz, evE_zip (fW.2.1 s trivial) ((f8 s u (ne hsC) hu h9 _ z).mpr ⟨hz, hw2⟩)]
/-- a number that is known is put in -/
theorem knA_sb {v : Nat} (hk : kn v = 1) (z : Ag) : knA kn nu (sb v (.inr (nu v)) z) = knA kn nu z := by
  unfold sb
  by_cases h : z = .inl v
  · rw [if_pos h, h]
    show (1, nu v) = (kn v, nu v)
    rw [hk]
  · rw [if_neg h]
theorem num_ok (hg : gd A pl C) (hv : VS A C kn nu al) {v : Nat} (hv140 : v < 140) (hk : kn v = 1) (hpl : v < 6 ∨ ∃ b, C b ∧ v ∈ aLs A b) : gd (aRep A v (.inr (nu v))) (plR pl v) C ∧ VS (aRep A v (.inr (nu v))) C kn nu al ∧ ∀ x y, noWorse (runA A x y) (runA (aRep A v (.inr (nu v))) x y) := by
  have hmem : ∀ b u, u ∈ aLs (aRep A v (.inr (nu v))) b ↔ u ∈ aLs A b ∧ u ≠ v := fun b u => by
    show u ∈ (aLs A b).filter _ ↔ _
    rw [List.mem_filter]
    simp
  have hU : ∀ u, u ≠ v → aAg (aRep A v (.inr (nu v))) u = (aAg A u).map (sb v (.inr (nu v))) := fun u hu => if_neg hu
  have hr : v < 6 ∨ aKd A v = 9 ∨ rck A v := by
    rcases hpl with h | ⟨b, hb, h⟩
    · exact Or.inl h
    · right
      have q := hv.2.1 b v hb h
      have g := hg.1.2.2.1 v b ((hg.1.1 b hb v).mp h)
      unfold rck
      refine Classical.byContradiction fun hn => ?_
      rcases show aKd A v = 6 ∨ (aKd A v = 7 ∨ aKd A v = 8) by omega with z | z
      · rw [q.1 z] at hk; cases hk
      · exact q.2.1 z hk
  refine ⟨gd_rep (a := .inr (nu v)) hg hv140 (fun w hw => by cases hw), ⟨hv.1, fun b u hb hu => ?_, fun b u w x hb hu h9 hz hwC hal => ?_, fun b hb => ?_, hv.2.2.2.2⟩, rep_sim (a := .inr (nu v)) hg hv140 (fun w hw => by cases hw) hr (VS_inv hg hv) (fun b l H h => h.1) (fun b l l' H _ hp ha => hp.2 v ha hk) (fun b l1 l2 H hl hp h4 => ?_)⟩
  · obtain ⟨h1, h2⟩ := (hmem b u).mp hu
    obtain ⟨q1, q2, q3⟩ := hv.2.1 b u hb h1
    refine ⟨q1, q2, fun hr' x y hxy => ?_⟩
    obtain ⟨x0, y0, h0⟩ := two_args (((hg.2.2.1.1 b u hb h1).2.1) (Or.inl hr'.2))
    rw [hU u h2, h0] at hxy
    have ex : sb v (.inr (nu v)) x0 = x := (List.cons.inj hxy).1
    have ey : sb v (.inr (nu v)) y0 = y := (List.cons.inj (List.cons.inj hxy).2).1
    rw [← ex, ← ey, knA_sb hk, knA_sb hk]
    exact q3 hr' x0 y0 h0
  · obtain ⟨h1, h2⟩ := (hmem b u).mp hu
    rw [hU u h2] at hz
    obtain ⟨z, hz1, hz2⟩ := zip_map _ _ _ _ _ hz
    rw [← hz2, knA_sb hk]
    exact hv.2.2.1 b u w z hb h1 h9 hz1 hwC hal
  · obtain ⟨g1, g2⟩ := hv.2.2.2.1 b hb
    refine ⟨g1, fun q x hx => ?_⟩
    obtain ⟨x0, h0⟩ := one_arg ((hg.2.2.1.2 b hb).2 (show aEk A b ≠ 1 from fun z => by have : aEk A b = 2 := q; omega))
    rw [hU (140 + b) (by omega), h0] at hx
    have ex : sb v (.inr (nu v)) x0 = x := (List.cons.inj hx).1
    rw [← ex, knA_sb hk]
    exact g2 q x0 h0
  · have hu : v ∈ aLs A b := by rw [hl]; exact List.mem_append_right _ List.mem_cons_self
    obtain ⟨p, q, -, e1, hn, -⟩ := VS_rk hg hv hp hl ⟨by omega, by omega⟩ hk
    rw [e1]
    exact fun e => hn ⟨h4, e⟩
/-- behind all that: all ways lead on -/
theorem VS_clo (hg : gd A pl C) (hv : VS A C kn nu al) (hcut : ∀ b x, C b → aEk A b = 2 → aAg A (140 + b) = [x] → (knA kn nu x).1 ≠ 1) : clo A C := by
  intro b j hb hj
  have h2 := hg.2.1.2.2.2.2.2.2 b hb
  obtain ⟨g1, g2⟩ := hv.2.2.2.1 b hb
  rcases show aEk A b = 1 ∨ aEk A b = 2 by omega with e | e
  · rw [show b * 2 + j = b * 2 by omega]
    exact (g1 e).2
  · obtain ⟨x, hx⟩ := one_arg ((hg.2.2.1.2 b hb).2 (by omega))
    have k0 := VS_end hg hv hb (x := x) (by rw [hx]; exact List.mem_cons_self)
    have k1 := hcut b x hb e hx
    have k2 : (knA kn nu x).1 ≤ 2 := by
      cases x with
      | inr n => exact Nat.le_succ 1
      | inl w => exact hv.1.1 w
    obtain ⟨q1, q2⟩ := (g2 e x hx).1 (by omega)
    rcases show j = 0 ∨ j = 1 by omega with z | z
    · rw [z]; exact q1.2
    · rw [z]; exact q2.2
end LOSE
