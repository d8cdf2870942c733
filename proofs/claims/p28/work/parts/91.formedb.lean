/-! THE FORM THAT IS MADE, in rows: that it is made of the blocks -/
section MDB
variable {to fl mk0 g0 mk f : Ob} {nb nv gv : Nat} {F : Nat → List Ag}
def PHd (mk0 : Ob) (b x : Nat) : Bool := decide (x < 6) && bt (mk0.1 2 b) x
theorem PHd_6 {b x : Nat} (hx : x < 6) : PHd mk0 b x = bt (mk0.1 2 b) x := by
  unfold PHd
  rw [decide_eq_true hx, Bool.true_and]
theorem pX_PHd (b : Nat) : (List.range 6).filter (PHd mk0 b) = pX mk0 b :=
  List.filter_congr fun x hx => PHd_6 (List.mem_range.mp hx)
theorem md_aE (h : MD to fl mk0 g0 mk f nb nv gv F) {b c : Nat} : aE (fS f) (fC f) b c ↔ RW (fE fl) none b ∧ fE fl b c := by
  have hg := h.1.1.2.2.2.2 b c
  constructor
  · rintro ⟨q1, j, hj, e⟩
    have hb := (md_C h).mp q1
    have hek : aEk (fS f) b = tEk to b := by
      show tn (f.1 11 b) = _
      rw [((md_ed h).2.1 b q1.1).1 hb, tn_nI (by have := (md_lk h (md_fl h hb).1).2.2.2.2.2.1; omega)]
    rw [hek] at hj
    obtain ⟨w1, w2, w3⟩ := (md_lk h (md_fl h hb).1).2.2.2.2.2.2.2 j hj
    have he2 := (md_lk h (md_fl h hb).1).2.2.2.2.2.1
    have hw : b * 2 + j ∈ wB to fl nb := ((md_ed h).2.2 _).mpr ⟨by have := q1.1; omega, by rw [show (b * 2 + j) / 2 = b by omega]; exact hb, by rw [show (b * 2 + j) / 2 = b by omega]; omega⟩
    refine ⟨hb, hg.mpr ⟨(md_fl h hb).1, List.mem_map.mpr ⟨j, List.mem_range.mpr hj, ?_⟩⟩⟩
    have z : aTg (fS f) (b * 2 + j) = some (tgt to (b * 2 + j)) := by
      show (if b * 2 + j < 20 then ftg f (b * 2 + j) else none) = _
      rw [if_pos (md_W20 h _ hw)]
      unfold ftg
      rw [(md_ed h).1.2 _ (md_W20 h _ hw), if_pos hw, if_neg (nI_m1 (by have := md_nb h; omega)), tn_nI (by have := md_nb h; omega)]
    rw [z] at e
    exact Option.some.inj e
  · rintro ⟨hb, he⟩
    obtain ⟨hbn, hm⟩ := hg.mp he
    obtain ⟨j, hj, ej⟩ := List.mem_map.mp hm
    have hj' : j < tEk to b := List.mem_range.mp hj
    have q1 := (md_C h).mpr hb
    have hek : aEk (fS f) b = tEk to b := by
      show tn (f.1 11 b) = _
      rw [((md_ed h).2.1 b q1.1).1 hb, tn_nI (by have := (md_lk h (md_fl h hb).1).2.2.2.2.2.1; omega)]
    have he2 := (md_lk h (md_fl h hb).1).2.2.2.2.2.1
    obtain ⟨w1, w2, w3⟩ := (md_lk h (md_fl h hb).1).2.2.2.2.2.2.2 j hj'
    have hw : b * 2 + j ∈ wB to fl nb := ((md_ed h).2.2 _).mpr ⟨by have := q1.1; omega, by rw [show (b * 2 + j) / 2 = b by omega]; exact hb, by rw [show (b * 2 + j) / 2 = b by omega]; omega⟩
    refine ⟨q1, j, by rw [hek]; exact hj', ?_⟩
    show (if b * 2 + j < 20 then ftg f (b * 2 + j) else none) = _
    rw [if_pos (md_W20 h _ hw)]
    unfold ftg
    rw [(md_ed h).1.2 _ (md_W20 h _ hw), if_pos hw, if_neg (nI_m1 (by have := md_nb h; omega)), tn_nI (by have := md_nb h; omega)]
    exact congrArg some ej
theorem md_RW (h : MD to fl mk0 g0 mk f nb nv gv F) {o : Option Nat} {v : Nat} : RW (aE (fS f) (fC f)) o v ↔ RW (fE fl) o v := by
  constructor
  · exact fun q => RW_mono (fun a b e => ((md_aE h).mp e).2) q
  · exact fun q => RW_ind (P := fun v => RW (aE (fS f) (fC f)) o v) (fun z => RW_base z) (fun a b ha ih he hb _ => RW_step ih ((md_aE h).mpr ⟨RW_all ha, he⟩) hb) q
theorem md_Dm (h : MD to fl mk0 g0 mk f nb nv gv F) {b c : Nat} : Dm (aE (fS f) (fC f)) b c ↔ Dm (fE fl) b c := by
  unfold Dm
  rw [md_RW h, md_RW h]
theorem md_idm (h : MD to fl mk0 g0 mk f nb nv gv F) : idmOk (aE (fS f) (fC f)) (idF fl) := fun b hb hb0 => by
  obtain ⟨q1, q2, q3⟩ := (idF_ok h.1.1.2.2.2.1).1 b ((md_RW h).mp hb) hb0
  exact ⟨(md_Dm h).mpr q1, q2, fun d hd hdb => (md_Dm h).mpr (q3 d ((md_Dm h).mp hd) hdb)⟩
theorem md_tg (h : MD to fl mk0 g0 mk f nb nv gv F) {w t : Nat} : aTg (fS f) w = some t ↔ w ∈ eL to (wB to fl nb) t := by
  show (if w < 20 then ftg f w else none) = some t ↔ _
  unfold eL
  rw [List.mem_filter, decide_eq_true_iff]
  by_cases hw : w < 20
  · rw [if_pos hw]
    unfold ftg
    rw [(md_ed h).1.2 w hw]
    by_cases q : w ∈ wB to fl nb
    · obtain ⟨-, z1, z2⟩ := ((md_ed h).2.2 w).mp q
      have := ((md_lk h (md_fl h z1).1).2.2.2.2.2.2.2 _ z2).2.2
      rw [show w / 2 * 2 + w % 2 = w by omega] at this
      have hnb := (md_nb h).2
      rw [if_pos q, if_neg (nI_m1 (by omega)), tn_nI (by omega)]
      exact ⟨fun e => ⟨q, Option.some.inj e⟩, fun e => congrArg some e.2⟩
    · rw [if_neg q, if_pos rfl]
      exact ⟨(fun e => by cases e), fun e => absurd e.1 q⟩
  · rw [if_neg hw]
    exact ⟨(fun e => by cases e), fun e => absurd (md_W20 h w e.1) hw⟩
theorem md_aEd (h : MD to fl mk0 g0 mk f nb nv gv F) {c : Nat} : aEd (fS f) c = eL to (wB to fl nb) c := by
  show (if c < 10 then fed f c else []) = _
  by_cases hc : c < 10
  · rw [if_pos hc, md_fed h hc]
  · rw [if_neg hc]
    symm
    rw [List.eq_nil_iff_forall_not_mem]
    intro w hw
    obtain ⟨⟨-, z1, z2⟩, z3⟩ := (md_mem h).mp hw
    have := ((md_lk h (md_fl h z1).1).2.2.2.2.2.2.2 _ z2).2.2
    rw [show w / 2 * 2 + w % 2 = w by omega] at this
    have := md_nb h
    omega
theorem md_MKe (h : MD to fl mk0 g0 mk f nb nv gv F) : MKe (fS f) to (fC f) := by
  have hek : ∀ b, fC f b → aEk (fS f) b = tEk to b ∧ tEk to b ≤ 2 := fun b q1 => by
    have hb := (md_C h).mp q1
    have he2 := (md_lk h (md_fl h hb).1).2.2.2.2.2.1
    refine ⟨?_, he2⟩
    show tn (f.1 11 b) = _
    rw [((md_ed h).2.1 b q1.1).1 hb, tn_nI (by omega)]
  refine ⟨hek, fun b j hb hj => ?_, fun w t e => ?_, fun w t => ?_, fun t => ?_, ?_, fun b => ?_⟩
  · have hb' := (md_C h).mp hb
    have := (hek b hb).2
    refine (md_tg h).mpr ((md_mem h).mpr ⟨⟨by have := hb.1; omega, by rw [show (b * 2 + j) / 2 = b by omega]; exact hb', by rw [show (b * 2 + j) / 2 = b by omega]; omega⟩, rfl⟩)
  · obtain ⟨⟨q0, q1, q2⟩, -⟩ := (md_mem h).mp ((md_tg h).mp e)
    have hc := (md_C h).mpr q1
    exact ⟨hc, by rw [(hek _ hc).1]; exact q2⟩
  · rw [md_aEd h]
    exact (md_tg h).symm
  · rw [md_aEd h]
    exact (wB_nodup nb).filter _
  · rw [md_aEd h, List.eq_nil_iff_forall_not_mem]
    intro w hw
    obtain ⟨⟨-, z1, z2⟩, z3⟩ := (md_mem h).mp hw
    have := ((md_lk h (md_fl h z1).1).2.2.2.2.2.2.2 _ z2).2.1
    rw [show w / 2 * 2 + w % 2 = w by omega] at this
    omega
  · rw [md_C h, md_RW h]
theorem md_ls (h : MD to fl mk0 g0 mk f nb nv gv F) {b : Nat} (hb : RW (fE fl) none b) : aLs (fS f) b = (List.range (dsc to mk0 b).length).map fun i => bsM to fl mk0 b + i := by
  obtain ⟨q1, q2, q3, q4, q5⟩ := md_fl h hb
  have h140 := h.1.2.2.2.2.2
  show (if b < 10 then (frw f b).filter (fun v => decide (f.1 1 v = nI b)) else []) = _
  have hfr : frw f b = (List.range (dsc to mk0 b).length).map fun i => bsM to fl mk0 b + i := by
    unfold frw
    rw [q3.1, tn_nI (by omega)]
    refine List.map_congr_left fun k hk => ?_
    obtain ⟨z1, -⟩ := q3.2 k _ (List.getElem?_eq_getElem (List.mem_range.mp hk))
    rw [z1, tn_nI (by have := List.mem_range.mp hk; omega)]
  rw [if_pos (RW_lt10 hb), hfr, List.filter_eq_self]
  intro v hv
  obtain ⟨k, hk, e⟩ := List.mem_map.mp hv
  obtain ⟨-, -, z1, -⟩ := q3.2 k _ (List.getElem?_eq_getElem (List.mem_range.mp hk))
  rw [← e]
  exact decide_eq_true z1
theorem md_ls2 (h : MD to fl mk0 g0 mk f nb nv gv F) {b : Nat} (hb : RW (fE fl) none b) : aLs (fS f) b = phF (PHd mk0) (phN to fl mk0) b ++ lnF to b (lnN to fl mk0) (List.range (nl to b)) := by
  rw [md_ls h hb]
  unfold phF lnF
  rw [pX_PHd]
  have e1 : (pX mk0 b).map (phN to fl mk0 b) = (List.range (pX mk0 b).length).map fun i => bsM to fl mk0 b + i := consec (fun x => bt (mk0.1 2 b) x) (bsM to fl mk0 b) 6
  have e2 : ((List.range (nl to b)).filter fun k => !decide (lk to b k = 0)).map (lnN to fl mk0 b) = (List.range (lX to b).length).map fun i => bsM to fl mk0 b + (pX mk0 b).length + i := consec (fun k => !decide (lk to b k = 0)) (bsM to fl mk0 b + (pX mk0 b).length) (nl to b)
  rw [e1, e2]
  have e3 : (dsc to mk0 b).length = (pX mk0 b).length + (lX to b).length := by
    unfold dsc
    rw [List.length_append, List.length_map, List.length_map]
  rw [e3, List.range_add, List.map_append, List.map_map]
  congr 1
  refine List.map_congr_left fun i _ => ?_
  show bsM to fl mk0 b + ((pX mk0 b).length + i) = _
  omega
theorem md_ph (h : MD to fl mk0 g0 mk f nb nv gv F) {b x : Nat} (hb : RW (fE fl) none b) (hx : x < 6) (hp : bt (mk0.1 2 b) x = true) : phN to fl mk0 b x < nv ∧ f.1 0 (phN to fl mk0 b x) = nI 9 ∧ f.1 1 (phN to fl mk0 b x) = nI b ∧ f.1 2 (phN to fl mk0 b x) = nI x := by
  obtain ⟨q1, q2, q3, q4, q5⟩ := md_fl h hb
  have hi : (dsc to mk0 b)[((List.range x).filter fun x => bt (mk0.1 2 b) x).length]? = some (9, nI x) := by
    have hg := get_filter (p := fun x => bt (mk0.1 2 b) x) hx hp
    unfold dsc
    rw [List.getElem?_append_left (by rw [List.length_map]; exact (List.getElem?_eq_some_iff.mp hg).1), List.getElem?_map]
    unfold pX
    rw [hg]
    rfl
  obtain ⟨-, z2, z3, z4⟩ := q3.2 _ _ hi
  have := (List.getElem?_eq_some_iff.mp hi).1
  exact ⟨by unfold phN; omega, z2, z3, z4⟩
theorem md_MKh (h : MD to fl mk0 g0 mk f nb nv gv F) : MKh to (idF fl) (PHd mk0) (phN to fl mk0) (lnN to fl mk0) (hLf to fl mk0 (idF fl) (hdA mk)) (fC f) := by
  refine ⟨fun b x hb hx => ?_, fun b k x _ _ _ => rfl⟩
  rw [PHd_6 hx]
  show (if bt (mk0.1 2 b) x = true then _ else if b = 0 then _ else hdA mk (idF fl b) x) = _
  by_cases q : bt (mk0.1 2 b) x = true
  · rw [if_pos q, if_pos q]
  · rw [if_neg q, if_neg q]
    by_cases z : b = 0
    · rw [if_pos z, if_pos z]
    · rw [if_neg z, if_neg z]
      obtain ⟨q1, q2, -⟩ := (idF_ok h.1.1.2.2.2.1).1 b ((md_C h).mp hb) z
      have hr : RW (fE fl) none (idF fl b) := Classical.byContradiction fun y => q1.2 (RW_ind (P := fun v => RW (fE fl) (some (idF fl b)) v) (fun _ => RW_base fun e => y (by rw [Option.some.inj e]; exact RW_base (by simp))) (fun a c _ ih he _ hc => RW_step ih he fun e => y (by rw [Option.some.inj e]; exact hc)) q1.1)
      obtain ⟨d1, d2⟩ := (md_dn h).mpr hr
      exact (h.2.2.2.2.2.2.1 _ d2 d1).2.1 x hx
theorem md_MKl (h : MD to fl mk0 g0 mk f nb nv gv F) : MKl (fS f) (fP f) to (PHd mk0) (phN to fl mk0) (lnN to fl mk0) (fC f) := by
  have hCI := md_CI h
  refine ⟨fun b hb => md_ls2 h ((md_C h).mp hb), fun b hb => ?_, fun b v hb => fS_ls_P hCI, fun v p e => ?_, fun b x hb hx hp => ?_, fun b k hb hk h0 => ?_, fun x => ?_⟩
  · rw [md_ls h ((md_C h).mp hb)]
    exact List.pairwise_map.mpr (List.Pairwise.imp (fun hne e => hne (by omega)) (List.nodup_range (n := (dsc to mk0 b).length)))
  · obtain ⟨q1, q2, q3⟩ := (fP_some hCI).mp e
    have h6 : 6 ≤ v := Nat.le_of_not_lt fun z => nI_m1 (a := p) (by have := md_nb h; omega) (q2.symm.trans (md_six h z).2)
    obtain ⟨b, i, d, hb, -, -, -, q4, -⟩ := md_val h h6 q1
    have := RW_lt10 hb
    have hpb : b = p := nI_inj (by omega) (by have := md_nb h; omega) (q4.symm.trans q2)
    rw [← hpb]
    exact ⟨h6, by have := h.1.2.2.2.2.2; omega, (md_C h).mpr hb⟩
  · rw [PHd_6 hx] at hp
    show tn (f.1 0 _) = 9
    rw [(md_ph h ((md_C h).mp hb) hx hp).2.1]
    rfl
  · have hb' := (md_C h).mp hb
    have h9 := ((md_lk h (md_fl h hb').1).2.2.2.1 k hk).2
    refine ⟨?_, h9⟩
    show tn (f.1 0 _) = _
    rw [(md_ln h hb' hk h0).2.2.1, tn_nI (by omega)]
  · have h0 := h.2.2.2.2.2.1
    by_cases hx : x < 6
    · rw [PHd_6 hx, ← Bool.not_eq_true]
      intro q
      have : x ∈ pX mk0 0 := List.mem_filter.mpr ⟨List.mem_range.mpr hx, q⟩
      rw [h0] at this
      cases this
    · unfold PHd
      rw [decide_eq_false hx]
      rfl
theorem md_fag (h : MD to fl mk0 g0 mk f nb nv gv F) {u : Nat} (hu : u < 150) : aAg (fS f) u = F u := by
  show (if u < 150 then fag f u else []) = _
  rw [if_pos hu]
  exact AS_fag h.2.2.2.1 h.1.2.2.2.2.2 hu
theorem md_MKa (h : MD to fl mk0 g0 mk f nb nv gv F) : MKa (fS f) to (PHd mk0) (phN to fl mk0) (lnN to fl mk0) (hLf to fl mk0 (idF fl) (hdA mk)) (fC f) := by
  have h140 := h.1.2.2.2.2.2
  obtain ⟨e0, e1, e2, -⟩ := md_row h
  refine ⟨fun b k hb hk h0 => ?_, fun b hb => ?_, fun b x hb hx hp => ?_⟩
  · have hb' := (md_C h).mp hb
    obtain ⟨d1, d2⟩ := (md_dn h).mpr hb'
    rw [md_fag h (by have := (md_ln h hb' hk h0).2.1; omega), (h.2.2.2.2.2.2.1 _ d2 d1).2.2.1 k hk h0]
    rfl
  · have hb' := (md_C h).mp hb
    obtain ⟨d1, d2⟩ := (md_dn h).mpr hb'
    rw [md_fag h (by omega), (h.2.2.2.2.2.2.1 _ d2 d1).2.2.2]
    rfl
  · have hb' := (md_C h).mp hb
    rw [PHd_6 hx] at hp
    obtain ⟨p1, p2, p3, p4⟩ := md_ph h hb' hx hp
    obtain ⟨r4, hP⟩ := h.2.1
    have hb10 := hb.1
    rw [md_fag h (by omega), h.2.2.2.2.2.2.2.1 _ p1 (by rw [← e0]; exact p2), md_aEd h]
    unfold phiA
    rw [← e1, ← e2, p3, p4, tn_nI (by omega), tn_nI (by omega), fed_eL hP.2.2.2.2.2.1 (wB_nodup nb) (md_W20 h) hb10]
    refine List.map_congr_left fun w hw => ?_
    obtain ⟨⟨z0, z1, z2⟩, -⟩ := (md_mem h).mp hw
    obtain ⟨d1, d2⟩ := (md_dn h).mpr z1
    exact (h.2.2.2.2.2.2.1 _ d2 d1).2.1 x hx
theorem md_EA (h : MD to fl mk0 g0 mk f nb nv gv F) : EA (fS f) (fC f) := fun c hc => by
  have hr : ¬ RW (fE fl) none c := fun q => hc ((md_C h).mpr q)
  obtain ⟨e0, e1, e2, e7, -⟩ := md_row h
  refine ⟨?_, ?_, ?_⟩
  · show (if c < 10 then (frw f c).filter (fun v => decide (f.1 1 v = nI c)) else []) = []
    by_cases h10 : c < 10
    · obtain ⟨r4, hP⟩ := h.2.1
      have h7 : f.1 7 c = 0 := by
        rw [e7]
        refine hP.2.2.2.1 c h10 (Or.inr ?_)
        rw [← Bool.not_eq_true]
        exact fun q => hr ((reach_bit h.1.1.2.2.2.1 (by omega)).mp q)
      rw [if_pos h10]
      unfold frw
      rw [h7]
      rfl
    · rw [if_neg h10]
  · rw [md_aEd h, List.eq_nil_iff_forall_not_mem]
    intro w hw
    obtain ⟨⟨z0, z1, z2⟩, z3⟩ := (md_mem h).mp hw
    refine hr (RW_step z1 ((h.1.1.2.2.2.2 _ _).mpr ⟨(md_fl h z1).1, List.mem_map.mpr ⟨w % 2, List.mem_range.mpr z2, ?_⟩⟩) (by simp))
    rw [show w / 2 * 2 + w % 2 = w by omega]
    exact z3
  · by_cases h10 : c < 10
    · rw [md_fag h (by omega)]
      refine h.2.2.2.2.2.2.2.2 _ (by omega) (fun b hb hd => ⟨fun q => hr (by rw [show c = b by omega]; exact (md_dn h).mp ⟨hd, hb⟩), fun j hj hj0 q => ?_⟩) fun q => by have := h.1.2.2.2.2.2; omega
      have := (md_ln h ((md_dn h).mp ⟨hd, hb⟩) hj hj0).2.1
      have := h.1.2.2.2.2.2
      omega
    · show (if 140 + c < 150 then fag f (140 + c) else []) = []
      rw [if_neg (by omega)]
end MDB
