/-! THE LAW: a pass takes as many as was foreseen, none is brought; what is left */ -/
section PASSGO
variable {f : Ob} {nb nv T : Nat}
def passR (f : Ob) (nb nv T g d : Nat) (r : Ob) : Prop := FG r nb nv T ∧ tidy r ∧ nwF f r ∧ r.2.1 5 = nI (g + d) ∧ g + d ≤ T ∧ r.2.1 4 = f.2.1 4 + 1 ∧ (∀ i, i ≠ 1 → i ≠ 4 → i ≠ 5 → r.2.1 i = f.2.1 i) ∧ r.2.2 = f.2.2
theorem pass_go (hF : FG f nb nv T) (ht : tidy f) {g : Nat} (hg : f.2.1 5 = nI g) (hT : T < 1000) (hg1 : g ≤ T) (cn nu de : Ob) {p : Int32} (hp : p = 1 ∨ p = 2 ∨ p = 3 ∨ p = 4) : ∃ d, (Ph_passOver f cn nu de p).1 = nI d ∧ passR f nb nv T g d (Ph_passOver f cn nu de p).2.1 := by
  obtain ⟨h1, h2, h3, gn, k1, k2, k3⟩ := hF
  have hgn : gn ≤ T := by
    rw [Nat.mod_eq_of_lt hT] at k2
    omega
  have hgg : g = gn := nI_inj (by omega) (by omega) (hg.symm.trans k1)
  subst hgg
  have hF' : FG f nb nv (T + 1000 * g) := ⟨h1, h2, h3, g, k1, by rw [show (T + 1000 * g) % 1000 = T % 1000 by omega]; exact k2, by omega⟩
  obtain ⟨⟨q1, q2, q3, gn', l1, l2, l3⟩, q4, q5, q6, q7, q8, q9⟩ := passOver_spec hF' ht cn nu de hp
  have hge : g ≤ gn' := by omega
  rw [show (T + 1000 * g) % 1000 = T by omega] at l2
  refine ⟨gn' - g, ?_, ⟨q1, q2, q3, gn', l1, by rw [Nat.mod_eq_of_lt hT]; exact l2, by rw [Nat.div_eq_of_lt hT]; exact Nat.zero_le _⟩, q4, q5, ?_, by omega, q8, q7, q9⟩
  · show (Ph_passOver f cn nu de p).1 = nI (gn' - g)
    have : (Ph_passOver f cn nu de p).1 = (Ph_passOver f cn nu de p).2.1.2.1 5 - f.2.1 5 := q6
    have l1' : (Ph_passOver f cn nu de p).2.1.2.1 5 = nI gn' := l1
    rw [this, l1', hg, show gn' = (gn' - g) + g by omega, ← nI_add, Nat.add_sub_cancel, Int32.add_sub_cancel]
  · show (Ph_passOver f cn nu de p).2.1.2.1 5 = nI (g + (gn' - g))
    have l1' : (Ph_passOver f cn nu de p).2.1.2.1 5 = nI gn' := l1
    rw [l1', show g + (gn' - g) = gn' by omega]
/-- how many are in blocks -/
theorem nodup_sub : ∀ (l l' : List Nat), l.Nodup → (∀ x, x ∈ l → x ∈ l') → l.length ≤ l'.length := by
  intro l
  induction l with
  | nil => intro l' _ _; exact Nat.zero_le _
  | cons x r ih =>
    intro l' hn hs
    rw [List.nodup_cons] at hn
    have hx := hs x (List.mem_cons_self)
    have h1 := ih (l'.erase x) hn.2 fun y hy => (List.mem_erase_of_ne fun e => hn.1 (by rw [← e]; exact hy)).mpr (hs y (List.mem_cons_of_mem _ hy))
    rw [List.length_erase_of_mem hx] at h1
    have := List.length_pos_of_mem hx
    rw [List.length_cons]
    omega
def szN (f : Ob) (b : Nat) : Nat := tn (f.1 7 b)
def inB (f : Ob) (nv b : Nat) : Nat := ((List.range nv).filter fun v => decide (f.1 1 v = nI b)).length
theorem size_in (hC : CI f nb nv) (ht : tidy f) {b : Nat} (hb : b < nb) : f.1 7 b = nI (szN f b) ∧ szN f b ≤ 140 ∧ szN f b = inB f nv b := by
  have h10 := hC.1.2.2.1
  have hn0 := nbt hC
  have hnv := hC.1.2.2.2.2.2
  obtain ⟨s, hs, h7, q1, q2, q3⟩ := hC.2.2.2.1 b (by omega)
  have hsz : szN f b = s := by unfold szN; rw [h7, tn_nI (by omega)]
  rw [hsz]
  refine ⟨h7, hs, ?_⟩
  have hl : (frw f b).length = s := by
    unfold frw
    rw [List.length_map, List.length_range, h7, tn_nI (by omega)]
  have hnd : (frw f b).Nodup := by
    unfold frw
    rw [h7, tn_nI (by omega)]
    refine List.pairwise_map.mpr (List.Pairwise.imp_of_mem (fun {i j} hi hj hne e => hne ?_) (List.nodup_range (n := s)))
    obtain ⟨v, hv, ev, -⟩ := q1 i (List.mem_range.mp hi)
    obtain ⟨w, hw, ew, -⟩ := q1 j (List.mem_range.mp hj)
    rw [ev, ew, tn_nI (by omega), tn_nI (by omega)] at e
    exact q2 i j (List.mem_range.mp hi) (List.mem_range.mp hj) (by rw [ev, ew, e])
  have hmem : ∀ v, v ∈ frw f b ↔ v ∈ (List.range nv).filter fun v => decide (f.1 1 v = nI b) := fun v => by
    rw [frw_mem h7 hs, List.mem_filter, decide_eq_true_iff, List.mem_range]
    constructor
    · rintro ⟨k, hk, e⟩
      obtain ⟨w, hw, ew, -⟩ := q1 k hk
      have hr := ht b s k (by rw [hn0]; exact hb) h7 hs hk
      rw [e] at hr
      rw [ew, tn_nI (by omega)] at e
      exact ⟨by omega, hr⟩
    · rintro ⟨hv, e⟩
      obtain ⟨k, hk, ek⟩ := q3 v hv e
      exact ⟨k, hk, by rw [ek, tn_nI (by omega)]⟩
  unfold inB
  rw [← hl]
  refine Nat.le_antisymm (nodup_sub _ _ hnd fun x hx => (hmem x).mp hx) (nodup_sub _ _ (List.nodup_range.filter _) fun x hx => (hmem x).mpr hx)
theorem cnt_in (hC : CI f nb nv) : cntV f nv = ((List.range nb).map fun b => inB f nv b).sum := by
  have h10 := hC.1.2.2.1
  have hV := hC.2.2.1
  have key : ∀ n, n ≤ nv → ((List.range n).filter fun v => !decide (f.1 1 v = -1)).length = ((List.range nb).map fun b => ((List.range n).filter fun v => decide (f.1 1 v = nI b)).length).sum := by
    intro n
    induction n with
    | zero =>
      intro _
      have : ∀ l : List Nat, (l.map fun _ => 0).sum = 0 := by
        intro l
        induction l with
        | nil => rfl
        | cons x r ih => rw [List.map_cons, List.sum_cons, ih]
      exact (this _).symm
    | succ n ih =>
      intro hn
      rw [filter_range_s, List.length_append, ih (by omega)]
      have e : ((List.range nb).map fun b => ((List.range (n + 1)).filter fun v => decide (f.1 1 v = nI b)).length) = (List.range nb).map fun b => ((List.range n).filter fun v => decide (f.1 1 v = nI b)).length + (if tn (f.1 1 n) = b then (if f.1 1 n = -1 then 0 else 1) else 0) := by
        refine List.map_congr_left fun b hb => ?_
        have hb' := List.mem_range.mp hb
        rw [filter_range_s, List.length_append]
        congr 1
        rcases (hV n (by omega)).2.1 with q | ⟨c, hc, q⟩
        · rw [q, if_neg (show ¬ decide ((-1 : Int32) = nI b) = true from fun z => nI_m1 (a := b) (by omega) (of_decide_eq_true z).symm)]
          split
          · rfl
          · rfl
        · rw [q, tn_nI (by omega), if_neg (nI_m1 (a := c) (by omega))]
          by_cases z : c = b
          · rw [if_pos z, z, if_pos (decide_eq_true rfl)]; rfl
          · rw [if_neg z, if_neg (show ¬ decide (nI c = nI b) = true from fun y => z (nI_inj (by omega) (by omega) (of_decide_eq_true y)))]; rfl
      rw [e, sum_add]
      congr 1
      rcases (hV n (by omega)).2.1 with q | ⟨c, hc, q⟩
      · rw [q]
        have : ∀ l : List Nat, (l.map fun b => if tn (-1 : Int32) = b then (if (-1 : Int32) = -1 then 0 else 1) else 0).sum = 0 := by
          intro l
          induction l with
          | nil => rfl
          | cons x r ih => rw [List.map_cons, List.sum_cons, ih, if_pos rfl]; split <;> rfl
        rw [this]
        rfl
      · rw [q, tn_nI (by omega), if_neg (nI_m1 (a := c) (by omega)), ind_sum c nb, if_pos hc, if_pos (by simp [nI_m1 (a := c) (by omega)])]
        rfl
  exact key nv (Nat.le_refl _)
end PASSGO
