/-! THE METHODS AS FUNCTIONS over the state, by program -/
noncomputable def Flow_forget (fl : Ob) : Ob :=
  (ofil fl 0 0)
noncomputable def Ph_bit_16 : Int32 :=
  0
noncomputable def Ph_bit (v0 : Int32) : Int32 :=
  (if v0 < 0 then (Ph_bit_16) else (if v0 < 20 then ((1 : Int32) <<< (v0 &&& 31)) else (Ph_bit_16)))
noncomputable def Ph_has_23 : Bool :=
  false
noncomputable def Ph_has (v0 : Int32) (v1 : Int32) : Bool :=
  (if v1 < 0 then (Ph_has_23) else (if v1 < 20 then (if ((v0 >>> (v1 &&& 31)) &&& 1) = 1 then true else (Ph_has_23)) else (Ph_has_23)))
noncomputable def Flow_reachedWithout_56 (fl : Ob) (v1 : Int32) (v2 : Int32) (v3 : Int32) (v4 : Int32) (v5 : Int32) : (Int32 × Int32) ⊕ ((Int32 × Int32) ⊕ (Int32)) :=
  (Sum.inl (v4, (v5 + 1)))
noncomputable def Flow_reachedWithout_L26b (fl : Ob) (v1 : Int32) (v2 : Int32) (v3 : Int32) (v4 : Int32) (v5 : Int32) : (Int32 × Int32) ⊕ ((Int32 × Int32) ⊕ (Int32)) :=
  (if v5 < 10 then (if (Ph_has v2 v5) = true then (Flow_reachedWithout_56 fl v1 v2 v3 (v4 ||| (oat fl 0 10 v5)) v5) else (Flow_reachedWithout_56 fl v1 v2 v3 v4 v5)) else (Sum.inr (Sum.inl ((v4 &&& ((Ph_bit v1) ^^^ (-1))), (v3 + 1)))))
noncomputable def Flow_reachedWithout_L26 (fl : Ob) (v1 : Int32) (v2 : Int32) (v3 : Int32) (v4 : Int32) (v5 : Int32) : (Int32 × Int32) ⊕ (Int32) :=
  loopW (fun a : Int32 × Int32 => Flow_reachedWithout_L26b fl v1 v2 v3 a.1 a.2) (v4, v5)
noncomputable def Flow_reachedWithout_L14b (fl : Ob) (v1 : Int32) (v2 : Int32) (v3 : Int32) : (Int32 × Int32) ⊕ (Int32) :=
  (if v3 < 10 then (Flow_reachedWithout_L26 fl v1 v2 v3 v2 0) else (Sum.inr v2))
noncomputable def Flow_reachedWithout_L14 (fl : Ob) (v1 : Int32) (v2 : Int32) (v3 : Int32) : Int32 :=
  loopW (fun a : Int32 × Int32 => Flow_reachedWithout_L14b fl v1 a.1 a.2) (v2, v3)
noncomputable def Flow_reachedWithout (fl : Ob) (v1 : Int32) : Int32 :=
  (Flow_reachedWithout_L14 fl v1 ((Ph_bit 0) &&& ((Ph_bit v1) ^^^ (-1))) 0)
noncomputable def Flow_addDominator_37 (fl : Ob) (v1 : Int32) (v2 : Int32) (v3 : Int32) : (Int32 × Ob) ⊕ (Ob) :=
  (Sum.inl ((v3 + 1), fl))
noncomputable def Flow_addDominator_L2b (fl : Ob) (v1 : Int32) (v2 : Int32) (v3 : Int32) : (Int32 × Ob) ⊕ (Ob) :=
  (if v3 < 10 then (if (Ph_has v1 v3) = true then (Flow_addDominator_37 (oput fl 2 10 v3 ((oat fl 2 10 v3) ||| (Ph_bit v2))) v1 v2 v3) else (Flow_addDominator_37 fl v1 v2 v3)) else (Sum.inr fl))
noncomputable def Flow_addDominator_L2 (fl : Ob) (v1 : Int32) (v2 : Int32) (v3 : Int32) : Ob :=
  loopW (fun a : Int32 × Ob => Flow_addDominator_L2b a.2 v1 v2 a.1) (v3, fl)
noncomputable def Flow_addDominator (fl : Ob) (v1 : Int32) (v2 : Int32) : Ob :=
  (Flow_addDominator_L2 fl v1 v2 0)
noncomputable def Flow_firstReady_44 (fl : Ob) (v1 : Int32) (v2 : Int32) : (Int32) ⊕ (Int32) :=
  (Sum.inl (v2 + 1))
noncomputable def Flow_firstReady_L2b (fl : Ob) (v1 : Int32) (v2 : Int32) : (Int32) ⊕ (Int32) :=
  (if v2 < 10 then (if (Ph_has ((fl.2.1 0) &&& (v1 ^^^ (-1))) v2) = true then (if ((oat fl 2 10 v2) &&& (v1 ^^^ (-1))) = (Ph_bit v2) then (Sum.inr v2) else (Flow_firstReady_44 fl v1 v2)) else (Flow_firstReady_44 fl v1 v2)) else (Sum.inr (-1)))
noncomputable def Flow_firstReady_L2 (fl : Ob) (v1 : Int32) (v2 : Int32) : Int32 :=
  loopW (fun a : Int32 => Flow_firstReady_L2b fl v1 a) v2
noncomputable def Flow_firstReady (fl : Ob) (v1 : Int32) : Int32 :=
  (Flow_firstReady_L2 fl v1 0)
noncomputable def Flow_reckon_52 (fl : Ob) (v1 : Int32) (w0 : Int32) : (Int32 × Ob) ⊕ (Ob) :=
  (Sum.inl ((v1 + 1), (Flow_addDominator (oput fl 1 10 v1 w0) w0 v1)))
noncomputable def Flow_reckon_L78b (fl : Ob) (v1 : Int32) (v2 : Int32) : (Int32 × Int32 × Ob) ⊕ (Ob) :=
  (if v2 < 10 then (Sum.inl ((v1 ||| (Ph_bit (Flow_firstReady fl v1))), (v2 + 1), (oput fl 3 10 v2 (Flow_firstReady fl v1)))) else (Sum.inr fl))
noncomputable def Flow_reckon_L78 (fl : Ob) (v1 : Int32) (v2 : Int32) : Ob :=
  loopW (fun a : Int32 × Int32 × Ob => Flow_reckon_L78b a.2.2 a.1 a.2.1) (v1, v2, fl)
noncomputable def Flow_reckon_L19b (fl : Ob) (v1 : Int32) : (Int32 × Ob) ⊕ (Ob) :=
  (if v1 < 10 then (if (Ph_has (fl.2.1 0) v1) = true then (Flow_reckon_52 fl v1 ((fl.2.1 0) &&& ((Flow_reachedWithout fl v1) ^^^ (-1)))) else (Flow_reckon_52 fl v1 0)) else (Sum.inr (Flow_reckon_L78 fl 0 0)))
noncomputable def Flow_reckon_L19 (fl : Ob) (v1 : Int32) : Ob :=
  loopW (fun a : Int32 × Ob => Flow_reckon_L19b a.2 a.1) (v1, fl)
noncomputable def Flow_reckon (fl : Ob) : Ob :=
  (Flow_reckon_L19 (ofil (oG fl 0 (Flow_reachedWithout fl (-1))) 2 0) 0)
noncomputable def Told_reckonWanted_L34b (to : Ob) (v1 : Int32) (v2 : Int32) (v3 : Int32) (v4 : Int32) : (Int32 × Int32) ⊕ ((Int32 × Ob) ⊕ ((Int32 × Ob) ⊕ (Ob))) :=
  (if v4 < (oat to 5 10 v2) then (Sum.inl ((v3 ||| (oat to 10 10 (oat to 7 20 ((v2 * 2) + v4)))), (v4 + 1))) else (Sum.inr (Sum.inl ((v2 + 1), (oput to 10 10 v2 ((oat to 8 10 v2) ||| (v3 &&& ((oat to 9 10 v2) ^^^ (-1)))))))))
noncomputable def Told_reckonWanted_L34 (to : Ob) (v1 : Int32) (v2 : Int32) (v3 : Int32) (v4 : Int32) : (Int32 × Ob) ⊕ ((Int32 × Ob) ⊕ (Ob)) :=
  loopW (fun a : Int32 × Int32 => Told_reckonWanted_L34b to v1 v2 a.1 a.2) (v3, v4)
noncomputable def Told_reckonWanted_L21b (to : Ob) (v1 : Int32) (v2 : Int32) : (Int32 × Ob) ⊕ ((Int32 × Ob) ⊕ (Ob)) :=
  (if v2 < (to.2.1 0) then (Told_reckonWanted_L34 to v1 v2 0 0) else (Sum.inr (Sum.inl ((v1 + 1), to))))
noncomputable def Told_reckonWanted_L21 (to : Ob) (v1 : Int32) (v2 : Int32) : (Int32 × Ob) ⊕ (Ob) :=
  loopW (fun a : Int32 × Ob => Told_reckonWanted_L21b a.2 v1 a.1) (v2, to)
noncomputable def Told_reckonWanted_L13b (to : Ob) (v1 : Int32) : (Int32 × Ob) ⊕ (Ob) :=
  (if v1 < 10 then (Told_reckonWanted_L21 to v1 0) else (Sum.inr to))
noncomputable def Told_reckonWanted_L13 (to : Ob) (v1 : Int32) : Ob :=
  loopW (fun a : Int32 × Ob => Told_reckonWanted_L13b a.2 a.1) (v1, to)
noncomputable def Told_reckonWanted (to : Ob) : Ob :=
  (Told_reckonWanted_L13 (oR to 10 (to.1 8)) 0)
noncomputable def Flow_lead (fl : Ob) (v1 : Int32) (v2 : Int32) : Ob :=
  (oput fl 0 10 v1 ((oat fl 0 10 v1) ||| (Ph_bit v2)))
noncomputable def Ph_variableOf (v0 : Int32) : Int32 :=
  (if v0 < 100 then (-1) else (v0 - 100))
noncomputable def Ph_sets_14 : Bool :=
  false
noncomputable def Ph_sets (v0 : Int32) : Bool :=
  (if v0 < 0 then (Ph_sets_14) else (if (6 : Int32) < v0 then (Ph_sets_14) else true))
noncomputable def Told_readLines_97 (to : Ob) (v1 : Int32) (v2 : Int32) (v3 : Int32) (v4 : Int32) : (Int32 × Int32 × Int32) ⊕ (Ob) :=
  (Sum.inl (v2, v3, (v4 + 1)))
noncomputable def Told_readLines_L7b (to : Ob) (v1 : Int32) (v2 : Int32) (v3 : Int32) (v4 : Int32) : (Int32 × Int32 × Int32) ⊕ (Ob) :=
  (if v4 < (oat to 0 10 v1) then (if (Ph_sets (oat to 1 80 ((v1 * 8) + v4))) = true then (Told_readLines_97 to v1 (v2 ||| ((v3 ^^^ (-1)) &&& ((Ph_bit (Ph_variableOf (oat to 3 80 ((v1 * 8) + v4)))) ||| (Ph_bit (Ph_variableOf (oat to 4 80 ((v1 * 8) + v4))))))) (v3 ||| (Ph_bit (oat to 2 80 ((v1 * 8) + v4)))) v4) else (Told_readLines_97 to v1 (v2 ||| ((v3 ^^^ (-1)) &&& ((Ph_bit (Ph_variableOf (oat to 3 80 ((v1 * 8) + v4)))) ||| (Ph_bit (Ph_variableOf (oat to 4 80 ((v1 * 8) + v4))))))) v3 v4)) else (Sum.inr (oput (oput to 8 10 v1 (v2 ||| ((v3 ^^^ (-1)) &&& (Ph_bit (Ph_variableOf (oat to 6 10 v1)))))) 9 10 v1 v3)))
noncomputable def Told_readLines_L7 (to : Ob) (v1 : Int32) (v2 : Int32) (v3 : Int32) (v4 : Int32) : Ob :=
  loopW (fun a : Int32 × Int32 × Int32 => Told_readLines_L7b to v1 a.1 a.2.1 a.2.2) (v2, v3, v4)
noncomputable def Told_readLines (to : Ob) (v1 : Int32) : Ob :=
  (Told_readLines_L7 to v1 0 0 0)
noncomputable def Told_reckon_L19b (to : Ob) (fl : Ob) (v1 : Int32) (v2 : Int32) : (Int32 × Ob) ⊕ ((Int32 × Ob × Ob) ⊕ (Ob × Ob)) :=
  (if v2 < (oat to 5 10 v1) then (Sum.inl ((v2 + 1), (Flow_lead fl v1 (oat to 7 20 ((v1 * 2) + v2))))) else (Sum.inr (Sum.inl ((v1 + 1), (Told_readLines to v1), fl))))
noncomputable def Told_reckon_L19 (to : Ob) (fl : Ob) (v1 : Int32) (v2 : Int32) : (Int32 × Ob × Ob) ⊕ (Ob × Ob) :=
  loopW (fun a : Int32 × Ob => Told_reckon_L19b to a.2 v1 a.1) (v2, fl)
noncomputable def Told_reckon_L9b (to : Ob) (fl : Ob) (v1 : Int32) : (Int32 × Ob × Ob) ⊕ (Ob × Ob) :=
  (if v1 < (to.2.1 0) then (Told_reckon_L19 to fl v1 0) else (Sum.inr ((Told_reckonWanted to), (Flow_reckon fl))))
noncomputable def Told_reckon_L9 (to : Ob) (fl : Ob) (v1 : Int32) : Ob × Ob :=
  loopW (fun a : Int32 × Ob × Ob => Told_reckon_L9b a.2.1 a.2.2 a.1) (v1, to, fl)
noncomputable def Told_reckon (to : Ob) (fl : Ob) : Ob × Ob :=
  (Told_reckon_L9 to (Flow_forget fl) 0)
noncomputable def Told_addBlock_14 (to : Ob) (fl : Ob) : Int32 × Ob × Ob :=
  (((to.2.1 0) - 1), to, fl)
noncomputable def Told_addBlock (to : Ob) (fl : Ob) : Int32 × Ob × Ob :=
  (Told_addBlock_14 (Told_reckon (oG to 0 ((to.2.1 0) + 1)) fl).1 (Told_reckon (oG to 0 ((to.2.1 0) + 1)) fl).2)
noncomputable def Ph_block (to : Ob) (fl : Ob) : Option (Int32 × Ob × Ob) :=
  (if (to.2.1 0) < 10 then (some ((Told_addBlock to fl).1, (Told_addBlock to fl).2.1, (Told_addBlock to fl).2.2)) else none)
noncomputable def Ph_isTold_19 (to : Ob) : Bool :=
  false
noncomputable def Ph_isTold (to : Ob) (v1 : Int32) : Bool :=
  (if v1 < 0 then (Ph_isTold_19 to) else (if v1 < (to.2.1 0) then true else (Ph_isTold_19 to)))
noncomputable def Ph_isOperand_16 : Bool :=
  false
noncomputable def Ph_isOperand (v0 : Int32) : Bool :=
  (if v0 < (-99) then (Ph_isOperand_16) else (if v0 < 106 then true else (Ph_isOperand_16)))
noncomputable def Ph_isReckoning_14 : Bool :=
  false
noncomputable def Ph_isReckoning (v0 : Int32) : Bool :=
  (if v0 < 1 then (Ph_isReckoning_14) else (if (5 : Int32) < v0 then (Ph_isReckoning_14) else true))
noncomputable def Ph_isLine_17 : Bool :=
  false
noncomputable def Ph_isLine_98 : Bool :=
  false
noncomputable def Ph_isLine_94 : Bool :=
  true
noncomputable def Ph_isLine_75 (v3 : Int32) (v5 : Int32) : Bool :=
  (if v5 = 0 then (if v3 = 0 then (Ph_isLine_94) else (Ph_isLine_98)) else (if (Ph_isOperand v3) = true then (Ph_isLine_94) else (Ph_isLine_98)))
noncomputable def Ph_isLine_54 (v0 : Int32) (v1 : Int32) (v3 : Int32) (v4 : Int32) (w0 : Int32) : Bool :=
  (if (Ph_sets v0) = true then (if v4 = 0 then (Ph_isLine_98) else (Ph_isLine_75 v3 w0)) else (if v1 = 0 then (Ph_isLine_75 v3 w0) else (Ph_isLine_98)))
noncomputable def Ph_isLine_49 (v0 : Int32) (v1 : Int32) (v3 : Int32) (v4 : Int32) : Bool :=
  (Ph_isLine_54 v0 v1 v3 v4 1)
noncomputable def Ph_isLine_34 (v0 : Int32) (v1 : Int32) (v3 : Int32) (w0 : Int32) : Bool :=
  (if (Ph_isReckoning v0) = true then (Ph_isLine_49 v0 v1 v3 w0) else (if v0 = 7 then (Ph_isLine_49 v0 v1 v3 w0) else (Ph_isLine_54 v0 v1 v3 w0 0)))
noncomputable def Ph_isLine_33 (v0 : Int32) (v1 : Int32) (v3 : Int32) : Bool :=
  (Ph_isLine_34 v0 v1 v3 0)
noncomputable def Ph_isLine (v0 : Int32) (v1 : Int32) (v2 : Int32) (v3 : Int32) : Bool :=
  (if v0 < 0 then (Ph_isLine_17) else (if (8 : Int32) < v0 then (Ph_isLine_17) else (if (Ph_isOperand v2) = true then (if v1 < 0 then (Ph_isLine_33 v0 v1 v3) else (if v1 < 6 then (Ph_isLine_34 v0 v1 v3 1) else (Ph_isLine_33 v0 v1 v3))) else (Ph_isLine_17))))
noncomputable def Told_addLine_77 (to : Ob) (fl : Ob) (v6 : Int32) : Int32 × Ob × Ob :=
  (v6, to, fl)
noncomputable def Told_addLine (to : Ob) (fl : Ob) (v1 : Int32) (v2 : Int32) (v3 : Int32) (v4 : Int32) (v5 : Int32) : Int32 × Ob × Ob :=
  (Told_addLine_77 (Told_reckon (oput (oput (oput (oput (oput to 1 80 ((v1 * 8) + (oat to 0 10 v1)) v2) 2 80 ((v1 * 8) + (oat to 0 10 v1)) v3) 3 80 ((v1 * 8) + (oat to 0 10 v1)) v4) 4 80 ((v1 * 8) + (oat to 0 10 v1)) v5) 0 10 v1 ((oat to 0 10 v1) + 1)) fl).1 (Told_reckon (oput (oput (oput (oput (oput to 1 80 ((v1 * 8) + (oat to 0 10 v1)) v2) 2 80 ((v1 * 8) + (oat to 0 10 v1)) v3) 3 80 ((v1 * 8) + (oat to 0 10 v1)) v4) 4 80 ((v1 * 8) + (oat to 0 10 v1)) v5) 0 10 v1 ((oat to 0 10 v1) + 1)) fl).2 (oat to 0 10 v1))
noncomputable def Ph_line (to : Ob) (fl : Ob) (v1 : Int32) (v2 : Int32) (v3 : Int32) (v4 : Int32) (v5 : Int32) : Option (Int32 × Ob × Ob) :=
  (if (Ph_isTold to v1) = true then (if (Ph_isLine v2 v3 v4 v5) = true then (if (oat to 0 10 v1) < 8 then (some ((Told_addLine to fl v1 v2 v3 v4 v5).1, (Told_addLine to fl v1 v2 v3 v4 v5).2.1, (Told_addLine to fl v1 v2 v3 v4 v5).2.2)) else none) else none) else none)
noncomputable def Told_cutLine_24 (to : Ob) (fl : Ob) (v2 : Int32) : Int32 × Ob × Ob :=
  (v2, to, fl)
noncomputable def Told_cutLine (to : Ob) (fl : Ob) (v1 : Int32) : Int32 × Ob × Ob :=
  (Told_cutLine_24 (Told_reckon (oput to 0 10 v1 ((oat to 0 10 v1) - 1)) fl).1 (Told_reckon (oput to 0 10 v1 ((oat to 0 10 v1) - 1)) fl).2 ((oat to 0 10 v1) - 1))
noncomputable def Ph_cut (to : Ob) (fl : Ob) (v1 : Int32) : Option (Int32 × Ob × Ob) :=
  (if (Ph_isTold to v1) = true then (if (oat to 0 10 v1) = 0 then none else (some ((Told_cutLine to fl v1).1, (Told_cutLine to fl v1).2.1, (Told_cutLine to fl v1).2.2))) else none)
noncomputable def Ph_isTarget_19 (to : Ob) : Bool :=
  false
noncomputable def Ph_isTarget (to : Ob) (v1 : Int32) : Bool :=
  (if 0 < v1 then (if v1 < (to.2.1 0) then true else (Ph_isTarget_19 to)) else (Ph_isTarget_19 to))
noncomputable def Ph_isEnd_48 (to : Ob) : Bool :=
  false
noncomputable def Ph_isEnd_71 (to : Ob) : Bool :=
  false
noncomputable def Ph_isEnd_101 (to : Ob) : Bool :=
  false
noncomputable def Ph_isEnd (to : Ob) (v1 : Int32) (v2 : Int32) (v3 : Int32) (v4 : Int32) : Bool :=
  (if v1 = 0 then (if (Ph_isOperand v2) = true then (if v3 = 0 then (if v4 = 0 then true else (Ph_isEnd_48 to)) else (Ph_isEnd_48 to)) else (Ph_isEnd_48 to)) else if v1 = 1 then (if v2 = 0 then (if (Ph_isTarget to v3) = true then (if v4 = 0 then true else (Ph_isEnd_71 to)) else (Ph_isEnd_71 to)) else (Ph_isEnd_71 to)) else if v1 = 2 then (if (Ph_isOperand v2) = true then (if (Ph_isTarget to v3) = true then (if (Ph_isTarget to v4) = true then true else (Ph_isEnd_101 to)) else (Ph_isEnd_101 to)) else (Ph_isEnd_101 to)) else false)
noncomputable def Told_putEnd_58 (to : Ob) (fl : Ob) (v6 : Int32) : Int32 × Ob × Ob :=
  (v6, to, fl)
noncomputable def Told_putEnd (to : Ob) (fl : Ob) (v1 : Int32) (v2 : Int32) (v3 : Int32) (v4 : Int32) (v5 : Int32) : Int32 × Ob × Ob :=
  (Told_putEnd_58 (Told_reckon (oput (oput (oput (oput to 5 10 v1 v2) 6 10 v1 v3) 7 20 (v1 * 2) v4) 7 20 ((v1 * 2) + 1) v5) fl).1 (Told_reckon (oput (oput (oput (oput to 5 10 v1 v2) 6 10 v1 v3) 7 20 (v1 * 2) v4) 7 20 ((v1 * 2) + 1) v5) fl).2 (oat to 5 10 v1))
noncomputable def Ph_end (to : Ob) (fl : Ob) (v1 : Int32) (v2 : Int32) (v3 : Int32) (v4 : Int32) (v5 : Int32) : Option (Int32 × Ob × Ob) :=
  (if (Ph_isTold to v1) = true then (if (Ph_isEnd to v2 v3 v4 v5) = true then (some ((Told_putEnd to fl v1 v2 v3 v4 v5).1, (Told_putEnd to fl v1 v2 v3 v4 v5).2.1, (Told_putEnd to fl v1 v2 v3 v4 v5).2.2)) else none) else none)
noncomputable def Flow_frontier_42 (fl : Ob) (v1 : Int32) (v2 : Int32) (v3 : Int32) (v4 : Int32) : (Int32 × Int32) ⊕ (Int32) :=
  (Sum.inl (v3, (v4 + 1)))
noncomputable def Flow_frontier_L14b (fl : Ob) (v1 : Int32) (v2 : Int32) (v3 : Int32) (v4 : Int32) : (Int32 × Int32) ⊕ (Int32) :=
  (if v4 < 10 then (if (Ph_has v2 v4) = true then (Flow_frontier_42 fl v1 v2 (v3 ||| (oat fl 0 10 v4)) v4) else (Flow_frontier_42 fl v1 v2 v3 v4)) else (Sum.inr (v3 &&& ((v2 &&& ((Ph_bit v1) ^^^ (-1))) ^^^ (-1)))))
noncomputable def Flow_frontier_L14 (fl : Ob) (v1 : Int32) (v2 : Int32) (v3 : Int32) (v4 : Int32) : Int32 :=
  loopW (fun a : Int32 × Int32 => Flow_frontier_L14b fl v1 v2 a.1 a.2) (v3, v4)
noncomputable def Flow_frontier (fl : Ob) (v1 : Int32) : Int32 :=
  (Flow_frontier_L14 fl v1 (oat fl 1 10 v1) 0 0)
noncomputable def Ph_ofBlock (to : Ob) (fl : Ob) (v1 : Int32) (v2 : Int32) : Option (Int32) :=
  (if (Ph_isTold to v1) = true then (if v2 = 0 then (some (oat to 0 10 v1)) else if v2 = 1 then (some (oat to 5 10 v1)) else if v2 = 2 then (if (Ph_has (fl.2.1 0) v1) = true then (some 1) else (some 0)) else if v2 = 3 then (if (Ph_has (fl.2.1 0) v1) = true then (some (oat fl 1 10 v1)) else (some 0)) else if v2 = 4 then (if (Ph_has (fl.2.1 0) v1) = true then (some (Flow_frontier fl v1)) else (some 0)) else if v2 = 5 then (if (Ph_has (fl.2.1 0) v1) = true then (some (oat to 10 10 v1)) else (some 0)) else none) else none)
noncomputable def Form_putInto (ma : Ob) (v1 : Int32) (v2 : Int32) : Ob :=
  (oput (oput (oput ma 1 140 v1 v2) 8 1400 ((v2 * 140) + (oat ma 7 10 v2)) v1) 7 10 v2 ((oat ma 7 10 v2) + 1))
noncomputable def Form_addValue_50 (ma : Ob) : Ob :=
  (oG ma 2 ((ma.2.1 2) + 1))
noncomputable def Form_addValue (ma : Ob) (v1 : Int32) (v2 : Int32) (v3 : Int32) : Ob :=
  (if v1 = (-1) then (Form_addValue_50 (oput (oput (oput ma 0 140 (ma.2.1 2) v2) 2 140 (ma.2.1 2) v3) 1 140 (ma.2.1 2) (-1))) else (Form_addValue_50 (Form_putInto (oput (oput (oput ma 0 140 (ma.2.1 2) v2) 2 140 (ma.2.1 2) v3) 1 140 (ma.2.1 2) (-1)) (ma.2.1 2) v1)))
noncomputable def Form_begin_L72b (ma : Ob) (v3 : Int32) : (Int32 × Ob) ⊕ (Ob) :=
  (if v3 < 6 then (Sum.inl ((v3 + 1), (Form_addValue ma (-1) 10 (-1)))) else (Sum.inr ma))
noncomputable def Form_begin_L72 (ma : Ob) (v3 : Int32) : Ob :=
  loopW (fun a : Int32 × Ob => Form_begin_L72b a.2 a.1) (v3, ma)
noncomputable def Form_begin (ma : Ob) (v1 : Int32) (v2 : Int32) : Ob :=
  (Form_begin_L72 (ofil (ofil (ofil (ofil (ofil (oG (oG (oG (oG (oG (oG ma 0 v1) 1 v2) 2 0) 3 0) 4 0) 5 0) 3 0) 7 0) 9 0) 11 0) 12 (-1)) 0)
noncomputable def Maker_whereJoined_41 (to : Ob) (fl : Ob) (v2 : Int32) (v3 : Int32) (v4 : Int32) : (Int32 × Int32) ⊕ (Int32) :=
  (Sum.inl (v3, (v4 + 1)))
noncomputable def Maker_whereJoined_98 (to : Ob) (fl : Ob) (v3 : Int32) (v4 : Int32) (v5 : Int32) (v6 : Int32) : (Int32 × Int32) ⊕ ((Int32 × Int32) ⊕ (Int32)) :=
  (Sum.inl (v4, (v6 + 1)))
noncomputable def Maker_whereJoined_L63b (to : Ob) (fl : Ob) (v3 : Int32) (v4 : Int32) (v5 : Int32) (v6 : Int32) : (Int32 × Int32) ⊕ ((Int32 × Int32) ⊕ (Int32)) :=
  (if v6 < (to.2.1 0) then (if (Ph_has (v3 ||| v4) v6) = true then (Maker_whereJoined_98 to fl v3 (v4 ||| (Flow_frontier fl v6)) v5 v6) else (Maker_whereJoined_98 to fl v3 v4 v5 v6)) else (Sum.inr (Sum.inl (v4, (v5 + 1)))))
noncomputable def Maker_whereJoined_L63 (to : Ob) (fl : Ob) (v3 : Int32) (v4 : Int32) (v5 : Int32) (v6 : Int32) : (Int32 × Int32) ⊕ (Int32) :=
  loopW (fun a : Int32 × Int32 => Maker_whereJoined_L63b to fl v3 a.1 v5 a.2) (v4, v6)
noncomputable def Maker_whereJoined_L53b (to : Ob) (fl : Ob) (v3 : Int32) (v4 : Int32) (v5 : Int32) : (Int32 × Int32) ⊕ (Int32) :=
  (if v5 < 10 then (Maker_whereJoined_L63 to fl v3 v4 v5 0) else (Sum.inr v4))
noncomputable def Maker_whereJoined_L53 (to : Ob) (fl : Ob) (v3 : Int32) (v4 : Int32) (v5 : Int32) : Int32 :=
  loopW (fun a : Int32 × Int32 => Maker_whereJoined_L53b to fl v3 a.1 a.2) (v4, v5)
noncomputable def Maker_whereJoined_L8b (to : Ob) (fl : Ob) (v2 : Int32) (v3 : Int32) (v4 : Int32) : (Int32 × Int32) ⊕ (Int32) :=
  (if v4 < (to.2.1 0) then (if (Ph_has (oat to 9 10 v4) v2) = true then (Maker_whereJoined_41 to fl v2 (v3 ||| (Ph_bit v4)) v4) else (Maker_whereJoined_41 to fl v2 v3 v4)) else (Sum.inr (Maker_whereJoined_L53 to fl v3 0 0)))
noncomputable def Maker_whereJoined_L8 (to : Ob) (fl : Ob) (v2 : Int32) (v3 : Int32) (v4 : Int32) : Int32 :=
  loopW (fun a : Int32 × Int32 => Maker_whereJoined_L8b to fl v2 a.1 a.2) (v3, v4)
noncomputable def Maker_whereJoined (to : Ob) (fl : Ob) (v2 : Int32) : Int32 :=
  (Maker_whereJoined_L8 to fl v2 (Ph_bit 0) 0)
noncomputable def Maker_placePhis_83 (to : Ob) (fl : Ob) (mk : Ob) (v2 : Int32) (v3 : Int32) (v4 : Int32) : (Int32 × Ob) ⊕ ((Int32 × Ob) ⊕ (Ob)) :=
  (Sum.inl ((v4 + 1), mk))
noncomputable def Maker_placePhis_L26b (to : Ob) (fl : Ob) (mk : Ob) (v2 : Int32) (v3 : Int32) (v4 : Int32) : (Int32 × Ob) ⊕ ((Int32 × Ob) ⊕ (Ob)) :=
  (if v4 < (to.2.1 0) then (if (Ph_has v3 v4) = true then (if (Ph_has (oat to 10 10 v4) v2) = true then (Maker_placePhis_83 to fl (oput mk 2 10 v4 ((oat mk 2 10 v4) ||| (Ph_bit v2))) v2 v3 v4) else (Maker_placePhis_83 to fl mk v2 v3 v4)) else (Maker_placePhis_83 to fl mk v2 v3 v4)) else (Sum.inr (Sum.inl ((v2 + 1), mk))))
noncomputable def Maker_placePhis_L26 (to : Ob) (fl : Ob) (mk : Ob) (v2 : Int32) (v3 : Int32) (v4 : Int32) : (Int32 × Ob) ⊕ (Ob) :=
  loopW (fun a : Int32 × Ob => Maker_placePhis_L26b to fl a.2 v2 v3 a.1) (v4, mk)
noncomputable def Maker_placePhis_L10b (to : Ob) (fl : Ob) (mk : Ob) (v2 : Int32) : (Int32 × Ob) ⊕ (Ob) :=
  (if v2 < 6 then (Maker_placePhis_L26 to fl mk v2 (Maker_whereJoined to fl v2) 0) else (Sum.inr mk))
noncomputable def Maker_placePhis_L10 (to : Ob) (fl : Ob) (mk : Ob) (v2 : Int32) : Ob :=
  loopW (fun a : Int32 × Ob => Maker_placePhis_L10b to fl a.2 a.1) (v2, mk)
noncomputable def Maker_placePhis (to : Ob) (fl : Ob) (mk : Ob) : Ob :=
  (Maker_placePhis_L10 to fl (ofil mk 2 0) 0)
noncomputable def Maker_addValues_35 (to : Ob) (ma : Ob) (mk : Ob) (v3 : Int32) (v4 : Int32) : (Int32 × Ob) ⊕ (Ob) :=
  (Sum.inl ((v4 + 1), ma))
noncomputable def Maker_addValues_86 (to : Ob) (ma : Ob) (mk : Ob) (v3 : Int32) (v4 : Int32) : (Int32 × Ob) ⊕ (Ob) :=
  (Sum.inl ((v4 + 1), ma))
noncomputable def Maker_addValues_L44b (to : Ob) (ma : Ob) (mk : Ob) (v3 : Int32) (v4 : Int32) : (Int32 × Ob) ⊕ (Ob) :=
  (if v4 < (oat to 0 10 v3) then (if (oat to 1 80 ((v3 * 8) + v4)) = 0 then (Maker_addValues_86 to ma mk v3 v4) else (Maker_addValues_86 to (Form_addValue ma v3 (oat to 1 80 ((v3 * 8) + v4)) (-1)) mk v3 v4)) else (Sum.inr ma))
noncomputable def Maker_addValues_L44 (to : Ob) (ma : Ob) (mk : Ob) (v3 : Int32) (v4 : Int32) : Ob :=
  loopW (fun a : Int32 × Ob => Maker_addValues_L44b to a.2 mk v3 a.1) (v4, ma)
noncomputable def Maker_addValues_L3b (to : Ob) (ma : Ob) (mk : Ob) (v3 : Int32) (v4 : Int32) : (Int32 × Ob) ⊕ (Ob) :=
  (if v4 < 6 then (if (Ph_has (oat mk 2 10 v3) v4) = true then (Maker_addValues_35 to (Form_addValue ma v3 9 v4) mk v3 v4) else (Maker_addValues_35 to ma mk v3 v4)) else (Sum.inr (Maker_addValues_L44 to ma mk v3 0)))
noncomputable def Maker_addValues_L3 (to : Ob) (ma : Ob) (mk : Ob) (v3 : Int32) (v4 : Int32) : Ob :=
  loopW (fun a : Int32 × Ob => Maker_addValues_L3b to a.2 mk v3 a.1) (v4, ma)
noncomputable def Maker_addValues (to : Ob) (ma : Ob) (mk : Ob) (v3 : Int32) : Ob :=
  (Maker_addValues_L3 to ma mk v3 0)
noncomputable def Form_addEdge (ma : Ob) (v1 : Int32) (v2 : Int32) : Ob :=
  (oput (oput (oput ma 12 20 v1 v2) 10 200 ((v2 * 20) + (oat ma 9 10 v2)) v1) 9 10 v2 ((oat ma 9 10 v2) + 1))
noncomputable def Maker_addEdges_L23b (to : Ob) (ma : Ob) (v3 : Int32) (v4 : Int32) (v5 : Int32) : (Int32 × Ob) ⊕ (Ob) :=
  (if v5 < v4 then (Sum.inl ((v5 + 1), (Form_addEdge ma ((v3 * 2) + v5) (oat to 7 20 ((v3 * 2) + v5))))) else (Sum.inr ma))
noncomputable def Maker_addEdges_L23 (to : Ob) (ma : Ob) (v3 : Int32) (v4 : Int32) (v5 : Int32) : Ob :=
  loopW (fun a : Int32 × Ob => Maker_addEdges_L23b to a.2 v3 v4 a.1) (v5, ma)
noncomputable def Maker_addEdges (to : Ob) (ma : Ob) (v3 : Int32) : Ob :=
  (Maker_addEdges_L23 to (oput ma 11 10 v3 (oat to 5 10 v3)) v3 (oat to 5 10 v3) 0)
noncomputable def Flow_nearestDominator_45 (fl : Ob) (v1 : Int32) (v2 : Int32) (v3 : Int32) : (Int32 × Int32) ⊕ (Int32) :=
  (Sum.inl (v2, (v3 + 1)))
noncomputable def Flow_nearestDominator_L4b (fl : Ob) (v1 : Int32) (v2 : Int32) (v3 : Int32) : (Int32 × Int32) ⊕ (Int32) :=
  (if v3 < 10 then (if (oat fl 3 10 v3) = v1 then (Flow_nearestDominator_45 fl v1 v2 v3) else (if (Ph_has (oat fl 2 10 v1) (oat fl 3 10 v3)) = true then (Flow_nearestDominator_45 fl v1 (oat fl 3 10 v3) v3) else (Flow_nearestDominator_45 fl v1 v2 v3))) else (Sum.inr v2))
noncomputable def Flow_nearestDominator_L4 (fl : Ob) (v1 : Int32) (v2 : Int32) (v3 : Int32) : Int32 :=
  loopW (fun a : Int32 × Int32 => Flow_nearestDominator_L4b fl v1 a.1 a.2) (v2, v3)
noncomputable def Flow_nearestDominator (fl : Ob) (v1 : Int32) : Int32 :=
  (Flow_nearestDominator_L4 fl v1 (-1) 0)
noncomputable def Form_valueIn (ma : Ob) (v1 : Int32) (v2 : Int32) : Int32 :=
  (oat ma 8 1400 ((v1 * 140) + v2))
noncomputable def Maker_hold (mk : Ob) (v1 : Int32) (v2 : Int32) (v3 : Int32) (v4 : Int32) : Ob :=
  (oput (oput mk 0 60 ((v1 * 6) + v2) v3) 1 60 ((v1 * 6) + v2) v4)
noncomputable def Maker_holdAtBeginning_73 (fl : Ob) (ma : Ob) (mk : Ob) (v3 : Int32) (v4 : Int32) (v5 : Int32) (w0 : Int32) (w1 : Int32) (w2 : Int32) (w3 : Int32) : (Int32 × Ob) ⊕ (Ob) :=
  (Sum.inl ((v5 + 1), (Maker_hold mk w3 w2 w1 w0)))
noncomputable def Maker_holdAtBeginning_54 (fl : Ob) (ma : Ob) (mk : Ob) (v3 : Int32) (v4 : Int32) (v5 : Int32) (v6 : Int32) (w0 : Int32) (w1 : Int32) (w2 : Int32) : (Int32 × Ob) ⊕ (Ob) :=
  (if v4 = (-1) then (Maker_holdAtBeginning_73 fl ma mk v3 v4 v5 0 w0 w1 w2) else (Maker_holdAtBeginning_73 fl ma mk v3 v4 v5 (oat mk 1 60 v6) w0 w1 w2))
noncomputable def Maker_holdAtBeginning_138 (fl : Ob) (ma : Ob) (mk : Ob) (v3 : Int32) (v5 : Int32) : (Int32 × Ob) ⊕ (Ob) :=
  (Sum.inl ((v5 + 1), mk))
noncomputable def Maker_holdAtBeginning_L85b (fl : Ob) (ma : Ob) (mk : Ob) (v3 : Int32) (v5 : Int32) : (Int32 × Ob) ⊕ (Ob) :=
  (if v5 < (oat ma 7 10 v3) then (if (oat ma 0 140 (Form_valueIn ma v3 v5)) = 9 then (Maker_holdAtBeginning_138 fl ma (Maker_hold mk v3 (oat ma 2 140 (Form_valueIn ma v3 v5)) (Form_valueIn ma v3 v5) 0) v3 v5) else (Maker_holdAtBeginning_138 fl ma mk v3 v5)) else (Sum.inr mk))
noncomputable def Maker_holdAtBeginning_L85 (fl : Ob) (ma : Ob) (mk : Ob) (v3 : Int32) (v5 : Int32) : Ob :=
  loopW (fun a : Int32 × Ob => Maker_holdAtBeginning_L85b fl ma a.2 v3 a.1) (v5, mk)
noncomputable def Maker_holdAtBeginning_L13b (fl : Ob) (ma : Ob) (mk : Ob) (v3 : Int32) (v4 : Int32) (v5 : Int32) : (Int32 × Ob) ⊕ (Ob) :=
  (if v5 < 6 then (if v4 = (-1) then (Maker_holdAtBeginning_54 fl ma mk v3 v4 v5 ((v4 * 6) + v5) v5 v5 v3) else (Maker_holdAtBeginning_54 fl ma mk v3 v4 v5 ((v4 * 6) + v5) (oat mk 0 60 ((v4 * 6) + v5)) v5 v3)) else (Sum.inr (Maker_holdAtBeginning_L85 fl ma mk v3 0)))
noncomputable def Maker_holdAtBeginning_L13 (fl : Ob) (ma : Ob) (mk : Ob) (v3 : Int32) (v4 : Int32) (v5 : Int32) : Ob :=
  loopW (fun a : Int32 × Ob => Maker_holdAtBeginning_L13b fl ma a.2 v3 v4 a.1) (v5, mk)
noncomputable def Maker_holdAtBeginning (fl : Ob) (ma : Ob) (mk : Ob) (v3 : Int32) : Ob :=
  (Maker_holdAtBeginning_L13 fl ma mk v3 (Flow_nearestDominator fl v3) 0)
noncomputable def J_bitCount (v0 : Int32) : Int32 :=
  ((((((((v0 - (((v0).toUInt32 >>> (((1 : Int32)).toUInt32 &&& Int32.toUInt32 31)).toInt32 &&& 1431655765)) &&& 858993459) + ((((v0 - (((v0).toUInt32 >>> (((1 : Int32)).toUInt32 &&& Int32.toUInt32 31)).toInt32 &&& 1431655765))).toUInt32 >>> (((2 : Int32)).toUInt32 &&& Int32.toUInt32 31)).toInt32 &&& 858993459)) + (((((v0 - (((v0).toUInt32 >>> (((1 : Int32)).toUInt32 &&& Int32.toUInt32 31)).toInt32 &&& 1431655765)) &&& 858993459) + ((((v0 - (((v0).toUInt32 >>> (((1 : Int32)).toUInt32 &&& Int32.toUInt32 31)).toInt32 &&& 1431655765))).toUInt32 >>> (((2 : Int32)).toUInt32 &&& Int32.toUInt32 31)).toInt32 &&& 858993459))).toUInt32 >>> (((4 : Int32)).toUInt32 &&& Int32.toUInt32 31)).toInt32) &&& 252645135) + (((((((v0 - (((v0).toUInt32 >>> (((1 : Int32)).toUInt32 &&& Int32.toUInt32 31)).toInt32 &&& 1431655765)) &&& 858993459) + ((((v0 - (((v0).toUInt32 >>> (((1 : Int32)).toUInt32 &&& Int32.toUInt32 31)).toInt32 &&& 1431655765))).toUInt32 >>> (((2 : Int32)).toUInt32 &&& Int32.toUInt32 31)).toInt32 &&& 858993459)) + (((((v0 - (((v0).toUInt32 >>> (((1 : Int32)).toUInt32 &&& Int32.toUInt32 31)).toInt32 &&& 1431655765)) &&& 858993459) + ((((v0 - (((v0).toUInt32 >>> (((1 : Int32)).toUInt32 &&& Int32.toUInt32 31)).toInt32 &&& 1431655765))).toUInt32 >>> (((2 : Int32)).toUInt32 &&& Int32.toUInt32 31)).toInt32 &&& 858993459))).toUInt32 >>> (((4 : Int32)).toUInt32 &&& Int32.toUInt32 31)).toInt32) &&& 252645135)).toUInt32 >>> (((8 : Int32)).toUInt32 &&& Int32.toUInt32 31)).toInt32) + ((((((((v0 - (((v0).toUInt32 >>> (((1 : Int32)).toUInt32 &&& Int32.toUInt32 31)).toInt32 &&& 1431655765)) &&& 858993459) + ((((v0 - (((v0).toUInt32 >>> (((1 : Int32)).toUInt32 &&& Int32.toUInt32 31)).toInt32 &&& 1431655765))).toUInt32 >>> (((2 : Int32)).toUInt32 &&& Int32.toUInt32 31)).toInt32 &&& 858993459)) + (((((v0 - (((v0).toUInt32 >>> (((1 : Int32)).toUInt32 &&& Int32.toUInt32 31)).toInt32 &&& 1431655765)) &&& 858993459) + ((((v0 - (((v0).toUInt32 >>> (((1 : Int32)).toUInt32 &&& Int32.toUInt32 31)).toInt32 &&& 1431655765))).toUInt32 >>> (((2 : Int32)).toUInt32 &&& Int32.toUInt32 31)).toInt32 &&& 858993459))).toUInt32 >>> (((4 : Int32)).toUInt32 &&& Int32.toUInt32 31)).toInt32) &&& 252645135) + (((((((v0 - (((v0).toUInt32 >>> (((1 : Int32)).toUInt32 &&& Int32.toUInt32 31)).toInt32 &&& 1431655765)) &&& 858993459) + ((((v0 - (((v0).toUInt32 >>> (((1 : Int32)).toUInt32 &&& Int32.toUInt32 31)).toInt32 &&& 1431655765))).toUInt32 >>> (((2 : Int32)).toUInt32 &&& Int32.toUInt32 31)).toInt32 &&& 858993459)) + (((((v0 - (((v0).toUInt32 >>> (((1 : Int32)).toUInt32 &&& Int32.toUInt32 31)).toInt32 &&& 1431655765)) &&& 858993459) + ((((v0 - (((v0).toUInt32 >>> (((1 : Int32)).toUInt32 &&& Int32.toUInt32 31)).toInt32 &&& 1431655765))).toUInt32 >>> (((2 : Int32)).toUInt32 &&& Int32.toUInt32 31)).toInt32 &&& 858993459))).toUInt32 >>> (((4 : Int32)).toUInt32 &&& Int32.toUInt32 31)).toInt32) &&& 252645135)).toUInt32 >>> (((8 : Int32)).toUInt32 &&& Int32.toUInt32 31)).toInt32)).toUInt32 >>> (((16 : Int32)).toUInt32 &&& Int32.toUInt32 31)).toInt32) &&& 63)
noncomputable def Maker_valueFor (mk : Ob) (v1 : Int32) (v2 : Int32) : Int32 :=
  (if (Ph_variableOf v2) = (-1) then (-1) else (oat mk 0 60 ((v1 * 6) + (Ph_variableOf v2))))
noncomputable def Maker_numberFor (mk : Ob) (v1 : Int32) (v2 : Int32) : Int32 :=
  (if (Ph_variableOf v2) = (-1) then v2 else (oat mk 1 60 ((v1 * 6) + (Ph_variableOf v2))))
noncomputable def Form_addArgument_27 (ma : Ob) (v1 : Int32) (v2 : Int32) (v3 : Int32) (v4 : Int32) : Ob :=
  (oG (oput (oput (oput ma 5 290 (ma.2.1 3) v2) 6 290 (ma.2.1 3) v3) 3 150 v1 (v4 + 1)) 3 ((ma.2.1 3) + 1))
noncomputable def Form_addArgument (ma : Ob) (v1 : Int32) (v2 : Int32) (v3 : Int32) : Ob :=
  (if (oat ma 3 150 v1) = 0 then (Form_addArgument_27 (oput ma 4 150 v1 (ma.2.1 3)) v1 v2 v3 (oat ma 3 150 v1)) else (Form_addArgument_27 ma v1 v2 v3 (oat ma 3 150 v1)))
noncomputable def Maker_give (ma : Ob) (mk : Ob) (v2 : Int32) (v3 : Int32) (v4 : Int32) : Ob :=
  (Form_addArgument ma v2 (Maker_valueFor mk v3 v4) (Maker_numberFor mk v3 v4))
noncomputable def Maker_followLines_183 (to : Ob) (ma : Ob) (mk : Ob) (v3 : Int32) (v4 : Int32) (v5 : Int32) : (Int32 × Int32 × Ob × Ob) ⊕ (Ob × Ob) :=
  (Sum.inl (v4, (v5 + 1), ma, mk))
noncomputable def Maker_followLines_122 (to : Ob) (ma : Ob) (mk : Ob) (v3 : Int32) (v4 : Int32) (v5 : Int32) (v6 : Int32) (v7 : Int32) (v8 : Int32) (v9 : Int32) : (Int32 × Int32 × Ob × Ob) ⊕ (Ob × Ob) :=
  (if v7 = 0 then (Maker_followLines_183 to ma (Maker_hold mk v3 (oat to 2 80 v6) (Maker_valueFor mk v3 v8) (Maker_numberFor mk v3 v8)) v3 v4 v5) else (if (Ph_sets v7) = true then (Maker_followLines_183 to ma (Maker_hold mk v3 (oat to 2 80 v6) v9 0) v3 v4 v5) else (Maker_followLines_183 to ma mk v3 v4 v5)))
noncomputable def Maker_followLines_105 (to : Ob) (ma : Ob) (mk : Ob) (v3 : Int32) (v4 : Int32) (v5 : Int32) (v6 : Int32) (v7 : Int32) (v8 : Int32) (v9 : Int32) : (Int32 × Int32 × Ob × Ob) ⊕ (Ob × Ob) :=
  (Maker_followLines_122 to (Maker_give ma mk v9 v3 (oat to 4 80 v6)) mk v3 v4 v5 v6 v7 v8 v9)
noncomputable def Maker_followLines_L16b (to : Ob) (ma : Ob) (mk : Ob) (v3 : Int32) (v4 : Int32) (v5 : Int32) : (Int32 × Int32 × Ob × Ob) ⊕ (Ob × Ob) :=
  (if v5 < (oat to 0 10 v3) then (if (oat to 1 80 ((v3 * 8) + v5)) = 0 then (Maker_followLines_122 to ma mk v3 v4 v5 ((v3 * 8) + v5) (oat to 1 80 ((v3 * 8) + v5)) (oat to 3 80 ((v3 * 8) + v5)) (-1)) else (if (Ph_isReckoning (oat to 1 80 ((v3 * 8) + v5))) = true then (Maker_followLines_105 to (Maker_give ma mk (Form_valueIn ma v3 v4) v3 (oat to 3 80 ((v3 * 8) + v5))) mk v3 (v4 + 1) v5 ((v3 * 8) + v5) (oat to 1 80 ((v3 * 8) + v5)) (oat to 3 80 ((v3 * 8) + v5)) (Form_valueIn ma v3 v4)) else (if (oat to 1 80 ((v3 * 8) + v5)) = 7 then (Maker_followLines_105 to (Maker_give ma mk (Form_valueIn ma v3 v4) v3 (oat to 3 80 ((v3 * 8) + v5))) mk v3 (v4 + 1) v5 ((v3 * 8) + v5) (oat to 1 80 ((v3 * 8) + v5)) (oat to 3 80 ((v3 * 8) + v5)) (Form_valueIn ma v3 v4)) else (Maker_followLines_122 to (Maker_give ma mk (Form_valueIn ma v3 v4) v3 (oat to 3 80 ((v3 * 8) + v5))) mk v3 (v4 + 1) v5 ((v3 * 8) + v5) (oat to 1 80 ((v3 * 8) + v5)) (oat to 3 80 ((v3 * 8) + v5)) (Form_valueIn ma v3 v4))))) else (Sum.inr (if (oat to 5 10 v3) = 1 then (ma, mk) else ((Maker_give ma mk ((140 : Int32) + v3) v3 (oat to 6 10 v3)), mk))))
noncomputable def Maker_followLines_L16 (to : Ob) (ma : Ob) (mk : Ob) (v3 : Int32) (v4 : Int32) (v5 : Int32) : Ob × Ob :=
  loopW (fun a : Int32 × Int32 × Ob × Ob => Maker_followLines_L16b to a.2.2.1 a.2.2.2 v3 a.1 a.2.1) (v4, v5, ma, mk)
noncomputable def Maker_followLines (to : Ob) (ma : Ob) (mk : Ob) (v3 : Int32) : Ob × Ob :=
  (Maker_followLines_L16 to ma mk v3 (J_bitCount (oat mk 2 10 v3)) 0)
noncomputable def Form_wayTo (ma : Ob) (v1 : Int32) (v2 : Int32) : Int32 :=
  (oat ma 10 200 ((v1 * 20) + v2))
noncomputable def Ph_fromOf (v0 : Int32) : Int32 :=
  (if v0 < 0 then (-1) else (v0 / 2))
noncomputable def Maker_givePhi_L12b (ma : Ob) (mk : Ob) (v2 : Int32) (v3 : Int32) (v4 : Int32) : (Int32 × Ob) ⊕ (Ob) :=
  (if v4 < (oat ma 9 10 v3) then (Sum.inl ((v4 + 1), (Form_addArgument ma v2 (oat mk 0 60 (((Ph_fromOf (Form_wayTo ma v3 v4)) * 6) + (oat ma 2 140 v2))) (oat mk 1 60 (((Ph_fromOf (Form_wayTo ma v3 v4)) * 6) + (oat ma 2 140 v2)))))) else (Sum.inr ma))
noncomputable def Maker_givePhi_L12 (ma : Ob) (mk : Ob) (v2 : Int32) (v3 : Int32) (v4 : Int32) : Ob :=
  loopW (fun a : Int32 × Ob => Maker_givePhi_L12b a.2 mk v2 v3 a.1) (v4, ma)
noncomputable def Maker_givePhi (ma : Ob) (mk : Ob) (v2 : Int32) : Ob :=
  (Maker_givePhi_L12 ma mk v2 (oat ma 1 140 v2) 0)
noncomputable def Maker_givePhisTheirs_29 (ma : Ob) (mk : Ob) (v2 : Int32) : (Int32 × Ob) ⊕ (Ob) :=
  (Sum.inl ((v2 + 1), ma))
noncomputable def Maker_givePhisTheirs_L2b (ma : Ob) (mk : Ob) (v2 : Int32) : (Int32 × Ob) ⊕ (Ob) :=
  (if v2 < (ma.2.1 2) then (if (oat ma 0 140 v2) = 9 then (Maker_givePhisTheirs_29 (Maker_givePhi ma mk v2) mk v2) else (Maker_givePhisTheirs_29 ma mk v2)) else (Sum.inr ma))
noncomputable def Maker_givePhisTheirs_L2 (ma : Ob) (mk : Ob) (v2 : Int32) : Ob :=
  loopW (fun a : Int32 × Ob => Maker_givePhisTheirs_L2b a.2 mk a.1) (v2, ma)
noncomputable def Maker_givePhisTheirs (ma : Ob) (mk : Ob) : Ob :=
  (Maker_givePhisTheirs_L2 ma mk 0)
noncomputable def Maker_make_55 (to : Ob) (fl : Ob) (ma : Ob) (mk : Ob) (v3 : Int32) : (Int32 × Ob) ⊕ (Ob × Ob) :=
  (Sum.inl ((v3 + 1), ma))
noncomputable def Maker_make_104 (to : Ob) (fl : Ob) (ma : Ob) (mk : Ob) (v3 : Int32) : (Int32 × Ob × Ob) ⊕ (Ob × Ob) :=
  (Sum.inl ((v3 + 1), ma, mk))
noncomputable def Maker_make_L63b (to : Ob) (fl : Ob) (ma : Ob) (mk : Ob) (v3 : Int32) : (Int32 × Ob × Ob) ⊕ (Ob × Ob) :=
  (if v3 < 10 then (if (oat fl 3 10 v3) = (-1) then (Maker_make_104 to fl ma mk v3) else (Maker_make_104 to fl (Maker_followLines to ma (Maker_holdAtBeginning fl ma mk (oat fl 3 10 v3)) (oat fl 3 10 v3)).1 (Maker_followLines to ma (Maker_holdAtBeginning fl ma mk (oat fl 3 10 v3)) (oat fl 3 10 v3)).2 v3)) else (Sum.inr ((Maker_givePhisTheirs ma mk), mk)))
noncomputable def Maker_make_L63 (to : Ob) (fl : Ob) (ma : Ob) (mk : Ob) (v3 : Int32) : Ob × Ob :=
  loopW (fun a : Int32 × Ob × Ob => Maker_make_L63b to fl a.2.1 a.2.2 a.1) (v3, ma, mk)
noncomputable def Maker_make_L22b (to : Ob) (fl : Ob) (ma : Ob) (mk : Ob) (v3 : Int32) : (Int32 × Ob) ⊕ (Ob × Ob) :=
  (if v3 < (to.2.1 0) then (if (Ph_has (ma.2.1 1) v3) = true then (Maker_make_55 to fl (Maker_addEdges to (Maker_addValues to ma mk v3) v3) mk v3) else (Maker_make_55 to fl ma mk v3)) else (Sum.inr (Maker_make_L63 to fl ma mk 0)))
noncomputable def Maker_make_L22 (to : Ob) (fl : Ob) (ma : Ob) (mk : Ob) (v3 : Int32) : Ob × Ob :=
  loopW (fun a : Int32 × Ob => Maker_make_L22b to fl a.2 mk a.1) (v3, ma)
noncomputable def Maker_make (to : Ob) (fl : Ob) (ma : Ob) (mk : Ob) : Ob × Ob :=
  (Maker_make_L22 to fl (Form_begin ma (to.2.1 0) (fl.2.1 0)) (Maker_placePhis to fl mk) 0)
noncomputable def Ph_form_15 (to : Ob) (fl : Ob) (ma : Ob) (mk : Ob) (ph : Ob) : Int32 × Ob × Ob × Ob :=
  ((ma.2.1 2), ma, mk, (oB ph 0 true))
noncomputable def Ph_form (to : Ob) (fl : Ob) (ma : Ob) (mk : Ob) (ph : Ob) : Int32 × Ob × Ob × Ob :=
  (Ph_form_15 to fl (Maker_make to fl ma mk).1 (Maker_make to fl ma mk).2 ph)
noncomputable def Ph_isPass_14 : Bool :=
  false
noncomputable def Ph_isPass (v0 : Int32) : Bool :=
  (if v0 < 1 then (Ph_isPass_14) else (if (4 : Int32) < v0 then (Ph_isPass_14) else true))
noncomputable def Constants_begin_39 (cn : Ob) (v1 : Int32) (w0 : Int32) (w1 : Int32) : (Int32 × Ob) ⊕ (Ob) :=
  (Sum.inl ((v1 + 1), (oput cn 0 140 w1 w0)))
noncomputable def Constants_begin_L18b (cn : Ob) (v1 : Int32) : (Int32 × Ob) ⊕ (Ob) :=
  (if v1 < 6 then (if v1 < 2 then (Constants_begin_39 cn v1 2 v1) else (Constants_begin_39 cn v1 1 v1)) else (Sum.inr (oB (oG (oG cn 0 (Ph_bit 0)) 1 0) 0 true)))
noncomputable def Constants_begin_L18 (cn : Ob) (v1 : Int32) : Ob :=
  loopW (fun a : Int32 × Ob => Constants_begin_L18b a.2 a.1) (v1, cn)
noncomputable def Constants_begin (cn : Ob) : Ob :=
  (Constants_begin_L18 (ofil (ofil cn 0 0) 1 0) 0)
noncomputable def Constants_knownAt (ma : Ob) (cn : Ob) (v2 : Int32) : Int32 :=
  (if (oat ma 5 290 v2) = (-1) then 1 else (oat cn 0 140 (oat ma 5 290 v2)))
noncomputable def Constants_rise (cn : Ob) (v1 : Int32) (v2 : Int32) (v3 : Int32) : Ob :=
  (if (oat cn 0 140 v1) < v2 then (oB (oput (oput cn 0 140 v1 v2) 1 140 v1 v3) 0 true) else cn)
noncomputable def Constants_numberAt (ma : Ob) (cn : Ob) (v2 : Int32) : Int32 :=
  (if (oat ma 5 290 v2) = (-1) then (oat ma 6 290 v2) else (oat cn 1 140 (oat ma 5 290 v2)))
noncomputable def Constants_meet_136 (ma : Ob) (cn : Ob) (v2 : Int32) (v3 : Int32) (v4 : Int32) (v5 : Int32) (v6 : Int32) : (Int32 × Int32 × Int32) ⊕ (Ob) :=
  (Sum.inl (v4, v5, (v6 + 1)))
noncomputable def Constants_meet_133 (ma : Ob) (cn : Ob) (v2 : Int32) (v3 : Int32) (v5 : Int32) (v6 : Int32) : (Int32 × Int32 × Int32) ⊕ (Ob) :=
  (Constants_meet_136 ma cn v2 v3 2 v5 v6)
noncomputable def Constants_meet_122 (ma : Ob) (cn : Ob) (v2 : Int32) (v3 : Int32) (v4 : Int32) (v5 : Int32) (v6 : Int32) (v8 : Int32) (v9 : Int32) : (Int32 × Int32 × Int32) ⊕ (Ob) :=
  (if v8 = 2 then (Constants_meet_133 ma cn v2 v3 v5 v6) else (if v9 = 0 then (Constants_meet_136 ma cn v2 v3 v4 v5 v6) else (Constants_meet_133 ma cn v2 v3 v5 v6)))
noncomputable def Constants_meet_94 (ma : Ob) (cn : Ob) (v2 : Int32) (v3 : Int32) (v4 : Int32) (v5 : Int32) (v6 : Int32) (v7 : Int32) (v8 : Int32) (w0 : Int32) : (Int32 × Int32 × Int32) ⊕ (Ob) :=
  (if v8 = 1 then (if v4 = 0 then (Constants_meet_136 ma cn v2 v3 1 (Constants_numberAt ma cn v7) v6) else (Constants_meet_122 ma cn v2 v3 v4 v5 v6 v8 w0)) else (Constants_meet_122 ma cn v2 v3 v4 v5 v6 v8 w0))
noncomputable def Constants_meet_93 (ma : Ob) (cn : Ob) (v2 : Int32) (v3 : Int32) (v4 : Int32) (v5 : Int32) (v6 : Int32) (v7 : Int32) (v8 : Int32) : (Int32 × Int32 × Int32) ⊕ (Ob) :=
  (Constants_meet_94 ma cn v2 v3 v4 v5 v6 v7 v8 0)
noncomputable def Constants_meet_63 (ma : Ob) (cn : Ob) (v2 : Int32) (v3 : Int32) (v4 : Int32) (v5 : Int32) (v6 : Int32) (v7 : Int32) (w0 : Int32) : (Int32 × Int32 × Int32) ⊕ (Ob) :=
  (if w0 = 1 then (if v4 = 1 then (if (Constants_numberAt ma cn v7) = v5 then (Constants_meet_93 ma cn v2 v3 v4 v5 v6 v7 w0) else (Constants_meet_94 ma cn v2 v3 v4 v5 v6 v7 w0 1)) else (Constants_meet_93 ma cn v2 v3 v4 v5 v6 v7 w0)) else (Constants_meet_93 ma cn v2 v3 v4 v5 v6 v7 w0))
noncomputable def Constants_meet_L9b (ma : Ob) (cn : Ob) (v2 : Int32) (v3 : Int32) (v4 : Int32) (v5 : Int32) (v6 : Int32) : (Int32 × Int32 × Int32) ⊕ (Ob) :=
  (if v6 < (oat ma 9 10 v2) then (if (Ph_has (cn.2.1 1) (Form_wayTo ma v2 v6)) = true then (Constants_meet_63 ma cn v2 v3 v4 v5 v6 ((oat ma 4 150 v3) + v6) (Constants_knownAt ma cn ((oat ma 4 150 v3) + v6))) else (Constants_meet_63 ma cn v2 v3 v4 v5 v6 ((oat ma 4 150 v3) + v6) 0)) else (Sum.inr (Constants_rise cn v3 v4 v5)))
noncomputable def Constants_meet_L9 (ma : Ob) (cn : Ob) (v2 : Int32) (v3 : Int32) (v4 : Int32) (v5 : Int32) (v6 : Int32) : Ob :=
  loopW (fun a : Int32 × Int32 × Int32 => Constants_meet_L9b ma cn v2 v3 a.1 a.2.1 a.2.2) (v4, v5, v6)
noncomputable def Constants_meet (ma : Ob) (cn : Ob) (v2 : Int32) (v3 : Int32) : Ob :=
  (Constants_meet_L9 ma cn v2 v3 0 0 0)
noncomputable def Ph_reckoned (v0 : Int32) (v1 : Int32) (v2 : Int32) : Int32 :=
  (if v0 = 1 then (v1 + v2) else if v0 = 2 then (v1 - v2) else if v0 = 3 then (v1 * v2) else if v0 = 4 then (if v2 = 0 then 0 else (v1 / v2)) else if v0 = 5 then (if v1 < v2 then 1 else 0) else 0)
noncomputable def Constants_reckon_74 (ma : Ob) (cn : Ob) (v2 : Int32) : Ob :=
  (Constants_rise cn v2 2 0)
noncomputable def Constants_reckon_84 (ma : Ob) (cn : Ob) (v2 : Int32) (v3 : Int32) (v4 : Int32) (v7 : Int32) : Ob :=
  (Constants_rise cn v2 1 (Ph_reckoned v3 (Constants_numberAt ma cn v4) v7))
noncomputable def Constants_reckon (ma : Ob) (cn : Ob) (v2 : Int32) (v3 : Int32) : Ob :=
  (if (Constants_knownAt ma cn (oat ma 4 150 v2)) = 0 then cn else (if (Constants_knownAt ma cn ((oat ma 4 150 v2) + 1)) = 0 then cn else (if (Constants_knownAt ma cn (oat ma 4 150 v2)) = 2 then (Constants_reckon_74 ma cn v2) else (if (Constants_knownAt ma cn ((oat ma 4 150 v2) + 1)) = 2 then (Constants_reckon_74 ma cn v2) else (if v3 = 4 then (if (Constants_numberAt ma cn ((oat ma 4 150 v2) + 1)) = 0 then (Constants_reckon_74 ma cn v2) else (Constants_reckon_84 ma cn v2 v3 (oat ma 4 150 v2) (Constants_numberAt ma cn ((oat ma 4 150 v2) + 1)))) else (Constants_reckon_84 ma cn v2 v3 (oat ma 4 150 v2) (Constants_numberAt ma cn ((oat ma 4 150 v2) + 1))))))))
noncomputable def Constants_visit_86 (ma : Ob) (cn : Ob) (v2 : Int32) (v3 : Int32) : (Int32 × Ob) ⊕ (Ob) :=
  (Sum.inl ((v3 + 1), cn))
noncomputable def Constants_visit_L2b (ma : Ob) (cn : Ob) (v2 : Int32) (v3 : Int32) : (Int32 × Ob) ⊕ (Ob) :=
  (if v3 < (oat ma 7 10 v2) then (if (oat ma 0 140 (Form_valueIn ma v2 v3)) = 9 then (Constants_visit_86 ma (Constants_meet ma cn v2 (Form_valueIn ma v2 v3)) v2 v3) else (if (oat ma 0 140 (Form_valueIn ma v2 v3)) = 6 then (Constants_visit_86 ma (Constants_rise cn (Form_valueIn ma v2 v3) 2 0) v2 v3) else (if (Ph_isReckoning (oat ma 0 140 (Form_valueIn ma v2 v3))) = true then (Constants_visit_86 ma (Constants_reckon ma cn (Form_valueIn ma v2 v3) (oat ma 0 140 (Form_valueIn ma v2 v3))) v2 v3) else (Constants_visit_86 ma cn v2 v3)))) else (Sum.inr cn))
noncomputable def Constants_visit_L2 (ma : Ob) (cn : Ob) (v2 : Int32) (v3 : Int32) : Ob :=
  loopW (fun a : Int32 × Ob => Constants_visit_L2b ma a.2 v2 a.1) (v3, cn)
noncomputable def Constants_visit (ma : Ob) (cn : Ob) (v2 : Int32) : Ob :=
  (Constants_visit_L2 ma cn v2 0)
noncomputable def Constants_goAlong (ma : Ob) (cn : Ob) (v2 : Int32) : Ob :=
  (if (Ph_has (cn.2.1 1) v2) = true then cn else (if (oat ma 12 20 v2) = (-1) then cn else (oB (oG (oG cn 1 ((cn.2.1 1) ||| (Ph_bit v2))) 0 ((cn.2.1 0) ||| (Ph_bit (oat ma 12 20 v2)))) 0 true)))
noncomputable def Constants_goOn_113 (ma : Ob) (cn : Ob) (v3 : Int32) : Ob :=
  (Constants_goAlong ma cn (v3 + 1))
noncomputable def Constants_goOn_96 (ma : Ob) (cn : Ob) (v3 : Int32) (v6 : Int32) (v7 : Int32) : Ob :=
  (if v6 = 2 then (Constants_goOn_113 ma cn v3) else (if v6 = 1 then (if v7 = 0 then (Constants_goOn_113 ma cn v3) else cn) else cn))
noncomputable def Constants_goOn_90 (ma : Ob) (cn : Ob) (v3 : Int32) (v6 : Int32) (v7 : Int32) : Ob :=
  (Constants_goOn_96 ma (Constants_goAlong ma cn v3) v3 v6 v7)
noncomputable def Constants_goOn_77 (ma : Ob) (cn : Ob) (v3 : Int32) (v6 : Int32) (w0 : Int32) : Ob :=
  (if v6 = 2 then (Constants_goOn_90 ma cn v3 v6 w0) else (if w0 = 0 then (Constants_goOn_96 ma cn v3 v6 w0) else (Constants_goOn_90 ma cn v3 v6 w0)))
noncomputable def Constants_goOn_76 (ma : Ob) (cn : Ob) (v3 : Int32) (v6 : Int32) : Ob :=
  (Constants_goOn_77 ma cn v3 v6 0)
noncomputable def Constants_goOn_26 (ma : Ob) (cn : Ob) (v2 : Int32) (v3 : Int32) (v4 : Int32) : Ob :=
  (if v4 = 2 then (if (Constants_knownAt ma cn (oat ma 4 150 ((140 : Int32) + v2))) = 1 then (if 0 < (Constants_numberAt ma cn (oat ma 4 150 ((140 : Int32) + v2))) then (Constants_goOn_77 ma cn v3 (Constants_knownAt ma cn (oat ma 4 150 ((140 : Int32) + v2))) 1) else (Constants_goOn_76 ma cn v3 (Constants_knownAt ma cn (oat ma 4 150 ((140 : Int32) + v2))))) else (Constants_goOn_76 ma cn v3 (Constants_knownAt ma cn (oat ma 4 150 ((140 : Int32) + v2))))) else cn)
noncomputable def Constants_goOn (ma : Ob) (cn : Ob) (v2 : Int32) : Ob :=
  (if (oat ma 11 10 v2) = 1 then (Constants_goOn_26 ma (Constants_goAlong ma cn (v2 * 2)) v2 (v2 * 2) (oat ma 11 10 v2)) else (Constants_goOn_26 ma cn v2 (v2 * 2) (oat ma 11 10 v2)))
noncomputable def Form_edgeOf_L2b (ma : Ob) (v1 : Int32) (v2 : Int32) (v3 : Int32) : (Int32) ⊕ (Int32) :=
  (if v3 < (oat ma 9 10 v1) then (if (oat ma 10 200 ((v1 * 20) + v3)) = v2 then (Sum.inr v3) else (Sum.inl (v3 + 1))) else (Sum.inr (-1)))
noncomputable def Form_edgeOf_L2 (ma : Ob) (v1 : Int32) (v2 : Int32) (v3 : Int32) : Int32 :=
  loopW (fun a : Int32 => Form_edgeOf_L2b ma v1 v2 a) v3
noncomputable def Form_edgeOf (ma : Ob) (v1 : Int32) (v2 : Int32) : Int32 :=
  (Form_edgeOf_L2 ma v1 v2 0)
noncomputable def Form_dropArgument_L33b (ma : Ob) (v1 : Int32) (v3 : Int32) (v4 : Int32) (v5 : Int32) : (Int32 × Ob) ⊕ (Ob) :=
  (if v5 < (v3 + v4) then (Sum.inl ((v5 + 1), (oput (oput ma 5 290 v5 (oat ma 5 290 (v5 + 1))) 6 290 v5 (oat ma 6 290 (v5 + 1))))) else (Sum.inr (oput ma 3 150 v1 v4)))
noncomputable def Form_dropArgument_L33 (ma : Ob) (v1 : Int32) (v3 : Int32) (v4 : Int32) (v5 : Int32) : Ob :=
  loopW (fun a : Int32 × Ob => Form_dropArgument_L33b a.2 v1 v3 v4 a.1) (v5, ma)
noncomputable def Form_dropArgument (ma : Ob) (v1 : Int32) (v2 : Int32) : Ob :=
  (if ((oat ma 3 150 v1) - 1) < v2 then ma else (Form_dropArgument_L33 ma v1 (oat ma 4 150 v1) ((oat ma 3 150 v1) - 1) ((oat ma 4 150 v1) + v2)))
noncomputable def Form_dropEdge_77 (ma : Ob) (v1 : Int32) (v2 : Int32) (v3 : Int32) (v4 : Int32) : (Int32 × Ob) ⊕ (Ob) :=
  (Sum.inl ((v4 + 1), ma))
noncomputable def Form_dropEdge_L104b (ma : Ob) (v1 : Int32) (v2 : Int32) (v4 : Int32) (v5 : Int32) (v6 : Int32) : (Int32 × Ob) ⊕ (Ob) :=
  (if v6 < v5 then (Sum.inl ((v6 + 1), (oput ma 10 200 (v4 + v6) (oat ma 10 200 ((v4 + v6) + 1))))) else (Sum.inr (oput (oput ma 9 10 v2 v5) 12 20 v1 (-1))))
noncomputable def Form_dropEdge_L104 (ma : Ob) (v1 : Int32) (v2 : Int32) (v4 : Int32) (v5 : Int32) (v6 : Int32) : Ob :=
  loopW (fun a : Int32 × Ob => Form_dropEdge_L104b a.2 v1 v2 v4 v5 a.1) (v6, ma)
noncomputable def Form_dropEdge_L34b (ma : Ob) (v1 : Int32) (v2 : Int32) (v3 : Int32) (v4 : Int32) : (Int32 × Ob) ⊕ (Ob) :=
  (if v4 < (oat ma 7 10 v2) then (if (oat ma 0 140 (Form_valueIn ma v2 v4)) = 9 then (Form_dropEdge_77 (Form_dropArgument ma (Form_valueIn ma v2 v4) v3) v1 v2 v3 v4) else (Form_dropEdge_77 ma v1 v2 v3 v4)) else (Sum.inr (Form_dropEdge_L104 ma v1 v2 (v2 * 20) ((oat ma 9 10 v2) - 1) v3)))
noncomputable def Form_dropEdge_L34 (ma : Ob) (v1 : Int32) (v2 : Int32) (v3 : Int32) (v4 : Int32) : Ob :=
  loopW (fun a : Int32 × Ob => Form_dropEdge_L34b a.2 v1 v2 v3 a.1) (v4, ma)
noncomputable def Form_dropEdge_24 (ma : Ob) (v1 : Int32) (v2 : Int32) (w0 : Int32) : Ob :=
  (if w0 = (-1) then ma else (Form_dropEdge_L34 ma v1 v2 w0 0))
noncomputable def Form_dropEdge (ma : Ob) (v1 : Int32) : Ob :=
  (if (oat ma 12 20 v1) = (-1) then (Form_dropEdge_24 ma v1 (oat ma 12 20 v1) (-1)) else (Form_dropEdge_24 ma v1 (oat ma 12 20 v1) (Form_edgeOf ma (oat ma 12 20 v1) v1)))
noncomputable def Form_changeWay_24 (ma : Ob) (v1 : Int32) (v2 : Int32) (v3 : Int32) (w0 : Int32) : Ob :=
  (if w0 = (-1) then ma else (if v1 = v2 then ma else (oput (oput (oput ma 10 200 ((v3 * 20) + w0) v2) 12 20 v2 v3) 12 20 v1 (-1))))
noncomputable def Form_changeWay (ma : Ob) (v1 : Int32) (v2 : Int32) : Ob :=
  (if (oat ma 12 20 v1) = (-1) then (Form_changeWay_24 ma v1 v2 (oat ma 12 20 v1) (-1)) else (Form_changeWay_24 ma v1 v2 (oat ma 12 20 v1) (Form_edgeOf ma (oat ma 12 20 v1) v1)))
noncomputable def Constants_cutWays_135 (ma : Ob) (cn : Ob) (v2 : Int32) : (Int32 × Ob) ⊕ (Ob) :=
  (Sum.inl ((v2 + 1), ma))
noncomputable def Constants_cutWays_99 (ma : Ob) (cn : Ob) (v2 : Int32) (v3 : Int32) (v5 : Int32) (w0 : Int32) (w1 : Int32) : (Int32 × Ob) ⊕ (Ob) :=
  (Constants_cutWays_135 (oput (oput (Form_changeWay (Form_dropEdge ma (w1 + w0)) v5 (v2 * 2)) 11 10 v2 1) 3 150 v3 0) cn v2)
noncomputable def Constants_cutWays_78 (ma : Ob) (cn : Ob) (v2 : Int32) (v3 : Int32) (v4 : Int32) (w0 : Int32) (w1 : Int32) : (Int32 × Ob) ⊕ (Ob) :=
  (if 0 < (Constants_numberAt ma cn v4) then (Constants_cutWays_99 ma cn v2 v3 (w1 + w0) 1 (v2 * 2)) else (Constants_cutWays_99 ma cn v2 v3 (w1 + w0) 0 (v2 * 2)))
noncomputable def Constants_cutWays_L2b (ma : Ob) (cn : Ob) (v2 : Int32) : (Int32 × Ob) ⊕ (Ob) :=
  (if v2 < (ma.2.1 0) then (if (Ph_has (cn.2.1 0) v2) = true then (if (oat ma 11 10 v2) = 2 then (if (Constants_knownAt ma cn (oat ma 4 150 ((140 : Int32) + v2))) = 1 then (if 0 < (Constants_numberAt ma cn (oat ma 4 150 ((140 : Int32) + v2))) then (Constants_cutWays_78 ma cn v2 ((140 : Int32) + v2) (oat ma 4 150 ((140 : Int32) + v2)) 0 (v2 * 2)) else (Constants_cutWays_78 ma cn v2 ((140 : Int32) + v2) (oat ma 4 150 ((140 : Int32) + v2)) 1 (v2 * 2))) else (Constants_cutWays_135 ma cn v2)) else (Constants_cutWays_135 ma cn v2)) else (Constants_cutWays_135 ma cn v2)) else (Sum.inr ma))
noncomputable def Constants_cutWays_L2 (ma : Ob) (cn : Ob) (v2 : Int32) : Ob :=
  loopW (fun a : Int32 × Ob => Constants_cutWays_L2b a.2 cn a.1) (v2, ma)
noncomputable def Constants_cutWays (ma : Ob) (cn : Ob) : Ob :=
  (Constants_cutWays_L2 ma cn 0)
noncomputable def Form_lose (ma : Ob) (v1 : Int32) : Ob :=
  (if (oat ma 1 140 v1) = (-1) then ma else (oG (oput (oput ma 1 140 v1 (-1)) 3 150 v1 0) 5 ((ma.2.1 5) + 1)))
noncomputable def Form_loseBlock_38 (ma : Ob) (v1 : Int32) (v2 : Int32) : (Int32 × Ob) ⊕ (Ob) :=
  (Sum.inl ((v2 + 1), ma))
noncomputable def Form_loseBlock_L2b (ma : Ob) (v1 : Int32) (v2 : Int32) : (Int32 × Ob) ⊕ (Ob) :=
  (if v2 < (oat ma 7 10 v1) then (if (oat ma 1 140 (Form_valueIn ma v1 v2)) = v1 then (Form_loseBlock_38 (Form_lose ma (Form_valueIn ma v1 v2)) v1 v2) else (Form_loseBlock_38 ma v1 v2)) else (Sum.inr (oG (oG (oput (oput (oput ma 7 10 v1 0) 9 10 v1 0) 3 150 ((140 : Int32) + v1) 0) 1 ((ma.2.1 1) &&& ((Ph_bit v1) ^^^ (-1)))) 5 ((ma.2.1 5) + 1))))
noncomputable def Form_loseBlock_L2 (ma : Ob) (v1 : Int32) (v2 : Int32) : Ob :=
  loopW (fun a : Int32 × Ob => Form_loseBlock_L2b a.2 v1 a.1) (v2, ma)
noncomputable def Form_loseBlock (ma : Ob) (v1 : Int32) : Ob :=
  (Form_loseBlock_L2 ma v1 0)
noncomputable def Constants_loseBlocks_49 (ma : Ob) (cn : Ob) (v2 : Int32) : (Int32 × Ob) ⊕ (Ob) :=
  (Sum.inl ((v2 + 1), ma))
noncomputable def Constants_loseBlocks_L2b (ma : Ob) (cn : Ob) (v2 : Int32) : (Int32 × Ob) ⊕ (Ob) :=
  (if v2 < (ma.2.1 0) then (if (Ph_has ((ma.2.1 1) &&& ((cn.2.1 0) ^^^ (-1))) v2) = true then (Constants_loseBlocks_49 (Form_loseBlock (Form_dropEdge (Form_dropEdge ma (v2 * 2)) ((v2 * 2) + 1)) v2) cn v2) else (Constants_loseBlocks_49 ma cn v2)) else (Sum.inr ma))
noncomputable def Constants_loseBlocks_L2 (ma : Ob) (cn : Ob) (v2 : Int32) : Ob :=
  loopW (fun a : Int32 × Ob => Constants_loseBlocks_L2b a.2 cn a.1) (v2, ma)
noncomputable def Constants_loseBlocks (ma : Ob) (cn : Ob) : Ob :=
  (Constants_loseBlocks_L2 ma cn 0)
noncomputable def Form_redirect_76 (ma : Ob) (v1 : Int32) (v2 : Int32) (v3 : Int32) (v4 : Int32) (v5 : Int32) (v6 : Int32) : (Int32 × Ob) ⊕ ((Int32 × Ob) ⊕ (Ob)) :=
  (Sum.inl ((v6 + 1), ma))
noncomputable def Form_redirect_L26b (ma : Ob) (v1 : Int32) (v2 : Int32) (v3 : Int32) (v4 : Int32) (v5 : Int32) (v6 : Int32) : (Int32 × Ob) ⊕ ((Int32 × Ob) ⊕ (Ob)) :=
  (if v6 < (v5 + (oat ma 3 150 v4)) then (if (oat ma 5 290 v6) = v1 then (Form_redirect_76 (oput (oput ma 5 290 v6 v2) 6 290 v6 v3) v1 v2 v3 v4 v5 v6) else (Form_redirect_76 ma v1 v2 v3 v4 v5 v6)) else (Sum.inr (Sum.inl ((v4 + 1), ma))))
noncomputable def Form_redirect_L26 (ma : Ob) (v1 : Int32) (v2 : Int32) (v3 : Int32) (v4 : Int32) (v5 : Int32) (v6 : Int32) : (Int32 × Ob) ⊕ (Ob) :=
  loopW (fun a : Int32 × Ob => Form_redirect_L26b a.2 v1 v2 v3 v4 v5 a.1) (v6, ma)
noncomputable def Form_redirect_L3b (ma : Ob) (v1 : Int32) (v2 : Int32) (v3 : Int32) (v4 : Int32) : (Int32 × Ob) ⊕ (Ob) :=
  (if v4 < 150 then (Form_redirect_L26 ma v1 v2 v3 v4 (oat ma 4 150 v4) (oat ma 4 150 v4)) else (Sum.inr ma))
noncomputable def Form_redirect_L3 (ma : Ob) (v1 : Int32) (v2 : Int32) (v3 : Int32) (v4 : Int32) : Ob :=
  loopW (fun a : Int32 × Ob => Form_redirect_L3b a.2 v1 v2 v3 a.1) (v4, ma)
noncomputable def Form_redirect (ma : Ob) (v1 : Int32) (v2 : Int32) (v3 : Int32) : Ob :=
  (Form_redirect_L3 ma v1 v2 v3 0)
noncomputable def Form_replace (ma : Ob) (v1 : Int32) (v2 : Int32) (v3 : Int32) : Ob :=
  (Form_lose (Form_redirect ma v1 v2 v3) v1)
noncomputable def Constants_replaceNumbers_76 (ma : Ob) (cn : Ob) (v2 : Int32) : (Int32 × Ob) ⊕ (Ob) :=
  (Sum.inl ((v2 + 1), ma))
noncomputable def Constants_replaceNumbers_51 (ma : Ob) (cn : Ob) (v2 : Int32) : (Int32 × Ob) ⊕ (Ob) :=
  (if (oat cn 0 140 v2) = 1 then (if v2 < 6 then (Constants_replaceNumbers_76 (Form_redirect ma v2 (-1) 0) cn v2) else (Constants_replaceNumbers_76 ma cn v2)) else (Constants_replaceNumbers_76 ma cn v2))
noncomputable def Constants_replaceNumbers_L2b (ma : Ob) (cn : Ob) (v2 : Int32) : (Int32 × Ob) ⊕ (Ob) :=
  (if v2 < (ma.2.1 2) then (if (oat cn 0 140 v2) = 1 then (if (oat ma 1 140 v2) = (-1) then (Constants_replaceNumbers_51 ma cn v2) else (Constants_replaceNumbers_76 (Form_replace ma v2 (-1) (oat cn 1 140 v2)) cn v2)) else (Constants_replaceNumbers_51 ma cn v2)) else (Sum.inr ma))
noncomputable def Constants_replaceNumbers_L2 (ma : Ob) (cn : Ob) (v2 : Int32) : Ob :=
  loopW (fun a : Int32 × Ob => Constants_replaceNumbers_L2b a.2 cn a.1) (v2, ma)
noncomputable def Constants_replaceNumbers (ma : Ob) (cn : Ob) : Ob :=
  (Constants_replaceNumbers_L2 ma cn 0)
noncomputable def Constants_goOver_58 (ma : Ob) (cn : Ob) (v2 : Int32) (v3 : Int32) : (Int32 × Ob) ⊕ ((Int32 × Ob) ⊕ (Ob × Ob)) :=
  (Sum.inl ((v3 + 1), cn))
noncomputable def Constants_goOver_L27b (ma : Ob) (cn : Ob) (v2 : Int32) (v3 : Int32) : (Int32 × Ob) ⊕ ((Int32 × Ob) ⊕ (Ob × Ob)) :=
  (if v3 < (ma.2.1 0) then (if (Ph_has (cn.2.1 0) v3) = true then (Constants_goOver_58 ma (Constants_goOn ma (Constants_visit ma cn v3) v3) v2 v3) else (Constants_goOver_58 ma cn v2 v3)) else (Sum.inr (Sum.inl ((v2 + 1), cn))))
noncomputable def Constants_goOver_L27 (ma : Ob) (cn : Ob) (v2 : Int32) (v3 : Int32) : (Int32 × Ob) ⊕ (Ob × Ob) :=
  loopW (fun a : Int32 × Ob => Constants_goOver_L27b ma a.2 v2 a.1) (v3, cn)
noncomputable def Constants_goOver_70 (ma : Ob) (cn : Ob) : Ob × Ob :=
  ((Constants_replaceNumbers (Constants_loseBlocks (Constants_cutWays ma cn) cn) cn), cn)
noncomputable def Constants_goOver_L6b (ma : Ob) (cn : Ob) (v2 : Int32) : (Int32 × Ob) ⊕ (Ob × Ob) :=
  (if (cn.2.2 0) = true then (if v2 < 301 then (Constants_goOver_L27 ma (oB cn 0 false) v2 0) else (Sum.inr (Constants_goOver_70 ma cn))) else (Sum.inr (Constants_goOver_70 ma cn)))
noncomputable def Constants_goOver_L6 (ma : Ob) (cn : Ob) (v2 : Int32) : Ob × Ob :=
  loopW (fun a : Int32 × Ob => Constants_goOver_L6b ma a.2 a.1) (v2, cn)
noncomputable def Constants_goOver (ma : Ob) (cn : Ob) : Ob × Ob :=
  (Constants_goOver_L6 ma (Constants_begin cn) 0)
noncomputable def Numbers_readEdges_L19b (ma : Ob) (nu : Ob) (v2 : Int32) (v3 : Int32) : (Int32 × Ob) ⊕ ((Int32 × Ob) ⊕ (Ob)) :=
  (if v3 < (oat ma 9 10 v2) then (Sum.inl ((v3 + 1), (Flow_lead nu (Ph_fromOf (Form_wayTo ma v2 v3)) v2))) else (Sum.inr (Sum.inl ((v2 + 1), nu))))
noncomputable def Numbers_readEdges_L19 (ma : Ob) (nu : Ob) (v2 : Int32) (v3 : Int32) : (Int32 × Ob) ⊕ (Ob) :=
  loopW (fun a : Int32 × Ob => Numbers_readEdges_L19b ma a.2 v2 a.1) (v3, nu)
noncomputable def Numbers_readEdges_L9b (ma : Ob) (nu : Ob) (v2 : Int32) : (Int32 × Ob) ⊕ (Ob) :=
  (if v2 < (ma.2.1 0) then (Numbers_readEdges_L19 ma nu v2 0) else (Sum.inr nu))
noncomputable def Numbers_readEdges_L9 (ma : Ob) (nu : Ob) (v2 : Int32) : Ob :=
  loopW (fun a : Int32 × Ob => Numbers_readEdges_L9b ma a.2 a.1) (v2, nu)
noncomputable def Numbers_readEdges (ma : Ob) (nu : Ob) : Ob :=
  (Numbers_readEdges_L9 ma (Flow_forget nu) 0)
noncomputable def Form_soleArgument_101 (ma : Ob) (v1 : Int32) (v2 : Int32) (v3 : Int32) (v4 : Int32) : (Int32 × Int32) ⊕ (Int32) :=
  (Sum.inl (v3, (v4 + 1)))
noncomputable def Form_soleArgument_99 (ma : Ob) : Int32 :=
  (-1)
noncomputable def Form_soleArgument_L14b (ma : Ob) (v1 : Int32) (v2 : Int32) (v3 : Int32) (v4 : Int32) : (Int32 × Int32) ⊕ (Int32) :=
  (if v4 < (oat ma 3 150 v1) then (if (oat ma 5 290 (v2 + v4)) = v1 then (Form_soleArgument_101 ma v1 v2 v3 v4) else (if v3 = (-1) then (Form_soleArgument_101 ma v1 v2 v4 v4) else (if (oat ma 5 290 (v2 + v4)) = (oat ma 5 290 (v2 + v3)) then (if (oat ma 6 290 (v2 + v4)) = (oat ma 6 290 (v2 + v3)) then (Form_soleArgument_101 ma v1 v2 v3 v4) else (Sum.inr (Form_soleArgument_99 ma))) else (Sum.inr (Form_soleArgument_99 ma))))) else (Sum.inr v3))
noncomputable def Form_soleArgument_L14 (ma : Ob) (v1 : Int32) (v2 : Int32) (v3 : Int32) (v4 : Int32) : Int32 :=
  loopW (fun a : Int32 × Int32 => Form_soleArgument_L14b ma v1 v2 a.1 a.2) (v3, v4)
noncomputable def Form_soleArgument (ma : Ob) (v1 : Int32) : Int32 :=
  (Form_soleArgument_L14 ma v1 (oat ma 4 150 v1) (-1) 0)
noncomputable def Numbers_isStill_28 (ma : Ob) : Bool :=
  false
noncomputable def Numbers_isStill (ma : Ob) (v1 : Int32) (v2 : Int32) (v3 : Int32) : Bool :=
  (if (oat ma 0 140 v1) = v2 then (if (oat ma 1 140 v1) = v3 then true else (Numbers_isStill_28 ma)) else (Numbers_isStill_28 ma))
noncomputable def Form_hasSameArguments_121 (ma : Ob) (v3 : Int32) (v4 : Int32) (v5 : Int32) (v7 : Int32) (w0 : Bool) : (Bool × Int32) ⊕ (Bool) :=
  (Sum.inl (w0, (v7 + 1)))
noncomputable def Form_hasSameArguments_120 (ma : Ob) (v3 : Int32) (v4 : Int32) (v5 : Int32) (v7 : Int32) : (Bool × Int32) ⊕ (Bool) :=
  (Form_hasSameArguments_121 ma v3 v4 v5 v7 false)
noncomputable def Form_hasSameArguments_L51b (ma : Ob) (v3 : Int32) (v4 : Int32) (v5 : Int32) (v6 : Bool) (v7 : Int32) : (Bool × Int32) ⊕ (Bool) :=
  (if v7 < v3 then (if v6 = true then (if (oat ma 5 290 (v4 + v7)) = (oat ma 5 290 (v5 + v7)) then (if (oat ma 6 290 (v4 + v7)) = (oat ma 6 290 (v5 + v7)) then (Form_hasSameArguments_121 ma v3 v4 v5 v7 true) else (Form_hasSameArguments_120 ma v3 v4 v5 v7)) else (Form_hasSameArguments_120 ma v3 v4 v5 v7)) else (Form_hasSameArguments_120 ma v3 v4 v5 v7)) else (Sum.inr v6))
noncomputable def Form_hasSameArguments_L51 (ma : Ob) (v3 : Int32) (v4 : Int32) (v5 : Int32) (v6 : Bool) (v7 : Int32) : Bool :=
  loopW (fun a : Bool × Int32 => Form_hasSameArguments_L51b ma v3 v4 v5 a.1 a.2) (v6, v7)
noncomputable def Form_hasSameArguments_46 (ma : Ob) (v3 : Int32) (v4 : Int32) (v5 : Int32) (w0 : Bool) : Bool :=
  (Form_hasSameArguments_L51 ma v3 v4 v5 w0 0)
noncomputable def Form_hasSameArguments (ma : Ob) (v1 : Int32) (v2 : Int32) : Bool :=
  (if (oat ma 3 150 v1) = (oat ma 3 150 v2) then (Form_hasSameArguments_46 ma (oat ma 3 150 v1) (oat ma 4 150 v1) (oat ma 4 150 v2) true) else (Form_hasSameArguments_46 ma (oat ma 3 150 v1) (oat ma 4 150 v1) (oat ma 4 150 v2) false))
noncomputable def Numbers_twinOfPhi_50 (ma : Ob) (v1 : Int32) (v2 : Int32) (v3 : Int32) (v4 : Int32) : (Int32) ⊕ (Int32) :=
  (Sum.inl (v4 + 1))
noncomputable def Numbers_twinOfPhi_L10b (ma : Ob) (v1 : Int32) (v2 : Int32) (v3 : Int32) (v4 : Int32) : (Int32) ⊕ (Int32) :=
  (if v4 < v2 then (if (Numbers_isStill ma (Form_valueIn ma v1 v4) 9 v1) = true then (if (Form_hasSameArguments ma v3 (Form_valueIn ma v1 v4)) = true then (Sum.inr (Form_valueIn ma v1 v4)) else (Numbers_twinOfPhi_50 ma v1 v2 v3 v4)) else (Numbers_twinOfPhi_50 ma v1 v2 v3 v4)) else (Sum.inr (-1)))
noncomputable def Numbers_twinOfPhi_L10 (ma : Ob) (v1 : Int32) (v2 : Int32) (v3 : Int32) (v4 : Int32) : Int32 :=
  loopW (fun a : Int32 => Numbers_twinOfPhi_L10b ma v1 v2 v3 a) v4
noncomputable def Numbers_twinOfPhi (ma : Ob) (v1 : Int32) (v2 : Int32) : Int32 :=
  (Numbers_twinOfPhi_L10 ma v1 v2 (Form_valueIn ma v1 v2) 0)
noncomputable def Form_valueOf_36 (ma : Ob) : Int32 :=
  (-1)
noncomputable def Form_valueOf (ma : Ob) (v1 : Int32) (v2 : Int32) : Int32 :=
  (if v2 < 0 then (Form_valueOf_36 ma) else (if v2 < (oat ma 3 150 v1) then (oat ma 5 290 ((oat ma 4 150 v1) + v2)) else (Form_valueOf_36 ma)))
noncomputable def Form_numberOf_36 (ma : Ob) : Int32 :=
  0
noncomputable def Form_numberOf (ma : Ob) (v1 : Int32) (v2 : Int32) : Int32 :=
  (if v2 < 0 then (Form_numberOf_36 ma) else (if v2 < (oat ma 3 150 v1) then (oat ma 6 290 ((oat ma 4 150 v1) + v2)) else (Form_numberOf_36 ma)))
noncomputable def Form_hasCrossedArguments_111 (ma : Ob) : Bool :=
  false
noncomputable def Form_hasCrossedArguments (ma : Ob) (v1 : Int32) (v2 : Int32) : Bool :=
  (if (oat ma 5 290 (oat ma 4 150 v1)) = (oat ma 5 290 ((oat ma 4 150 v2) + 1)) then (if (oat ma 6 290 (oat ma 4 150 v1)) = (oat ma 6 290 ((oat ma 4 150 v2) + 1)) then (if (oat ma 5 290 ((oat ma 4 150 v1) + 1)) = (oat ma 5 290 (oat ma 4 150 v2)) then (if (oat ma 6 290 ((oat ma 4 150 v1) + 1)) = (oat ma 6 290 (oat ma 4 150 v2)) then true else (Form_hasCrossedArguments_111 ma)) else (Form_hasCrossedArguments_111 ma)) else (Form_hasCrossedArguments_111 ma)) else (Form_hasCrossedArguments_111 ma))
noncomputable def Numbers_twinOfReckoning_166 (ma : Ob) (nu : Ob) (v11 : Int32) : Int32 :=
  v11
noncomputable def Numbers_twinOfReckoning_169 (ma : Ob) (nu : Ob) (v2 : Int32) (v3 : Int32) (v4 : Int32) (v5 : Int32) (v6 : Int32) (v7 : Int32) (v8 : Int32) (v9 : Int32) (v10 : Int32) : (Int32) ⊕ ((Int32) ⊕ (Int32)) :=
  (Sum.inl (v10 + 1))
noncomputable def Numbers_twinOfReckoning_L109b (ma : Ob) (nu : Ob) (v2 : Int32) (v3 : Int32) (v4 : Int32) (v5 : Int32) (v6 : Int32) (v7 : Int32) (v8 : Int32) (v9 : Int32) (v10 : Int32) : (Int32) ⊕ ((Int32) ⊕ (Int32)) :=
  (if v10 < v9 then (if (Numbers_isStill ma (Form_valueIn ma v8 v10) v5 v8) = true then (if (Form_hasSameArguments ma v4 (Form_valueIn ma v8 v10)) = true then (Sum.inr (Sum.inr (Numbers_twinOfReckoning_166 ma nu (Form_valueIn ma v8 v10)))) else (if v6 = 0 then (Numbers_twinOfReckoning_169 ma nu v2 v3 v4 v5 v6 v7 v8 v9 v10) else (if (Form_hasCrossedArguments ma v4 (Form_valueIn ma v8 v10)) = true then (Sum.inr (Sum.inr (Numbers_twinOfReckoning_166 ma nu (Form_valueIn ma v8 v10)))) else (Numbers_twinOfReckoning_169 ma nu v2 v3 v4 v5 v6 v7 v8 v9 v10)))) else (Numbers_twinOfReckoning_169 ma nu v2 v3 v4 v5 v6 v7 v8 v9 v10)) else (Sum.inr (Sum.inl (v7 + 1))))
noncomputable def Numbers_twinOfReckoning_L109 (ma : Ob) (nu : Ob) (v2 : Int32) (v3 : Int32) (v4 : Int32) (v5 : Int32) (v6 : Int32) (v7 : Int32) (v8 : Int32) (v9 : Int32) (v10 : Int32) : (Int32) ⊕ (Int32) :=
  loopW (fun a : Int32 => Numbers_twinOfReckoning_L109b ma nu v2 v3 v4 v5 v6 v7 v8 v9 a) v10
noncomputable def Numbers_twinOfReckoning_104 (ma : Ob) (nu : Ob) (v2 : Int32) (v3 : Int32) (v4 : Int32) (v5 : Int32) (v6 : Int32) (v7 : Int32) (v8 : Int32) (w0 : Int32) : (Int32) ⊕ (Int32) :=
  (Numbers_twinOfReckoning_L109 ma nu v2 v3 v4 v5 v6 v7 v8 w0 0)
noncomputable def Numbers_twinOfReckoning_L41b (ma : Ob) (nu : Ob) (v2 : Int32) (v3 : Int32) (v4 : Int32) (v5 : Int32) (v6 : Int32) (v7 : Int32) : (Int32) ⊕ (Int32) :=
  (if v7 < 10 then (if (Ph_has (oat nu 2 10 v2) (oat nu 3 10 v7)) = true then (if (oat nu 3 10 v7) = v2 then (Numbers_twinOfReckoning_104 ma nu v2 v3 v4 v5 v6 v7 (oat nu 3 10 v7) v3) else (Numbers_twinOfReckoning_104 ma nu v2 v3 v4 v5 v6 v7 (oat nu 3 10 v7) (oat ma 7 10 (oat nu 3 10 v7)))) else (Numbers_twinOfReckoning_104 ma nu v2 v3 v4 v5 v6 v7 (oat nu 3 10 v7) 0)) else (Sum.inr (-1)))
noncomputable def Numbers_twinOfReckoning_L41 (ma : Ob) (nu : Ob) (v2 : Int32) (v3 : Int32) (v4 : Int32) (v5 : Int32) (v6 : Int32) (v7 : Int32) : Int32 :=
  loopW (fun a : Int32 => Numbers_twinOfReckoning_L41b ma nu v2 v3 v4 v5 v6 a) v7
noncomputable def Numbers_twinOfReckoning_36 (ma : Ob) (nu : Ob) (v2 : Int32) (v3 : Int32) (v4 : Int32) (v5 : Int32) (w0 : Int32) : Int32 :=
  (Numbers_twinOfReckoning_L41 ma nu v2 v3 v4 v5 w0 0)
noncomputable def Numbers_twinOfReckoning_31 (ma : Ob) (nu : Ob) (v2 : Int32) (v3 : Int32) (v4 : Int32) (v5 : Int32) : Int32 :=
  (Numbers_twinOfReckoning_36 ma nu v2 v3 v4 v5 1)
noncomputable def Numbers_twinOfReckoning (ma : Ob) (nu : Ob) (v2 : Int32) (v3 : Int32) : Int32 :=
  (if (oat ma 0 140 (Form_valueIn ma v2 v3)) = 1 then (Numbers_twinOfReckoning_31 ma nu v2 v3 (Form_valueIn ma v2 v3) (oat ma 0 140 (Form_valueIn ma v2 v3))) else (if (oat ma 0 140 (Form_valueIn ma v2 v3)) = 3 then (Numbers_twinOfReckoning_31 ma nu v2 v3 (Form_valueIn ma v2 v3) (oat ma 0 140 (Form_valueIn ma v2 v3))) else (Numbers_twinOfReckoning_36 ma nu v2 v3 (Form_valueIn ma v2 v3) (oat ma 0 140 (Form_valueIn ma v2 v3)) 0)))
noncomputable def Numbers_visit_142 (ma : Ob) (nu : Ob) (v2 : Int32) (v3 : Int32) : (Int32 × Ob) ⊕ (Ob) :=
  (Sum.inl ((v3 + 1), ma))
noncomputable def Numbers_visit_96 (ma : Ob) (nu : Ob) (v2 : Int32) (v3 : Int32) (v4 : Int32) (v6 : Int32) (v7 : Int32) : (Int32 × Ob) ⊕ (Ob) :=
  (if v6 = (-1) then (if v7 = (-1) then (Numbers_visit_142 ma nu v2 v3) else (Numbers_visit_142 (Form_replace ma v4 v7 0) nu v2 v3)) else (Numbers_visit_142 (Form_replace ma v4 (Form_valueOf ma v4 v6) (Form_numberOf ma v4 v6)) nu v2 v3))
noncomputable def Numbers_visit_79 (ma : Ob) (nu : Ob) (v2 : Int32) (v3 : Int32) (v4 : Int32) (v5 : Int32) (v6 : Int32) (v7 : Int32) : (Int32 × Ob) ⊕ (Ob) :=
  (if (Ph_isReckoning v5) = true then (Numbers_visit_96 ma nu v2 v3 v4 v6 (Numbers_twinOfReckoning ma nu v2 v3)) else (Numbers_visit_96 ma nu v2 v3 v4 v6 v7))
noncomputable def Numbers_visit_50 (ma : Ob) (nu : Ob) (v2 : Int32) (v3 : Int32) (v4 : Int32) (v5 : Int32) (w0 : Int32) : (Int32 × Ob) ⊕ (Ob) :=
  (if v5 = 9 then (if w0 = (-1) then (Numbers_visit_96 ma nu v2 v3 v4 w0 (Numbers_twinOfPhi ma v2 v3)) else (Numbers_visit_79 ma nu v2 v3 v4 v5 w0 (-1))) else (Numbers_visit_79 ma nu v2 v3 v4 v5 w0 (-1)))
noncomputable def Numbers_visit_L2b (ma : Ob) (nu : Ob) (v2 : Int32) (v3 : Int32) : (Int32 × Ob) ⊕ (Ob) :=
  (if v3 < (oat ma 7 10 v2) then (if (oat ma 0 140 (Form_valueIn ma v2 v3)) = 9 then (Numbers_visit_50 ma nu v2 v3 (Form_valueIn ma v2 v3) (oat ma 0 140 (Form_valueIn ma v2 v3)) (Form_soleArgument ma (Form_valueIn ma v2 v3))) else (Numbers_visit_50 ma nu v2 v3 (Form_valueIn ma v2 v3) (oat ma 0 140 (Form_valueIn ma v2 v3)) (-1))) else (Sum.inr ma))
noncomputable def Numbers_visit_L2 (ma : Ob) (nu : Ob) (v2 : Int32) (v3 : Int32) : Ob :=
  loopW (fun a : Int32 × Ob => Numbers_visit_L2b a.2 nu v2 a.1) (v3, ma)
noncomputable def Numbers_visit (ma : Ob) (nu : Ob) (v2 : Int32) : Ob :=
  (Numbers_visit_L2 ma nu v2 0)
noncomputable def Numbers_goOver_43 (ma : Ob) (nu : Ob) (v2 : Int32) : (Int32 × Ob) ⊕ (Ob × Ob) :=
  (Sum.inl ((v2 + 1), ma))
noncomputable def Numbers_goOver_L14b (ma : Ob) (nu : Ob) (v2 : Int32) : (Int32 × Ob) ⊕ (Ob × Ob) :=
  (if v2 < 10 then (if (oat nu 3 10 v2) = (-1) then (Numbers_goOver_43 ma nu v2) else (Numbers_goOver_43 (Numbers_visit ma nu (oat nu 3 10 v2)) nu v2)) else (Sum.inr (ma, nu)))
noncomputable def Numbers_goOver_L14 (ma : Ob) (nu : Ob) (v2 : Int32) : Ob × Ob :=
  loopW (fun a : Int32 × Ob => Numbers_goOver_L14b a.2 nu a.1) (v2, ma)
noncomputable def Numbers_goOver (ma : Ob) (nu : Ob) : Ob × Ob :=
  (Numbers_goOver_L14 ma (Flow_reckon (Numbers_readEdges ma nu)) 0)
noncomputable def Dead_isNeededBySelf_55 (ma : Ob) : Bool :=
  true
noncomputable def Dead_isNeededBySelf_38 (ma : Ob) (v2 : Int32) (w0 : Int32) : Bool :=
  (if v2 = 7 then (Dead_isNeededBySelf_55 ma) else (if v2 = 8 then (Dead_isNeededBySelf_55 ma) else (if w0 = 0 then false else (Dead_isNeededBySelf_55 ma))))
noncomputable def Dead_isNeededBySelf_33 (ma : Ob) (v2 : Int32) : Bool :=
  (Dead_isNeededBySelf_38 ma v2 1)
noncomputable def Dead_isNeededBySelf_37 (ma : Ob) (v2 : Int32) : Bool :=
  (Dead_isNeededBySelf_38 ma v2 0)
noncomputable def Dead_isNeededBySelf (ma : Ob) (v1 : Int32) : Bool :=
  (if (oat ma 0 140 v1) = 4 then (if (Form_valueOf ma v1 1) = (-1) then (if (Form_numberOf ma v1 1) = 0 then (Dead_isNeededBySelf_33 ma (oat ma 0 140 v1)) else (Dead_isNeededBySelf_37 ma (oat ma 0 140 v1))) else (Dead_isNeededBySelf_33 ma (oat ma 0 140 v1))) else (Dead_isNeededBySelf_37 ma (oat ma 0 140 v1)))
noncomputable def Dead_needArguments_55 (ma : Ob) (de : Ob) (v2 : Int32) (v3 : Int32) : (Int32 × Ob) ⊕ (Ob) :=
  (Sum.inl ((v3 + 1), de))
noncomputable def Dead_needArguments_L2b (ma : Ob) (de : Ob) (v2 : Int32) (v3 : Int32) : (Int32 × Ob) ⊕ (Ob) :=
  (if v3 < (oat ma 3 150 v2) then (if (Form_valueOf ma v2 v3) = (-1) then (Dead_needArguments_55 ma de v2 v3) else (if (oat de 0 140 (Form_valueOf ma v2 v3)) = 0 then (Dead_needArguments_55 ma (oB (oput de 0 140 (Form_valueOf ma v2 v3) 1) 0 true) v2 v3) else (Dead_needArguments_55 ma de v2 v3))) else (Sum.inr de))
noncomputable def Dead_needArguments_L2 (ma : Ob) (de : Ob) (v2 : Int32) (v3 : Int32) : Ob :=
  loopW (fun a : Int32 × Ob => Dead_needArguments_L2b ma a.2 v2 a.1) (v3, de)
noncomputable def Dead_needArguments (ma : Ob) (de : Ob) (v2 : Int32) : Ob :=
  (Dead_needArguments_L2 ma de v2 0)
noncomputable def Dead_loseOthers_27 (ma : Ob) (de : Ob) (v2 : Int32) : (Int32 × Ob) ⊕ (Ob) :=
  (Sum.inl ((v2 + 1), ma))
noncomputable def Dead_loseOthers_L3b (ma : Ob) (de : Ob) (v2 : Int32) : (Int32 × Ob) ⊕ (Ob) :=
  (if v2 < (ma.2.1 2) then (if (oat de 0 140 v2) = 0 then (Dead_loseOthers_27 (Form_lose ma v2) de v2) else (Dead_loseOthers_27 ma de v2)) else (Sum.inr ma))
noncomputable def Dead_loseOthers_L3 (ma : Ob) (de : Ob) (v2 : Int32) : Ob :=
  loopW (fun a : Int32 × Ob => Dead_loseOthers_L3b a.2 de a.1) (v2, ma)
noncomputable def Dead_loseOthers (ma : Ob) (de : Ob) : Ob :=
  (Dead_loseOthers_L3 ma de 6)
noncomputable def Dead_goOver_48 (ma : Ob) (de : Ob) (v2 : Int32) : (Int32 × Ob) ⊕ (Ob × Ob) :=
  (Sum.inl ((v2 + 1), de))
noncomputable def Dead_goOver_147 (ma : Ob) (de : Ob) : Ob × Ob :=
  ((Dead_loseOthers ma de), de)
noncomputable def Dead_goOver_135 (ma : Ob) (de : Ob) (v2 : Int32) (v3 : Int32) : (Int32 × Ob) ⊕ ((Int32 × Ob) ⊕ (Ob × Ob)) :=
  (Sum.inl ((v3 + 1), de))
noncomputable def Dead_goOver_L109b (ma : Ob) (de : Ob) (v2 : Int32) (v3 : Int32) : (Int32 × Ob) ⊕ ((Int32 × Ob) ⊕ (Ob × Ob)) :=
  (if v3 < (ma.2.1 2) then (if (oat de 0 140 v3) = 1 then (Dead_goOver_135 ma (Dead_needArguments ma de v3) v2 v3) else (Dead_goOver_135 ma de v2 v3)) else (Sum.inr (Sum.inl ((v2 + 1), de))))
noncomputable def Dead_goOver_L109 (ma : Ob) (de : Ob) (v2 : Int32) (v3 : Int32) : (Int32 × Ob) ⊕ (Ob × Ob) :=
  loopW (fun a : Int32 × Ob => Dead_goOver_L109b ma a.2 v2 a.1) (v3, de)
noncomputable def Dead_goOver_L87b (ma : Ob) (de : Ob) (v2 : Int32) : (Int32 × Ob) ⊕ (Ob × Ob) :=
  (if (de.2.2 0) = true then (if (140 : Int32) < v2 then (Sum.inr (Dead_goOver_147 ma de)) else (Dead_goOver_L109 ma (oB de 0 false) v2 6)) else (Sum.inr (Dead_goOver_147 ma de)))
noncomputable def Dead_goOver_L87 (ma : Ob) (de : Ob) (v2 : Int32) : Ob × Ob :=
  loopW (fun a : Int32 × Ob => Dead_goOver_L87b ma a.2 a.1) (v2, de)
noncomputable def Dead_goOver_L56b (ma : Ob) (de : Ob) (v2 : Int32) : (Int32 × Ob) ⊕ (Ob × Ob) :=
  (if v2 < (ma.2.1 0) then (Sum.inl ((v2 + 1), (Dead_needArguments ma de ((140 : Int32) + v2)))) else (Sum.inr (Dead_goOver_L87 ma (oB de 0 true) 0)))
noncomputable def Dead_goOver_L56 (ma : Ob) (de : Ob) (v2 : Int32) : Ob × Ob :=
  loopW (fun a : Int32 × Ob => Dead_goOver_L56b ma a.2 a.1) (v2, de)
noncomputable def Dead_goOver_L11b (ma : Ob) (de : Ob) (v2 : Int32) : (Int32 × Ob) ⊕ (Ob × Ob) :=
  (if v2 < (ma.2.1 2) then (if (oat ma 1 140 v2) = (-1) then (Dead_goOver_48 ma de v2) else (if (Dead_isNeededBySelf ma v2) = true then (Dead_goOver_48 ma (oput de 0 140 v2 1) v2) else (Dead_goOver_48 ma de v2))) else (Sum.inr (Dead_goOver_L56 ma de 0)))
noncomputable def Dead_goOver_L11 (ma : Ob) (de : Ob) (v2 : Int32) : Ob × Ob :=
  loopW (fun a : Int32 × Ob => Dead_goOver_L11b ma a.2 a.1) (v2, de)
noncomputable def Dead_goOver (ma : Ob) (de : Ob) : Ob × Ob :=
  (Dead_goOver_L11 ma (ofil de 0 0) 6)
noncomputable def Joiner_firstToJoin_63 (ma : Ob) (v1 : Int32) : (Int32) ⊕ (Int32) :=
  (Sum.inl (v1 + 1))
noncomputable def Joiner_firstToJoin_L2b (ma : Ob) (v1 : Int32) : (Int32) ⊕ (Int32) :=
  (if v1 < (ma.2.1 0) then (if (Ph_has (ma.2.1 1) v1) = true then (if (oat ma 11 10 v1) = 1 then (if (oat ma 12 20 (v1 * 2)) = v1 then (Joiner_firstToJoin_63 ma v1) else (if (oat ma 9 10 (oat ma 12 20 (v1 * 2))) = 1 then (Sum.inr v1) else (Joiner_firstToJoin_63 ma v1))) else (Joiner_firstToJoin_63 ma v1)) else (Joiner_firstToJoin_63 ma v1)) else (Sum.inr (-1)))
noncomputable def Joiner_firstToJoin_L2 (ma : Ob) (v1 : Int32) : Int32 :=
  loopW (fun a : Int32 => Joiner_firstToJoin_L2b ma a) v1
noncomputable def Joiner_firstToJoin (ma : Ob) : Int32 :=
  (Joiner_firstToJoin_L2 ma 0)
noncomputable def Joiner_moveValues_79 (ma : Ob) (v1 : Int32) (v2 : Int32) (v3 : Int32) : (Int32 × Ob) ⊕ (Ob) :=
  (Sum.inl ((v3 + 1), ma))
noncomputable def Joiner_moveValues_L2b (ma : Ob) (v1 : Int32) (v2 : Int32) (v3 : Int32) : (Int32 × Ob) ⊕ (Ob) :=
  (if v3 < (oat ma 7 10 v2) then (if (oat ma 0 140 (Form_valueIn ma v2 v3)) = 9 then (Joiner_moveValues_79 (Form_replace ma (Form_valueIn ma v2 v3) (Form_valueOf ma (Form_valueIn ma v2 v3) 0) (Form_numberOf ma (Form_valueIn ma v2 v3) 0)) v1 v2 v3) else (if (oat ma 1 140 (Form_valueIn ma v2 v3)) = v2 then (Joiner_moveValues_79 (Form_putInto ma (Form_valueIn ma v2 v3) v1) v1 v2 v3) else (Joiner_moveValues_79 ma v1 v2 v3))) else (Sum.inr ma))
noncomputable def Joiner_moveValues_L2 (ma : Ob) (v1 : Int32) (v2 : Int32) (v3 : Int32) : Ob :=
  loopW (fun a : Int32 × Ob => Joiner_moveValues_L2b a.2 v1 v2 a.1) (v3, ma)
noncomputable def Joiner_moveValues (ma : Ob) (v1 : Int32) (v2 : Int32) : Ob :=
  (Joiner_moveValues_L2 ma v1 v2 0)
noncomputable def Form_takeEnd (ma : Ob) (v1 : Int32) (v2 : Int32) : Ob :=
  (oput (oput (oput (oput ma 11 10 v1 (oat ma 11 10 v2)) 4 150 ((140 : Int32) + v1) (oat ma 4 150 ((140 : Int32) + v2))) 3 150 ((140 : Int32) + v1) (oat ma 3 150 ((140 : Int32) + v2))) 3 150 ((140 : Int32) + v2) 0)
noncomputable def Joiner_moveEnd_L9b (ma : Ob) (v1 : Int32) (v2 : Int32) (v3 : Int32) : (Int32 × Ob) ⊕ (Ob) :=
  (if v3 < 2 then (Sum.inl ((v3 + 1), (Form_changeWay ma ((v2 * 2) + v3) ((v1 * 2) + v3)))) else (Sum.inr (Form_takeEnd ma v1 v2)))
noncomputable def Joiner_moveEnd_L9 (ma : Ob) (v1 : Int32) (v2 : Int32) (v3 : Int32) : Ob :=
  loopW (fun a : Int32 × Ob => Joiner_moveEnd_L9b a.2 v1 v2 a.1) (v3, ma)
noncomputable def Joiner_moveEnd (ma : Ob) (v1 : Int32) (v2 : Int32) : Ob :=
  (Joiner_moveEnd_L9 (Form_dropEdge ma (v1 * 2)) v1 v2 0)
noncomputable def Joiner_goOver_L2b (ma : Ob) (v2 : Int32) : (Int32 × Ob) ⊕ (Ob) :=
  (if v2 < 10 then (if (Joiner_firstToJoin ma) = (-1) then (Sum.inr ma) else (Sum.inl ((v2 + 1), (Form_loseBlock (Joiner_moveEnd (Joiner_moveValues ma (Joiner_firstToJoin ma) (oat ma 12 20 ((Joiner_firstToJoin ma) * 2))) (Joiner_firstToJoin ma) (oat ma 12 20 ((Joiner_firstToJoin ma) * 2))) (oat ma 12 20 ((Joiner_firstToJoin ma) * 2)))))) else (Sum.inr ma))
noncomputable def Joiner_goOver_L2 (ma : Ob) (v2 : Int32) : Ob :=
  loopW (fun a : Int32 × Ob => Joiner_goOver_L2b a.2 a.1) (v2, ma)
noncomputable def Joiner_goOver (ma : Ob) : Ob :=
  (Joiner_goOver_L2 ma 0)
noncomputable def Form_sweep_75 (ma : Ob) (v1 : Int32) (v2 : Int32) (v3 : Int32) (v4 : Int32) : (Int32 × Int32 × Ob) ⊕ ((Int32 × Ob) ⊕ (Ob)) :=
  (Sum.inl (v3, (v4 + 1), ma))
noncomputable def Form_sweep_L21b (ma : Ob) (v1 : Int32) (v2 : Int32) (v3 : Int32) (v4 : Int32) : (Int32 × Int32 × Ob) ⊕ ((Int32 × Ob) ⊕ (Ob)) :=
  (if v4 < (oat ma 7 10 v1) then (if (oat ma 1 140 (oat ma 8 1400 (v2 + v4))) = v1 then (Form_sweep_75 (oput ma 8 1400 (v2 + v3) (oat ma 8 1400 (v2 + v4))) v1 v2 (v3 + 1) v4) else (Form_sweep_75 ma v1 v2 v3 v4)) else (Sum.inr (Sum.inl ((v1 + 1), (oput ma 7 10 v1 v3)))))
noncomputable def Form_sweep_L21 (ma : Ob) (v1 : Int32) (v2 : Int32) (v3 : Int32) (v4 : Int32) : (Int32 × Ob) ⊕ (Ob) :=
  loopW (fun a : Int32 × Int32 × Ob => Form_sweep_L21b a.2.2 v1 v2 a.1 a.2.1) (v3, v4, ma)
noncomputable def Form_sweep_L2b (ma : Ob) (v1 : Int32) : (Int32 × Ob) ⊕ (Ob) :=
  (if v1 < (ma.2.1 0) then (Form_sweep_L21 ma v1 (v1 * 140) 0 0) else (Sum.inr ma))
noncomputable def Form_sweep_L2 (ma : Ob) (v1 : Int32) : Ob :=
  loopW (fun a : Int32 × Ob => Form_sweep_L2b a.2 a.1) (v1, ma)
noncomputable def Form_sweep (ma : Ob) : Ob :=
  (Form_sweep_L2 ma 0)
noncomputable def Ph_passOver_86 (ma : Ob) (cn : Ob) (nu : Ob) (de : Ob) (v3 : Int32) : Int32 × Ob × Ob × Ob × Ob :=
  (((ma.2.1 5) - v3), (oG ma 4 ((ma.2.1 4) + 1)), cn, nu, de)
noncomputable def Ph_passOver_80 (ma : Ob) (cn : Ob) (nu : Ob) (de : Ob) (v3 : Int32) : Int32 × Ob × Ob × Ob × Ob :=
  (Ph_passOver_86 (Form_sweep ma) cn nu de v3)
noncomputable def Ph_passOver_44 (ma : Ob) (cn : Ob) (nu : Ob) (de : Ob) (v3 : Int32) : Int32 × Ob × Ob × Ob × Ob :=
  (Ph_passOver_80 ma cn nu de v3)
noncomputable def Ph_passOver_55 (ma : Ob) (cn : Ob) (nu : Ob) (de : Ob) (v3 : Int32) : Int32 × Ob × Ob × Ob × Ob :=
  (Ph_passOver_80 ma cn nu de v3)
noncomputable def Ph_passOver_66 (ma : Ob) (cn : Ob) (nu : Ob) (de : Ob) (v3 : Int32) : Int32 × Ob × Ob × Ob × Ob :=
  (Ph_passOver_80 ma cn nu de v3)
noncomputable def Ph_passOver (ma : Ob) (cn : Ob) (nu : Ob) (de : Ob) (v2 : Int32) : Int32 × Ob × Ob × Ob × Ob :=
  (if v2 = 1 then (Ph_passOver_44 (Constants_goOver ma cn).1 (Constants_goOver ma cn).2 nu de (ma.2.1 5)) else if v2 = 2 then (Ph_passOver_55 (Numbers_goOver ma nu).1 cn (Numbers_goOver ma nu).2 de (ma.2.1 5)) else if v2 = 3 then (Ph_passOver_66 (Dead_goOver ma de).1 cn nu (Dead_goOver ma de).2 (ma.2.1 5)) else if v2 = 4 then (Ph_passOver_80 (Joiner_goOver ma) cn nu de (ma.2.1 5)) else (Ph_passOver_80 ma cn nu de (ma.2.1 5)))
noncomputable def Ph_pass (ma : Ob) (cn : Ob) (nu : Ob) (de : Ob) (ph : Ob) (v1 : Int32) : Option (Int32 × Ob × Ob × Ob × Ob) :=
  (if (Ph_isPass v1) = true then (if (ph.2.2 0) = true then (some ((Ph_passOver ma cn nu de v1).1, (Ph_passOver ma cn nu de v1).2.1, (Ph_passOver ma cn nu de v1).2.2.1, (Ph_passOver ma cn nu de v1).2.2.2.1, (Ph_passOver ma cn nu de v1).2.2.2.2)) else none) else none)
noncomputable def Ph_ofPlace_22 (ma : Ob) (ph : Ob) : Option (Int32) :=
  none
noncomputable def Ph_ofPlace (ma : Ob) (ph : Ob) (v1 : Int32) (v2 : Int32) : Option (Int32) :=
  (if (ph.2.2 0) = true then (if v1 < 0 then (Ph_ofPlace_22 ma ph) else (if v1 < (ma.2.1 0) then (if v2 = 0 then (if (Ph_has (ma.2.1 1) v1) = true then (some 1) else (some 0)) else if v2 = 1 then (if (Ph_has (ma.2.1 1) v1) = true then (some (oat ma 7 10 v1)) else (some 0)) else if v2 = 2 then (if (Ph_has (ma.2.1 1) v1) = true then (some (oat ma 11 10 v1)) else (some 0)) else if v2 = 3 then (if (Ph_has (ma.2.1 1) v1) = true then (some (oat ma 12 20 (v1 * 2))) else (some 0)) else if v2 = 4 then (if (Ph_has (ma.2.1 1) v1) = true then (some (oat ma 12 20 ((v1 * 2) + 1))) else (some 0)) else if v2 = 5 then (if (Ph_has (ma.2.1 1) v1) = true then (some (oat ma 9 10 v1)) else (some 0)) else if v2 = 6 then (if (Ph_has (ma.2.1 1) v1) = true then (some (Form_valueOf ma ((140 : Int32) + v1) 0)) else (some 0)) else if v2 = 7 then (if (Ph_has (ma.2.1 1) v1) = true then (some (Form_numberOf ma ((140 : Int32) + v1) 0)) else (some 0)) else none) else (Ph_ofPlace_22 ma ph))) else (Ph_ofPlace_22 ma ph))
noncomputable def Ph_valueAt_40 (ma : Ob) (ph : Ob) : Option (Int32) :=
  none
noncomputable def Ph_valueAt (ma : Ob) (ph : Ob) (v1 : Int32) (v2 : Int32) : Option (Int32) :=
  (if (ph.2.2 0) = true then (if (Ph_has (ma.2.1 1) v1) = true then (if v2 < 0 then (Ph_valueAt_40 ma ph) else (if v2 < (oat ma 7 10 v1) then (some (Form_valueIn ma v1 v2)) else (Ph_valueAt_40 ma ph))) else (Ph_valueAt_40 ma ph)) else (Ph_valueAt_40 ma ph))
noncomputable def Ph_isValue_26 (ma : Ob) (ph : Ob) : Bool :=
  false
noncomputable def Ph_isValue (ma : Ob) (ph : Ob) (v1 : Int32) : Bool :=
  (if (ph.2.2 0) = true then (if v1 < 0 then (Ph_isValue_26 ma ph) else (if v1 < (ma.2.1 2) then true else (Ph_isValue_26 ma ph))) else (Ph_isValue_26 ma ph))
noncomputable def Form_usesOf_55 (ma : Ob) (v1 : Int32) (v3 : Int32) (v4 : Int32) (w0 : Int32) (w1 : Int32) : (Int32 × Int32) ⊕ ((Int32 × Int32) ⊕ (Int32)) :=
  (Sum.inl ((w1 + w0), (v4 + 1)))
noncomputable def Form_usesOf_L14b (ma : Ob) (v1 : Int32) (v2 : Int32) (v3 : Int32) (v4 : Int32) : (Int32 × Int32) ⊕ ((Int32 × Int32) ⊕ (Int32)) :=
  (if v4 < (oat ma 3 150 v3) then (if (oat ma 5 290 ((oat ma 4 150 v3) + v4)) = v1 then (Form_usesOf_55 ma v1 v3 v4 1 v2) else (Form_usesOf_55 ma v1 v3 v4 0 v2)) else (Sum.inr (Sum.inl (v2, (v3 + 1)))))
noncomputable def Form_usesOf_L14 (ma : Ob) (v1 : Int32) (v2 : Int32) (v3 : Int32) (v4 : Int32) : (Int32 × Int32) ⊕ (Int32) :=
  loopW (fun a : Int32 × Int32 => Form_usesOf_L14b ma v1 a.1 v3 a.2) (v2, v4)
noncomputable def Form_usesOf_L4b (ma : Ob) (v1 : Int32) (v2 : Int32) (v3 : Int32) : (Int32 × Int32) ⊕ (Int32) :=
  (if v3 < 150 then (Form_usesOf_L14 ma v1 v2 v3 0) else (Sum.inr v2))
noncomputable def Form_usesOf_L4 (ma : Ob) (v1 : Int32) (v2 : Int32) (v3 : Int32) : Int32 :=
  loopW (fun a : Int32 × Int32 => Form_usesOf_L4b ma v1 a.1 a.2) (v2, v3)
noncomputable def Form_usesOf (ma : Ob) (v1 : Int32) : Int32 :=
  (Form_usesOf_L4 ma v1 0 0)
noncomputable def Ph_ofValue (ma : Ob) (ph : Ob) (v1 : Int32) (v2 : Int32) : Option (Int32) :=
  (if (Ph_isValue ma ph v1) = true then (if v2 = 0 then (some (oat ma 0 140 v1)) else if v2 = 1 then (some (oat ma 1 140 v1)) else if v2 = 2 then (some (oat ma 2 140 v1)) else if v2 = 3 then (some (oat ma 3 150 v1)) else if v2 = 4 then (some (Form_usesOf ma v1)) else none) else none)
noncomputable def Ph_isArgument_31 (ma : Ob) (ph : Ob) : Bool :=
  false
noncomputable def Ph_isArgument (ma : Ob) (ph : Ob) (v1 : Int32) (v2 : Int32) : Bool :=
  (if (Ph_isValue ma ph v1) = true then (if v2 < 0 then (Ph_isArgument_31 ma ph) else (if v2 < (oat ma 3 150 v1) then true else (Ph_isArgument_31 ma ph))) else (Ph_isArgument_31 ma ph))
noncomputable def Ph_argument (ma : Ob) (ph : Ob) (v1 : Int32) (v2 : Int32) : Option (Int32) :=
  (if (Ph_isArgument ma ph v1 v2) = true then (some (Form_valueOf ma v1 v2)) else none)
noncomputable def Tape_begin (la : Ob) : Ob :=
  (oG (oG (oG (oG (oG (oB (ofil la 0 0) 0 true) 0 0) 1 0) 2 0) 3 0) 4 0)
noncomputable def Runner_read (ru : Ob) (v1 : Int32) : Int32 :=
  (if (Ph_variableOf v1) = (-1) then v1 else (oat ru 0 6 (Ph_variableOf v1)))
noncomputable def Ph_costOf (v0 : Int32) : Int32 :=
  (if v0 = 1 then 1 else if v0 = 2 then 1 else if v0 = 3 then 3 else if v0 = 4 then 8 else if v0 = 5 then 1 else if v0 = 6 then 4 else if v0 = 7 then 4 else if v0 = 8 then 1 else 0)
noncomputable def J_floorMod_8_18 (v2 : Int32) : Int32 :=
  v2
noncomputable def J_floorMod_8 (v0 : Int32) : Int32 :=
  (if (v0 ^^^ 8) < 0 then (if (v0 - v0 / 8 * 8) = 0 then (J_floorMod_8_18 (v0 - v0 / 8 * 8)) else ((v0 - v0 / 8 * 8) + 8)) else (J_floorMod_8_18 (v0 - v0 / 8 * 8)))
noncomputable def Tape_finish (la : Ob) (v1 : Int32) : Ob :=
  (oG (oB la 0 false) 0 v1)
noncomputable def Tape_act_134 (la : Ob) (v1 : Int32) (v2 : Int32) (v3 : Int32) : Int32 × Ob :=
  ((Ph_reckoned v1 v2 v3), la)
noncomputable def Tape_act (la : Ob) (v1 : Int32) (v2 : Int32) (v3 : Int32) : Int32 × Ob :=
  (if v1 = 0 then (v2, (oG la 3 ((la.2.1 3) + (Ph_costOf v1)))) else if v1 = 6 then ((oat la 0 8 (J_floorMod_8 v2)), (oG la 3 ((la.2.1 3) + (Ph_costOf v1)))) else if v1 = 7 then (0, (oput (oG la 3 ((la.2.1 3) + (Ph_costOf v1))) 0 8 (J_floorMod_8 v2) v3)) else if v1 = 8 then (0, (oG (oput (oG la 3 ((la.2.1 3) + (Ph_costOf v1))) 1 60 (la.2.1 2) v2) 2 ((la.2.1 2) + 1))) else (if v1 = 4 then (if v3 = 0 then (Tape_act_134 (Tape_finish (oG la 3 ((la.2.1 3) + (Ph_costOf v1))) 1) v1 v2 v3) else (Tape_act_134 (oG la 3 ((la.2.1 3) + (Ph_costOf v1))) v1 v2 v3)) else (Tape_act_134 (oG la 3 ((la.2.1 3) + (Ph_costOf v1))) v1 v2 v3)))
noncomputable def Runner_doLines_103 (to : Ob) (ru : Ob) (la : Ob) (v2 : Int32) (v4 : Int32) : (Int32 × Ob × Ob) ⊕ (Ob × Ob) :=
  (Sum.inl ((v4 + 1), ru, la))
noncomputable def Runner_doLines_75 (to : Ob) (ru : Ob) (la : Ob) (v2 : Int32) (v4 : Int32) (v5 : Int32) (v6 : Int32) (w0 : Int32) : (Int32 × Ob × Ob) ⊕ (Ob × Ob) :=
  (if (Ph_sets v6) = true then (Runner_doLines_103 to (oput ru 0 6 (oat to 2 80 v5) w0) la v2 v4) else (Runner_doLines_103 to ru la v2 v4))
noncomputable def Runner_doLines_L3b (to : Ob) (ru : Ob) (la : Ob) (v2 : Int32) (v4 : Int32) : (Int32 × Ob × Ob) ⊕ (Ob × Ob) :=
  (if (la.2.2 0) = true then (if v4 < (oat to 0 10 v2) then (Runner_doLines_75 to ru (Tape_act la (oat to 1 80 ((v2 * 8) + v4)) (Runner_read ru (oat to 3 80 ((v2 * 8) + v4))) (Runner_read ru (oat to 4 80 ((v2 * 8) + v4)))).2 v2 v4 ((v2 * 8) + v4) (oat to 1 80 ((v2 * 8) + v4)) ((Tape_act la (oat to 1 80 ((v2 * 8) + v4)) (Runner_read ru (oat to 3 80 ((v2 * 8) + v4))) (Runner_read ru (oat to 4 80 ((v2 * 8) + v4)))).1)) else (Sum.inr (ru, la))) else (Sum.inr (ru, la)))
noncomputable def Runner_doLines_L3 (to : Ob) (ru : Ob) (la : Ob) (v2 : Int32) (v4 : Int32) : Ob × Ob :=
  loopW (fun a : Int32 × Ob × Ob => Runner_doLines_L3b to a.2.1 a.2.2 v2 a.1) (v4, ru, la)
noncomputable def Runner_doLines (to : Ob) (ru : Ob) (la : Ob) (v2 : Int32) : Ob × Ob :=
  (Runner_doLines_L3 to ru la v2 0)
noncomputable def Tape_leaveBy_84 (la : Ob) : Int32 × Ob :=
  (0, la)
noncomputable def Tape_leaveBy_67 (la : Ob) (v1 : Int32) (v2 : Int32) (w0 : Int32) (w1 : Int32) : Int32 × Ob :=
  (if v1 = 2 then (if 0 < v2 then (Tape_leaveBy_84 (oG la 3 (w1 + w0))) else (1, (oG la 3 (w1 + w0)))) else (Tape_leaveBy_84 (oG la 3 (w1 + w0))))
noncomputable def Tape_leaveBy (la : Ob) (v1 : Int32) (v2 : Int32) : Int32 × Ob :=
  (if (la.2.2 0) = true then (if (la.2.1 4) < 300 then (if v1 = 0 then (0, (Tape_finish (oG (oG la 4 ((la.2.1 4) + 1)) 1 v2) 0)) else (if v1 = 2 then (Tape_leaveBy_67 (oG la 4 ((la.2.1 4) + 1)) v1 v2 2 (la.2.1 3)) else (Tape_leaveBy_67 (oG la 4 ((la.2.1 4) + 1)) v1 v2 1 (la.2.1 3)))) else (0, (Tape_finish la 2))) else (0, la))
noncomputable def Runner_walkBlocks_93 (to : Ob) (ru : Ob) (la : Ob) (v6 : Int32) (w0 : Int32) (w1 : Int32) : (Int32 × Int32 × Ob × Ob) ⊕ (Ob × Ob) :=
  (Sum.inl ((oat to 7 20 (w1 + w0)), (v6 + 1), ru, la))
noncomputable def Runner_walkBlocks_62 (to : Ob) (ru : Ob) (la : Ob) (v5 : Int32) (v6 : Int32) : (Int32 × Int32 × Ob × Ob) ⊕ (Ob × Ob) :=
  (Runner_walkBlocks_93 to ru (Tape_leaveBy la (oat to 5 10 v5) (Runner_read ru (oat to 6 10 v5))).2 v6 ((Tape_leaveBy la (oat to 5 10 v5) (Runner_read ru (oat to 6 10 v5))).1) (v5 * 2))
noncomputable def Runner_walkBlocks_L37b (to : Ob) (ru : Ob) (la : Ob) (v5 : Int32) (v6 : Int32) : (Int32 × Int32 × Ob × Ob) ⊕ (Ob × Ob) :=
  (if (la.2.2 0) = true then (if (300 : Int32) < v6 then (Sum.inr (ru, la)) else (Runner_walkBlocks_62 to (Runner_doLines to ru la v5).1 (Runner_doLines to ru la v5).2 v5 v6)) else (Sum.inr (ru, la)))
noncomputable def Runner_walkBlocks_L37 (to : Ob) (ru : Ob) (la : Ob) (v5 : Int32) (v6 : Int32) : Ob × Ob :=
  loopW (fun a : Int32 × Int32 × Ob × Ob => Runner_walkBlocks_L37b to a.2.2.1 a.2.2.2 a.1 a.2.1) (v5, v6, ru, la)
noncomputable def Runner_walkBlocks (to : Ob) (ru : Ob) (la : Ob) (v2 : Int32) (v3 : Int32) : Ob × Ob :=
  (Runner_walkBlocks_L37 to (oput (oput (ofil ru 0 0) 0 6 0 v2) 0 6 1 v3) (Tape_begin la) 0 0)
noncomputable def Ph_countRun (la : Ob) (ph : Ob) (cs : Int64) : Ob × Int64 :=
  ((oG ph 0 ((ph.2.1 0) + 1)), (cs + (la.2.1 3).toInt64))
noncomputable def Ph_run_21 (to : Ob) (ru : Ob) (la : Ob) (ph : Ob) (cs : Int64) : Int32 × Ob × Ob × Ob × Int64 :=
  ((la.2.1 0), ru, la, ph, cs)
noncomputable def Ph_run_17 (to : Ob) (ru : Ob) (la : Ob) (ph : Ob) (cs : Int64) : Int32 × Ob × Ob × Ob × Int64 :=
  (Ph_run_21 to ru la (Ph_countRun la ph cs).1 ((Ph_countRun la ph cs).2))
noncomputable def Ph_run (to : Ob) (ru : Ob) (la : Ob) (ph : Ob) (cs : Int64) (v1 : Int32) (v2 : Int32) : Int32 × Ob × Ob × Ob × Int64 :=
  (Ph_run_17 to (Runner_walkBlocks to ru la v1 v2).1 (Runner_walkBlocks to ru la v1 v2).2 ph cs)
noncomputable def Runner_reckon (ma : Ob) (ru : Ob) (v2 : Int32) (v3 : Int32) : Int32 :=
  (if (Form_valueOf ma v2 v3) = (-1) then (Form_numberOf ma v2 v3) else (oat ru 1 140 (Form_valueOf ma v2 v3)))
noncomputable def Runner_doPhis_56 (ma : Ob) (ru : Ob) (v2 : Int32) (v3 : Int32) (v4 : Int32) : (Int32 × Ob) ⊕ (Ob) :=
  (Sum.inl ((v4 + 1), ru))
noncomputable def Runner_doPhis_119 (ma : Ob) (ru : Ob) (v2 : Int32) (v4 : Int32) : (Int32 × Ob) ⊕ (Ob) :=
  (Sum.inl ((v4 + 1), ru))
noncomputable def Runner_doPhis_L65b (ma : Ob) (ru : Ob) (v2 : Int32) (v4 : Int32) : (Int32 × Ob) ⊕ (Ob) :=
  (if v4 < (oat ma 7 10 v2) then (if (oat ma 0 140 (Form_valueIn ma v2 v4)) = 9 then (Runner_doPhis_119 ma (oput ru 1 140 (Form_valueIn ma v2 v4) (oat ru 2 140 (Form_valueIn ma v2 v4))) v2 v4) else (Runner_doPhis_119 ma ru v2 v4)) else (Sum.inr ru))
noncomputable def Runner_doPhis_L65 (ma : Ob) (ru : Ob) (v2 : Int32) (v4 : Int32) : Ob :=
  loopW (fun a : Int32 × Ob => Runner_doPhis_L65b ma a.2 v2 a.1) (v4, ru)
noncomputable def Runner_doPhis_L3b (ma : Ob) (ru : Ob) (v2 : Int32) (v3 : Int32) (v4 : Int32) : (Int32 × Ob) ⊕ (Ob) :=
  (if v4 < (oat ma 7 10 v2) then (if (oat ma 0 140 (Form_valueIn ma v2 v4)) = 9 then (Runner_doPhis_56 ma (oput ru 2 140 (Form_valueIn ma v2 v4) (Runner_reckon ma ru (Form_valueIn ma v2 v4) v3)) v2 v3 v4) else (Runner_doPhis_56 ma ru v2 v3 v4)) else (Sum.inr (Runner_doPhis_L65 ma ru v2 0)))
noncomputable def Runner_doPhis_L3 (ma : Ob) (ru : Ob) (v2 : Int32) (v3 : Int32) (v4 : Int32) : Ob :=
  loopW (fun a : Int32 × Ob => Runner_doPhis_L3b ma a.2 v2 v3 a.1) (v4, ru)
noncomputable def Runner_doPhis (ma : Ob) (ru : Ob) (v2 : Int32) (v3 : Int32) : Ob :=
  (Runner_doPhis_L3 ma ru v2 v3 0)
noncomputable def Runner_doValues_81 (ma : Ob) (ru : Ob) (la : Ob) (v2 : Int32) (v4 : Int32) : (Int32 × Ob × Ob) ⊕ (Ob × Ob) :=
  (Sum.inl ((v4 + 1), ru, la))
noncomputable def Runner_doValues_78 (ma : Ob) (ru : Ob) (la : Ob) (v2 : Int32) (v4 : Int32) (w0 : Int32) (w1 : Int32) : (Int32 × Ob × Ob) ⊕ (Ob × Ob) :=
  (Runner_doValues_81 ma (oput ru 1 140 w1 w0) la v2 v4)
noncomputable def Runner_doValues_L3b (ma : Ob) (ru : Ob) (la : Ob) (v2 : Int32) (v4 : Int32) : (Int32 × Ob × Ob) ⊕ (Ob × Ob) :=
  (if (la.2.2 0) = true then (if v4 < (oat ma 7 10 v2) then (if (oat ma 0 140 (Form_valueIn ma v2 v4)) = 9 then (Runner_doValues_81 ma ru la v2 v4) else (Runner_doValues_78 ma ru (Tape_act la (oat ma 0 140 (Form_valueIn ma v2 v4)) (Runner_reckon ma ru (Form_valueIn ma v2 v4) 0) (Runner_reckon ma ru (Form_valueIn ma v2 v4) 1)).2 v2 v4 ((Tape_act la (oat ma 0 140 (Form_valueIn ma v2 v4)) (Runner_reckon ma ru (Form_valueIn ma v2 v4) 0) (Runner_reckon ma ru (Form_valueIn ma v2 v4) 1)).1) (Form_valueIn ma v2 v4))) else (Sum.inr (ru, la))) else (Sum.inr (ru, la)))
noncomputable def Runner_doValues_L3 (ma : Ob) (ru : Ob) (la : Ob) (v2 : Int32) (v4 : Int32) : Ob × Ob :=
  loopW (fun a : Int32 × Ob × Ob => Runner_doValues_L3b ma a.2.1 a.2.2 v2 a.1) (v4, ru, la)
noncomputable def Runner_doValues (ma : Ob) (ru : Ob) (la : Ob) (v2 : Int32) : Ob × Ob :=
  (Runner_doValues_L3 ma ru la v2 0)
noncomputable def Runner_walkForm_110 (ma : Ob) (ru : Ob) (la : Ob) (v7 : Int32) (w0 : Int32) (w1 : Int32) : (Int32 × Int32 × Int32 × Ob × Ob) ⊕ (Ob × Ob) :=
  (Sum.inl ((oat ma 12 20 (w1 + w0)), (w1 + w0), (v7 + 1), ru, la))
noncomputable def Runner_walkForm_80 (ma : Ob) (ru : Ob) (la : Ob) (v5 : Int32) (v7 : Int32) : (Int32 × Int32 × Int32 × Ob × Ob) ⊕ (Ob × Ob) :=
  (Runner_walkForm_110 ma ru (Tape_leaveBy la (oat ma 11 10 v5) (Runner_reckon ma ru ((140 : Int32) + v5) 0)).2 v7 ((Tape_leaveBy la (oat ma 11 10 v5) (Runner_reckon ma ru ((140 : Int32) + v5) 0)).1) (v5 * 2))
noncomputable def Runner_walkForm_L40b (ma : Ob) (ru : Ob) (la : Ob) (v5 : Int32) (v6 : Int32) (v7 : Int32) : (Int32 × Int32 × Int32 × Ob × Ob) ⊕ (Ob × Ob) :=
  (if (la.2.2 0) = true then (if (300 : Int32) < v7 then (Sum.inr (ru, la)) else (Runner_walkForm_80 ma (Runner_doValues ma (Runner_doPhis ma ru v5 (Form_edgeOf ma v5 v6)) la v5).1 (Runner_doValues ma (Runner_doPhis ma ru v5 (Form_edgeOf ma v5 v6)) la v5).2 v5 v7)) else (Sum.inr (ru, la)))
noncomputable def Runner_walkForm_L40 (ma : Ob) (ru : Ob) (la : Ob) (v5 : Int32) (v6 : Int32) (v7 : Int32) : Ob × Ob :=
  loopW (fun a : Int32 × Int32 × Int32 × Ob × Ob => Runner_walkForm_L40b ma a.2.2.2.1 a.2.2.2.2 a.1 a.2.1 a.2.2.1) (v5, v6, v7, ru, la)
noncomputable def Runner_walkForm (ma : Ob) (ru : Ob) (la : Ob) (v2 : Int32) (v3 : Int32) : Ob × Ob :=
  (Runner_walkForm_L40 ma (oput (oput (ofil ru 1 0) 1 140 0 v2) 1 140 1 v3) (Tape_begin la) 0 (-1) 0)
noncomputable def Ph_runForm_38 (ma : Ob) (ru : Ob) (la : Ob) (ph : Ob) (cs : Int64) : Option (Int32 × Ob × Ob × Ob × Int64) :=
  (some ((la.2.1 0), ru, la, ph, cs))
noncomputable def Ph_runForm_34 (ma : Ob) (ru : Ob) (la : Ob) (ph : Ob) (cs : Int64) : Option (Int32 × Ob × Ob × Ob × Int64) :=
  (Ph_runForm_38 ma ru la (Ph_countRun la ph cs).1 ((Ph_countRun la ph cs).2))
noncomputable def Ph_runForm (ma : Ob) (ru : Ob) (la : Ob) (ph : Ob) (cs : Int64) (v1 : Int32) (v2 : Int32) : Option (Int32 × Ob × Ob × Ob × Int64) :=
  (if (ph.2.2 0) = true then (Ph_runForm_34 ma (Runner_walkForm ma ru la v1 v2).1 (Runner_walkForm ma ru la v1 v2).2 ph cs) else none)
noncomputable def Ph_ofRun (la : Ob) (ph : Ob) (v1 : Int32) : Option (Int32) :=
  (if v1 = 0 then (some (la.2.1 0)) else if v1 = 1 then (some (la.2.1 1)) else if v1 = 2 then (some (la.2.1 2)) else if v1 = 3 then (some (la.2.1 3)) else if v1 = 4 then (some (la.2.1 4)) else if v1 = 5 then (some (ph.2.1 0)) else none)
noncomputable def Ph_printed_21 (la : Ob) : Option (Int32) :=
  none
noncomputable def Ph_printed (la : Ob) (v1 : Int32) : Option (Int32) :=
  (if v1 < 0 then (Ph_printed_21 la) else (if v1 < (la.2.1 2) then (if v1 < 60 then (some (oat la 1 60 v1)) else (Ph_printed_21 la)) else (Ph_printed_21 la)))
noncomputable def Ph_cell_10 (la : Ob) : Option (Int32) :=
  none
noncomputable def Ph_cell (la : Ob) (v1 : Int32) : Option (Int32) :=
  (if v1 < 0 then (Ph_cell_10 la) else (if v1 < 8 then (some (oat la 0 8 v1)) else (Ph_cell_10 la)))
noncomputable def Told_allLines_L4b (to : Ob) (v1 : Int32) (v2 : Int32) : (Int32 × Int32) ⊕ (Int32) :=
  (if v2 < (to.2.1 0) then (Sum.inl ((v1 + (oat to 0 10 v2)), (v2 + 1))) else (Sum.inr v1))
noncomputable def Told_allLines_L4 (to : Ob) (v1 : Int32) (v2 : Int32) : Int32 :=
  loopW (fun a : Int32 × Int32 => Told_allLines_L4b to a.1 a.2) (v1, v2)
noncomputable def Told_allLines (to : Ob) : Int32 :=
  (Told_allLines_L4 to 0 0)
noncomputable def Form_allIn_sizes_L4b (ma : Ob) (v2 : Int32) (v3 : Int32) : (Int32 × Int32) ⊕ (Int32) :=
  (if v3 < (ma.2.1 0) then (Sum.inl ((v2 + (oat ma 7 10 v3)), (v3 + 1))) else (Sum.inr v2))
noncomputable def Form_allIn_sizes_L4 (ma : Ob) (v2 : Int32) (v3 : Int32) : Int32 :=
  loopW (fun a : Int32 × Int32 => Form_allIn_sizes_L4b ma a.1 a.2) (v2, v3)
noncomputable def Form_allIn_sizes (ma : Ob) : Int32 :=
  (Form_allIn_sizes_L4 ma 0 0)
noncomputable def Form_allPhis_43 (ma : Ob) (v2 : Int32) (w0 : Int32) (w1 : Int32) : (Int32 × Int32) ⊕ (Int32) :=
  (Sum.inl ((w1 + w0), (v2 + 1)))
noncomputable def Form_allPhis_42 (ma : Ob) (v2 : Int32) (w0 : Int32) : (Int32 × Int32) ⊕ (Int32) :=
  (Form_allPhis_43 ma v2 0 w0)
noncomputable def Form_allPhis_L4b (ma : Ob) (v1 : Int32) (v2 : Int32) : (Int32 × Int32) ⊕ (Int32) :=
  (if v2 < (ma.2.1 2) then (if (oat ma 0 140 v2) = 9 then (if (oat ma 1 140 v2) = (-1) then (Form_allPhis_42 ma v2 v1) else (Form_allPhis_43 ma v2 1 v1)) else (Form_allPhis_42 ma v2 v1)) else (Sum.inr v1))
noncomputable def Form_allPhis_L4 (ma : Ob) (v1 : Int32) (v2 : Int32) : Int32 :=
  loopW (fun a : Int32 × Int32 => Form_allPhis_L4b ma a.1 a.2) (v1, v2)
noncomputable def Form_allPhis (ma : Ob) : Int32 :=
  (Form_allPhis_L4 ma 0 0)
noncomputable def Form_allIn_edges_L4b (ma : Ob) (v2 : Int32) (v3 : Int32) : (Int32 × Int32) ⊕ (Int32) :=
  (if v3 < (ma.2.1 0) then (Sum.inl ((v2 + (oat ma 9 10 v3)), (v3 + 1))) else (Sum.inr v2))
noncomputable def Form_allIn_edges_L4 (ma : Ob) (v2 : Int32) (v3 : Int32) : Int32 :=
  loopW (fun a : Int32 × Int32 => Form_allIn_edges_L4b ma a.1 a.2) (v2, v3)
noncomputable def Form_allIn_edges (ma : Ob) : Int32 :=
  (Form_allIn_edges_L4 ma 0 0)
noncomputable def Ph_manyOfForm (ma : Ob) (v1 : Int32) : Int32 :=
  (if v1 = 4 then (ma.2.1 2) else if v1 = 5 then (Form_allIn_sizes ma) else if v1 = 6 then (Form_allPhis ma) else if v1 = 7 then (J_bitCount (ma.2.1 1)) else if v1 = 8 then (Form_allIn_edges ma) else if v1 = 9 then (ma.2.1 4) else (ma.2.1 5))
noncomputable def Ph_many_10 (to : Ob) (fl : Ob) (ma : Ob) (ph : Ob) : Option (Int32) :=
  none
noncomputable def Ph_many (to : Ob) (fl : Ob) (ma : Ob) (ph : Ob) (v1 : Int32) : Option (Int32) :=
  (if v1 < 0 then (Ph_many_10 to fl ma ph) else (if (10 : Int32) < v1 then (Ph_many_10 to fl ma ph) else (if v1 = 0 then (some (to.2.1 0)) else if v1 = 1 then (some (J_bitCount (fl.2.1 0))) else if v1 = 2 then (some (Told_allLines to)) else if v1 = 3 then (if (ph.2.2 0) = true then (some 1) else (some 0)) else (if (ph.2.2 0) = true then (some (Ph_manyOfForm ma v1)) else (some 0)))))
noncomputable def Form_take (ma : Ob) (tr : Ob) : Ob :=
  (oG (oG (oG (oG (oG (oG (oR (oR (oR (oR (oR (oR (oR (oR (oR (oR (oR (oR (oR tr 0 (ma.1 0)) 1 (ma.1 1)) 2 (ma.1 2)) 3 (ma.1 3)) 4 (ma.1 4)) 5 (ma.1 5)) 6 (ma.1 6)) 7 (ma.1 7)) 8 (ma.1 8)) 9 (ma.1 9)) 10 (ma.1 10)) 11 (ma.1 11)) 12 (ma.1 12)) 0 (ma.2.1 0)) 1 (ma.2.1 1)) 2 (ma.2.1 2)) 3 (ma.2.1 3)) 4 (ma.2.1 4)) 5 (ma.2.1 5))
noncomputable def Ph_wouldGo (ma : Ob) (tr : Ob) (cn : Ob) (nu : Ob) (de : Ob) (ph : Ob) (v1 : Int32) : Option (Int32 × Ob × Ob × Ob × Ob) :=
  (if (Ph_isPass v1) = true then (if (ph.2.2 0) = true then (some ((Ph_passOver (Form_take ma tr) cn nu de v1).1, (Ph_passOver (Form_take ma tr) cn nu de v1).2.1, (Ph_passOver (Form_take ma tr) cn nu de v1).2.2.1, (Ph_passOver (Form_take ma tr) cn nu de v1).2.2.2.1, (Ph_passOver (Form_take ma tr) cn nu de v1).2.2.2.2)) else none) else none)
noncomputable def Ph_passBehind (v0 : Int32) : Int32 :=
  ((1 : Int32) + (v0 - v0 / 4 * 4))
noncomputable def Tape_begin_k (tf : Ob) : Ob :=
  (oG (oG (oG (oG (oG (oB (ofil tf 0 0) 0 true) 0 0) 1 0) 2 0) 3 0) 4 0)
noncomputable def Tape_finish_k (tf : Ob) (v1 : Int32) : Ob :=
  (oG (oB tf 0 false) 0 v1)
noncomputable def Tape_act_k_134 (tf : Ob) (v1 : Int32) (v2 : Int32) (v3 : Int32) : Int32 × Ob :=
  ((Ph_reckoned v1 v2 v3), tf)
noncomputable def Tape_act_k (tf : Ob) (v1 : Int32) (v2 : Int32) (v3 : Int32) : Int32 × Ob :=
  (if v1 = 0 then (v2, (oG tf 3 ((tf.2.1 3) + (Ph_costOf v1)))) else if v1 = 6 then ((oat tf 0 8 (J_floorMod_8 v2)), (oG tf 3 ((tf.2.1 3) + (Ph_costOf v1)))) else if v1 = 7 then (0, (oput (oG tf 3 ((tf.2.1 3) + (Ph_costOf v1))) 0 8 (J_floorMod_8 v2) v3)) else if v1 = 8 then (0, (oG (oput (oG tf 3 ((tf.2.1 3) + (Ph_costOf v1))) 1 2408 (tf.2.1 2) v2) 2 ((tf.2.1 2) + 1))) else (if v1 = 4 then (if v3 = 0 then (Tape_act_k_134 (Tape_finish_k (oG tf 3 ((tf.2.1 3) + (Ph_costOf v1))) 1) v1 v2 v3) else (Tape_act_k_134 (oG tf 3 ((tf.2.1 3) + (Ph_costOf v1))) v1 v2 v3)) else (Tape_act_k_134 (oG tf 3 ((tf.2.1 3) + (Ph_costOf v1))) v1 v2 v3)))
noncomputable def Runner_doValues_k_81 (tr : Ob) (ru : Ob) (tf : Ob) (v2 : Int32) (v4 : Int32) : (Int32 × Ob × Ob) ⊕ (Ob × Ob) :=
  (Sum.inl ((v4 + 1), ru, tf))
noncomputable def Runner_doValues_k_78 (tr : Ob) (ru : Ob) (tf : Ob) (v2 : Int32) (v4 : Int32) (w0 : Int32) (w1 : Int32) : (Int32 × Ob × Ob) ⊕ (Ob × Ob) :=
  (Runner_doValues_k_81 tr (oput ru 1 140 w1 w0) tf v2 v4)
noncomputable def Runner_doValues_k_L3b (tr : Ob) (ru : Ob) (tf : Ob) (v2 : Int32) (v4 : Int32) : (Int32 × Ob × Ob) ⊕ (Ob × Ob) :=
  (if (tf.2.2 0) = true then (if v4 < (oat tr 7 10 v2) then (if (oat tr 0 140 (Form_valueIn tr v2 v4)) = 9 then (Runner_doValues_k_81 tr ru tf v2 v4) else (Runner_doValues_k_78 tr ru (Tape_act_k tf (oat tr 0 140 (Form_valueIn tr v2 v4)) (Runner_reckon tr ru (Form_valueIn tr v2 v4) 0) (Runner_reckon tr ru (Form_valueIn tr v2 v4) 1)).2 v2 v4 ((Tape_act_k tf (oat tr 0 140 (Form_valueIn tr v2 v4)) (Runner_reckon tr ru (Form_valueIn tr v2 v4) 0) (Runner_reckon tr ru (Form_valueIn tr v2 v4) 1)).1) (Form_valueIn tr v2 v4))) else (Sum.inr (ru, tf))) else (Sum.inr (ru, tf)))
noncomputable def Runner_doValues_k_L3 (tr : Ob) (ru : Ob) (tf : Ob) (v2 : Int32) (v4 : Int32) : Ob × Ob :=
  loopW (fun a : Int32 × Ob × Ob => Runner_doValues_k_L3b tr a.2.1 a.2.2 v2 a.1) (v4, ru, tf)
noncomputable def Runner_doValues_k (tr : Ob) (ru : Ob) (tf : Ob) (v2 : Int32) : Ob × Ob :=
  (Runner_doValues_k_L3 tr ru tf v2 0)
noncomputable def Tape_leaveBy_k_84 (tf : Ob) : Int32 × Ob :=
  (0, tf)
noncomputable def Tape_leaveBy_k_67 (tf : Ob) (v1 : Int32) (v2 : Int32) (w0 : Int32) (w1 : Int32) : Int32 × Ob :=
  (if v1 = 2 then (if 0 < v2 then (Tape_leaveBy_k_84 (oG tf 3 (w1 + w0))) else (1, (oG tf 3 (w1 + w0)))) else (Tape_leaveBy_k_84 (oG tf 3 (w1 + w0))))
noncomputable def Tape_leaveBy_k (tf : Ob) (v1 : Int32) (v2 : Int32) : Int32 × Ob :=
  (if (tf.2.2 0) = true then (if (tf.2.1 4) < 300 then (if v1 = 0 then (0, (Tape_finish_k (oG (oG tf 4 ((tf.2.1 4) + 1)) 1 v2) 0)) else (if v1 = 2 then (Tape_leaveBy_k_67 (oG tf 4 ((tf.2.1 4) + 1)) v1 v2 2 (tf.2.1 3)) else (Tape_leaveBy_k_67 (oG tf 4 ((tf.2.1 4) + 1)) v1 v2 1 (tf.2.1 3)))) else (0, (Tape_finish_k tf 2))) else (0, tf))
noncomputable def Runner_walkForm_k_110 (tr : Ob) (ru : Ob) (tf : Ob) (v7 : Int32) (w0 : Int32) (w1 : Int32) : (Int32 × Int32 × Int32 × Ob × Ob) ⊕ (Ob × Ob) :=
  (Sum.inl ((oat tr 12 20 (w1 + w0)), (w1 + w0), (v7 + 1), ru, tf))
noncomputable def Runner_walkForm_k_80 (tr : Ob) (ru : Ob) (tf : Ob) (v5 : Int32) (v7 : Int32) : (Int32 × Int32 × Int32 × Ob × Ob) ⊕ (Ob × Ob) :=
  (Runner_walkForm_k_110 tr ru (Tape_leaveBy_k tf (oat tr 11 10 v5) (Runner_reckon tr ru ((140 : Int32) + v5) 0)).2 v7 ((Tape_leaveBy_k tf (oat tr 11 10 v5) (Runner_reckon tr ru ((140 : Int32) + v5) 0)).1) (v5 * 2))
noncomputable def Runner_walkForm_k_L40b (tr : Ob) (ru : Ob) (tf : Ob) (v5 : Int32) (v6 : Int32) (v7 : Int32) : (Int32 × Int32 × Int32 × Ob × Ob) ⊕ (Ob × Ob) :=
  (if (tf.2.2 0) = true then (if (300 : Int32) < v7 then (Sum.inr (ru, tf)) else (Runner_walkForm_k_80 tr (Runner_doValues_k tr (Runner_doPhis tr ru v5 (Form_edgeOf tr v5 v6)) tf v5).1 (Runner_doValues_k tr (Runner_doPhis tr ru v5 (Form_edgeOf tr v5 v6)) tf v5).2 v5 v7)) else (Sum.inr (ru, tf)))
noncomputable def Runner_walkForm_k_L40 (tr : Ob) (ru : Ob) (tf : Ob) (v5 : Int32) (v6 : Int32) (v7 : Int32) : Ob × Ob :=
  loopW (fun a : Int32 × Int32 × Int32 × Ob × Ob => Runner_walkForm_k_L40b tr a.2.2.2.1 a.2.2.2.2 a.1 a.2.1 a.2.2.1) (v5, v6, v7, ru, tf)
noncomputable def Runner_walkForm_k (tr : Ob) (ru : Ob) (tf : Ob) (v2 : Int32) (v3 : Int32) : Ob × Ob :=
  (Runner_walkForm_k_L40 tr (oput (oput (ofil ru 1 0) 1 140 0 v2) 1 140 1 v3) (Tape_begin_k tf) 0 (-1) 0)
noncomputable def Ph_wouldCost_9 (ma : Ob) (tr : Ob) (cn : Ob) (nu : Ob) (de : Ob) (ru : Ob) (tf : Ob) (ph : Ob) : Option (Int32 × Ob × Ob × Ob × Ob × Ob × Ob) :=
  none
noncomputable def Ph_wouldCost_72 (ma : Ob) (tr : Ob) (cn : Ob) (nu : Ob) (de : Ob) (ru : Ob) (tf : Ob) (ph : Ob) (v1 : Int32) (v2 : Int32) (v3 : Int32) (v4 : Int32) (w0 : Int32) : (Int32 × Ob × Ob × Ob × Ob) ⊕ (Option (Int32 × Ob × Ob × Ob × Ob × Ob × Ob)) :=
  (Sum.inl ((v4 + 1), tr, cn, nu, de))
noncomputable def Ph_wouldCost_96 (ma : Ob) (tr : Ob) (cn : Ob) (nu : Ob) (de : Ob) (ru : Ob) (tf : Ob) (ph : Ob) : Option (Int32 × Ob × Ob × Ob × Ob × Ob × Ob) :=
  (some ((tf.2.1 3), tr, cn, nu, de, ru, tf))
noncomputable def Ph_wouldCost_L51b (ma : Ob) (tr : Ob) (cn : Ob) (nu : Ob) (de : Ob) (ru : Ob) (tf : Ob) (ph : Ob) (v1 : Int32) (v2 : Int32) (v3 : Int32) (v4 : Int32) : (Int32 × Ob × Ob × Ob × Ob) ⊕ (Option (Int32 × Ob × Ob × Ob × Ob × Ob × Ob)) :=
  (if v4 < (v1 * 4) then (Ph_wouldCost_72 ma (Ph_passOver tr cn nu de (Ph_passBehind v4)).2.1 (Ph_passOver tr cn nu de (Ph_passBehind v4)).2.2.1 (Ph_passOver tr cn nu de (Ph_passBehind v4)).2.2.2.1 (Ph_passOver tr cn nu de (Ph_passBehind v4)).2.2.2.2 ru tf ph v1 v2 v3 v4 ((Ph_passOver tr cn nu de (Ph_passBehind v4)).1)) else (Sum.inr (Ph_wouldCost_96 ma tr cn nu de (Runner_walkForm_k tr ru tf v2 v3).1 (Runner_walkForm_k tr ru tf v2 v3).2 ph)))
noncomputable def Ph_wouldCost_L51 (ma : Ob) (tr : Ob) (cn : Ob) (nu : Ob) (de : Ob) (ru : Ob) (tf : Ob) (ph : Ob) (v1 : Int32) (v2 : Int32) (v3 : Int32) (v4 : Int32) : Option (Int32 × Ob × Ob × Ob × Ob × Ob × Ob) :=
  loopW (fun a : Int32 × Ob × Ob × Ob × Ob => Ph_wouldCost_L51b ma a.2.1 a.2.2.1 a.2.2.2.1 a.2.2.2.2 ru tf ph v1 v2 v3 a.1) (v4, tr, cn, nu, de)
noncomputable def Ph_wouldCost (ma : Ob) (tr : Ob) (cn : Ob) (nu : Ob) (de : Ob) (ru : Ob) (tf : Ob) (ph : Ob) (v1 : Int32) (v2 : Int32) (v3 : Int32) : Option (Int32 × Ob × Ob × Ob × Ob × Ob × Ob) :=
  (if v1 < 0 then (Ph_wouldCost_9 ma tr cn nu de ru tf ph) else (if (5 : Int32) < v1 then (Ph_wouldCost_9 ma tr cn nu de ru tf ph) else (if (ph.2.2 0) = true then (Ph_wouldCost_L51 ma (Form_take ma tr) cn nu de ru tf ph v1 v2 v3 0) else none)))
noncomputable def Ph_untilStill_65 (ma : Ob) (tr : Ob) (cn : Ob) (nu : Ob) (de : Ob) (ph : Ob) (v2 : Int32) (w0 : Int32) : (Int32 × Int32 × Ob × Ob × Ob × Ob) ⊕ (Option (Int32 × Ob × Ob × Ob × Ob)) :=
  (Sum.inl (w0, (v2 + 1), tr, cn, nu, de))
noncomputable def Ph_untilStill_55 (ma : Ob) (tr : Ob) (cn : Ob) (nu : Ob) (de : Ob) (ph : Ob) (v1 : Int32) (v2 : Int32) (w0 : Int32) : (Int32 × Int32 × Ob × Ob × Ob × Ob) ⊕ (Option (Int32 × Ob × Ob × Ob × Ob)) :=
  (if w0 = 0 then (Ph_untilStill_65 ma tr cn nu de ph v2 (v1 + 1)) else (Ph_untilStill_65 ma tr cn nu de ph v2 0))
noncomputable def Ph_untilStill_72 (ma : Ob) (tr : Ob) (cn : Ob) (nu : Ob) (de : Ob) (ph : Ob) (v2 : Int32) : Option (Int32 × Ob × Ob × Ob × Ob) :=
  (some (v2, tr, cn, nu, de))
noncomputable def Ph_untilStill_L32b (ma : Ob) (tr : Ob) (cn : Ob) (nu : Ob) (de : Ob) (ph : Ob) (v1 : Int32) (v2 : Int32) : (Int32 × Int32 × Ob × Ob × Ob × Ob) ⊕ (Option (Int32 × Ob × Ob × Ob × Ob)) :=
  (if v2 < 40 then (if v1 < 4 then (Ph_untilStill_55 ma (Ph_passOver tr cn nu de (Ph_passBehind v2)).2.1 (Ph_passOver tr cn nu de (Ph_passBehind v2)).2.2.1 (Ph_passOver tr cn nu de (Ph_passBehind v2)).2.2.2.1 (Ph_passOver tr cn nu de (Ph_passBehind v2)).2.2.2.2 ph v1 v2 ((Ph_passOver tr cn nu de (Ph_passBehind v2)).1)) else (Sum.inr (Ph_untilStill_72 ma tr cn nu de ph v2))) else (Sum.inr (Ph_untilStill_72 ma tr cn nu de ph v2)))
noncomputable def Ph_untilStill_L32 (ma : Ob) (tr : Ob) (cn : Ob) (nu : Ob) (de : Ob) (ph : Ob) (v1 : Int32) (v2 : Int32) : Option (Int32 × Ob × Ob × Ob × Ob) :=
  loopW (fun a : Int32 × Int32 × Ob × Ob × Ob × Ob => Ph_untilStill_L32b ma a.2.2.1 a.2.2.2.1 a.2.2.2.2.1 a.2.2.2.2.2 ph a.1 a.2.1) (v1, v2, tr, cn, nu, de)
noncomputable def Ph_untilStill (ma : Ob) (tr : Ob) (cn : Ob) (nu : Ob) (de : Ob) (ph : Ob) : Option (Int32 × Ob × Ob × Ob × Ob) :=
  (if (ph.2.2 0) = true then (Ph_untilStill_L32 ma (Form_take ma tr) cn nu de ph 0 0) else none)
noncomputable def Runner_doLines_k_103 (to : Ob) (ru : Ob) (tb : Ob) (v2 : Int32) (v4 : Int32) : (Int32 × Ob × Ob) ⊕ (Ob × Ob) :=
  (Sum.inl ((v4 + 1), ru, tb))
noncomputable def Runner_doLines_k_75 (to : Ob) (ru : Ob) (tb : Ob) (v2 : Int32) (v4 : Int32) (v5 : Int32) (v6 : Int32) (w0 : Int32) : (Int32 × Ob × Ob) ⊕ (Ob × Ob) :=
  (if (Ph_sets v6) = true then (Runner_doLines_k_103 to (oput ru 0 6 (oat to 2 80 v5) w0) tb v2 v4) else (Runner_doLines_k_103 to ru tb v2 v4))
noncomputable def Runner_doLines_k_L3b (to : Ob) (ru : Ob) (tb : Ob) (v2 : Int32) (v4 : Int32) : (Int32 × Ob × Ob) ⊕ (Ob × Ob) :=
  (if (tb.2.2 0) = true then (if v4 < (oat to 0 10 v2) then (Runner_doLines_k_75 to ru (Tape_act_k tb (oat to 1 80 ((v2 * 8) + v4)) (Runner_read ru (oat to 3 80 ((v2 * 8) + v4))) (Runner_read ru (oat to 4 80 ((v2 * 8) + v4)))).2 v2 v4 ((v2 * 8) + v4) (oat to 1 80 ((v2 * 8) + v4)) ((Tape_act_k tb (oat to 1 80 ((v2 * 8) + v4)) (Runner_read ru (oat to 3 80 ((v2 * 8) + v4))) (Runner_read ru (oat to 4 80 ((v2 * 8) + v4)))).1)) else (Sum.inr (ru, tb))) else (Sum.inr (ru, tb)))
noncomputable def Runner_doLines_k_L3 (to : Ob) (ru : Ob) (tb : Ob) (v2 : Int32) (v4 : Int32) : Ob × Ob :=
  loopW (fun a : Int32 × Ob × Ob => Runner_doLines_k_L3b to a.2.1 a.2.2 v2 a.1) (v4, ru, tb)
noncomputable def Runner_doLines_k (to : Ob) (ru : Ob) (tb : Ob) (v2 : Int32) : Ob × Ob :=
  (Runner_doLines_k_L3 to ru tb v2 0)
noncomputable def Runner_walkBlocks_k_93 (to : Ob) (ru : Ob) (tb : Ob) (v6 : Int32) (w0 : Int32) (w1 : Int32) : (Int32 × Int32 × Ob × Ob) ⊕ (Ob × Ob) :=
  (Sum.inl ((oat to 7 20 (w1 + w0)), (v6 + 1), ru, tb))
noncomputable def Runner_walkBlocks_k_62 (to : Ob) (ru : Ob) (tb : Ob) (v5 : Int32) (v6 : Int32) : (Int32 × Int32 × Ob × Ob) ⊕ (Ob × Ob) :=
  (Runner_walkBlocks_k_93 to ru (Tape_leaveBy_k tb (oat to 5 10 v5) (Runner_read ru (oat to 6 10 v5))).2 v6 ((Tape_leaveBy_k tb (oat to 5 10 v5) (Runner_read ru (oat to 6 10 v5))).1) (v5 * 2))
noncomputable def Runner_walkBlocks_k_L37b (to : Ob) (ru : Ob) (tb : Ob) (v5 : Int32) (v6 : Int32) : (Int32 × Int32 × Ob × Ob) ⊕ (Ob × Ob) :=
  (if (tb.2.2 0) = true then (if (300 : Int32) < v6 then (Sum.inr (ru, tb)) else (Runner_walkBlocks_k_62 to (Runner_doLines_k to ru tb v5).1 (Runner_doLines_k to ru tb v5).2 v5 v6)) else (Sum.inr (ru, tb)))
noncomputable def Runner_walkBlocks_k_L37 (to : Ob) (ru : Ob) (tb : Ob) (v5 : Int32) (v6 : Int32) : Ob × Ob :=
  loopW (fun a : Int32 × Int32 × Ob × Ob => Runner_walkBlocks_k_L37b to a.2.2.1 a.2.2.2 a.1 a.2.1) (v5, v6, ru, tb)
noncomputable def Runner_walkBlocks_k (to : Ob) (ru : Ob) (tb : Ob) (v2 : Int32) (v3 : Int32) : Ob × Ob :=
  (Runner_walkBlocks_k_L37 to (oput (oput (ofil ru 0 0) 0 6 0 v2) 0 6 1 v3) (Tape_begin_k tb) 0 0)
noncomputable def Tape_isLike_k_75 (tb : Ob) (tf : Ob) (v3 : Int32) (w0 : Bool) : (Bool × Int32) ⊕ (Bool) :=
  (Sum.inl (w0, (v3 + 1)))
noncomputable def Tape_isLike_k_74 (tb : Ob) (tf : Ob) (v3 : Int32) : (Bool × Int32) ⊕ (Bool) :=
  (Tape_isLike_k_75 tb tf v3 false)
noncomputable def Tape_isLike_k_120 (tb : Ob) (tf : Ob) (v3 : Int32) (w0 : Bool) : (Bool × Int32) ⊕ (Bool) :=
  (Sum.inl (w0, (v3 + 1)))
noncomputable def Tape_isLike_k_127 (tb : Ob) (tf : Ob) (v2 : Bool) : Bool :=
  v2
noncomputable def Tape_isLike_k_L84b (tb : Ob) (tf : Ob) (v2 : Bool) (v3 : Int32) : (Bool × Int32) ⊕ (Bool) :=
  (if v2 = true then (if v3 < (tb.2.1 2) then (if (oat tb 1 2408 v3) = (oat tf 1 2408 v3) then (Tape_isLike_k_120 tb tf v3 true) else (Tape_isLike_k_120 tb tf v3 false)) else (Sum.inr (Tape_isLike_k_127 tb tf v2))) else (Sum.inr (Tape_isLike_k_127 tb tf v2)))
noncomputable def Tape_isLike_k_L84 (tb : Ob) (tf : Ob) (v2 : Bool) (v3 : Int32) : Bool :=
  loopW (fun a : Bool × Int32 => Tape_isLike_k_L84b tb tf a.1 a.2) (v2, v3)
noncomputable def Tape_isLike_k_L41b (tb : Ob) (tf : Ob) (v2 : Bool) (v3 : Int32) : (Bool × Int32) ⊕ (Bool) :=
  (if v3 < 8 then (if v2 = true then (if (oat tb 0 8 v3) = (oat tf 0 8 v3) then (Tape_isLike_k_75 tb tf v3 true) else (Tape_isLike_k_74 tb tf v3)) else (Tape_isLike_k_74 tb tf v3)) else (Sum.inr (Tape_isLike_k_L84 tb tf v2 0)))
noncomputable def Tape_isLike_k_L41 (tb : Ob) (tf : Ob) (v2 : Bool) (v3 : Int32) : Bool :=
  loopW (fun a : Bool × Int32 => Tape_isLike_k_L41b tb tf a.1 a.2) (v2, v3)
noncomputable def Tape_isLike_k_38 (tb : Ob) (tf : Ob) (w0 : Bool) : Bool :=
  (Tape_isLike_k_L41 tb tf w0 0)
noncomputable def Tape_isLike_k_37 (tb : Ob) (tf : Ob) : Bool :=
  (Tape_isLike_k_38 tb tf false)
noncomputable def Tape_isLike_k (tb : Ob) (tf : Ob) : Bool :=
  (if (tb.2.1 0) = (tf.2.1 0) then (if (tb.2.1 1) = (tf.2.1 1) then (if (tb.2.1 2) = (tf.2.1 2) then (Tape_isLike_k_38 tb tf true) else (Tape_isLike_k_37 tb tf)) else (Tape_isLike_k_37 tb tf)) else (Tape_isLike_k_37 tb tf))
noncomputable def Ph_isAlike_51 (to : Ob) (ma : Ob) (ru : Ob) (tb : Ob) (tf : Ob) (ph : Ob) : Option (Bool × Ob × Ob × Ob) :=
  (some ((Tape_isLike_k tb tf), ru, tb, tf))
noncomputable def Ph_isAlike_34 (to : Ob) (ma : Ob) (ru : Ob) (tb : Ob) (tf : Ob) (ph : Ob) (v1 : Int32) (v2 : Int32) : Option (Bool × Ob × Ob × Ob) :=
  (Ph_isAlike_51 to ma (Runner_walkForm_k ma ru tf v1 v2).1 tb (Runner_walkForm_k ma ru tf v1 v2).2 ph)
noncomputable def Ph_isAlike (to : Ob) (ma : Ob) (ru : Ob) (tb : Ob) (tf : Ob) (ph : Ob) (v1 : Int32) (v2 : Int32) : Option (Bool × Ob × Ob × Ob) :=
  (if (ph.2.2 0) = true then (Ph_isAlike_34 to ma (Runner_walkBlocks_k to ru tb v1 v2).1 (Runner_walkBlocks_k to ru tb v1 v2).2 tf ph v1 v2) else none)
noncomputable def Ph_mixed (v0 : Int64) (v2 : Int64) : Int64 :=
  ((v0 * (31 : Int64)) + v2)
noncomputable def Ph_mixedWithBlocks_L20b (to : Ob) (fl : Ob) (v1 : Int64) (v3 : Int64) (v5 : Int32) (v6 : Int32) : (Int64 × Int32) ⊕ ((Int64 × Int32) ⊕ (Option (Int64))) :=
  (if (5 : Int32) < v6 then (Sum.inr (Sum.inl (v3, (v5 + 1)))) else (obn (Sum.inr (Sum.inr none)) (Ph_ofBlock to fl v5 v6) (fun r32 => (Sum.inl ((Ph_mixed v3 r32.toInt64), (v6 + 1))))))
noncomputable def Ph_mixedWithBlocks_L20 (to : Ob) (fl : Ob) (v1 : Int64) (v3 : Int64) (v5 : Int32) (v6 : Int32) : (Int64 × Int32) ⊕ (Option (Int64)) :=
  loopW (fun a : Int64 × Int32 => Ph_mixedWithBlocks_L20b to fl v1 a.1 v5 a.2) (v3, v6)
noncomputable def Ph_mixedWithBlocks_L5b (to : Ob) (fl : Ob) (v1 : Int64) (v3 : Int64) (v5 : Int32) : (Int64 × Int32) ⊕ (Option (Int64)) :=
  (if v5 < (to.2.1 0) then (Ph_mixedWithBlocks_L20 to fl v1 v3 v5 0) else (Sum.inr (some v3)))
noncomputable def Ph_mixedWithBlocks_L5 (to : Ob) (fl : Ob) (v1 : Int64) (v3 : Int64) (v5 : Int32) : Option (Int64) :=
  loopW (fun a : Int64 × Int32 => Ph_mixedWithBlocks_L5b to fl v1 a.1 a.2) (v3, v5)
noncomputable def Ph_mixedWithBlocks (to : Ob) (fl : Ob) (v1 : Int64) : Option (Int64) :=
  (Ph_mixedWithBlocks_L5 to fl v1 v1 0)
noncomputable def Ph_mixedWithRun_L72b (la : Ob) (ph : Ob) (v1 : Int64) (v3 : Int64) (v5 : Int32) : (Int64 × Int32) ⊕ (Option (Int64)) :=
  (if v5 < 8 then (obn (Sum.inr none) (Ph_cell la v5) (fun r83 => (Sum.inl ((Ph_mixed v3 r83.toInt64), (v5 + 1))))) else (Sum.inr (some v3)))
noncomputable def Ph_mixedWithRun_L72 (la : Ob) (ph : Ob) (v1 : Int64) (v3 : Int64) (v5 : Int32) : Option (Int64) :=
  loopW (fun a : Int64 × Int32 => Ph_mixedWithRun_L72b la ph v1 a.1 a.2) (v3, v5)
noncomputable def Ph_mixedWithRun_69 (la : Ob) (ph : Ob) (v1 : Int64) (v3 : Int64) : Option (Int64) :=
  (Ph_mixedWithRun_L72 la ph v1 v3 0)
noncomputable def Ph_mixedWithRun_L32b (la : Ob) (ph : Ob) (v1 : Int64) (v3 : Int64) (v5 : Int32) : (Int64 × Int32) ⊕ (Option (Int64)) :=
  (if v5 < 60 then (if v5 < (la.2.1 2) then (obn (Sum.inr none) (Ph_printed la v5) (fun r55 => (Sum.inl ((Ph_mixed v3 r55.toInt64), (v5 + 1))))) else (Sum.inr (Ph_mixedWithRun_69 la ph v1 v3))) else (Sum.inr (Ph_mixedWithRun_69 la ph v1 v3)))
noncomputable def Ph_mixedWithRun_L32 (la : Ob) (ph : Ob) (v1 : Int64) (v3 : Int64) (v5 : Int32) : Option (Int64) :=
  loopW (fun a : Int64 × Int32 => Ph_mixedWithRun_L32b la ph v1 a.1 a.2) (v3, v5)
noncomputable def Ph_mixedWithRun_L5b (la : Ob) (ph : Ob) (v1 : Int64) (v3 : Int64) (v5 : Int32) : (Int64 × Int32) ⊕ (Option (Int64)) :=
  (if (5 : Int32) < v5 then (Sum.inr (Ph_mixedWithRun_L32 la ph v1 v3 0)) else (obn (Sum.inr none) (Ph_ofRun la ph v5) (fun r15 => (Sum.inl ((Ph_mixed v3 r15.toInt64), (v5 + 1))))))
noncomputable def Ph_mixedWithRun_L5 (la : Ob) (ph : Ob) (v1 : Int64) (v3 : Int64) (v5 : Int32) : Option (Int64) :=
  loopW (fun a : Int64 × Int32 => Ph_mixedWithRun_L5b la ph v1 a.1 a.2) (v3, v5)
noncomputable def Ph_mixedWithRun (la : Ob) (ph : Ob) (v1 : Int64) : Option (Int64) :=
  (Ph_mixedWithRun_L5 la ph v1 v1 0)
noncomputable def Ph_edge_40 (ma : Ob) (ph : Ob) : Option (Int32) :=
  none
noncomputable def Ph_edge (ma : Ob) (ph : Ob) (v1 : Int32) (v2 : Int32) : Option (Int32) :=
  (if (ph.2.2 0) = true then (if (Ph_has (ma.2.1 1) v1) = true then (if v2 < 0 then (Ph_edge_40 ma ph) else (if v2 < (oat ma 9 10 v1) then (some (Ph_fromOf (Form_wayTo ma v1 v2))) else (Ph_edge_40 ma ph))) else (Ph_edge_40 ma ph)) else (Ph_edge_40 ma ph))
noncomputable def Ph_mixedWithPlace_L94b (ma : Ob) (ph : Ob) (v1 : Int64) (v3 : Int32) (v4 : Int64) (v6 : Int32) : (Int64 × Int32) ⊕ (Option (Int64)) :=
  (if v6 < (oat ma 7 10 v3) then (obn (Sum.inr none) (Ph_valueAt ma ph v3 v6) (fun r116 => (Sum.inl ((Ph_mixed v4 r116.toInt64), (v6 + 1))))) else (Sum.inr (some v4)))
noncomputable def Ph_mixedWithPlace_L94 (ma : Ob) (ph : Ob) (v1 : Int64) (v3 : Int32) (v4 : Int64) (v6 : Int32) : Option (Int64) :=
  loopW (fun a : Int64 × Int32 => Ph_mixedWithPlace_L94b ma ph v1 v3 a.1 a.2) (v4, v6)
noncomputable def Ph_mixedWithPlace_L54b (ma : Ob) (ph : Ob) (v1 : Int64) (v3 : Int32) (v4 : Int64) (v6 : Int32) : (Int64 × Int32) ⊕ (Option (Int64)) :=
  (if v6 < (oat ma 9 10 v3) then (obn (Sum.inr none) (Ph_edge ma ph v3 v6) (fun r76 => (Sum.inl ((Ph_mixed v4 r76.toInt64), (v6 + 1))))) else (Sum.inr (Ph_mixedWithPlace_L94 ma ph v1 v3 v4 0)))
noncomputable def Ph_mixedWithPlace_L54 (ma : Ob) (ph : Ob) (v1 : Int64) (v3 : Int32) (v4 : Int64) (v6 : Int32) : Option (Int64) :=
  loopW (fun a : Int64 × Int32 => Ph_mixedWithPlace_L54b ma ph v1 v3 a.1 a.2) (v4, v6)
noncomputable def Ph_mixedWithPlace_L6b (ma : Ob) (ph : Ob) (v1 : Int64) (v3 : Int32) (v4 : Int64) (v6 : Int32) : (Int64 × Int32) ⊕ (Option (Int64)) :=
  (if (7 : Int32) < v6 then (Sum.inr (if (Ph_has (ma.2.1 1) v3) = true then (Ph_mixedWithPlace_L54 ma ph v1 v3 v4 0) else (some v4))) else (obn (Sum.inr none) (Ph_ofPlace ma ph v3 v6) (fun r19 => (Sum.inl ((Ph_mixed v4 r19.toInt64), (v6 + 1))))))
noncomputable def Ph_mixedWithPlace_L6 (ma : Ob) (ph : Ob) (v1 : Int64) (v3 : Int32) (v4 : Int64) (v6 : Int32) : Option (Int64) :=
  loopW (fun a : Int64 × Int32 => Ph_mixedWithPlace_L6b ma ph v1 v3 a.1 a.2) (v4, v6)
noncomputable def Ph_mixedWithPlace (ma : Ob) (ph : Ob) (v1 : Int64) (v3 : Int32) : Option (Int64) :=
  (Ph_mixedWithPlace_L6 ma ph v1 v3 v1 0)
noncomputable def Ph_number (ma : Ob) (ph : Ob) (v1 : Int32) (v2 : Int32) : Option (Int32) :=
  (if (Ph_isArgument ma ph v1 v2) = true then (some (Form_numberOf ma v1 v2)) else none)
noncomputable def Ph_mixedWithValue_L36b (ma : Ob) (ph : Ob) (v1 : Int64) (v3 : Int32) (v4 : Int64) (v6 : Int32) : (Int64 × Int32) ⊕ (Option (Int64)) :=
  (if v6 < (oat ma 3 150 v3) then (obn (Sum.inr none) (Ph_argument ma ph v3 v6) (fun r58 => (obn (Sum.inr none) (Ph_number ma ph v3 v6) (fun r73 => (Sum.inl ((Ph_mixed (Ph_mixed v4 r58.toInt64) r73.toInt64), (v6 + 1))))))) else (Sum.inr (some v4)))
noncomputable def Ph_mixedWithValue_L36 (ma : Ob) (ph : Ob) (v1 : Int64) (v3 : Int32) (v4 : Int64) (v6 : Int32) : Option (Int64) :=
  loopW (fun a : Int64 × Int32 => Ph_mixedWithValue_L36b ma ph v1 v3 a.1 a.2) (v4, v6)
noncomputable def Ph_mixedWithValue_L6b (ma : Ob) (ph : Ob) (v1 : Int64) (v3 : Int32) (v4 : Int64) (v6 : Int32) : (Int64 × Int32) ⊕ (Option (Int64)) :=
  (if (4 : Int32) < v6 then (Sum.inr (Ph_mixedWithValue_L36 ma ph v1 v3 v4 0)) else (obn (Sum.inr none) (Ph_ofValue ma ph v3 v6) (fun r18 => (Sum.inl ((Ph_mixed v4 r18.toInt64), (v6 + 1))))))
noncomputable def Ph_mixedWithValue_L6 (ma : Ob) (ph : Ob) (v1 : Int64) (v3 : Int32) (v4 : Int64) (v6 : Int32) : Option (Int64) :=
  loopW (fun a : Int64 × Int32 => Ph_mixedWithValue_L6b ma ph v1 v3 a.1 a.2) (v4, v6)
noncomputable def Ph_mixedWithValue (ma : Ob) (ph : Ob) (v1 : Int64) (v3 : Int32) : Option (Int64) :=
  (Ph_mixedWithValue_L6 ma ph v1 v3 v1 0)
noncomputable def Ph_digest_149 (to : Ob) (fl : Ob) (ma : Ob) (tr : Ob) (cn : Ob) (nu : Ob) (de : Ob) (ru : Ob) (la : Ob) (tf : Ob) (ph : Ob) (v1 : Int64) (w0 : Int32) (w1 : Int64) : Option (Int64 × Ob × Ob × Ob × Ob × Ob × Ob) :=
  (some ((Ph_mixed w1 w0.toInt64), tr, cn, nu, de, ru, tf))
noncomputable def Ph_digest_135 (to : Ob) (fl : Ob) (ma : Ob) (tr : Ob) (cn : Ob) (nu : Ob) (de : Ob) (ru : Ob) (la : Ob) (tf : Ob) (ph : Ob) (v1 : Int64) (w0 : Int32) (w1 : Int64) : Option (Int64 × Ob × Ob × Ob × Ob × Ob × Ob) :=
  (obn none (Ph_wouldCost ma tr cn nu de ru tf ph 2 3 (-2)) (fun r146 => (Ph_digest_149 to fl ma r146.2.1 r146.2.2.1 r146.2.2.2.1 r146.2.2.2.2.1 r146.2.2.2.2.2.1 la r146.2.2.2.2.2.2 ph (Ph_mixed w1 w0.toInt64) r146.1 (Ph_mixed w1 w0.toInt64))))
noncomputable def Ph_digest_115 (to : Ob) (fl : Ob) (ma : Ob) (tr : Ob) (cn : Ob) (nu : Ob) (de : Ob) (ru : Ob) (la : Ob) (tf : Ob) (ph : Ob) (v1 : Int64) (v3 : Int32) (w0 : Int32) (w1 : Int64) : (Int64 × Int32 × Ob × Ob × Ob × Ob) ⊕ (Option (Int64 × Ob × Ob × Ob × Ob × Ob × Ob)) :=
  (Sum.inl ((Ph_mixed w1 w0.toInt64), (v3 + 1), tr, cn, nu, de))
noncomputable def Ph_digest_L104b (to : Ob) (fl : Ob) (ma : Ob) (tr : Ob) (cn : Ob) (nu : Ob) (de : Ob) (ru : Ob) (la : Ob) (tf : Ob) (ph : Ob) (v1 : Int64) (v3 : Int32) : (Int64 × Int32 × Ob × Ob × Ob × Ob) ⊕ (Option (Int64 × Ob × Ob × Ob × Ob × Ob × Ob)) :=
  (if (4 : Int32) < v3 then (Sum.inr (obn none (Ph_wouldCost ma tr cn nu de ru tf ph 0 3 (-2)) (fun r132 => (Ph_digest_135 to fl ma r132.2.1 r132.2.2.1 r132.2.2.2.1 r132.2.2.2.2.1 r132.2.2.2.2.2.1 la r132.2.2.2.2.2.2 ph v1 r132.1 v1)))) else (obn (Sum.inr none) (Ph_wouldGo ma tr cn nu de ph v3) (fun r112 => (Ph_digest_115 to fl ma r112.2.1 r112.2.2.1 r112.2.2.2.1 r112.2.2.2.2 ru la tf ph v1 v3 r112.1 v1))))
noncomputable def Ph_digest_L104 (to : Ob) (fl : Ob) (ma : Ob) (tr : Ob) (cn : Ob) (nu : Ob) (de : Ob) (ru : Ob) (la : Ob) (tf : Ob) (ph : Ob) (v1 : Int64) (v3 : Int32) : Option (Int64 × Ob × Ob × Ob × Ob × Ob × Ob) :=
  loopW (fun a : Int64 × Int32 × Ob × Ob × Ob × Ob => Ph_digest_L104b to fl ma a.2.2.1 a.2.2.2.1 a.2.2.2.2.1 a.2.2.2.2.2 ru la tf ph a.1 a.2.1) (v1, v3, tr, cn, nu, de)
noncomputable def Ph_digest_L78b (to : Ob) (fl : Ob) (ma : Ob) (tr : Ob) (cn : Ob) (nu : Ob) (de : Ob) (ru : Ob) (la : Ob) (tf : Ob) (ph : Ob) (v1 : Int64) (v3 : Int32) : (Int64 × Int32) ⊕ (Option (Int64 × Ob × Ob × Ob × Ob × Ob × Ob)) :=
  (if v3 < (ma.2.1 2) then (obn (Sum.inr none) (Ph_mixedWithValue ma ph v1 v3) (fun r92 => (Sum.inl (r92, (v3 + 1))))) else (Sum.inr (Ph_digest_L104 to fl ma tr cn nu de ru la tf ph v1 1)))
noncomputable def Ph_digest_L78 (to : Ob) (fl : Ob) (ma : Ob) (tr : Ob) (cn : Ob) (nu : Ob) (de : Ob) (ru : Ob) (la : Ob) (tf : Ob) (ph : Ob) (v1 : Int64) (v3 : Int32) : Option (Int64 × Ob × Ob × Ob × Ob × Ob × Ob) :=
  loopW (fun a : Int64 × Int32 => Ph_digest_L78b to fl ma tr cn nu de ru la tf ph a.1 a.2) (v1, v3)
noncomputable def Ph_digest_L52b (to : Ob) (fl : Ob) (ma : Ob) (tr : Ob) (cn : Ob) (nu : Ob) (de : Ob) (ru : Ob) (la : Ob) (tf : Ob) (ph : Ob) (v1 : Int64) (v3 : Int32) : (Int64 × Int32) ⊕ (Option (Int64 × Ob × Ob × Ob × Ob × Ob × Ob)) :=
  (if v3 < (ma.2.1 0) then (obn (Sum.inr none) (Ph_mixedWithPlace ma ph v1 v3) (fun r66 => (Sum.inl (r66, (v3 + 1))))) else (Sum.inr (Ph_digest_L78 to fl ma tr cn nu de ru la tf ph v1 0)))
noncomputable def Ph_digest_L52 (to : Ob) (fl : Ob) (ma : Ob) (tr : Ob) (cn : Ob) (nu : Ob) (de : Ob) (ru : Ob) (la : Ob) (tf : Ob) (ph : Ob) (v1 : Int64) (v3 : Int32) : Option (Int64 × Ob × Ob × Ob × Ob × Ob × Ob) :=
  loopW (fun a : Int64 × Int32 => Ph_digest_L52b to fl ma tr cn nu de ru la tf ph a.1 a.2) (v1, v3)
noncomputable def Ph_digest_L6b (to : Ob) (fl : Ob) (ma : Ob) (tr : Ob) (cn : Ob) (nu : Ob) (de : Ob) (ru : Ob) (la : Ob) (tf : Ob) (ph : Ob) (v1 : Int64) (v3 : Int32) : (Int64 × Int32) ⊕ (Option (Int64 × Ob × Ob × Ob × Ob × Ob × Ob)) :=
  (if (10 : Int32) < v3 then (Sum.inr (obn none (Ph_mixedWithBlocks to fl v1) (fun r31 => (obn none (Ph_mixedWithRun la ph r31) (fun r37 => (if (ph.2.2 0) = true then (Ph_digest_L52 to fl ma tr cn nu de ru la tf ph r37 0) else (some (r37, tr, cn, nu, de, ru, tf)))))))) else (obn (Sum.inr none) (Ph_many to fl ma ph v3) (fun r15 => (Sum.inl ((Ph_mixed v1 r15.toInt64), (v3 + 1))))))
noncomputable def Ph_digest_L6 (to : Ob) (fl : Ob) (ma : Ob) (tr : Ob) (cn : Ob) (nu : Ob) (de : Ob) (ru : Ob) (la : Ob) (tf : Ob) (ph : Ob) (v1 : Int64) (v3 : Int32) : Option (Int64 × Ob × Ob × Ob × Ob × Ob × Ob) :=
  loopW (fun a : Int64 × Int32 => Ph_digest_L6b to fl ma tr cn nu de ru la tf ph a.1 a.2) (v1, v3)
noncomputable def Ph_digest (to : Ob) (fl : Ob) (ma : Ob) (tr : Ob) (cn : Ob) (nu : Ob) (de : Ob) (ru : Ob) (la : Ob) (tf : Ob) (ph : Ob) : Option (Int64 × Ob × Ob × Ob × Ob × Ob × Ob) :=
  (Ph_digest_L6 to fl ma tr cn nu de ru la tf ph (7605 : Int64) 0)
noncomputable def Law_below_20 (v0 : Int32) : Int32 :=
  ((v0 &&& 2147483647) - (v0 &&& 2147483647) / 20 * 20)
noncomputable def Law_below_9 (v0 : Int32) : Int32 :=
  ((v0 &&& 2147483647) - (v0 &&& 2147483647) / 9 * 9)
noncomputable def Law_isCut_23 (to : Ob) (ru : Ob) (la : Ob) (ph : Ob) (cs : Int64) (w0 : Int32) : Bool × Ob × Ob × Ob × Int64 :=
  (if w0 = 2 then (true, ru, la, ph, cs) else (false, ru, la, ph, cs))
noncomputable def Law_isCut (to : Ob) (ru : Ob) (la : Ob) (ph : Ob) (cs : Int64) (v1 : Int32) : Bool × Ob × Ob × Ob × Int64 :=
  (Law_isCut_23 to (Ph_run to ru la ph cs ((Law_below_20 (v1 >>> (3 &&& 31))) - 5) (Law_below_9 (v1 >>> (6 &&& 31)))).2.1 (Ph_run to ru la ph cs ((Law_below_20 (v1 >>> (3 &&& 31))) - 5) (Law_below_9 (v1 >>> (6 &&& 31)))).2.2.1 (Ph_run to ru la ph cs ((Law_below_20 (v1 >>> (3 &&& 31))) - 5) (Law_below_9 (v1 >>> (6 &&& 31)))).2.2.2.1 ((Ph_run to ru la ph cs ((Law_below_20 (v1 >>> (3 &&& 31))) - 5) (Law_below_9 (v1 >>> (6 &&& 31)))).2.2.2.2) ((Ph_run to ru la ph cs ((Law_below_20 (v1 >>> (3 &&& 31))) - 5) (Law_below_9 (v1 >>> (6 &&& 31)))).1))
noncomputable def J_min (v0 : Int32) (v1 : Int32) : Int32 :=
  (if v1 < v0 then v1 else v0)
noncomputable def Law_isRunRight_184 (to : Ob) (ma : Ob) (tr : Ob) (cn : Ob) (nu : Ob) (de : Ob) (ru : Ob) (la : Ob) (tb : Ob) (tf : Ob) (ph : Ob) (cs : Int64) : Option (Bool × Ob × Ob × Ob × Ob × Ob × Ob × Ob × Ob × Ob × Int64) :=
  (some (false, tr, cn, nu, de, ru, la, tb, tf, ph, cs))
noncomputable def Law_isRunRight_260 (to : Ob) (ma : Ob) (tr : Ob) (cn : Ob) (nu : Ob) (de : Ob) (ru : Ob) (la : Ob) (tb : Ob) (tf : Ob) (ph : Ob) (cs : Int64) : Option (Bool × Ob × Ob × Ob × Ob × Ob × Ob × Ob × Ob × Ob × Int64) :=
  (some (false, tr, cn, nu, de, ru, la, tb, tf, ph, cs))
noncomputable def Law_isRunRight_368 (to : Ob) (ma : Ob) (tr : Ob) (cn : Ob) (nu : Ob) (de : Ob) (ru : Ob) (la : Ob) (tb : Ob) (tf : Ob) (ph : Ob) (cs : Int64) : Option (Bool × Ob × Ob × Ob × Ob × Ob × Ob × Ob × Ob × Ob × Int64) :=
  (some (false, tr, cn, nu, de, ru, la, tb, tf, ph, cs))
noncomputable def Law_isRunRight_361 (to : Ob) (ma : Ob) (tr : Ob) (cn : Ob) (nu : Ob) (de : Ob) (ru : Ob) (la : Ob) (tb : Ob) (tf : Ob) (ph : Ob) (cs : Int64) (w0 : Int32) (w1 : Int32) : Option (Bool × Ob × Ob × Ob × Ob × Ob × Ob × Ob × Ob × Ob × Int64) :=
  (if w1 = w0 then (some (true, tr, cn, nu, de, ru, la, tb, tf, ph, cs)) else (Law_isRunRight_368 to ma tr cn nu de ru la tb tf ph cs))
noncomputable def Law_isRunRight_L303b (to : Ob) (ma : Ob) (tr : Ob) (cn : Ob) (nu : Ob) (de : Ob) (ru : Ob) (la : Ob) (tb : Ob) (tf : Ob) (ph : Ob) (cs : Int64) (v2 : Int32) (v3 : Int32) (v4 : Int32) (v9 : Int32) (v10 : Int32) (v11 : Int32) : (Int32 × Int32) ⊕ (Option (Bool × Ob × Ob × Ob × Ob × Ob × Ob × Ob × Ob × Ob × Int64)) :=
  (if v11 < 8 then (obn (Sum.inr none) (Ph_cell la v11) (fun r318 => (Sum.inl (((v10 * 31) + r318), (v11 + 1))))) else (Sum.inr (if v10 = v9 then (obn none (Ph_ofRun la ph 5) (fun r339 => (if r339 = (v4 + 2) then (obn none (Ph_ofRun la ph 3) (fun r351 => (obn none (Ph_wouldCost ma tr cn nu de ru tf ph 0 v2 v3) (fun r358 => (Law_isRunRight_361 to ma r358.2.1 r358.2.2.1 r358.2.2.2.1 r358.2.2.2.2.1 r358.2.2.2.2.2.1 la tb r358.2.2.2.2.2.2 ph cs r358.1 r351))))) else (Law_isRunRight_368 to ma tr cn nu de ru la tb tf ph cs)))) else (Law_isRunRight_368 to ma tr cn nu de ru la tb tf ph cs))))
noncomputable def Law_isRunRight_L303 (to : Ob) (ma : Ob) (tr : Ob) (cn : Ob) (nu : Ob) (de : Ob) (ru : Ob) (la : Ob) (tb : Ob) (tf : Ob) (ph : Ob) (cs : Int64) (v2 : Int32) (v3 : Int32) (v4 : Int32) (v9 : Int32) (v10 : Int32) (v11 : Int32) : Option (Bool × Ob × Ob × Ob × Ob × Ob × Ob × Ob × Ob × Ob × Int64) :=
  loopW (fun a : Int32 × Int32 => Law_isRunRight_L303b to ma tr cn nu de ru la tb tf ph cs v2 v3 v4 v9 a.1 a.2) (v10, v11)
noncomputable def Law_isRunRight_L268b (to : Ob) (ma : Ob) (tr : Ob) (cn : Ob) (nu : Ob) (de : Ob) (ru : Ob) (la : Ob) (tb : Ob) (tf : Ob) (ph : Ob) (cs : Int64) (v2 : Int32) (v3 : Int32) (v4 : Int32) (v7 : Int32) (v9 : Int32) (v10 : Int32) (v11 : Int32) : (Int32 × Int32) ⊕ (Option (Bool × Ob × Ob × Ob × Ob × Ob × Ob × Ob × Ob × Ob × Int64)) :=
  (if v11 < (J_min 60 v7) then (obn (Sum.inr none) (Ph_printed la v11) (fun r288 => (Sum.inl (((v10 * 31) + r288), (v11 + 1))))) else (Sum.inr (Law_isRunRight_L303 to ma tr cn nu de ru la tb tf ph cs v2 v3 v4 v9 v10 0)))
noncomputable def Law_isRunRight_L268 (to : Ob) (ma : Ob) (tr : Ob) (cn : Ob) (nu : Ob) (de : Ob) (ru : Ob) (la : Ob) (tb : Ob) (tf : Ob) (ph : Ob) (cs : Int64) (v2 : Int32) (v3 : Int32) (v4 : Int32) (v7 : Int32) (v9 : Int32) (v10 : Int32) (v11 : Int32) : Option (Bool × Ob × Ob × Ob × Ob × Ob × Ob × Ob × Ob × Ob × Int64) :=
  loopW (fun a : Int32 × Int32 => Law_isRunRight_L268b to ma tr cn nu de ru la tb tf ph cs v2 v3 v4 v7 v9 a.1 a.2) (v10, v11)
noncomputable def Law_isRunRight_225 (to : Ob) (ma : Ob) (tr : Ob) (cn : Ob) (nu : Ob) (de : Ob) (ru : Ob) (la : Ob) (tb : Ob) (tf : Ob) (ph : Ob) (cs : Int64) (v2 : Int32) (v3 : Int32) (v4 : Int32) (v5 : Int32) (v6 : Int32) (v7 : Int32) (v8 : Int32) (v9 : Int32) (w0 : Int32) : Option (Bool × Ob × Ob × Ob × Ob × Ob × Ob × Ob × Ob × Ob × Int64) :=
  (if w0 = v5 then (obn none (Ph_ofRun la ph 1) (fun r232 => (if r232 = v6 then (obn none (Ph_ofRun la ph 2) (fun r242 => (if r242 = v7 then (obn none (Ph_ofRun la ph 3) (fun r252 => (if v8 < r252 then (Law_isRunRight_260 to ma tr cn nu de ru la tb tf ph cs) else (Law_isRunRight_L268 to ma tr cn nu de ru la tb tf ph cs v2 v3 v4 v7 v9 0 0)))) else (Law_isRunRight_260 to ma tr cn nu de ru la tb tf ph cs)))) else (Law_isRunRight_260 to ma tr cn nu de ru la tb tf ph cs)))) else (Law_isRunRight_260 to ma tr cn nu de ru la tb tf ph cs))
noncomputable def Law_isRunRight_216 (to : Ob) (ma : Ob) (tr : Ob) (cn : Ob) (nu : Ob) (de : Ob) (ru : Ob) (la : Ob) (tb : Ob) (tf : Ob) (ph : Ob) (cs : Int64) (v2 : Int32) (v3 : Int32) (v4 : Int32) (v5 : Int32) (v6 : Int32) (v7 : Int32) (v8 : Int32) (v9 : Int32) (w0 : Bool) : Option (Bool × Ob × Ob × Ob × Ob × Ob × Ob × Ob × Ob × Ob × Int64) :=
  (if w0 = true then (obn none (Ph_runForm ma ru la ph cs v2 v3) (fun r222 => (Law_isRunRight_225 to ma tr cn nu de r222.2.1 r222.2.2.1 tb tf r222.2.2.2.1 r222.2.2.2.2 v2 v3 v4 v5 v6 v7 v8 v9 r222.1))) else (Law_isRunRight_260 to ma tr cn nu de ru la tb tf ph cs))
noncomputable def Law_isRunRight_186 (to : Ob) (ma : Ob) (tr : Ob) (cn : Ob) (nu : Ob) (de : Ob) (ru : Ob) (la : Ob) (tb : Ob) (tf : Ob) (ph : Ob) (cs : Int64) (v2 : Int32) (v3 : Int32) (v4 : Int32) (v5 : Int32) (v6 : Int32) (v7 : Int32) (v8 : Int32) (v9 : Int32) : Option (Bool × Ob × Ob × Ob × Ob × Ob × Ob × Ob × Ob × Ob × Int64) :=
  (if v5 = 2 then (obn none (Ph_ofRun la ph 5) (fun r194 => (if r194 = (v4 + 1) then (some (true, tr, cn, nu, de, ru, la, tb, tf, ph, cs)) else (some (false, tr, cn, nu, de, ru, la, tb, tf, ph, cs))))) else (obn none (Ph_isAlike to ma ru tb tf ph v2 v3) (fun r213 => (Law_isRunRight_216 to ma tr cn nu de r213.2.1 la r213.2.2.1 r213.2.2.2 ph cs v2 v3 v4 v5 v6 v7 v8 v9 r213.1))))
noncomputable def Law_isRunRight_146 (to : Ob) (ma : Ob) (tr : Ob) (cn : Ob) (nu : Ob) (de : Ob) (ru : Ob) (la : Ob) (tb : Ob) (tf : Ob) (ph : Ob) (cs : Int64) (v2 : Int32) (v3 : Int32) (v4 : Int32) (v5 : Int32) (v6 : Int32) (v7 : Int32) (v8 : Int32) (v9 : Int32) : Option (Bool × Ob × Ob × Ob × Ob × Ob × Ob × Ob × Ob × Ob × Int64) :=
  (obn none (Ph_ofRun la ph 0) (fun r148 => (if r148 = v5 then (obn none (Ph_ofRun la ph 4) (fun r158 => (if (300 : Int32) < r158 then (Law_isRunRight_184 to ma tr cn nu de ru la tb tf ph cs) else (if v5 = 2 then (obn none (Ph_ofRun la ph 4) (fun r175 => (if r175 = 300 then (Law_isRunRight_186 to ma tr cn nu de ru la tb tf ph cs v2 v3 v4 v5 v6 v7 v8 v9) else (Law_isRunRight_184 to ma tr cn nu de ru la tb tf ph cs)))) else (Law_isRunRight_186 to ma tr cn nu de ru la tb tf ph cs v2 v3 v4 v5 v6 v7 v8 v9))))) else (Law_isRunRight_184 to ma tr cn nu de ru la tb tf ph cs))))
noncomputable def Law_isRunRight_L98b (to : Ob) (ma : Ob) (tr : Ob) (cn : Ob) (nu : Ob) (de : Ob) (ru : Ob) (la : Ob) (tb : Ob) (tf : Ob) (ph : Ob) (cs : Int64) (v2 : Int32) (v3 : Int32) (v4 : Int32) (v5 : Int32) (v6 : Int32) (v7 : Int32) (v8 : Int32) (v9 : Int32) (v10 : Int32) : (Int32 × Int32) ⊕ (Option (Bool × Ob × Ob × Ob × Ob × Ob × Ob × Ob × Ob × Ob × Int64)) :=
  (if v10 < 8 then (obn (Sum.inr none) (Ph_cell la v10) (fun r113 => (Sum.inl (((v9 * 31) + r113), (v10 + 1))))) else (Sum.inr (if v5 < 0 then (Law_isRunRight_184 to ma tr cn nu de ru la tb tf ph cs) else (if (2 : Int32) < v5 then (Law_isRunRight_184 to ma tr cn nu de ru la tb tf ph cs) else (if v5 = 0 then (Law_isRunRight_146 to ma tr cn nu de ru la tb tf ph cs v2 v3 v4 v5 v6 v7 v8 v9) else (if v6 = 0 then (Law_isRunRight_146 to ma tr cn nu de ru la tb tf ph cs v2 v3 v4 v5 v6 v7 v8 v9) else (Law_isRunRight_184 to ma tr cn nu de ru la tb tf ph cs)))))))
noncomputable def Law_isRunRight_L98 (to : Ob) (ma : Ob) (tr : Ob) (cn : Ob) (nu : Ob) (de : Ob) (ru : Ob) (la : Ob) (tb : Ob) (tf : Ob) (ph : Ob) (cs : Int64) (v2 : Int32) (v3 : Int32) (v4 : Int32) (v5 : Int32) (v6 : Int32) (v7 : Int32) (v8 : Int32) (v9 : Int32) (v10 : Int32) : Option (Bool × Ob × Ob × Ob × Ob × Ob × Ob × Ob × Ob × Ob × Int64) :=
  loopW (fun a : Int32 × Int32 => Law_isRunRight_L98b to ma tr cn nu de ru la tb tf ph cs v2 v3 v4 v5 v6 v7 v8 a.1 a.2) (v9, v10)
noncomputable def Law_isRunRight_L63b (to : Ob) (ma : Ob) (tr : Ob) (cn : Ob) (nu : Ob) (de : Ob) (ru : Ob) (la : Ob) (tb : Ob) (tf : Ob) (ph : Ob) (cs : Int64) (v2 : Int32) (v3 : Int32) (v4 : Int32) (v5 : Int32) (v6 : Int32) (v7 : Int32) (v8 : Int32) (v9 : Int32) (v10 : Int32) : (Int32 × Int32) ⊕ (Option (Bool × Ob × Ob × Ob × Ob × Ob × Ob × Ob × Ob × Ob × Int64)) :=
  (if v10 < (J_min 60 v7) then (obn (Sum.inr none) (Ph_printed la v10) (fun r83 => (Sum.inl (((v9 * 31) + r83), (v10 + 1))))) else (Sum.inr (Law_isRunRight_L98 to ma tr cn nu de ru la tb tf ph cs v2 v3 v4 v5 v6 v7 v8 v9 0)))
noncomputable def Law_isRunRight_L63 (to : Ob) (ma : Ob) (tr : Ob) (cn : Ob) (nu : Ob) (de : Ob) (ru : Ob) (la : Ob) (tb : Ob) (tf : Ob) (ph : Ob) (cs : Int64) (v2 : Int32) (v3 : Int32) (v4 : Int32) (v5 : Int32) (v6 : Int32) (v7 : Int32) (v8 : Int32) (v9 : Int32) (v10 : Int32) : Option (Bool × Ob × Ob × Ob × Ob × Ob × Ob × Ob × Ob × Ob × Int64) :=
  loopW (fun a : Int32 × Int32 => Law_isRunRight_L63b to ma tr cn nu de ru la tb tf ph cs v2 v3 v4 v5 v6 v7 v8 a.1 a.2) (v9, v10)
noncomputable def Law_isRunRight_34 (to : Ob) (ma : Ob) (tr : Ob) (cn : Ob) (nu : Ob) (de : Ob) (ru : Ob) (la : Ob) (tb : Ob) (tf : Ob) (ph : Ob) (cs : Int64) (v2 : Int32) (v3 : Int32) (v4 : Int32) (w0 : Int32) : Option (Bool × Ob × Ob × Ob × Ob × Ob × Ob × Ob × Ob × Ob × Int64) :=
  (obn none (Ph_ofRun la ph 1) (fun r38 => (obn none (Ph_ofRun la ph 2) (fun r45 => (obn none (Ph_ofRun la ph 3) (fun r52 => (Law_isRunRight_L63 to ma tr cn nu de ru la tb tf ph cs v2 v3 v4 w0 r38 r45 r52 0 0)))))))
noncomputable def Law_isRunRight (to : Ob) (ma : Ob) (tr : Ob) (cn : Ob) (nu : Ob) (de : Ob) (ru : Ob) (la : Ob) (tb : Ob) (tf : Ob) (ph : Ob) (cs : Int64) (v1 : Int32) : Option (Bool × Ob × Ob × Ob × Ob × Ob × Ob × Ob × Ob × Ob × Int64) :=
  (obn none (Ph_ofRun la ph 5) (fun r23 => (Law_isRunRight_34 to ma tr cn nu de (Ph_run to ru la ph cs ((Law_below_20 (v1 >>> (3 &&& 31))) - 5) (Law_below_9 (v1 >>> (6 &&& 31)))).2.1 (Ph_run to ru la ph cs ((Law_below_20 (v1 >>> (3 &&& 31))) - 5) (Law_below_9 (v1 >>> (6 &&& 31)))).2.2.1 tb tf (Ph_run to ru la ph cs ((Law_below_20 (v1 >>> (3 &&& 31))) - 5) (Law_below_9 (v1 >>> (6 &&& 31)))).2.2.2.1 ((Ph_run to ru la ph cs ((Law_below_20 (v1 >>> (3 &&& 31))) - 5) (Law_below_9 (v1 >>> (6 &&& 31)))).2.2.2.2) ((Law_below_20 (v1 >>> (3 &&& 31))) - 5) (Law_below_9 (v1 >>> (6 &&& 31))) r23 ((Ph_run to ru la ph cs ((Law_below_20 (v1 >>> (3 &&& 31))) - 5) (Law_below_9 (v1 >>> (6 &&& 31)))).1))))
noncomputable def Law_reachedSet_L4b (to : Ob) (fl : Ob) (v1 : Int32) (v2 : Int32) (v3 : Int32) : (Int32 × Int32) ⊕ (Option (Int32)) :=
  (if v3 < v1 then (obn (Sum.inr none) (Ph_ofBlock to fl v3 2) (fun r13 => (Sum.inl ((v2 ||| (r13 <<< (v3 &&& 31))), (v3 + 1))))) else (Sum.inr (some v2)))
noncomputable def Law_reachedSet_L4 (to : Ob) (fl : Ob) (v1 : Int32) (v2 : Int32) (v3 : Int32) : Option (Int32) :=
  loopW (fun a : Int32 × Int32 => Law_reachedSet_L4b to fl v1 a.1 a.2) (v2, v3)
noncomputable def Law_reachedSet (to : Ob) (fl : Ob) (v1 : Int32) : Option (Int32) :=
  (Law_reachedSet_L4 to fl v1 0 0)
noncomputable def Law_areBlocksRight_141 (to : Ob) (fl : Ob) (ma : Ob) (ph : Ob) (v1 : Int32) (v2 : Int32) (v3 : Int32) (v4 : Int32) (v5 : Int32) : (Int32) ⊕ ((Int32 × Int32) ⊕ (Option (Bool))) :=
  (Sum.inl (v5 + 1))
noncomputable def Law_areBlocksRight_139 (to : Ob) (fl : Ob) (ma : Ob) (ph : Ob) : Option (Bool) :=
  (some false)
noncomputable def Law_areBlocksRight_107 (to : Ob) (fl : Ob) (ma : Ob) (ph : Ob) (v1 : Int32) (v2 : Int32) (v3 : Int32) (v4 : Int32) (v5 : Int32) : (Int32) ⊕ ((Int32 × Int32) ⊕ (Option (Bool))) :=
  (if v5 = v3 then (Law_areBlocksRight_141 to fl ma ph v1 v2 v3 v4 v5) else (if ((v4 >>> (v5 &&& 31)) &&& 1) = 1 then (obn (Sum.inr (Sum.inr none)) (Ph_ofBlock to fl v5 3) (fun r128 => (if ((r128 >>> (v3 &&& 31)) &&& 1) = 1 then (Sum.inr (Sum.inr (Law_areBlocksRight_139 to fl ma ph))) else (Law_areBlocksRight_141 to fl ma ph v1 v2 v3 v4 v5)))) else (Law_areBlocksRight_141 to fl ma ph v1 v2 v3 v4 v5)))
noncomputable def Law_areBlocksRight_177 (to : Ob) (fl : Ob) (ma : Ob) (ph : Ob) : Option (Bool) :=
  (some false)
noncomputable def Law_areBlocksRight_L75b (to : Ob) (fl : Ob) (ma : Ob) (ph : Ob) (v1 : Int32) (v2 : Int32) (v3 : Int32) (v4 : Int32) (v5 : Int32) : (Int32) ⊕ ((Int32 × Int32) ⊕ (Option (Bool))) :=
  (if v5 < v1 then (if ((v4 >>> (v5 &&& 31)) &&& 1) = 1 then (obn (Sum.inr (Sum.inr none)) (Ph_ofBlock to fl v5 3) (fun r96 => (if (r96 &&& (v4 ^^^ (-1))) = 0 then (Law_areBlocksRight_107 to fl ma ph v1 v2 v3 v4 v5) else (Sum.inr (Sum.inr (Law_areBlocksRight_139 to fl ma ph)))))) else (Law_areBlocksRight_107 to fl ma ph v1 v2 v3 v4 v5)) else (Sum.inr (obn (Sum.inr none) (Ph_ofBlock to fl v3 4) (fun r150 => (if ((r150 &&& v4) &&& (((1 : Int32) <<< (v3 &&& 31)) ^^^ (-1))) = 0 then (obn (Sum.inr none) (Ph_ofBlock to fl v3 4) (fun r168 => (if (r168 &&& 1) = 1 then (Sum.inr (Law_areBlocksRight_177 to fl ma ph)) else (Sum.inl (v2, (v3 + 1)))))) else (Sum.inr (Law_areBlocksRight_177 to fl ma ph)))))))
noncomputable def Law_areBlocksRight_L75 (to : Ob) (fl : Ob) (ma : Ob) (ph : Ob) (v1 : Int32) (v2 : Int32) (v3 : Int32) (v4 : Int32) (v5 : Int32) : (Int32 × Int32) ⊕ (Option (Bool)) :=
  loopW (fun a : Int32 => Law_areBlocksRight_L75b to fl ma ph v1 v2 v3 v4 a) v5
noncomputable def Law_areBlocksRight_72 (to : Ob) (fl : Ob) (ma : Ob) (ph : Ob) (v1 : Int32) (v2 : Int32) (v3 : Int32) (v4 : Int32) : (Int32 × Int32) ⊕ (Option (Bool)) :=
  (Law_areBlocksRight_L75 to fl ma ph v1 v2 v3 v4 0)
noncomputable def Law_areBlocksRight_70 (to : Ob) (fl : Ob) (ma : Ob) (ph : Ob) : Option (Bool) :=
  (some false)
noncomputable def Law_areBlocksRight_212 (to : Ob) (fl : Ob) (ma : Ob) (ph : Ob) : Option (Bool) :=
  (some false)
noncomputable def Law_areBlocksRight_L4b (to : Ob) (fl : Ob) (ma : Ob) (ph : Ob) (v1 : Int32) (v2 : Int32) (v3 : Int32) : (Int32 × Int32) ⊕ (Option (Bool)) :=
  (if v3 < v1 then (obn (Sum.inr none) (Ph_ofBlock to fl v3 2) (fun r13 => (obn (Sum.inr none) (Ph_ofBlock to fl v3 3) (fun r21 => (obn (Sum.inr none) (Ph_ofBlock to fl v3 2) (fun r29 => (if r29 = 0 then (if r21 = 0 then (obn (Sum.inr none) (Ph_ofBlock to fl v3 4) (fun r43 => (if r43 = 0 then (obn (Sum.inr none) (Ph_ofBlock to fl v3 5) (fun r52 => (if r52 = 0 then (Law_areBlocksRight_72 to fl ma ph v1 (v2 + r13) v3 r21) else (Sum.inr (Law_areBlocksRight_70 to fl ma ph))))) else (Sum.inr (Law_areBlocksRight_70 to fl ma ph))))) else (Sum.inr (Law_areBlocksRight_70 to fl ma ph))) else (if ((r21 >>> (v3 &&& 31)) &&& 1) = 0 then (Sum.inr (Law_areBlocksRight_70 to fl ma ph)) else (Law_areBlocksRight_72 to fl ma ph v1 (v2 + r13) v3 r21))))))))) else (Sum.inr (obn none (Ph_many to fl ma ph 1) (fun r187 => (if r187 = v2 then (obn none (Ph_ofBlock to fl 0 3) (fun r197 => (obn none (Law_reachedSet to fl v1) (fun r202 => (if r197 = r202 then (some true) else (Law_areBlocksRight_212 to fl ma ph)))))) else (Law_areBlocksRight_212 to fl ma ph))))))
noncomputable def Law_areBlocksRight_L4 (to : Ob) (fl : Ob) (ma : Ob) (ph : Ob) (v1 : Int32) (v2 : Int32) (v3 : Int32) : Option (Bool) :=
  loopW (fun a : Int32 × Int32 => Law_areBlocksRight_L4b to fl ma ph v1 a.1 a.2) (v2, v3)
noncomputable def Law_areBlocksRight (to : Ob) (fl : Ob) (ma : Ob) (ph : Ob) (v1 : Int32) : Option (Bool) :=
  (Law_areBlocksRight_L4 to fl ma ph v1 0 0)
noncomputable def Law_isFormRight_102 (to : Ob) (fl : Ob) (ma : Ob) (tr : Ob) (cn : Ob) (nu : Ob) (de : Ob) (ru : Ob) (la : Ob) (tf : Ob) (ph : Ob) (v1 : Int32) (v2 : Int64) (v4 : Int32) (v5 : Int32) (v6 : Int32) (v8 : Int32) (v9 : Int32) (w0 : Int32) (w1 : Int32) : (Int32 × Int32) ⊕ ((Int32 × Int32 × Int32 × Int32 × Int32) ⊕ (Option (Bool × Ob × Ob × Ob × Ob × Ob × Ob))) :=
  (Sum.inl ((w1 + w0), (v9 + 1)))
noncomputable def Law_isFormRight_L65b (to : Ob) (fl : Ob) (ma : Ob) (tr : Ob) (cn : Ob) (nu : Ob) (de : Ob) (ru : Ob) (la : Ob) (tf : Ob) (ph : Ob) (v1 : Int32) (v2 : Int64) (v4 : Int32) (v5 : Int32) (v6 : Int32) (v7 : Int32) (v8 : Int32) (v9 : Int32) : (Int32 × Int32) ⊕ ((Int32 × Int32 × Int32 × Int32 × Int32) ⊕ (Option (Bool × Ob × Ob × Ob × Ob × Ob × Ob))) :=
  (obn (Sum.inr (Sum.inr none)) (Ph_ofPlace ma ph v8 1) (fun r71 => (if v9 < r71 then (obn (Sum.inr (Sum.inr none)) (Ph_valueAt ma ph v8 v9) (fun r85 => (obn (Sum.inr (Sum.inr none)) (Ph_ofValue ma ph r85 0) (fun r89 => (if r89 = 9 then (Law_isFormRight_102 to fl ma tr cn nu de ru la tf ph v1 v2 v4 v5 v6 v8 v9 1 v7) else (Law_isFormRight_102 to fl ma tr cn nu de ru la tf ph v1 v2 v4 v5 v6 v8 v9 0 v7)))))) else (Sum.inr (Sum.inl (v4, v5, v6, v7, (v8 + 1)))))))
noncomputable def Law_isFormRight_L65 (to : Ob) (fl : Ob) (ma : Ob) (tr : Ob) (cn : Ob) (nu : Ob) (de : Ob) (ru : Ob) (la : Ob) (tf : Ob) (ph : Ob) (v1 : Int32) (v2 : Int64) (v4 : Int32) (v5 : Int32) (v6 : Int32) (v7 : Int32) (v8 : Int32) (v9 : Int32) : (Int32 × Int32 × Int32 × Int32 × Int32) ⊕ (Option (Bool × Ob × Ob × Ob × Ob × Ob × Ob)) :=
  loopW (fun a : Int32 × Int32 => Law_isFormRight_L65b to fl ma tr cn nu de ru la tf ph v1 v2 v4 v5 v6 a.1 v8 a.2) (v7, v9)
noncomputable def Law_isFormRight_181 (to : Ob) (fl : Ob) (ma : Ob) (tr : Ob) (cn : Ob) (nu : Ob) (de : Ob) (ru : Ob) (la : Ob) (tf : Ob) (ph : Ob) (v1 : Int32) (v2 : Int64) (v4 : Int32) (v5 : Int32) (v6 : Int32) (v7 : Int32) (v8 : Int32) (v10 : Int32) (v11 : Int32) (w0 : Int32) (w1 : Int32) : (Int32 × Int32) ⊕ ((Int32 × Int32 × Int32) ⊕ (Option (Bool × Ob × Ob × Ob × Ob × Ob × Ob))) :=
  (Sum.inl ((w1 + w0), (v11 + 1)))
noncomputable def Law_isFormRight_L151b (to : Ob) (fl : Ob) (ma : Ob) (tr : Ob) (cn : Ob) (nu : Ob) (de : Ob) (ru : Ob) (la : Ob) (tf : Ob) (ph : Ob) (v1 : Int32) (v2 : Int64) (v4 : Int32) (v5 : Int32) (v6 : Int32) (v7 : Int32) (v8 : Int32) (v9 : Int32) (v10 : Int32) (v11 : Int32) : (Int32 × Int32) ⊕ ((Int32 × Int32 × Int32) ⊕ (Option (Bool × Ob × Ob × Ob × Ob × Ob × Ob))) :=
  (obn (Sum.inr (Sum.inr none)) (Ph_ofValue ma ph v10 3) (fun r157 => (if v11 < r157 then (obn (Sum.inr (Sum.inr none)) (Ph_argument ma ph v10 v11) (fun r170 => (if r170 < 0 then (Law_isFormRight_181 to fl ma tr cn nu de ru la tf ph v1 v2 v4 v5 v6 v7 v8 v10 v11 0 v9) else (Law_isFormRight_181 to fl ma tr cn nu de ru la tf ph v1 v2 v4 v5 v6 v7 v8 v10 v11 1 v9)))) else (Sum.inr (Sum.inl (v8, v9, (v10 + 1)))))))
noncomputable def Law_isFormRight_L151 (to : Ob) (fl : Ob) (ma : Ob) (tr : Ob) (cn : Ob) (nu : Ob) (de : Ob) (ru : Ob) (la : Ob) (tf : Ob) (ph : Ob) (v1 : Int32) (v2 : Int64) (v4 : Int32) (v5 : Int32) (v6 : Int32) (v7 : Int32) (v8 : Int32) (v9 : Int32) (v10 : Int32) (v11 : Int32) : (Int32 × Int32 × Int32) ⊕ (Option (Bool × Ob × Ob × Ob × Ob × Ob × Ob)) :=
  loopW (fun a : Int32 × Int32 => Law_isFormRight_L151b to fl ma tr cn nu de ru la tf ph v1 v2 v4 v5 v6 v7 v8 a.1 v10 a.2) (v9, v11)
noncomputable def Law_isFormRight_234 (to : Ob) (fl : Ob) (ma : Ob) (tr : Ob) (cn : Ob) (nu : Ob) (de : Ob) (ru : Ob) (la : Ob) (tf : Ob) (ph : Ob) (v1 : Int32) (v2 : Int64) (v4 : Int32) (v5 : Int32) (v6 : Int32) (v7 : Int32) (v8 : Int32) (v10 : Int32) (w0 : Int32) (w1 : Int32) : (Int32 × Int32) ⊕ (Option (Bool × Ob × Ob × Ob × Ob × Ob × Ob)) :=
  (Sum.inl ((w1 + w0), (v10 + 1)))
noncomputable def Law_isFormRight_233 (to : Ob) (fl : Ob) (ma : Ob) (tr : Ob) (cn : Ob) (nu : Ob) (de : Ob) (ru : Ob) (la : Ob) (tf : Ob) (ph : Ob) (v1 : Int32) (v2 : Int64) (v4 : Int32) (v5 : Int32) (v6 : Int32) (v7 : Int32) (v8 : Int32) (v10 : Int32) (w0 : Int32) : (Int32 × Int32) ⊕ (Option (Bool × Ob × Ob × Ob × Ob × Ob × Ob)) :=
  (Law_isFormRight_234 to fl ma tr cn nu de ru la tf ph v1 v2 v4 v5 v6 v7 v8 v10 0 w0)
noncomputable def Law_isFormRight_325 (to : Ob) (fl : Ob) (ma : Ob) (tr : Ob) (cn : Ob) (nu : Ob) (de : Ob) (ru : Ob) (la : Ob) (tf : Ob) (ph : Ob) (v2 : Int64) : Option (Bool × Ob × Ob × Ob × Ob × Ob × Ob) :=
  (some (false, tr, cn, nu, de, ru, tf))
noncomputable def Law_isFormRight_316 (to : Ob) (fl : Ob) (ma : Ob) (tr : Ob) (cn : Ob) (nu : Ob) (de : Ob) (ru : Ob) (la : Ob) (tf : Ob) (ph : Ob) (v2 : Int64) (w0 : Int64) : Option (Bool × Ob × Ob × Ob × Ob × Ob × Ob) :=
  (if (lg_cmp w0 v2) = 0 then (some (true, tr, cn, nu, de, ru, tf)) else (Law_isFormRight_325 to fl ma tr cn nu de ru la tf ph v2))
noncomputable def Law_isFormRight_247 (to : Ob) (fl : Ob) (ma : Ob) (tr : Ob) (cn : Ob) (nu : Ob) (de : Ob) (ru : Ob) (la : Ob) (tf : Ob) (ph : Ob) (v2 : Int64) (v4 : Int32) (v5 : Int32) (v6 : Int32) (v7 : Int32) (v8 : Int32) (v9 : Int32) (w0 : Int32) : Option (Bool × Ob × Ob × Ob × Ob × Ob × Ob) :=
  (obn none (Ph_many to fl ma ph 5) (fun r251 => (if r251 = v5 then (obn none (Ph_many to fl ma ph 6) (fun r262 => (if r262 = v7 then (obn none (Ph_many to fl ma ph 7) (fun r273 => (if r273 = v4 then (obn none (Ph_many to fl ma ph 8) (fun r284 => (if r284 = v6 then (if v8 = v9 then (if w0 < 4 then (Law_isFormRight_325 to fl ma tr cn nu de ru la tf ph v2) else (if (40 : Int32) < w0 then (Law_isFormRight_325 to fl ma tr cn nu de ru la tf ph v2) else (obn none (Ph_digest to fl ma tr cn nu de ru la tf ph) (fun r313 => (Law_isFormRight_316 to fl ma r313.2.1 r313.2.2.1 r313.2.2.2.1 r313.2.2.2.2.1 r313.2.2.2.2.2.1 la r313.2.2.2.2.2.2 ph v2 r313.1))))) else (Law_isFormRight_325 to fl ma tr cn nu de ru la tf ph v2)) else (Law_isFormRight_325 to fl ma tr cn nu de ru la tf ph v2)))) else (Law_isFormRight_325 to fl ma tr cn nu de ru la tf ph v2)))) else (Law_isFormRight_325 to fl ma tr cn nu de ru la tf ph v2)))) else (Law_isFormRight_325 to fl ma tr cn nu de ru la tf ph v2))))
noncomputable def Law_isFormRight_L199b (to : Ob) (fl : Ob) (ma : Ob) (tr : Ob) (cn : Ob) (nu : Ob) (de : Ob) (ru : Ob) (la : Ob) (tf : Ob) (ph : Ob) (v1 : Int32) (v2 : Int64) (v4 : Int32) (v5 : Int32) (v6 : Int32) (v7 : Int32) (v8 : Int32) (v9 : Int32) (v10 : Int32) : (Int32 × Int32) ⊕ (Option (Bool × Ob × Ob × Ob × Ob × Ob × Ob)) :=
  (if v10 < v1 then (obn (Sum.inr none) (Ph_ofPlace ma ph v10 0) (fun r211 => (if r211 = 1 then (obn (Sum.inr none) (Ph_ofPlace ma ph v10 6) (fun r223 => (if r223 < 0 then (Law_isFormRight_233 to fl ma tr cn nu de ru la tf ph v1 v2 v4 v5 v6 v7 v8 v10 v9) else (Law_isFormRight_234 to fl ma tr cn nu de ru la tf ph v1 v2 v4 v5 v6 v7 v8 v10 1 v9)))) else (Law_isFormRight_233 to fl ma tr cn nu de ru la tf ph v1 v2 v4 v5 v6 v7 v8 v10 v9)))) else (Sum.inr (obn none (Ph_untilStill ma tr cn nu de ph) (fun r244 => (Law_isFormRight_247 to fl ma r244.2.1 r244.2.2.1 r244.2.2.2.1 r244.2.2.2.2 ru la tf ph v2 v4 v5 v6 v7 v8 v9 r244.1)))))
noncomputable def Law_isFormRight_L199 (to : Ob) (fl : Ob) (ma : Ob) (tr : Ob) (cn : Ob) (nu : Ob) (de : Ob) (ru : Ob) (la : Ob) (tf : Ob) (ph : Ob) (v1 : Int32) (v2 : Int64) (v4 : Int32) (v5 : Int32) (v6 : Int32) (v7 : Int32) (v8 : Int32) (v9 : Int32) (v10 : Int32) : Option (Bool × Ob × Ob × Ob × Ob × Ob × Ob) :=
  loopW (fun a : Int32 × Int32 => Law_isFormRight_L199b to fl ma tr cn nu de ru la tf ph v1 v2 v4 v5 v6 v7 v8 a.1 a.2) (v9, v10)
noncomputable def Law_isFormRight_L126b (to : Ob) (fl : Ob) (ma : Ob) (tr : Ob) (cn : Ob) (nu : Ob) (de : Ob) (ru : Ob) (la : Ob) (tf : Ob) (ph : Ob) (v1 : Int32) (v2 : Int64) (v4 : Int32) (v5 : Int32) (v6 : Int32) (v7 : Int32) (v8 : Int32) (v9 : Int32) (v10 : Int32) : (Int32 × Int32 × Int32) ⊕ (Option (Bool × Ob × Ob × Ob × Ob × Ob × Ob)) :=
  (obn (Sum.inr none) (Ph_many to fl ma ph 4) (fun r130 => (if v10 < r130 then (obn (Sum.inr none) (Ph_ofValue ma ph v10 4) (fun r142 => (Law_isFormRight_L151 to fl ma tr cn nu de ru la tf ph v1 v2 v4 v5 v6 v7 (v8 + r142) v9 v10 0))) else (Sum.inr (Law_isFormRight_L199 to fl ma tr cn nu de ru la tf ph v1 v2 v4 v5 v6 v7 v8 v9 0)))))
noncomputable def Law_isFormRight_L126 (to : Ob) (fl : Ob) (ma : Ob) (tr : Ob) (cn : Ob) (nu : Ob) (de : Ob) (ru : Ob) (la : Ob) (tf : Ob) (ph : Ob) (v1 : Int32) (v2 : Int64) (v4 : Int32) (v5 : Int32) (v6 : Int32) (v7 : Int32) (v8 : Int32) (v9 : Int32) (v10 : Int32) : Option (Bool × Ob × Ob × Ob × Ob × Ob × Ob) :=
  loopW (fun a : Int32 × Int32 × Int32 => Law_isFormRight_L126b to fl ma tr cn nu de ru la tf ph v1 v2 v4 v5 v6 v7 a.1 a.2.1 a.2.2) (v8, v9, v10)
noncomputable def Law_isFormRight_L20b (to : Ob) (fl : Ob) (ma : Ob) (tr : Ob) (cn : Ob) (nu : Ob) (de : Ob) (ru : Ob) (la : Ob) (tf : Ob) (ph : Ob) (v1 : Int32) (v2 : Int64) (v4 : Int32) (v5 : Int32) (v6 : Int32) (v7 : Int32) (v8 : Int32) : (Int32 × Int32 × Int32 × Int32 × Int32) ⊕ (Option (Bool × Ob × Ob × Ob × Ob × Ob × Ob)) :=
  (if v8 < v1 then (obn (Sum.inr none) (Ph_ofPlace ma ph v8 0) (fun r32 => (obn (Sum.inr none) (Ph_ofPlace ma ph v8 1) (fun r44 => (obn (Sum.inr none) (Ph_ofPlace ma ph v8 5) (fun r56 => (Law_isFormRight_L65 to fl ma tr cn nu de ru la tf ph v1 v2 (v4 + r32) (v5 + r44) (v6 + r56) v7 v8 0))))))) else (Sum.inr (Law_isFormRight_L126 to fl ma tr cn nu de ru la tf ph v1 v2 v4 v5 v6 v7 0 0 0)))
noncomputable def Law_isFormRight_L20 (to : Ob) (fl : Ob) (ma : Ob) (tr : Ob) (cn : Ob) (nu : Ob) (de : Ob) (ru : Ob) (la : Ob) (tf : Ob) (ph : Ob) (v1 : Int32) (v2 : Int64) (v4 : Int32) (v5 : Int32) (v6 : Int32) (v7 : Int32) (v8 : Int32) : Option (Bool × Ob × Ob × Ob × Ob × Ob × Ob) :=
  loopW (fun a : Int32 × Int32 × Int32 × Int32 × Int32 => Law_isFormRight_L20b to fl ma tr cn nu de ru la tf ph v1 v2 a.1 a.2.1 a.2.2.1 a.2.2.2.1 a.2.2.2.2) (v4, v5, v6, v7, v8)
noncomputable def Law_isFormRight_4 (to : Ob) (fl : Ob) (ma : Ob) (tr : Ob) (cn : Ob) (nu : Ob) (de : Ob) (ru : Ob) (la : Ob) (tf : Ob) (ph : Ob) (v1 : Int32) (w0 : Int64) : Option (Bool × Ob × Ob × Ob × Ob × Ob × Ob) :=
  (Law_isFormRight_L20 to fl ma tr cn nu de ru la tf ph v1 w0 0 0 0 0 0)
noncomputable def Law_isFormRight (to : Ob) (fl : Ob) (ma : Ob) (tr : Ob) (cn : Ob) (nu : Ob) (de : Ob) (ru : Ob) (la : Ob) (tf : Ob) (ph : Ob) (v1 : Int32) : Option (Bool × Ob × Ob × Ob × Ob × Ob × Ob) :=
  (obn none (Ph_digest to fl ma tr cn nu de ru la tf ph) (fun r1 => (Law_isFormRight_4 to fl ma r1.2.1 r1.2.2.1 r1.2.2.2.1 r1.2.2.2.2.1 r1.2.2.2.2.2.1 la r1.2.2.2.2.2.2 ph v1 r1.1)))
