/-! THE STATE: rows by their numbers, whole numbers, truths, the long costs; and its cells -/
abbrev St : Type := (Nat → Nat → Int32) × (Nat → Int32) × (Nat → Bool) × Int64
def b2i (b : Bool) : Int32 := if b then 1 else 0
def sR (s : St) (i : Nat) (f : Nat → Int32) : St := (fun j => if j = i then f else s.1 j, s.2)
def sG (s : St) (i : Nat) (x : Int32) : St := (s.1, fun j => if j = i then x else s.2.1 j, s.2.2)
def sB (s : St) (i : Nat) (x : Bool) : St := (s.1, s.2.1, fun j => if j = i then x else s.2.2.1 j, s.2.2.2)
def sC (s : St) (x : Int64) : St := (s.1, s.2.1, s.2.2.1, x)
def hp (s : St) : List mmC := [(11, [.ref 2, .ref 34, .ref 61, .ref 88, .ref 95, .ref 100, .ref 110, .ref 113, .ref 114, .ref 121, .ref 126, .ref 131, .int (b2i (s.2.2.1 5)), .int (s.2.1 32), .long s.2.2.2]), (10, [.ref 3, .ref 5, .ref 7, .ref 9, .ref 11, .ref 13, .ref 15, .ref 17, .ref 19, .ref 21, .ref 23, .ref 25, .int (s.2.1 1)]), (7, [.ref 4]), (1000, mmIR (s.1 0) 10), (7, [.ref 6]), (1000, mmIR (s.1 1) 80), (7, [.ref 8]), (1000, mmIR (s.1 2) 80), (7, [.ref 10]), (1000, mmIR (s.1 3) 80), (7, [.ref 12]), (1000, mmIR (s.1 4) 80), (7, [.ref 14]), (1000, mmIR (s.1 5) 10), (7, [.ref 16]), (1000, mmIR (s.1 6) 10), (7, [.ref 18]), (1000, mmIR (s.1 7) 20), (7, [.ref 20]), (1000, mmIR (s.1 8) 10), (7, [.ref 22]), (1000, mmIR (s.1 9) 10), (7, [.ref 24]), (1000, mmIR (s.1 10) 10), (2, [.ref 26, .ref 28, .ref 30, .ref 32, .int (s.2.1 0)]), (7, [.ref 27]), (1000, mmIR (s.1 11) 10), (7, [.ref 29]), (1000, mmIR (s.1 12) 10), (7, [.ref 31]), (1000, mmIR (s.1 13) 10), (7, [.ref 33]), (1000, mmIR (s.1 14) 10), (3, [.ref 35, .ref 37, .ref 39, .ref 41, .ref 43, .ref 45, .ref 47, .ref 49, .ref 51, .ref 53, .ref 55, .ref 57, .ref 59, .int (s.2.1 2), .int (s.2.1 3), .int (s.2.1 4), .int (s.2.1 5), .int (s.2.1 6), .int (s.2.1 7)]), (7, [.ref 36]), (1000, mmIR (s.1 15) 140), (7, [.ref 38]), (1000, mmIR (s.1 16) 140), (7, [.ref 40]), (1000, mmIR (s.1 17) 140), (7, [.ref 42]), (1000, mmIR (s.1 18) 150), (7, [.ref 44]), (1000, mmIR (s.1 19) 150), (7, [.ref 46]), (1000, mmIR (s.1 20) 290), (7, [.ref 48]), (1000, mmIR (s.1 21) 290), (7, [.ref 50]), (1000, mmIR (s.1 22) 10), (7, [.ref 52]), (1000, mmIR (s.1 23) 1400), (7, [.ref 54]), (1000, mmIR (s.1 24) 10), (7, [.ref 56]), (1000, mmIR (s.1 25) 200), (7, [.ref 58]), (1000, mmIR (s.1 26) 10), (7, [.ref 60]), (1000, mmIR (s.1 27) 20), (3, [.ref 62, .ref 64, .ref 66, .ref 68, .ref 70, .ref 72, .ref 74, .ref 76, .ref 78, .ref 80, .ref 82, .ref 84, .ref 86, .int (s.2.1 8), .int (s.2.1 9), .int (s.2.1 10), .int (s.2.1 11), .int (s.2.1 12), .int (s.2.1 13)]), (7, [.ref 63]), (1000, mmIR (s.1 28) 140), (7, [.ref 65]), (1000, mmIR (s.1 29) 140), (7, [.ref 67]), (1000, mmIR (s.1 30) 140), (7, [.ref 69]), (1000, mmIR (s.1 31) 150), (7, [.ref 71]), (1000, mmIR (s.1 32) 150), (7, [.ref 73]), (1000, mmIR (s.1 33) 290), (7, [.ref 75]), (1000, mmIR (s.1 34) 290), (7, [.ref 77]), (1000, mmIR (s.1 35) 10), (7, [.ref 79]), (1000, mmIR (s.1 36) 1400), (7, [.ref 81]), (1000, mmIR (s.1 37) 10), (7, [.ref 83]), (1000, mmIR (s.1 38) 200), (7, [.ref 85]), (1000, mmIR (s.1 39) 10), (7, [.ref 87]), (1000, mmIR (s.1 40) 20), (5, [.ref 89, .ref 91, .ref 93]), (7, [.ref 90]), (1000, mmIR (s.1 41) 60), (7, [.ref 92]), (1000, mmIR (s.1 42) 60), (7, [.ref 94]), (1000, mmIR (s.1 43) 10), (0, [.ref 96, .ref 98, .int (s.2.1 14), .int (s.2.1 15), .int (b2i (s.2.2.1 0))]), (7, [.ref 97]), (1000, mmIR (s.1 44) 140), (7, [.ref 99]), (1000, mmIR (s.1 45) 140), (6, [.ref 101]), (2, [.ref 102, .ref 104, .ref 106, .ref 108, .int (s.2.1 16)]), (7, [.ref 103]), (1000, mmIR (s.1 46) 10), (7, [.ref 105]), (1000, mmIR (s.1 47) 10), (7, [.ref 107]), (1000, mmIR (s.1 48) 10), (7, [.ref 109]), (1000, mmIR (s.1 49) 10), (1, [.ref 111, .int (b2i (s.2.2.1 1))]), (7, [.ref 112]), (1000, mmIR (s.1 50) 140), (4, []), (8, [.ref 115, .ref 117, .ref 119]), (7, [.ref 116]), (1000, mmIR (s.1 51) 6), (7, [.ref 118]), (1000, mmIR (s.1 52) 140), (7, [.ref 120]), (1000, mmIR (s.1 53) 140), (9, [.ref 124, .ref 122, .int (b2i (s.2.2.1 2)), .int (s.2.1 17), .int (s.2.1 18), .int (s.2.1 19), .int (s.2.1 20), .int (s.2.1 21)]), (7, [.ref 123]), (1000, mmIR (s.1 54) 8), (7, [.ref 125]), (1000, mmIR (s.1 55) 60), (9, [.ref 129, .ref 127, .int (b2i (s.2.2.1 3)), .int (s.2.1 22), .int (s.2.1 23), .int (s.2.1 24), .int (s.2.1 25), .int (s.2.1 26)]), (7, [.ref 128]), (1000, mmIR (s.1 56) 8), (7, [.ref 130]), (1000, mmIR (s.1 57) 2408), (9, [.ref 134, .ref 132, .int (b2i (s.2.2.1 4)), .int (s.2.1 27), .int (s.2.1 28), .int (s.2.1 29), .int (s.2.1 30), .int (s.2.1 31)]), (7, [.ref 133]), (1000, mmIR (s.1 58) 8), (7, [.ref 135]), (1000, mmIR (s.1 59) 2408)]
def mh (sc : mmC) (rest : List mmC) (s : St) : List mmC := sc :: (hp s ++ rest)
section LAY
variable (sc : mmC) (rest : List mmC) (s : St)
theorem ro_0 : (mh sc rest s)[3]? = some (7, [.ref 4]) := rfl
theorem ra_0 : (mh sc rest s)[4]? = some (1000, mmIR (s.1 0) 10) := rfl
set_option maxRecDepth 100000 in
theorem rs_0 (f : Nat → Int32) : (mh sc rest s).set 4 (1000, mmIR f 10) = mh sc rest (sR s 0 f) := rfl
theorem ro_1 : (mh sc rest s)[5]? = some (7, [.ref 6]) := rfl
theorem ra_1 : (mh sc rest s)[6]? = some (1000, mmIR (s.1 1) 80) := rfl
set_option maxRecDepth 100000 in
theorem rs_1 (f : Nat → Int32) : (mh sc rest s).set 6 (1000, mmIR f 80) = mh sc rest (sR s 1 f) := rfl
theorem ro_2 : (mh sc rest s)[7]? = some (7, [.ref 8]) := rfl
theorem ra_2 : (mh sc rest s)[8]? = some (1000, mmIR (s.1 2) 80) := rfl
set_option maxRecDepth 100000 in
theorem rs_2 (f : Nat → Int32) : (mh sc rest s).set 8 (1000, mmIR f 80) = mh sc rest (sR s 2 f) := rfl
theorem ro_3 : (mh sc rest s)[9]? = some (7, [.ref 10]) := rfl
theorem ra_3 : (mh sc rest s)[10]? = some (1000, mmIR (s.1 3) 80) := rfl
set_option maxRecDepth 100000 in
theorem rs_3 (f : Nat → Int32) : (mh sc rest s).set 10 (1000, mmIR f 80) = mh sc rest (sR s 3 f) := rfl
theorem ro_4 : (mh sc rest s)[11]? = some (7, [.ref 12]) := rfl
theorem ra_4 : (mh sc rest s)[12]? = some (1000, mmIR (s.1 4) 80) := rfl
set_option maxRecDepth 100000 in
theorem rs_4 (f : Nat → Int32) : (mh sc rest s).set 12 (1000, mmIR f 80) = mh sc rest (sR s 4 f) := rfl
theorem ro_5 : (mh sc rest s)[13]? = some (7, [.ref 14]) := rfl
theorem ra_5 : (mh sc rest s)[14]? = some (1000, mmIR (s.1 5) 10) := rfl
set_option maxRecDepth 100000 in
theorem rs_5 (f : Nat → Int32) : (mh sc rest s).set 14 (1000, mmIR f 10) = mh sc rest (sR s 5 f) := rfl
theorem ro_6 : (mh sc rest s)[15]? = some (7, [.ref 16]) := rfl
theorem ra_6 : (mh sc rest s)[16]? = some (1000, mmIR (s.1 6) 10) := rfl
set_option maxRecDepth 100000 in
theorem rs_6 (f : Nat → Int32) : (mh sc rest s).set 16 (1000, mmIR f 10) = mh sc rest (sR s 6 f) := rfl
theorem ro_7 : (mh sc rest s)[17]? = some (7, [.ref 18]) := rfl
theorem ra_7 : (mh sc rest s)[18]? = some (1000, mmIR (s.1 7) 20) := rfl
set_option maxRecDepth 100000 in
theorem rs_7 (f : Nat → Int32) : (mh sc rest s).set 18 (1000, mmIR f 20) = mh sc rest (sR s 7 f) := rfl
theorem ro_8 : (mh sc rest s)[19]? = some (7, [.ref 20]) := rfl
theorem ra_8 : (mh sc rest s)[20]? = some (1000, mmIR (s.1 8) 10) := rfl
set_option maxRecDepth 100000 in
theorem rs_8 (f : Nat → Int32) : (mh sc rest s).set 20 (1000, mmIR f 10) = mh sc rest (sR s 8 f) := rfl
theorem ro_9 : (mh sc rest s)[21]? = some (7, [.ref 22]) := rfl
theorem ra_9 : (mh sc rest s)[22]? = some (1000, mmIR (s.1 9) 10) := rfl
set_option maxRecDepth 100000 in
theorem rs_9 (f : Nat → Int32) : (mh sc rest s).set 22 (1000, mmIR f 10) = mh sc rest (sR s 9 f) := rfl
theorem ro_10 : (mh sc rest s)[23]? = some (7, [.ref 24]) := rfl
theorem ra_10 : (mh sc rest s)[24]? = some (1000, mmIR (s.1 10) 10) := rfl
set_option maxRecDepth 100000 in
theorem rs_10 (f : Nat → Int32) : (mh sc rest s).set 24 (1000, mmIR f 10) = mh sc rest (sR s 10 f) := rfl
theorem ro_11 : (mh sc rest s)[26]? = some (7, [.ref 27]) := rfl
theorem ra_11 : (mh sc rest s)[27]? = some (1000, mmIR (s.1 11) 10) := rfl
set_option maxRecDepth 100000 in
theorem rs_11 (f : Nat → Int32) : (mh sc rest s).set 27 (1000, mmIR f 10) = mh sc rest (sR s 11 f) := rfl
theorem ro_12 : (mh sc rest s)[28]? = some (7, [.ref 29]) := rfl
theorem ra_12 : (mh sc rest s)[29]? = some (1000, mmIR (s.1 12) 10) := rfl
set_option maxRecDepth 100000 in
theorem rs_12 (f : Nat → Int32) : (mh sc rest s).set 29 (1000, mmIR f 10) = mh sc rest (sR s 12 f) := rfl
theorem ro_13 : (mh sc rest s)[30]? = some (7, [.ref 31]) := rfl
theorem ra_13 : (mh sc rest s)[31]? = some (1000, mmIR (s.1 13) 10) := rfl
set_option maxRecDepth 100000 in
theorem rs_13 (f : Nat → Int32) : (mh sc rest s).set 31 (1000, mmIR f 10) = mh sc rest (sR s 13 f) := rfl
theorem ro_14 : (mh sc rest s)[32]? = some (7, [.ref 33]) := rfl
theorem ra_14 : (mh sc rest s)[33]? = some (1000, mmIR (s.1 14) 10) := rfl
set_option maxRecDepth 100000 in
theorem rs_14 (f : Nat → Int32) : (mh sc rest s).set 33 (1000, mmIR f 10) = mh sc rest (sR s 14 f) := rfl
theorem ro_15 : (mh sc rest s)[35]? = some (7, [.ref 36]) := rfl
theorem ra_15 : (mh sc rest s)[36]? = some (1000, mmIR (s.1 15) 140) := rfl
set_option maxRecDepth 100000 in
theorem rs_15 (f : Nat → Int32) : (mh sc rest s).set 36 (1000, mmIR f 140) = mh sc rest (sR s 15 f) := rfl
theorem ro_16 : (mh sc rest s)[37]? = some (7, [.ref 38]) := rfl
theorem ra_16 : (mh sc rest s)[38]? = some (1000, mmIR (s.1 16) 140) := rfl
set_option maxRecDepth 100000 in
theorem rs_16 (f : Nat → Int32) : (mh sc rest s).set 38 (1000, mmIR f 140) = mh sc rest (sR s 16 f) := rfl
theorem ro_17 : (mh sc rest s)[39]? = some (7, [.ref 40]) := rfl
theorem ra_17 : (mh sc rest s)[40]? = some (1000, mmIR (s.1 17) 140) := rfl
set_option maxRecDepth 100000 in
theorem rs_17 (f : Nat → Int32) : (mh sc rest s).set 40 (1000, mmIR f 140) = mh sc rest (sR s 17 f) := rfl
theorem ro_18 : (mh sc rest s)[41]? = some (7, [.ref 42]) := rfl
theorem ra_18 : (mh sc rest s)[42]? = some (1000, mmIR (s.1 18) 150) := rfl
set_option maxRecDepth 100000 in
theorem rs_18 (f : Nat → Int32) : (mh sc rest s).set 42 (1000, mmIR f 150) = mh sc rest (sR s 18 f) := rfl
theorem ro_19 : (mh sc rest s)[43]? = some (7, [.ref 44]) := rfl
theorem ra_19 : (mh sc rest s)[44]? = some (1000, mmIR (s.1 19) 150) := rfl
set_option maxRecDepth 100000 in
theorem rs_19 (f : Nat → Int32) : (mh sc rest s).set 44 (1000, mmIR f 150) = mh sc rest (sR s 19 f) := rfl
theorem ro_20 : (mh sc rest s)[45]? = some (7, [.ref 46]) := rfl
theorem ra_20 : (mh sc rest s)[46]? = some (1000, mmIR (s.1 20) 290) := rfl
set_option maxRecDepth 100000 in
theorem rs_20 (f : Nat → Int32) : (mh sc rest s).set 46 (1000, mmIR f 290) = mh sc rest (sR s 20 f) := rfl
theorem ro_21 : (mh sc rest s)[47]? = some (7, [.ref 48]) := rfl
theorem ra_21 : (mh sc rest s)[48]? = some (1000, mmIR (s.1 21) 290) := rfl
set_option maxRecDepth 100000 in
theorem rs_21 (f : Nat → Int32) : (mh sc rest s).set 48 (1000, mmIR f 290) = mh sc rest (sR s 21 f) := rfl
theorem ro_22 : (mh sc rest s)[49]? = some (7, [.ref 50]) := rfl
theorem ra_22 : (mh sc rest s)[50]? = some (1000, mmIR (s.1 22) 10) := rfl
set_option maxRecDepth 100000 in
theorem rs_22 (f : Nat → Int32) : (mh sc rest s).set 50 (1000, mmIR f 10) = mh sc rest (sR s 22 f) := rfl
theorem ro_23 : (mh sc rest s)[51]? = some (7, [.ref 52]) := rfl
theorem ra_23 : (mh sc rest s)[52]? = some (1000, mmIR (s.1 23) 1400) := rfl
set_option maxRecDepth 100000 in
theorem rs_23 (f : Nat → Int32) : (mh sc rest s).set 52 (1000, mmIR f 1400) = mh sc rest (sR s 23 f) := rfl
theorem ro_24 : (mh sc rest s)[53]? = some (7, [.ref 54]) := rfl
theorem ra_24 : (mh sc rest s)[54]? = some (1000, mmIR (s.1 24) 10) := rfl
set_option maxRecDepth 100000 in
theorem rs_24 (f : Nat → Int32) : (mh sc rest s).set 54 (1000, mmIR f 10) = mh sc rest (sR s 24 f) := rfl
theorem ro_25 : (mh sc rest s)[55]? = some (7, [.ref 56]) := rfl
theorem ra_25 : (mh sc rest s)[56]? = some (1000, mmIR (s.1 25) 200) := rfl
set_option maxRecDepth 100000 in
theorem rs_25 (f : Nat → Int32) : (mh sc rest s).set 56 (1000, mmIR f 200) = mh sc rest (sR s 25 f) := rfl
theorem ro_26 : (mh sc rest s)[57]? = some (7, [.ref 58]) := rfl
theorem ra_26 : (mh sc rest s)[58]? = some (1000, mmIR (s.1 26) 10) := rfl
set_option maxRecDepth 100000 in
theorem rs_26 (f : Nat → Int32) : (mh sc rest s).set 58 (1000, mmIR f 10) = mh sc rest (sR s 26 f) := rfl
theorem ro_27 : (mh sc rest s)[59]? = some (7, [.ref 60]) := rfl
theorem ra_27 : (mh sc rest s)[60]? = some (1000, mmIR (s.1 27) 20) := rfl
set_option maxRecDepth 100000 in
theorem rs_27 (f : Nat → Int32) : (mh sc rest s).set 60 (1000, mmIR f 20) = mh sc rest (sR s 27 f) := rfl
theorem ro_28 : (mh sc rest s)[62]? = some (7, [.ref 63]) := rfl
theorem ra_28 : (mh sc rest s)[63]? = some (1000, mmIR (s.1 28) 140) := rfl
set_option maxRecDepth 100000 in
theorem rs_28 (f : Nat → Int32) : (mh sc rest s).set 63 (1000, mmIR f 140) = mh sc rest (sR s 28 f) := rfl
theorem ro_29 : (mh sc rest s)[64]? = some (7, [.ref 65]) := rfl
theorem ra_29 : (mh sc rest s)[65]? = some (1000, mmIR (s.1 29) 140) := rfl
set_option maxRecDepth 100000 in
theorem rs_29 (f : Nat → Int32) : (mh sc rest s).set 65 (1000, mmIR f 140) = mh sc rest (sR s 29 f) := rfl
theorem ro_30 : (mh sc rest s)[66]? = some (7, [.ref 67]) := rfl
theorem ra_30 : (mh sc rest s)[67]? = some (1000, mmIR (s.1 30) 140) := rfl
set_option maxRecDepth 100000 in
theorem rs_30 (f : Nat → Int32) : (mh sc rest s).set 67 (1000, mmIR f 140) = mh sc rest (sR s 30 f) := rfl
theorem ro_31 : (mh sc rest s)[68]? = some (7, [.ref 69]) := rfl
theorem ra_31 : (mh sc rest s)[69]? = some (1000, mmIR (s.1 31) 150) := rfl
set_option maxRecDepth 100000 in
theorem rs_31 (f : Nat → Int32) : (mh sc rest s).set 69 (1000, mmIR f 150) = mh sc rest (sR s 31 f) := rfl
theorem ro_32 : (mh sc rest s)[70]? = some (7, [.ref 71]) := rfl
theorem ra_32 : (mh sc rest s)[71]? = some (1000, mmIR (s.1 32) 150) := rfl
set_option maxRecDepth 100000 in
theorem rs_32 (f : Nat → Int32) : (mh sc rest s).set 71 (1000, mmIR f 150) = mh sc rest (sR s 32 f) := rfl
theorem ro_33 : (mh sc rest s)[72]? = some (7, [.ref 73]) := rfl
theorem ra_33 : (mh sc rest s)[73]? = some (1000, mmIR (s.1 33) 290) := rfl
set_option maxRecDepth 100000 in
theorem rs_33 (f : Nat → Int32) : (mh sc rest s).set 73 (1000, mmIR f 290) = mh sc rest (sR s 33 f) := rfl
theorem ro_34 : (mh sc rest s)[74]? = some (7, [.ref 75]) := rfl
theorem ra_34 : (mh sc rest s)[75]? = some (1000, mmIR (s.1 34) 290) := rfl
set_option maxRecDepth 100000 in
theorem rs_34 (f : Nat → Int32) : (mh sc rest s).set 75 (1000, mmIR f 290) = mh sc rest (sR s 34 f) := rfl
theorem ro_35 : (mh sc rest s)[76]? = some (7, [.ref 77]) := rfl
theorem ra_35 : (mh sc rest s)[77]? = some (1000, mmIR (s.1 35) 10) := rfl
set_option maxRecDepth 100000 in
theorem rs_35 (f : Nat → Int32) : (mh sc rest s).set 77 (1000, mmIR f 10) = mh sc rest (sR s 35 f) := rfl
theorem ro_36 : (mh sc rest s)[78]? = some (7, [.ref 79]) := rfl
theorem ra_36 : (mh sc rest s)[79]? = some (1000, mmIR (s.1 36) 1400) := rfl
set_option maxRecDepth 100000 in
theorem rs_36 (f : Nat → Int32) : (mh sc rest s).set 79 (1000, mmIR f 1400) = mh sc rest (sR s 36 f) := rfl
theorem ro_37 : (mh sc rest s)[80]? = some (7, [.ref 81]) := rfl
theorem ra_37 : (mh sc rest s)[81]? = some (1000, mmIR (s.1 37) 10) := rfl
set_option maxRecDepth 100000 in
theorem rs_37 (f : Nat → Int32) : (mh sc rest s).set 81 (1000, mmIR f 10) = mh sc rest (sR s 37 f) := rfl
theorem ro_38 : (mh sc rest s)[82]? = some (7, [.ref 83]) := rfl
theorem ra_38 : (mh sc rest s)[83]? = some (1000, mmIR (s.1 38) 200) := rfl
set_option maxRecDepth 100000 in
theorem rs_38 (f : Nat → Int32) : (mh sc rest s).set 83 (1000, mmIR f 200) = mh sc rest (sR s 38 f) := rfl
theorem ro_39 : (mh sc rest s)[84]? = some (7, [.ref 85]) := rfl
theorem ra_39 : (mh sc rest s)[85]? = some (1000, mmIR (s.1 39) 10) := rfl
set_option maxRecDepth 100000 in
theorem rs_39 (f : Nat → Int32) : (mh sc rest s).set 85 (1000, mmIR f 10) = mh sc rest (sR s 39 f) := rfl
theorem ro_40 : (mh sc rest s)[86]? = some (7, [.ref 87]) := rfl
theorem ra_40 : (mh sc rest s)[87]? = some (1000, mmIR (s.1 40) 20) := rfl
set_option maxRecDepth 100000 in
theorem rs_40 (f : Nat → Int32) : (mh sc rest s).set 87 (1000, mmIR f 20) = mh sc rest (sR s 40 f) := rfl
theorem ro_41 : (mh sc rest s)[89]? = some (7, [.ref 90]) := rfl
theorem ra_41 : (mh sc rest s)[90]? = some (1000, mmIR (s.1 41) 60) := rfl
set_option maxRecDepth 100000 in
theorem rs_41 (f : Nat → Int32) : (mh sc rest s).set 90 (1000, mmIR f 60) = mh sc rest (sR s 41 f) := rfl
theorem ro_42 : (mh sc rest s)[91]? = some (7, [.ref 92]) := rfl
theorem ra_42 : (mh sc rest s)[92]? = some (1000, mmIR (s.1 42) 60) := rfl
set_option maxRecDepth 100000 in
theorem rs_42 (f : Nat → Int32) : (mh sc rest s).set 92 (1000, mmIR f 60) = mh sc rest (sR s 42 f) := rfl
theorem ro_43 : (mh sc rest s)[93]? = some (7, [.ref 94]) := rfl
theorem ra_43 : (mh sc rest s)[94]? = some (1000, mmIR (s.1 43) 10) := rfl
set_option maxRecDepth 100000 in
theorem rs_43 (f : Nat → Int32) : (mh sc rest s).set 94 (1000, mmIR f 10) = mh sc rest (sR s 43 f) := rfl
theorem ro_44 : (mh sc rest s)[96]? = some (7, [.ref 97]) := rfl
theorem ra_44 : (mh sc rest s)[97]? = some (1000, mmIR (s.1 44) 140) := rfl
set_option maxRecDepth 100000 in
theorem rs_44 (f : Nat → Int32) : (mh sc rest s).set 97 (1000, mmIR f 140) = mh sc rest (sR s 44 f) := rfl
theorem ro_45 : (mh sc rest s)[98]? = some (7, [.ref 99]) := rfl
theorem ra_45 : (mh sc rest s)[99]? = some (1000, mmIR (s.1 45) 140) := rfl
set_option maxRecDepth 100000 in
theorem rs_45 (f : Nat → Int32) : (mh sc rest s).set 99 (1000, mmIR f 140) = mh sc rest (sR s 45 f) := rfl
theorem ro_46 : (mh sc rest s)[102]? = some (7, [.ref 103]) := rfl
theorem ra_46 : (mh sc rest s)[103]? = some (1000, mmIR (s.1 46) 10) := rfl
set_option maxRecDepth 100000 in
theorem rs_46 (f : Nat → Int32) : (mh sc rest s).set 103 (1000, mmIR f 10) = mh sc rest (sR s 46 f) := rfl
theorem ro_47 : (mh sc rest s)[104]? = some (7, [.ref 105]) := rfl
theorem ra_47 : (mh sc rest s)[105]? = some (1000, mmIR (s.1 47) 10) := rfl
set_option maxRecDepth 100000 in
theorem rs_47 (f : Nat → Int32) : (mh sc rest s).set 105 (1000, mmIR f 10) = mh sc rest (sR s 47 f) := rfl
theorem ro_48 : (mh sc rest s)[106]? = some (7, [.ref 107]) := rfl
theorem ra_48 : (mh sc rest s)[107]? = some (1000, mmIR (s.1 48) 10) := rfl
set_option maxRecDepth 100000 in
theorem rs_48 (f : Nat → Int32) : (mh sc rest s).set 107 (1000, mmIR f 10) = mh sc rest (sR s 48 f) := rfl
theorem ro_49 : (mh sc rest s)[108]? = some (7, [.ref 109]) := rfl
theorem ra_49 : (mh sc rest s)[109]? = some (1000, mmIR (s.1 49) 10) := rfl
set_option maxRecDepth 100000 in
theorem rs_49 (f : Nat → Int32) : (mh sc rest s).set 109 (1000, mmIR f 10) = mh sc rest (sR s 49 f) := rfl
theorem ro_50 : (mh sc rest s)[111]? = some (7, [.ref 112]) := rfl
theorem ra_50 : (mh sc rest s)[112]? = some (1000, mmIR (s.1 50) 140) := rfl
set_option maxRecDepth 100000 in
theorem rs_50 (f : Nat → Int32) : (mh sc rest s).set 112 (1000, mmIR f 140) = mh sc rest (sR s 50 f) := rfl
theorem ro_51 : (mh sc rest s)[115]? = some (7, [.ref 116]) := rfl
theorem ra_51 : (mh sc rest s)[116]? = some (1000, mmIR (s.1 51) 6) := rfl
set_option maxRecDepth 100000 in
theorem rs_51 (f : Nat → Int32) : (mh sc rest s).set 116 (1000, mmIR f 6) = mh sc rest (sR s 51 f) := rfl
theorem ro_52 : (mh sc rest s)[117]? = some (7, [.ref 118]) := rfl
theorem ra_52 : (mh sc rest s)[118]? = some (1000, mmIR (s.1 52) 140) := rfl
set_option maxRecDepth 100000 in
theorem rs_52 (f : Nat → Int32) : (mh sc rest s).set 118 (1000, mmIR f 140) = mh sc rest (sR s 52 f) := rfl
theorem ro_53 : (mh sc rest s)[119]? = some (7, [.ref 120]) := rfl
theorem ra_53 : (mh sc rest s)[120]? = some (1000, mmIR (s.1 53) 140) := rfl
set_option maxRecDepth 100000 in
theorem rs_53 (f : Nat → Int32) : (mh sc rest s).set 120 (1000, mmIR f 140) = mh sc rest (sR s 53 f) := rfl
theorem ro_54 : (mh sc rest s)[122]? = some (7, [.ref 123]) := rfl
theorem ra_54 : (mh sc rest s)[123]? = some (1000, mmIR (s.1 54) 8) := rfl
set_option maxRecDepth 100000 in
theorem rs_54 (f : Nat → Int32) : (mh sc rest s).set 123 (1000, mmIR f 8) = mh sc rest (sR s 54 f) := rfl
theorem ro_55 : (mh sc rest s)[124]? = some (7, [.ref 125]) := rfl
theorem ra_55 : (mh sc rest s)[125]? = some (1000, mmIR (s.1 55) 60) := rfl
set_option maxRecDepth 100000 in
theorem rs_55 (f : Nat → Int32) : (mh sc rest s).set 125 (1000, mmIR f 60) = mh sc rest (sR s 55 f) := rfl
theorem ro_56 : (mh sc rest s)[127]? = some (7, [.ref 128]) := rfl
theorem ra_56 : (mh sc rest s)[128]? = some (1000, mmIR (s.1 56) 8) := rfl
set_option maxRecDepth 100000 in
theorem rs_56 (f : Nat → Int32) : (mh sc rest s).set 128 (1000, mmIR f 8) = mh sc rest (sR s 56 f) := rfl
theorem ro_57 : (mh sc rest s)[129]? = some (7, [.ref 130]) := rfl
theorem ra_57 : (mh sc rest s)[130]? = some (1000, mmIR (s.1 57) 2408) := rfl
set_option maxRecDepth 100000 in
theorem rs_57 (f : Nat → Int32) : (mh sc rest s).set 130 (1000, mmIR f 2408) = mh sc rest (sR s 57 f) := rfl
theorem ro_58 : (mh sc rest s)[132]? = some (7, [.ref 133]) := rfl
theorem ra_58 : (mh sc rest s)[133]? = some (1000, mmIR (s.1 58) 8) := rfl
set_option maxRecDepth 100000 in
theorem rs_58 (f : Nat → Int32) : (mh sc rest s).set 133 (1000, mmIR f 8) = mh sc rest (sR s 58 f) := rfl
theorem ro_59 : (mh sc rest s)[134]? = some (7, [.ref 135]) := rfl
theorem ra_59 : (mh sc rest s)[135]? = some (1000, mmIR (s.1 59) 2408) := rfl
set_option maxRecDepth 100000 in
theorem rs_59 (f : Nat → Int32) : (mh sc rest s).set 135 (1000, mmIR f 2408) = mh sc rest (sR s 59 f) := rfl
theorem ob_1 : (mh sc rest s)[1]? = some (11, [.ref 2, .ref 34, .ref 61, .ref 88, .ref 95, .ref 100, .ref 110, .ref 113, .ref 114, .ref 121, .ref 126, .ref 131, .int (b2i (s.2.2.1 5)), .int (s.2.1 32), .long s.2.2.2]) := rfl
set_option maxRecDepth 100000 in
theorem os_1_12 (y : Bool) : (mh sc rest s).set 1 (11, ([.ref 2, .ref 34, .ref 61, .ref 88, .ref 95, .ref 100, .ref 110, .ref 113, .ref 114, .ref 121, .ref 126, .ref 131, .int (b2i (s.2.2.1 5)), .int (s.2.1 32), .long s.2.2.2] : List Value).set 12 (.int (b2i y))) = mh sc rest (sB s 5 y) := rfl
set_option maxRecDepth 100000 in
theorem os_1_13 (y : Int32) : (mh sc rest s).set 1 (11, ([.ref 2, .ref 34, .ref 61, .ref 88, .ref 95, .ref 100, .ref 110, .ref 113, .ref 114, .ref 121, .ref 126, .ref 131, .int (b2i (s.2.2.1 5)), .int (s.2.1 32), .long s.2.2.2] : List Value).set 13 (.int y)) = mh sc rest (sG s 32 y) := rfl
set_option maxRecDepth 100000 in
theorem os_1_14 (y : Int64) : (mh sc rest s).set 1 (11, ([.ref 2, .ref 34, .ref 61, .ref 88, .ref 95, .ref 100, .ref 110, .ref 113, .ref 114, .ref 121, .ref 126, .ref 131, .int (b2i (s.2.2.1 5)), .int (s.2.1 32), .long s.2.2.2] : List Value).set 14 (.long y)) = mh sc rest (sC s y) := rfl
theorem ob_2 : (mh sc rest s)[2]? = some (10, [.ref 3, .ref 5, .ref 7, .ref 9, .ref 11, .ref 13, .ref 15, .ref 17, .ref 19, .ref 21, .ref 23, .ref 25, .int (s.2.1 1)]) := rfl
set_option maxRecDepth 100000 in
theorem os_2_12 (y : Int32) : (mh sc rest s).set 2 (10, ([.ref 3, .ref 5, .ref 7, .ref 9, .ref 11, .ref 13, .ref 15, .ref 17, .ref 19, .ref 21, .ref 23, .ref 25, .int (s.2.1 1)] : List Value).set 12 (.int y)) = mh sc rest (sG s 1 y) := rfl
theorem ob_25 : (mh sc rest s)[25]? = some (2, [.ref 26, .ref 28, .ref 30, .ref 32, .int (s.2.1 0)]) := rfl
set_option maxRecDepth 100000 in
theorem os_25_4 (y : Int32) : (mh sc rest s).set 25 (2, ([.ref 26, .ref 28, .ref 30, .ref 32, .int (s.2.1 0)] : List Value).set 4 (.int y)) = mh sc rest (sG s 0 y) := rfl
theorem ob_34 : (mh sc rest s)[34]? = some (3, [.ref 35, .ref 37, .ref 39, .ref 41, .ref 43, .ref 45, .ref 47, .ref 49, .ref 51, .ref 53, .ref 55, .ref 57, .ref 59, .int (s.2.1 2), .int (s.2.1 3), .int (s.2.1 4), .int (s.2.1 5), .int (s.2.1 6), .int (s.2.1 7)]) := rfl
set_option maxRecDepth 100000 in
theorem os_34_13 (y : Int32) : (mh sc rest s).set 34 (3, ([.ref 35, .ref 37, .ref 39, .ref 41, .ref 43, .ref 45, .ref 47, .ref 49, .ref 51, .ref 53, .ref 55, .ref 57, .ref 59, .int (s.2.1 2), .int (s.2.1 3), .int (s.2.1 4), .int (s.2.1 5), .int (s.2.1 6), .int (s.2.1 7)] : List Value).set 13 (.int y)) = mh sc rest (sG s 2 y) := rfl
set_option maxRecDepth 100000 in
theorem os_34_14 (y : Int32) : (mh sc rest s).set 34 (3, ([.ref 35, .ref 37, .ref 39, .ref 41, .ref 43, .ref 45, .ref 47, .ref 49, .ref 51, .ref 53, .ref 55, .ref 57, .ref 59, .int (s.2.1 2), .int (s.2.1 3), .int (s.2.1 4), .int (s.2.1 5), .int (s.2.1 6), .int (s.2.1 7)] : List Value).set 14 (.int y)) = mh sc rest (sG s 3 y) := rfl
set_option maxRecDepth 100000 in
theorem os_34_15 (y : Int32) : (mh sc rest s).set 34 (3, ([.ref 35, .ref 37, .ref 39, .ref 41, .ref 43, .ref 45, .ref 47, .ref 49, .ref 51, .ref 53, .ref 55, .ref 57, .ref 59, .int (s.2.1 2), .int (s.2.1 3), .int (s.2.1 4), .int (s.2.1 5), .int (s.2.1 6), .int (s.2.1 7)] : List Value).set 15 (.int y)) = mh sc rest (sG s 4 y) := rfl
set_option maxRecDepth 100000 in
theorem os_34_16 (y : Int32) : (mh sc rest s).set 34 (3, ([.ref 35, .ref 37, .ref 39, .ref 41, .ref 43, .ref 45, .ref 47, .ref 49, .ref 51, .ref 53, .ref 55, .ref 57, .ref 59, .int (s.2.1 2), .int (s.2.1 3), .int (s.2.1 4), .int (s.2.1 5), .int (s.2.1 6), .int (s.2.1 7)] : List Value).set 16 (.int y)) = mh sc rest (sG s 5 y) := rfl
set_option maxRecDepth 100000 in
theorem os_34_17 (y : Int32) : (mh sc rest s).set 34 (3, ([.ref 35, .ref 37, .ref 39, .ref 41, .ref 43, .ref 45, .ref 47, .ref 49, .ref 51, .ref 53, .ref 55, .ref 57, .ref 59, .int (s.2.1 2), .int (s.2.1 3), .int (s.2.1 4), .int (s.2.1 5), .int (s.2.1 6), .int (s.2.1 7)] : List Value).set 17 (.int y)) = mh sc rest (sG s 6 y) := rfl
set_option maxRecDepth 100000 in
theorem os_34_18 (y : Int32) : (mh sc rest s).set 34 (3, ([.ref 35, .ref 37, .ref 39, .ref 41, .ref 43, .ref 45, .ref 47, .ref 49, .ref 51, .ref 53, .ref 55, .ref 57, .ref 59, .int (s.2.1 2), .int (s.2.1 3), .int (s.2.1 4), .int (s.2.1 5), .int (s.2.1 6), .int (s.2.1 7)] : List Value).set 18 (.int y)) = mh sc rest (sG s 7 y) := rfl
theorem ob_61 : (mh sc rest s)[61]? = some (3, [.ref 62, .ref 64, .ref 66, .ref 68, .ref 70, .ref 72, .ref 74, .ref 76, .ref 78, .ref 80, .ref 82, .ref 84, .ref 86, .int (s.2.1 8), .int (s.2.1 9), .int (s.2.1 10), .int (s.2.1 11), .int (s.2.1 12), .int (s.2.1 13)]) := rfl
set_option maxRecDepth 100000 in
theorem os_61_13 (y : Int32) : (mh sc rest s).set 61 (3, ([.ref 62, .ref 64, .ref 66, .ref 68, .ref 70, .ref 72, .ref 74, .ref 76, .ref 78, .ref 80, .ref 82, .ref 84, .ref 86, .int (s.2.1 8), .int (s.2.1 9), .int (s.2.1 10), .int (s.2.1 11), .int (s.2.1 12), .int (s.2.1 13)] : List Value).set 13 (.int y)) = mh sc rest (sG s 8 y) := rfl
set_option maxRecDepth 100000 in
theorem os_61_14 (y : Int32) : (mh sc rest s).set 61 (3, ([.ref 62, .ref 64, .ref 66, .ref 68, .ref 70, .ref 72, .ref 74, .ref 76, .ref 78, .ref 80, .ref 82, .ref 84, .ref 86, .int (s.2.1 8), .int (s.2.1 9), .int (s.2.1 10), .int (s.2.1 11), .int (s.2.1 12), .int (s.2.1 13)] : List Value).set 14 (.int y)) = mh sc rest (sG s 9 y) := rfl
set_option maxRecDepth 100000 in
theorem os_61_15 (y : Int32) : (mh sc rest s).set 61 (3, ([.ref 62, .ref 64, .ref 66, .ref 68, .ref 70, .ref 72, .ref 74, .ref 76, .ref 78, .ref 80, .ref 82, .ref 84, .ref 86, .int (s.2.1 8), .int (s.2.1 9), .int (s.2.1 10), .int (s.2.1 11), .int (s.2.1 12), .int (s.2.1 13)] : List Value).set 15 (.int y)) = mh sc rest (sG s 10 y) := rfl
set_option maxRecDepth 100000 in
theorem os_61_16 (y : Int32) : (mh sc rest s).set 61 (3, ([.ref 62, .ref 64, .ref 66, .ref 68, .ref 70, .ref 72, .ref 74, .ref 76, .ref 78, .ref 80, .ref 82, .ref 84, .ref 86, .int (s.2.1 8), .int (s.2.1 9), .int (s.2.1 10), .int (s.2.1 11), .int (s.2.1 12), .int (s.2.1 13)] : List Value).set 16 (.int y)) = mh sc rest (sG s 11 y) := rfl
set_option maxRecDepth 100000 in
theorem os_61_17 (y : Int32) : (mh sc rest s).set 61 (3, ([.ref 62, .ref 64, .ref 66, .ref 68, .ref 70, .ref 72, .ref 74, .ref 76, .ref 78, .ref 80, .ref 82, .ref 84, .ref 86, .int (s.2.1 8), .int (s.2.1 9), .int (s.2.1 10), .int (s.2.1 11), .int (s.2.1 12), .int (s.2.1 13)] : List Value).set 17 (.int y)) = mh sc rest (sG s 12 y) := rfl
set_option maxRecDepth 100000 in
theorem os_61_18 (y : Int32) : (mh sc rest s).set 61 (3, ([.ref 62, .ref 64, .ref 66, .ref 68, .ref 70, .ref 72, .ref 74, .ref 76, .ref 78, .ref 80, .ref 82, .ref 84, .ref 86, .int (s.2.1 8), .int (s.2.1 9), .int (s.2.1 10), .int (s.2.1 11), .int (s.2.1 12), .int (s.2.1 13)] : List Value).set 18 (.int y)) = mh sc rest (sG s 13 y) := rfl
theorem ob_88 : (mh sc rest s)[88]? = some (5, [.ref 89, .ref 91, .ref 93]) := rfl
theorem ob_95 : (mh sc rest s)[95]? = some (0, [.ref 96, .ref 98, .int (s.2.1 14), .int (s.2.1 15), .int (b2i (s.2.2.1 0))]) := rfl
set_option maxRecDepth 100000 in
theorem os_95_2 (y : Int32) : (mh sc rest s).set 95 (0, ([.ref 96, .ref 98, .int (s.2.1 14), .int (s.2.1 15), .int (b2i (s.2.2.1 0))] : List Value).set 2 (.int y)) = mh sc rest (sG s 14 y) := rfl
set_option maxRecDepth 100000 in
theorem os_95_3 (y : Int32) : (mh sc rest s).set 95 (0, ([.ref 96, .ref 98, .int (s.2.1 14), .int (s.2.1 15), .int (b2i (s.2.2.1 0))] : List Value).set 3 (.int y)) = mh sc rest (sG s 15 y) := rfl
set_option maxRecDepth 100000 in
theorem os_95_4 (y : Bool) : (mh sc rest s).set 95 (0, ([.ref 96, .ref 98, .int (s.2.1 14), .int (s.2.1 15), .int (b2i (s.2.2.1 0))] : List Value).set 4 (.int (b2i y))) = mh sc rest (sB s 0 y) := rfl
theorem ob_100 : (mh sc rest s)[100]? = some (6, [.ref 101]) := rfl
theorem ob_101 : (mh sc rest s)[101]? = some (2, [.ref 102, .ref 104, .ref 106, .ref 108, .int (s.2.1 16)]) := rfl
set_option maxRecDepth 100000 in
theorem os_101_4 (y : Int32) : (mh sc rest s).set 101 (2, ([.ref 102, .ref 104, .ref 106, .ref 108, .int (s.2.1 16)] : List Value).set 4 (.int y)) = mh sc rest (sG s 16 y) := rfl
theorem ob_110 : (mh sc rest s)[110]? = some (1, [.ref 111, .int (b2i (s.2.2.1 1))]) := rfl
set_option maxRecDepth 100000 in
theorem os_110_1 (y : Bool) : (mh sc rest s).set 110 (1, ([.ref 111, .int (b2i (s.2.2.1 1))] : List Value).set 1 (.int (b2i y))) = mh sc rest (sB s 1 y) := rfl
theorem ob_113 : (mh sc rest s)[113]? = some (4, []) := rfl
theorem ob_114 : (mh sc rest s)[114]? = some (8, [.ref 115, .ref 117, .ref 119]) := rfl
theorem ob_121 : (mh sc rest s)[121]? = some (9, [.ref 124, .ref 122, .int (b2i (s.2.2.1 2)), .int (s.2.1 17), .int (s.2.1 18), .int (s.2.1 19), .int (s.2.1 20), .int (s.2.1 21)]) := rfl
set_option maxRecDepth 100000 in
theorem os_121_2 (y : Bool) : (mh sc rest s).set 121 (9, ([.ref 124, .ref 122, .int (b2i (s.2.2.1 2)), .int (s.2.1 17), .int (s.2.1 18), .int (s.2.1 19), .int (s.2.1 20), .int (s.2.1 21)] : List Value).set 2 (.int (b2i y))) = mh sc rest (sB s 2 y) := rfl
set_option maxRecDepth 100000 in
theorem os_121_3 (y : Int32) : (mh sc rest s).set 121 (9, ([.ref 124, .ref 122, .int (b2i (s.2.2.1 2)), .int (s.2.1 17), .int (s.2.1 18), .int (s.2.1 19), .int (s.2.1 20), .int (s.2.1 21)] : List Value).set 3 (.int y)) = mh sc rest (sG s 17 y) := rfl
set_option maxRecDepth 100000 in
theorem os_121_4 (y : Int32) : (mh sc rest s).set 121 (9, ([.ref 124, .ref 122, .int (b2i (s.2.2.1 2)), .int (s.2.1 17), .int (s.2.1 18), .int (s.2.1 19), .int (s.2.1 20), .int (s.2.1 21)] : List Value).set 4 (.int y)) = mh sc rest (sG s 18 y) := rfl
set_option maxRecDepth 100000 in
theorem os_121_5 (y : Int32) : (mh sc rest s).set 121 (9, ([.ref 124, .ref 122, .int (b2i (s.2.2.1 2)), .int (s.2.1 17), .int (s.2.1 18), .int (s.2.1 19), .int (s.2.1 20), .int (s.2.1 21)] : List Value).set 5 (.int y)) = mh sc rest (sG s 19 y) := rfl
set_option maxRecDepth 100000 in
theorem os_121_6 (y : Int32) : (mh sc rest s).set 121 (9, ([.ref 124, .ref 122, .int (b2i (s.2.2.1 2)), .int (s.2.1 17), .int (s.2.1 18), .int (s.2.1 19), .int (s.2.1 20), .int (s.2.1 21)] : List Value).set 6 (.int y)) = mh sc rest (sG s 20 y) := rfl
set_option maxRecDepth 100000 in
theorem os_121_7 (y : Int32) : (mh sc rest s).set 121 (9, ([.ref 124, .ref 122, .int (b2i (s.2.2.1 2)), .int (s.2.1 17), .int (s.2.1 18), .int (s.2.1 19), .int (s.2.1 20), .int (s.2.1 21)] : List Value).set 7 (.int y)) = mh sc rest (sG s 21 y) := rfl
theorem ob_126 : (mh sc rest s)[126]? = some (9, [.ref 129, .ref 127, .int (b2i (s.2.2.1 3)), .int (s.2.1 22), .int (s.2.1 23), .int (s.2.1 24), .int (s.2.1 25), .int (s.2.1 26)]) := rfl
set_option maxRecDepth 100000 in
theorem os_126_2 (y : Bool) : (mh sc rest s).set 126 (9, ([.ref 129, .ref 127, .int (b2i (s.2.2.1 3)), .int (s.2.1 22), .int (s.2.1 23), .int (s.2.1 24), .int (s.2.1 25), .int (s.2.1 26)] : List Value).set 2 (.int (b2i y))) = mh sc rest (sB s 3 y) := rfl
set_option maxRecDepth 100000 in
theorem os_126_3 (y : Int32) : (mh sc rest s).set 126 (9, ([.ref 129, .ref 127, .int (b2i (s.2.2.1 3)), .int (s.2.1 22), .int (s.2.1 23), .int (s.2.1 24), .int (s.2.1 25), .int (s.2.1 26)] : List Value).set 3 (.int y)) = mh sc rest (sG s 22 y) := rfl
set_option maxRecDepth 100000 in
theorem os_126_4 (y : Int32) : (mh sc rest s).set 126 (9, ([.ref 129, .ref 127, .int (b2i (s.2.2.1 3)), .int (s.2.1 22), .int (s.2.1 23), .int (s.2.1 24), .int (s.2.1 25), .int (s.2.1 26)] : List Value).set 4 (.int y)) = mh sc rest (sG s 23 y) := rfl
set_option maxRecDepth 100000 in
theorem os_126_5 (y : Int32) : (mh sc rest s).set 126 (9, ([.ref 129, .ref 127, .int (b2i (s.2.2.1 3)), .int (s.2.1 22), .int (s.2.1 23), .int (s.2.1 24), .int (s.2.1 25), .int (s.2.1 26)] : List Value).set 5 (.int y)) = mh sc rest (sG s 24 y) := rfl
set_option maxRecDepth 100000 in
theorem os_126_6 (y : Int32) : (mh sc rest s).set 126 (9, ([.ref 129, .ref 127, .int (b2i (s.2.2.1 3)), .int (s.2.1 22), .int (s.2.1 23), .int (s.2.1 24), .int (s.2.1 25), .int (s.2.1 26)] : List Value).set 6 (.int y)) = mh sc rest (sG s 25 y) := rfl
set_option maxRecDepth 100000 in
theorem os_126_7 (y : Int32) : (mh sc rest s).set 126 (9, ([.ref 129, .ref 127, .int (b2i (s.2.2.1 3)), .int (s.2.1 22), .int (s.2.1 23), .int (s.2.1 24), .int (s.2.1 25), .int (s.2.1 26)] : List Value).set 7 (.int y)) = mh sc rest (sG s 26 y) := rfl
theorem ob_131 : (mh sc rest s)[131]? = some (9, [.ref 134, .ref 132, .int (b2i (s.2.2.1 4)), .int (s.2.1 27), .int (s.2.1 28), .int (s.2.1 29), .int (s.2.1 30), .int (s.2.1 31)]) := rfl
set_option maxRecDepth 100000 in
theorem os_131_2 (y : Bool) : (mh sc rest s).set 131 (9, ([.ref 134, .ref 132, .int (b2i (s.2.2.1 4)), .int (s.2.1 27), .int (s.2.1 28), .int (s.2.1 29), .int (s.2.1 30), .int (s.2.1 31)] : List Value).set 2 (.int (b2i y))) = mh sc rest (sB s 4 y) := rfl
set_option maxRecDepth 100000 in
theorem os_131_3 (y : Int32) : (mh sc rest s).set 131 (9, ([.ref 134, .ref 132, .int (b2i (s.2.2.1 4)), .int (s.2.1 27), .int (s.2.1 28), .int (s.2.1 29), .int (s.2.1 30), .int (s.2.1 31)] : List Value).set 3 (.int y)) = mh sc rest (sG s 27 y) := rfl
set_option maxRecDepth 100000 in
theorem os_131_4 (y : Int32) : (mh sc rest s).set 131 (9, ([.ref 134, .ref 132, .int (b2i (s.2.2.1 4)), .int (s.2.1 27), .int (s.2.1 28), .int (s.2.1 29), .int (s.2.1 30), .int (s.2.1 31)] : List Value).set 4 (.int y)) = mh sc rest (sG s 28 y) := rfl
set_option maxRecDepth 100000 in
theorem os_131_5 (y : Int32) : (mh sc rest s).set 131 (9, ([.ref 134, .ref 132, .int (b2i (s.2.2.1 4)), .int (s.2.1 27), .int (s.2.1 28), .int (s.2.1 29), .int (s.2.1 30), .int (s.2.1 31)] : List Value).set 5 (.int y)) = mh sc rest (sG s 29 y) := rfl
set_option maxRecDepth 100000 in
theorem os_131_6 (y : Int32) : (mh sc rest s).set 131 (9, ([.ref 134, .ref 132, .int (b2i (s.2.2.1 4)), .int (s.2.1 27), .int (s.2.1 28), .int (s.2.1 29), .int (s.2.1 30), .int (s.2.1 31)] : List Value).set 6 (.int y)) = mh sc rest (sG s 30 y) := rfl
set_option maxRecDepth 100000 in
theorem os_131_7 (y : Int32) : (mh sc rest s).set 131 (9, ([.ref 134, .ref 132, .int (b2i (s.2.2.1 4)), .int (s.2.1 27), .int (s.2.1 28), .int (s.2.1 29), .int (s.2.1 30), .int (s.2.1 31)] : List Value).set 7 (.int y)) = mh sc rest (sG s 31 y) := rfl
end LAY
