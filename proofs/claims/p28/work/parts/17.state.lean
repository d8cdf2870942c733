/-! THE STATE: bundles of rows, whole numbers and truths; the long costs; and its cells -/
abbrev Ob : Type := (Nat → Nat → Int32) × (Nat → Int32) × (Nat → Bool)
def b2i (b : Bool) : Int32 := if b then 1 else 0
def oR (s : Ob) (i : Nat) (f : Nat → Int32) : Ob := (fun j => if j = i then f else s.1 j, s.2)
def oG (s : Ob) (i : Nat) (x : Int32) : Ob := (s.1, fun j => if j = i then x else s.2.1 j, s.2.2)
def oB (s : Ob) (i : Nat) (x : Bool) : Ob := (s.1, s.2.1, fun j => if j = i then x else s.2.2 j)
def oat (s : Ob) (i n : Nat) (k : Int32) : Int32 := rat n (s.1 i) k
def oput (s : Ob) (i n : Nat) (k y : Int32) : Ob := oR s i (rput n (s.1 i) k y)
def ofil (s : Ob) (i : Nat) (y : Int32) : Ob := oR s i (fun _ => y)
def hp (to fl ma tr mk cn nu de ru la tb tf ph : Ob) (cs : Int64) : List mmC := [(11, [.ref 2, .ref 34, .ref 61, .ref 88, .ref 95, .ref 100, .ref 110, .ref 113, .ref 114, .ref 121, .ref 126, .ref 131, .int (b2i (ph.2.2 0)), .int (ph.2.1 0), .long cs]), (10, [.ref 3, .ref 5, .ref 7, .ref 9, .ref 11, .ref 13, .ref 15, .ref 17, .ref 19, .ref 21, .ref 23, .ref 25, .int (to.2.1 0)]), (7, [.ref 4]), (1000, mmIR (to.1 0) 10), (7, [.ref 6]), (1000, mmIR (to.1 1) 80), (7, [.ref 8]), (1000, mmIR (to.1 2) 80), (7, [.ref 10]), (1000, mmIR (to.1 3) 80), (7, [.ref 12]), (1000, mmIR (to.1 4) 80), (7, [.ref 14]), (1000, mmIR (to.1 5) 10), (7, [.ref 16]), (1000, mmIR (to.1 6) 10), (7, [.ref 18]), (1000, mmIR (to.1 7) 20), (7, [.ref 20]), (1000, mmIR (to.1 8) 10), (7, [.ref 22]), (1000, mmIR (to.1 9) 10), (7, [.ref 24]), (1000, mmIR (to.1 10) 10), (2, [.ref 26, .ref 28, .ref 30, .ref 32, .int (fl.2.1 0)]), (7, [.ref 27]), (1000, mmIR (fl.1 0) 10), (7, [.ref 29]), (1000, mmIR (fl.1 1) 10), (7, [.ref 31]), (1000, mmIR (fl.1 2) 10), (7, [.ref 33]), (1000, mmIR (fl.1 3) 10), (3, [.ref 35, .ref 37, .ref 39, .ref 41, .ref 43, .ref 45, .ref 47, .ref 49, .ref 51, .ref 53, .ref 55, .ref 57, .ref 59, .int (ma.2.1 0), .int (ma.2.1 1), .int (ma.2.1 2), .int (ma.2.1 3), .int (ma.2.1 4), .int (ma.2.1 5)]), (7, [.ref 36]), (1000, mmIR (ma.1 0) 140), (7, [.ref 38]), (1000, mmIR (ma.1 1) 140), (7, [.ref 40]), (1000, mmIR (ma.1 2) 140), (7, [.ref 42]), (1000, mmIR (ma.1 3) 150), (7, [.ref 44]), (1000, mmIR (ma.1 4) 150), (7, [.ref 46]), (1000, mmIR (ma.1 5) 290), (7, [.ref 48]), (1000, mmIR (ma.1 6) 290), (7, [.ref 50]), (1000, mmIR (ma.1 7) 10), (7, [.ref 52]), (1000, mmIR (ma.1 8) 1400), (7, [.ref 54]), (1000, mmIR (ma.1 9) 10), (7, [.ref 56]), (1000, mmIR (ma.1 10) 200), (7, [.ref 58]), (1000, mmIR (ma.1 11) 10), (7, [.ref 60]), (1000, mmIR (ma.1 12) 20), (3, [.ref 62, .ref 64, .ref 66, .ref 68, .ref 70, .ref 72, .ref 74, .ref 76, .ref 78, .ref 80, .ref 82, .ref 84, .ref 86, .int (tr.2.1 0), .int (tr.2.1 1), .int (tr.2.1 2), .int (tr.2.1 3), .int (tr.2.1 4), .int (tr.2.1 5)]), (7, [.ref 63]), (1000, mmIR (tr.1 0) 140), (7, [.ref 65]), (1000, mmIR (tr.1 1) 140), (7, [.ref 67]), (1000, mmIR (tr.1 2) 140), (7, [.ref 69]), (1000, mmIR (tr.1 3) 150), (7, [.ref 71]), (1000, mmIR (tr.1 4) 150), (7, [.ref 73]), (1000, mmIR (tr.1 5) 290), (7, [.ref 75]), (1000, mmIR (tr.1 6) 290), (7, [.ref 77]), (1000, mmIR (tr.1 7) 10), (7, [.ref 79]), (1000, mmIR (tr.1 8) 1400), (7, [.ref 81]), (1000, mmIR (tr.1 9) 10), (7, [.ref 83]), (1000, mmIR (tr.1 10) 200), (7, [.ref 85]), (1000, mmIR (tr.1 11) 10), (7, [.ref 87]), (1000, mmIR (tr.1 12) 20), (5, [.ref 89, .ref 91, .ref 93]), (7, [.ref 90]), (1000, mmIR (mk.1 0) 60), (7, [.ref 92]), (1000, mmIR (mk.1 1) 60), (7, [.ref 94]), (1000, mmIR (mk.1 2) 10), (0, [.ref 96, .ref 98, .int (cn.2.1 0), .int (cn.2.1 1), .int (b2i (cn.2.2 0))]), (7, [.ref 97]), (1000, mmIR (cn.1 0) 140), (7, [.ref 99]), (1000, mmIR (cn.1 1) 140), (6, [.ref 101]), (2, [.ref 102, .ref 104, .ref 106, .ref 108, .int (nu.2.1 0)]), (7, [.ref 103]), (1000, mmIR (nu.1 0) 10), (7, [.ref 105]), (1000, mmIR (nu.1 1) 10), (7, [.ref 107]), (1000, mmIR (nu.1 2) 10), (7, [.ref 109]), (1000, mmIR (nu.1 3) 10), (1, [.ref 111, .int (b2i (de.2.2 0))]), (7, [.ref 112]), (1000, mmIR (de.1 0) 140), (4, []), (8, [.ref 115, .ref 117, .ref 119]), (7, [.ref 116]), (1000, mmIR (ru.1 0) 6), (7, [.ref 118]), (1000, mmIR (ru.1 1) 140), (7, [.ref 120]), (1000, mmIR (ru.1 2) 140), (9, [.ref 124, .ref 122, .int (b2i (la.2.2 0)), .int (la.2.1 0), .int (la.2.1 1), .int (la.2.1 2), .int (la.2.1 3), .int (la.2.1 4)]), (7, [.ref 123]), (1000, mmIR (la.1 0) 8), (7, [.ref 125]), (1000, mmIR (la.1 1) 60), (9, [.ref 129, .ref 127, .int (b2i (tb.2.2 0)), .int (tb.2.1 0), .int (tb.2.1 1), .int (tb.2.1 2), .int (tb.2.1 3), .int (tb.2.1 4)]), (7, [.ref 128]), (1000, mmIR (tb.1 0) 8), (7, [.ref 130]), (1000, mmIR (tb.1 1) 2408), (9, [.ref 134, .ref 132, .int (b2i (tf.2.2 0)), .int (tf.2.1 0), .int (tf.2.1 1), .int (tf.2.1 2), .int (tf.2.1 3), .int (tf.2.1 4)]), (7, [.ref 133]), (1000, mmIR (tf.1 0) 8), (7, [.ref 135]), (1000, mmIR (tf.1 1) 2408)]
def mh (sc : mmC) (rest : List mmC) (to fl ma tr mk cn nu de ru la tb tf ph : Ob) (cs : Int64) : List mmC := sc :: (hp to fl ma tr mk cn nu de ru la tb tf ph cs ++ rest)
section LAY
variable (sc : mmC) (rest : List mmC) (to fl ma tr mk cn nu de ru la tb tf ph : Ob) (cs : Int64)
theorem ro_3 : (mh sc rest to fl ma tr mk cn nu de ru la tb tf ph cs)[3]? = some (7, [.ref 4]) := rfl
theorem ra_3 : (mh sc rest to fl ma tr mk cn nu de ru la tb tf ph cs)[4]? = some (1000, mmIR (to.1 0) 10) := rfl
set_option maxRecDepth 100000 in
theorem rs_3 (f : Nat → Int32) : (mh sc rest to fl ma tr mk cn nu de ru la tb tf ph cs).set 4 (1000, mmIR f 10) = mh sc rest (oR to 0 f) fl ma tr mk cn nu de ru la tb tf ph cs := rfl
theorem ro_5 : (mh sc rest to fl ma tr mk cn nu de ru la tb tf ph cs)[5]? = some (7, [.ref 6]) := rfl
theorem ra_5 : (mh sc rest to fl ma tr mk cn nu de ru la tb tf ph cs)[6]? = some (1000, mmIR (to.1 1) 80) := rfl
set_option maxRecDepth 100000 in
theorem rs_5 (f : Nat → Int32) : (mh sc rest to fl ma tr mk cn nu de ru la tb tf ph cs).set 6 (1000, mmIR f 80) = mh sc rest (oR to 1 f) fl ma tr mk cn nu de ru la tb tf ph cs := rfl
theorem ro_7 : (mh sc rest to fl ma tr mk cn nu de ru la tb tf ph cs)[7]? = some (7, [.ref 8]) := rfl
theorem ra_7 : (mh sc rest to fl ma tr mk cn nu de ru la tb tf ph cs)[8]? = some (1000, mmIR (to.1 2) 80) := rfl
set_option maxRecDepth 100000 in
theorem rs_7 (f : Nat → Int32) : (mh sc rest to fl ma tr mk cn nu de ru la tb tf ph cs).set 8 (1000, mmIR f 80) = mh sc rest (oR to 2 f) fl ma tr mk cn nu de ru la tb tf ph cs := rfl
theorem ro_9 : (mh sc rest to fl ma tr mk cn nu de ru la tb tf ph cs)[9]? = some (7, [.ref 10]) := rfl
theorem ra_9 : (mh sc rest to fl ma tr mk cn nu de ru la tb tf ph cs)[10]? = some (1000, mmIR (to.1 3) 80) := rfl
set_option maxRecDepth 100000 in
theorem rs_9 (f : Nat → Int32) : (mh sc rest to fl ma tr mk cn nu de ru la tb tf ph cs).set 10 (1000, mmIR f 80) = mh sc rest (oR to 3 f) fl ma tr mk cn nu de ru la tb tf ph cs := rfl
theorem ro_11 : (mh sc rest to fl ma tr mk cn nu de ru la tb tf ph cs)[11]? = some (7, [.ref 12]) := rfl
theorem ra_11 : (mh sc rest to fl ma tr mk cn nu de ru la tb tf ph cs)[12]? = some (1000, mmIR (to.1 4) 80) := rfl
set_option maxRecDepth 100000 in
theorem rs_11 (f : Nat → Int32) : (mh sc rest to fl ma tr mk cn nu de ru la tb tf ph cs).set 12 (1000, mmIR f 80) = mh sc rest (oR to 4 f) fl ma tr mk cn nu de ru la tb tf ph cs := rfl
theorem ro_13 : (mh sc rest to fl ma tr mk cn nu de ru la tb tf ph cs)[13]? = some (7, [.ref 14]) := rfl
theorem ra_13 : (mh sc rest to fl ma tr mk cn nu de ru la tb tf ph cs)[14]? = some (1000, mmIR (to.1 5) 10) := rfl
set_option maxRecDepth 100000 in
theorem rs_13 (f : Nat → Int32) : (mh sc rest to fl ma tr mk cn nu de ru la tb tf ph cs).set 14 (1000, mmIR f 10) = mh sc rest (oR to 5 f) fl ma tr mk cn nu de ru la tb tf ph cs := rfl
theorem ro_15 : (mh sc rest to fl ma tr mk cn nu de ru la tb tf ph cs)[15]? = some (7, [.ref 16]) := rfl
theorem ra_15 : (mh sc rest to fl ma tr mk cn nu de ru la tb tf ph cs)[16]? = some (1000, mmIR (to.1 6) 10) := rfl
set_option maxRecDepth 100000 in
theorem rs_15 (f : Nat → Int32) : (mh sc rest to fl ma tr mk cn nu de ru la tb tf ph cs).set 16 (1000, mmIR f 10) = mh sc rest (oR to 6 f) fl ma tr mk cn nu de ru la tb tf ph cs := rfl
theorem ro_17 : (mh sc rest to fl ma tr mk cn nu de ru la tb tf ph cs)[17]? = some (7, [.ref 18]) := rfl
theorem ra_17 : (mh sc rest to fl ma tr mk cn nu de ru la tb tf ph cs)[18]? = some (1000, mmIR (to.1 7) 20) := rfl
set_option maxRecDepth 100000 in
theorem rs_17 (f : Nat → Int32) : (mh sc rest to fl ma tr mk cn nu de ru la tb tf ph cs).set 18 (1000, mmIR f 20) = mh sc rest (oR to 7 f) fl ma tr mk cn nu de ru la tb tf ph cs := rfl
theorem ro_19 : (mh sc rest to fl ma tr mk cn nu de ru la tb tf ph cs)[19]? = some (7, [.ref 20]) := rfl
theorem ra_19 : (mh sc rest to fl ma tr mk cn nu de ru la tb tf ph cs)[20]? = some (1000, mmIR (to.1 8) 10) := rfl
set_option maxRecDepth 100000 in
theorem rs_19 (f : Nat → Int32) : (mh sc rest to fl ma tr mk cn nu de ru la tb tf ph cs).set 20 (1000, mmIR f 10) = mh sc rest (oR to 8 f) fl ma tr mk cn nu de ru la tb tf ph cs := rfl
theorem ro_21 : (mh sc rest to fl ma tr mk cn nu de ru la tb tf ph cs)[21]? = some (7, [.ref 22]) := rfl
theorem ra_21 : (mh sc rest to fl ma tr mk cn nu de ru la tb tf ph cs)[22]? = some (1000, mmIR (to.1 9) 10) := rfl
set_option maxRecDepth 100000 in
theorem rs_21 (f : Nat → Int32) : (mh sc rest to fl ma tr mk cn nu de ru la tb tf ph cs).set 22 (1000, mmIR f 10) = mh sc rest (oR to 9 f) fl ma tr mk cn nu de ru la tb tf ph cs := rfl
theorem ro_23 : (mh sc rest to fl ma tr mk cn nu de ru la tb tf ph cs)[23]? = some (7, [.ref 24]) := rfl
theorem ra_23 : (mh sc rest to fl ma tr mk cn nu de ru la tb tf ph cs)[24]? = some (1000, mmIR (to.1 10) 10) := rfl
set_option maxRecDepth 100000 in
theorem rs_23 (f : Nat → Int32) : (mh sc rest to fl ma tr mk cn nu de ru la tb tf ph cs).set 24 (1000, mmIR f 10) = mh sc rest (oR to 10 f) fl ma tr mk cn nu de ru la tb tf ph cs := rfl
theorem ro_26 : (mh sc rest to fl ma tr mk cn nu de ru la tb tf ph cs)[26]? = some (7, [.ref 27]) := rfl
theorem ra_26 : (mh sc rest to fl ma tr mk cn nu de ru la tb tf ph cs)[27]? = some (1000, mmIR (fl.1 0) 10) := rfl
set_option maxRecDepth 100000 in
theorem rs_26 (f : Nat → Int32) : (mh sc rest to fl ma tr mk cn nu de ru la tb tf ph cs).set 27 (1000, mmIR f 10) = mh sc rest to (oR fl 0 f) ma tr mk cn nu de ru la tb tf ph cs := rfl
theorem ro_28 : (mh sc rest to fl ma tr mk cn nu de ru la tb tf ph cs)[28]? = some (7, [.ref 29]) := rfl
theorem ra_28 : (mh sc rest to fl ma tr mk cn nu de ru la tb tf ph cs)[29]? = some (1000, mmIR (fl.1 1) 10) := rfl
set_option maxRecDepth 100000 in
theorem rs_28 (f : Nat → Int32) : (mh sc rest to fl ma tr mk cn nu de ru la tb tf ph cs).set 29 (1000, mmIR f 10) = mh sc rest to (oR fl 1 f) ma tr mk cn nu de ru la tb tf ph cs := rfl
theorem ro_30 : (mh sc rest to fl ma tr mk cn nu de ru la tb tf ph cs)[30]? = some (7, [.ref 31]) := rfl
theorem ra_30 : (mh sc rest to fl ma tr mk cn nu de ru la tb tf ph cs)[31]? = some (1000, mmIR (fl.1 2) 10) := rfl
set_option maxRecDepth 100000 in
theorem rs_30 (f : Nat → Int32) : (mh sc rest to fl ma tr mk cn nu de ru la tb tf ph cs).set 31 (1000, mmIR f 10) = mh sc rest to (oR fl 2 f) ma tr mk cn nu de ru la tb tf ph cs := rfl
theorem ro_32 : (mh sc rest to fl ma tr mk cn nu de ru la tb tf ph cs)[32]? = some (7, [.ref 33]) := rfl
theorem ra_32 : (mh sc rest to fl ma tr mk cn nu de ru la tb tf ph cs)[33]? = some (1000, mmIR (fl.1 3) 10) := rfl
set_option maxRecDepth 100000 in
theorem rs_32 (f : Nat → Int32) : (mh sc rest to fl ma tr mk cn nu de ru la tb tf ph cs).set 33 (1000, mmIR f 10) = mh sc rest to (oR fl 3 f) ma tr mk cn nu de ru la tb tf ph cs := rfl
theorem ro_35 : (mh sc rest to fl ma tr mk cn nu de ru la tb tf ph cs)[35]? = some (7, [.ref 36]) := rfl
theorem ra_35 : (mh sc rest to fl ma tr mk cn nu de ru la tb tf ph cs)[36]? = some (1000, mmIR (ma.1 0) 140) := rfl
set_option maxRecDepth 100000 in
theorem rs_35 (f : Nat → Int32) : (mh sc rest to fl ma tr mk cn nu de ru la tb tf ph cs).set 36 (1000, mmIR f 140) = mh sc rest to fl (oR ma 0 f) tr mk cn nu de ru la tb tf ph cs := rfl
theorem ro_37 : (mh sc rest to fl ma tr mk cn nu de ru la tb tf ph cs)[37]? = some (7, [.ref 38]) := rfl
theorem ra_37 : (mh sc rest to fl ma tr mk cn nu de ru la tb tf ph cs)[38]? = some (1000, mmIR (ma.1 1) 140) := rfl
set_option maxRecDepth 100000 in
theorem rs_37 (f : Nat → Int32) : (mh sc rest to fl ma tr mk cn nu de ru la tb tf ph cs).set 38 (1000, mmIR f 140) = mh sc rest to fl (oR ma 1 f) tr mk cn nu de ru la tb tf ph cs := rfl
theorem ro_39 : (mh sc rest to fl ma tr mk cn nu de ru la tb tf ph cs)[39]? = some (7, [.ref 40]) := rfl
theorem ra_39 : (mh sc rest to fl ma tr mk cn nu de ru la tb tf ph cs)[40]? = some (1000, mmIR (ma.1 2) 140) := rfl
set_option maxRecDepth 100000 in
theorem rs_39 (f : Nat → Int32) : (mh sc rest to fl ma tr mk cn nu de ru la tb tf ph cs).set 40 (1000, mmIR f 140) = mh sc rest to fl (oR ma 2 f) tr mk cn nu de ru la tb tf ph cs := rfl
theorem ro_41 : (mh sc rest to fl ma tr mk cn nu de ru la tb tf ph cs)[41]? = some (7, [.ref 42]) := rfl
theorem ra_41 : (mh sc rest to fl ma tr mk cn nu de ru la tb tf ph cs)[42]? = some (1000, mmIR (ma.1 3) 150) := rfl
set_option maxRecDepth 100000 in
theorem rs_41 (f : Nat → Int32) : (mh sc rest to fl ma tr mk cn nu de ru la tb tf ph cs).set 42 (1000, mmIR f 150) = mh sc rest to fl (oR ma 3 f) tr mk cn nu de ru la tb tf ph cs := rfl
theorem ro_43 : (mh sc rest to fl ma tr mk cn nu de ru la tb tf ph cs)[43]? = some (7, [.ref 44]) := rfl
theorem ra_43 : (mh sc rest to fl ma tr mk cn nu de ru la tb tf ph cs)[44]? = some (1000, mmIR (ma.1 4) 150) := rfl
set_option maxRecDepth 100000 in
theorem rs_43 (f : Nat → Int32) : (mh sc rest to fl ma tr mk cn nu de ru la tb tf ph cs).set 44 (1000, mmIR f 150) = mh sc rest to fl (oR ma 4 f) tr mk cn nu de ru la tb tf ph cs := rfl
theorem ro_45 : (mh sc rest to fl ma tr mk cn nu de ru la tb tf ph cs)[45]? = some (7, [.ref 46]) := rfl
theorem ra_45 : (mh sc rest to fl ma tr mk cn nu de ru la tb tf ph cs)[46]? = some (1000, mmIR (ma.1 5) 290) := rfl
set_option maxRecDepth 100000 in
theorem rs_45 (f : Nat → Int32) : (mh sc rest to fl ma tr mk cn nu de ru la tb tf ph cs).set 46 (1000, mmIR f 290) = mh sc rest to fl (oR ma 5 f) tr mk cn nu de ru la tb tf ph cs := rfl
theorem ro_47 : (mh sc rest to fl ma tr mk cn nu de ru la tb tf ph cs)[47]? = some (7, [.ref 48]) := rfl
theorem ra_47 : (mh sc rest to fl ma tr mk cn nu de ru la tb tf ph cs)[48]? = some (1000, mmIR (ma.1 6) 290) := rfl
set_option maxRecDepth 100000 in
theorem rs_47 (f : Nat → Int32) : (mh sc rest to fl ma tr mk cn nu de ru la tb tf ph cs).set 48 (1000, mmIR f 290) = mh sc rest to fl (oR ma 6 f) tr mk cn nu de ru la tb tf ph cs := rfl
theorem ro_49 : (mh sc rest to fl ma tr mk cn nu de ru la tb tf ph cs)[49]? = some (7, [.ref 50]) := rfl
theorem ra_49 : (mh sc rest to fl ma tr mk cn nu de ru la tb tf ph cs)[50]? = some (1000, mmIR (ma.1 7) 10) := rfl
set_option maxRecDepth 100000 in
theorem rs_49 (f : Nat → Int32) : (mh sc rest to fl ma tr mk cn nu de ru la tb tf ph cs).set 50 (1000, mmIR f 10) = mh sc rest to fl (oR ma 7 f) tr mk cn nu de ru la tb tf ph cs := rfl
theorem ro_51 : (mh sc rest to fl ma tr mk cn nu de ru la tb tf ph cs)[51]? = some (7, [.ref 52]) := rfl
theorem ra_51 : (mh sc rest to fl ma tr mk cn nu de ru la tb tf ph cs)[52]? = some (1000, mmIR (ma.1 8) 1400) := rfl
set_option maxRecDepth 100000 in
theorem rs_51 (f : Nat → Int32) : (mh sc rest to fl ma tr mk cn nu de ru la tb tf ph cs).set 52 (1000, mmIR f 1400) = mh sc rest to fl (oR ma 8 f) tr mk cn nu de ru la tb tf ph cs := rfl
theorem ro_53 : (mh sc rest to fl ma tr mk cn nu de ru la tb tf ph cs)[53]? = some (7, [.ref 54]) := rfl
theorem ra_53 : (mh sc rest to fl ma tr mk cn nu de ru la tb tf ph cs)[54]? = some (1000, mmIR (ma.1 9) 10) := rfl
set_option maxRecDepth 100000 in
theorem rs_53 (f : Nat → Int32) : (mh sc rest to fl ma tr mk cn nu de ru la tb tf ph cs).set 54 (1000, mmIR f 10) = mh sc rest to fl (oR ma 9 f) tr mk cn nu de ru la tb tf ph cs := rfl
theorem ro_55 : (mh sc rest to fl ma tr mk cn nu de ru la tb tf ph cs)[55]? = some (7, [.ref 56]) := rfl
theorem ra_55 : (mh sc rest to fl ma tr mk cn nu de ru la tb tf ph cs)[56]? = some (1000, mmIR (ma.1 10) 200) := rfl
set_option maxRecDepth 100000 in
theorem rs_55 (f : Nat → Int32) : (mh sc rest to fl ma tr mk cn nu de ru la tb tf ph cs).set 56 (1000, mmIR f 200) = mh sc rest to fl (oR ma 10 f) tr mk cn nu de ru la tb tf ph cs := rfl
theorem ro_57 : (mh sc rest to fl ma tr mk cn nu de ru la tb tf ph cs)[57]? = some (7, [.ref 58]) := rfl
theorem ra_57 : (mh sc rest to fl ma tr mk cn nu de ru la tb tf ph cs)[58]? = some (1000, mmIR (ma.1 11) 10) := rfl
set_option maxRecDepth 100000 in
theorem rs_57 (f : Nat → Int32) : (mh sc rest to fl ma tr mk cn nu de ru la tb tf ph cs).set 58 (1000, mmIR f 10) = mh sc rest to fl (oR ma 11 f) tr mk cn nu de ru la tb tf ph cs := rfl
theorem ro_59 : (mh sc rest to fl ma tr mk cn nu de ru la tb tf ph cs)[59]? = some (7, [.ref 60]) := rfl
theorem ra_59 : (mh sc rest to fl ma tr mk cn nu de ru la tb tf ph cs)[60]? = some (1000, mmIR (ma.1 12) 20) := rfl
set_option maxRecDepth 100000 in
theorem rs_59 (f : Nat → Int32) : (mh sc rest to fl ma tr mk cn nu de ru la tb tf ph cs).set 60 (1000, mmIR f 20) = mh sc rest to fl (oR ma 12 f) tr mk cn nu de ru la tb tf ph cs := rfl
theorem ro_62 : (mh sc rest to fl ma tr mk cn nu de ru la tb tf ph cs)[62]? = some (7, [.ref 63]) := rfl
theorem ra_62 : (mh sc rest to fl ma tr mk cn nu de ru la tb tf ph cs)[63]? = some (1000, mmIR (tr.1 0) 140) := rfl
set_option maxRecDepth 100000 in
theorem rs_62 (f : Nat → Int32) : (mh sc rest to fl ma tr mk cn nu de ru la tb tf ph cs).set 63 (1000, mmIR f 140) = mh sc rest to fl ma (oR tr 0 f) mk cn nu de ru la tb tf ph cs := rfl
theorem ro_64 : (mh sc rest to fl ma tr mk cn nu de ru la tb tf ph cs)[64]? = some (7, [.ref 65]) := rfl
theorem ra_64 : (mh sc rest to fl ma tr mk cn nu de ru la tb tf ph cs)[65]? = some (1000, mmIR (tr.1 1) 140) := rfl
set_option maxRecDepth 100000 in
theorem rs_64 (f : Nat → Int32) : (mh sc rest to fl ma tr mk cn nu de ru la tb tf ph cs).set 65 (1000, mmIR f 140) = mh sc rest to fl ma (oR tr 1 f) mk cn nu de ru la tb tf ph cs := rfl
theorem ro_66 : (mh sc rest to fl ma tr mk cn nu de ru la tb tf ph cs)[66]? = some (7, [.ref 67]) := rfl
theorem ra_66 : (mh sc rest to fl ma tr mk cn nu de ru la tb tf ph cs)[67]? = some (1000, mmIR (tr.1 2) 140) := rfl
set_option maxRecDepth 100000 in
theorem rs_66 (f : Nat → Int32) : (mh sc rest to fl ma tr mk cn nu de ru la tb tf ph cs).set 67 (1000, mmIR f 140) = mh sc rest to fl ma (oR tr 2 f) mk cn nu de ru la tb tf ph cs := rfl
theorem ro_68 : (mh sc rest to fl ma tr mk cn nu de ru la tb tf ph cs)[68]? = some (7, [.ref 69]) := rfl
theorem ra_68 : (mh sc rest to fl ma tr mk cn nu de ru la tb tf ph cs)[69]? = some (1000, mmIR (tr.1 3) 150) := rfl
set_option maxRecDepth 100000 in
theorem rs_68 (f : Nat → Int32) : (mh sc rest to fl ma tr mk cn nu de ru la tb tf ph cs).set 69 (1000, mmIR f 150) = mh sc rest to fl ma (oR tr 3 f) mk cn nu de ru la tb tf ph cs := rfl
theorem ro_70 : (mh sc rest to fl ma tr mk cn nu de ru la tb tf ph cs)[70]? = some (7, [.ref 71]) := rfl
theorem ra_70 : (mh sc rest to fl ma tr mk cn nu de ru la tb tf ph cs)[71]? = some (1000, mmIR (tr.1 4) 150) := rfl
set_option maxRecDepth 100000 in
theorem rs_70 (f : Nat → Int32) : (mh sc rest to fl ma tr mk cn nu de ru la tb tf ph cs).set 71 (1000, mmIR f 150) = mh sc rest to fl ma (oR tr 4 f) mk cn nu de ru la tb tf ph cs := rfl
theorem ro_72 : (mh sc rest to fl ma tr mk cn nu de ru la tb tf ph cs)[72]? = some (7, [.ref 73]) := rfl
theorem ra_72 : (mh sc rest to fl ma tr mk cn nu de ru la tb tf ph cs)[73]? = some (1000, mmIR (tr.1 5) 290) := rfl
set_option maxRecDepth 100000 in
theorem rs_72 (f : Nat → Int32) : (mh sc rest to fl ma tr mk cn nu de ru la tb tf ph cs).set 73 (1000, mmIR f 290) = mh sc rest to fl ma (oR tr 5 f) mk cn nu de ru la tb tf ph cs := rfl
theorem ro_74 : (mh sc rest to fl ma tr mk cn nu de ru la tb tf ph cs)[74]? = some (7, [.ref 75]) := rfl
theorem ra_74 : (mh sc rest to fl ma tr mk cn nu de ru la tb tf ph cs)[75]? = some (1000, mmIR (tr.1 6) 290) := rfl
set_option maxRecDepth 100000 in
theorem rs_74 (f : Nat → Int32) : (mh sc rest to fl ma tr mk cn nu de ru la tb tf ph cs).set 75 (1000, mmIR f 290) = mh sc rest to fl ma (oR tr 6 f) mk cn nu de ru la tb tf ph cs := rfl
theorem ro_76 : (mh sc rest to fl ma tr mk cn nu de ru la tb tf ph cs)[76]? = some (7, [.ref 77]) := rfl
theorem ra_76 : (mh sc rest to fl ma tr mk cn nu de ru la tb tf ph cs)[77]? = some (1000, mmIR (tr.1 7) 10) := rfl
set_option maxRecDepth 100000 in
theorem rs_76 (f : Nat → Int32) : (mh sc rest to fl ma tr mk cn nu de ru la tb tf ph cs).set 77 (1000, mmIR f 10) = mh sc rest to fl ma (oR tr 7 f) mk cn nu de ru la tb tf ph cs := rfl
theorem ro_78 : (mh sc rest to fl ma tr mk cn nu de ru la tb tf ph cs)[78]? = some (7, [.ref 79]) := rfl
theorem ra_78 : (mh sc rest to fl ma tr mk cn nu de ru la tb tf ph cs)[79]? = some (1000, mmIR (tr.1 8) 1400) := rfl
set_option maxRecDepth 100000 in
theorem rs_78 (f : Nat → Int32) : (mh sc rest to fl ma tr mk cn nu de ru la tb tf ph cs).set 79 (1000, mmIR f 1400) = mh sc rest to fl ma (oR tr 8 f) mk cn nu de ru la tb tf ph cs := rfl
theorem ro_80 : (mh sc rest to fl ma tr mk cn nu de ru la tb tf ph cs)[80]? = some (7, [.ref 81]) := rfl
theorem ra_80 : (mh sc rest to fl ma tr mk cn nu de ru la tb tf ph cs)[81]? = some (1000, mmIR (tr.1 9) 10) := rfl
set_option maxRecDepth 100000 in
theorem rs_80 (f : Nat → Int32) : (mh sc rest to fl ma tr mk cn nu de ru la tb tf ph cs).set 81 (1000, mmIR f 10) = mh sc rest to fl ma (oR tr 9 f) mk cn nu de ru la tb tf ph cs := rfl
theorem ro_82 : (mh sc rest to fl ma tr mk cn nu de ru la tb tf ph cs)[82]? = some (7, [.ref 83]) := rfl
theorem ra_82 : (mh sc rest to fl ma tr mk cn nu de ru la tb tf ph cs)[83]? = some (1000, mmIR (tr.1 10) 200) := rfl
set_option maxRecDepth 100000 in
theorem rs_82 (f : Nat → Int32) : (mh sc rest to fl ma tr mk cn nu de ru la tb tf ph cs).set 83 (1000, mmIR f 200) = mh sc rest to fl ma (oR tr 10 f) mk cn nu de ru la tb tf ph cs := rfl
theorem ro_84 : (mh sc rest to fl ma tr mk cn nu de ru la tb tf ph cs)[84]? = some (7, [.ref 85]) := rfl
theorem ra_84 : (mh sc rest to fl ma tr mk cn nu de ru la tb tf ph cs)[85]? = some (1000, mmIR (tr.1 11) 10) := rfl
set_option maxRecDepth 100000 in
theorem rs_84 (f : Nat → Int32) : (mh sc rest to fl ma tr mk cn nu de ru la tb tf ph cs).set 85 (1000, mmIR f 10) = mh sc rest to fl ma (oR tr 11 f) mk cn nu de ru la tb tf ph cs := rfl
theorem ro_86 : (mh sc rest to fl ma tr mk cn nu de ru la tb tf ph cs)[86]? = some (7, [.ref 87]) := rfl
theorem ra_86 : (mh sc rest to fl ma tr mk cn nu de ru la tb tf ph cs)[87]? = some (1000, mmIR (tr.1 12) 20) := rfl
set_option maxRecDepth 100000 in
theorem rs_86 (f : Nat → Int32) : (mh sc rest to fl ma tr mk cn nu de ru la tb tf ph cs).set 87 (1000, mmIR f 20) = mh sc rest to fl ma (oR tr 12 f) mk cn nu de ru la tb tf ph cs := rfl
theorem ro_89 : (mh sc rest to fl ma tr mk cn nu de ru la tb tf ph cs)[89]? = some (7, [.ref 90]) := rfl
theorem ra_89 : (mh sc rest to fl ma tr mk cn nu de ru la tb tf ph cs)[90]? = some (1000, mmIR (mk.1 0) 60) := rfl
set_option maxRecDepth 100000 in
theorem rs_89 (f : Nat → Int32) : (mh sc rest to fl ma tr mk cn nu de ru la tb tf ph cs).set 90 (1000, mmIR f 60) = mh sc rest to fl ma tr (oR mk 0 f) cn nu de ru la tb tf ph cs := rfl
theorem ro_91 : (mh sc rest to fl ma tr mk cn nu de ru la tb tf ph cs)[91]? = some (7, [.ref 92]) := rfl
theorem ra_91 : (mh sc rest to fl ma tr mk cn nu de ru la tb tf ph cs)[92]? = some (1000, mmIR (mk.1 1) 60) := rfl
set_option maxRecDepth 100000 in
theorem rs_91 (f : Nat → Int32) : (mh sc rest to fl ma tr mk cn nu de ru la tb tf ph cs).set 92 (1000, mmIR f 60) = mh sc rest to fl ma tr (oR mk 1 f) cn nu de ru la tb tf ph cs := rfl
theorem ro_93 : (mh sc rest to fl ma tr mk cn nu de ru la tb tf ph cs)[93]? = some (7, [.ref 94]) := rfl
theorem ra_93 : (mh sc rest to fl ma tr mk cn nu de ru la tb tf ph cs)[94]? = some (1000, mmIR (mk.1 2) 10) := rfl
set_option maxRecDepth 100000 in
theorem rs_93 (f : Nat → Int32) : (mh sc rest to fl ma tr mk cn nu de ru la tb tf ph cs).set 94 (1000, mmIR f 10) = mh sc rest to fl ma tr (oR mk 2 f) cn nu de ru la tb tf ph cs := rfl
theorem ro_96 : (mh sc rest to fl ma tr mk cn nu de ru la tb tf ph cs)[96]? = some (7, [.ref 97]) := rfl
theorem ra_96 : (mh sc rest to fl ma tr mk cn nu de ru la tb tf ph cs)[97]? = some (1000, mmIR (cn.1 0) 140) := rfl
set_option maxRecDepth 100000 in
theorem rs_96 (f : Nat → Int32) : (mh sc rest to fl ma tr mk cn nu de ru la tb tf ph cs).set 97 (1000, mmIR f 140) = mh sc rest to fl ma tr mk (oR cn 0 f) nu de ru la tb tf ph cs := rfl
theorem ro_98 : (mh sc rest to fl ma tr mk cn nu de ru la tb tf ph cs)[98]? = some (7, [.ref 99]) := rfl
theorem ra_98 : (mh sc rest to fl ma tr mk cn nu de ru la tb tf ph cs)[99]? = some (1000, mmIR (cn.1 1) 140) := rfl
set_option maxRecDepth 100000 in
theorem rs_98 (f : Nat → Int32) : (mh sc rest to fl ma tr mk cn nu de ru la tb tf ph cs).set 99 (1000, mmIR f 140) = mh sc rest to fl ma tr mk (oR cn 1 f) nu de ru la tb tf ph cs := rfl
theorem ro_102 : (mh sc rest to fl ma tr mk cn nu de ru la tb tf ph cs)[102]? = some (7, [.ref 103]) := rfl
theorem ra_102 : (mh sc rest to fl ma tr mk cn nu de ru la tb tf ph cs)[103]? = some (1000, mmIR (nu.1 0) 10) := rfl
set_option maxRecDepth 100000 in
theorem rs_102 (f : Nat → Int32) : (mh sc rest to fl ma tr mk cn nu de ru la tb tf ph cs).set 103 (1000, mmIR f 10) = mh sc rest to fl ma tr mk cn (oR nu 0 f) de ru la tb tf ph cs := rfl
theorem ro_104 : (mh sc rest to fl ma tr mk cn nu de ru la tb tf ph cs)[104]? = some (7, [.ref 105]) := rfl
theorem ra_104 : (mh sc rest to fl ma tr mk cn nu de ru la tb tf ph cs)[105]? = some (1000, mmIR (nu.1 1) 10) := rfl
set_option maxRecDepth 100000 in
theorem rs_104 (f : Nat → Int32) : (mh sc rest to fl ma tr mk cn nu de ru la tb tf ph cs).set 105 (1000, mmIR f 10) = mh sc rest to fl ma tr mk cn (oR nu 1 f) de ru la tb tf ph cs := rfl
theorem ro_106 : (mh sc rest to fl ma tr mk cn nu de ru la tb tf ph cs)[106]? = some (7, [.ref 107]) := rfl
theorem ra_106 : (mh sc rest to fl ma tr mk cn nu de ru la tb tf ph cs)[107]? = some (1000, mmIR (nu.1 2) 10) := rfl
set_option maxRecDepth 100000 in
theorem rs_106 (f : Nat → Int32) : (mh sc rest to fl ma tr mk cn nu de ru la tb tf ph cs).set 107 (1000, mmIR f 10) = mh sc rest to fl ma tr mk cn (oR nu 2 f) de ru la tb tf ph cs := rfl
theorem ro_108 : (mh sc rest to fl ma tr mk cn nu de ru la tb tf ph cs)[108]? = some (7, [.ref 109]) := rfl
theorem ra_108 : (mh sc rest to fl ma tr mk cn nu de ru la tb tf ph cs)[109]? = some (1000, mmIR (nu.1 3) 10) := rfl
set_option maxRecDepth 100000 in
theorem rs_108 (f : Nat → Int32) : (mh sc rest to fl ma tr mk cn nu de ru la tb tf ph cs).set 109 (1000, mmIR f 10) = mh sc rest to fl ma tr mk cn (oR nu 3 f) de ru la tb tf ph cs := rfl
theorem ro_111 : (mh sc rest to fl ma tr mk cn nu de ru la tb tf ph cs)[111]? = some (7, [.ref 112]) := rfl
theorem ra_111 : (mh sc rest to fl ma tr mk cn nu de ru la tb tf ph cs)[112]? = some (1000, mmIR (de.1 0) 140) := rfl
set_option maxRecDepth 100000 in
theorem rs_111 (f : Nat → Int32) : (mh sc rest to fl ma tr mk cn nu de ru la tb tf ph cs).set 112 (1000, mmIR f 140) = mh sc rest to fl ma tr mk cn nu (oR de 0 f) ru la tb tf ph cs := rfl
theorem ro_115 : (mh sc rest to fl ma tr mk cn nu de ru la tb tf ph cs)[115]? = some (7, [.ref 116]) := rfl
theorem ra_115 : (mh sc rest to fl ma tr mk cn nu de ru la tb tf ph cs)[116]? = some (1000, mmIR (ru.1 0) 6) := rfl
set_option maxRecDepth 100000 in
theorem rs_115 (f : Nat → Int32) : (mh sc rest to fl ma tr mk cn nu de ru la tb tf ph cs).set 116 (1000, mmIR f 6) = mh sc rest to fl ma tr mk cn nu de (oR ru 0 f) la tb tf ph cs := rfl
theorem ro_117 : (mh sc rest to fl ma tr mk cn nu de ru la tb tf ph cs)[117]? = some (7, [.ref 118]) := rfl
theorem ra_117 : (mh sc rest to fl ma tr mk cn nu de ru la tb tf ph cs)[118]? = some (1000, mmIR (ru.1 1) 140) := rfl
set_option maxRecDepth 100000 in
theorem rs_117 (f : Nat → Int32) : (mh sc rest to fl ma tr mk cn nu de ru la tb tf ph cs).set 118 (1000, mmIR f 140) = mh sc rest to fl ma tr mk cn nu de (oR ru 1 f) la tb tf ph cs := rfl
theorem ro_119 : (mh sc rest to fl ma tr mk cn nu de ru la tb tf ph cs)[119]? = some (7, [.ref 120]) := rfl
theorem ra_119 : (mh sc rest to fl ma tr mk cn nu de ru la tb tf ph cs)[120]? = some (1000, mmIR (ru.1 2) 140) := rfl
set_option maxRecDepth 100000 in
theorem rs_119 (f : Nat → Int32) : (mh sc rest to fl ma tr mk cn nu de ru la tb tf ph cs).set 120 (1000, mmIR f 140) = mh sc rest to fl ma tr mk cn nu de (oR ru 2 f) la tb tf ph cs := rfl
theorem ro_122 : (mh sc rest to fl ma tr mk cn nu de ru la tb tf ph cs)[122]? = some (7, [.ref 123]) := rfl
theorem ra_122 : (mh sc rest to fl ma tr mk cn nu de ru la tb tf ph cs)[123]? = some (1000, mmIR (la.1 0) 8) := rfl
set_option maxRecDepth 100000 in
theorem rs_122 (f : Nat → Int32) : (mh sc rest to fl ma tr mk cn nu de ru la tb tf ph cs).set 123 (1000, mmIR f 8) = mh sc rest to fl ma tr mk cn nu de ru (oR la 0 f) tb tf ph cs := rfl
theorem ro_124 : (mh sc rest to fl ma tr mk cn nu de ru la tb tf ph cs)[124]? = some (7, [.ref 125]) := rfl
theorem ra_124 : (mh sc rest to fl ma tr mk cn nu de ru la tb tf ph cs)[125]? = some (1000, mmIR (la.1 1) 60) := rfl
set_option maxRecDepth 100000 in
theorem rs_124 (f : Nat → Int32) : (mh sc rest to fl ma tr mk cn nu de ru la tb tf ph cs).set 125 (1000, mmIR f 60) = mh sc rest to fl ma tr mk cn nu de ru (oR la 1 f) tb tf ph cs := rfl
theorem ro_127 : (mh sc rest to fl ma tr mk cn nu de ru la tb tf ph cs)[127]? = some (7, [.ref 128]) := rfl
theorem ra_127 : (mh sc rest to fl ma tr mk cn nu de ru la tb tf ph cs)[128]? = some (1000, mmIR (tb.1 0) 8) := rfl
set_option maxRecDepth 100000 in
theorem rs_127 (f : Nat → Int32) : (mh sc rest to fl ma tr mk cn nu de ru la tb tf ph cs).set 128 (1000, mmIR f 8) = mh sc rest to fl ma tr mk cn nu de ru la (oR tb 0 f) tf ph cs := rfl
theorem ro_129 : (mh sc rest to fl ma tr mk cn nu de ru la tb tf ph cs)[129]? = some (7, [.ref 130]) := rfl
theorem ra_129 : (mh sc rest to fl ma tr mk cn nu de ru la tb tf ph cs)[130]? = some (1000, mmIR (tb.1 1) 2408) := rfl
set_option maxRecDepth 100000 in
theorem rs_129 (f : Nat → Int32) : (mh sc rest to fl ma tr mk cn nu de ru la tb tf ph cs).set 130 (1000, mmIR f 2408) = mh sc rest to fl ma tr mk cn nu de ru la (oR tb 1 f) tf ph cs := rfl
theorem ro_132 : (mh sc rest to fl ma tr mk cn nu de ru la tb tf ph cs)[132]? = some (7, [.ref 133]) := rfl
theorem ra_132 : (mh sc rest to fl ma tr mk cn nu de ru la tb tf ph cs)[133]? = some (1000, mmIR (tf.1 0) 8) := rfl
set_option maxRecDepth 100000 in
theorem rs_132 (f : Nat → Int32) : (mh sc rest to fl ma tr mk cn nu de ru la tb tf ph cs).set 133 (1000, mmIR f 8) = mh sc rest to fl ma tr mk cn nu de ru la tb (oR tf 0 f) ph cs := rfl
theorem ro_134 : (mh sc rest to fl ma tr mk cn nu de ru la tb tf ph cs)[134]? = some (7, [.ref 135]) := rfl
theorem ra_134 : (mh sc rest to fl ma tr mk cn nu de ru la tb tf ph cs)[135]? = some (1000, mmIR (tf.1 1) 2408) := rfl
set_option maxRecDepth 100000 in
theorem rs_134 (f : Nat → Int32) : (mh sc rest to fl ma tr mk cn nu de ru la tb tf ph cs).set 135 (1000, mmIR f 2408) = mh sc rest to fl ma tr mk cn nu de ru la tb (oR tf 1 f) ph cs := rfl
theorem ob_1 : (mh sc rest to fl ma tr mk cn nu de ru la tb tf ph cs)[1]? = some (11, [.ref 2, .ref 34, .ref 61, .ref 88, .ref 95, .ref 100, .ref 110, .ref 113, .ref 114, .ref 121, .ref 126, .ref 131, .int (b2i (ph.2.2 0)), .int (ph.2.1 0), .long cs]) := rfl
set_option maxRecDepth 100000 in
theorem os_1_12 (y : Bool) : (mh sc rest to fl ma tr mk cn nu de ru la tb tf ph cs).set 1 (11, ([.ref 2, .ref 34, .ref 61, .ref 88, .ref 95, .ref 100, .ref 110, .ref 113, .ref 114, .ref 121, .ref 126, .ref 131, .int (b2i (ph.2.2 0)), .int (ph.2.1 0), .long cs] : List Value).set 12 (.int (b2i y))) = mh sc rest to fl ma tr mk cn nu de ru la tb tf (oB ph 0 y) cs := rfl
set_option maxRecDepth 100000 in
theorem os_1_13 (y : Int32) : (mh sc rest to fl ma tr mk cn nu de ru la tb tf ph cs).set 1 (11, ([.ref 2, .ref 34, .ref 61, .ref 88, .ref 95, .ref 100, .ref 110, .ref 113, .ref 114, .ref 121, .ref 126, .ref 131, .int (b2i (ph.2.2 0)), .int (ph.2.1 0), .long cs] : List Value).set 13 (.int y)) = mh sc rest to fl ma tr mk cn nu de ru la tb tf (oG ph 0 y) cs := rfl
set_option maxRecDepth 100000 in
theorem os_1_14 (y : Int64) : (mh sc rest to fl ma tr mk cn nu de ru la tb tf ph cs).set 1 (11, ([.ref 2, .ref 34, .ref 61, .ref 88, .ref 95, .ref 100, .ref 110, .ref 113, .ref 114, .ref 121, .ref 126, .ref 131, .int (b2i (ph.2.2 0)), .int (ph.2.1 0), .long cs] : List Value).set 14 (.long y)) = mh sc rest to fl ma tr mk cn nu de ru la tb tf ph y := rfl
theorem ob_2 : (mh sc rest to fl ma tr mk cn nu de ru la tb tf ph cs)[2]? = some (10, [.ref 3, .ref 5, .ref 7, .ref 9, .ref 11, .ref 13, .ref 15, .ref 17, .ref 19, .ref 21, .ref 23, .ref 25, .int (to.2.1 0)]) := rfl
set_option maxRecDepth 100000 in
theorem os_2_12 (y : Int32) : (mh sc rest to fl ma tr mk cn nu de ru la tb tf ph cs).set 2 (10, ([.ref 3, .ref 5, .ref 7, .ref 9, .ref 11, .ref 13, .ref 15, .ref 17, .ref 19, .ref 21, .ref 23, .ref 25, .int (to.2.1 0)] : List Value).set 12 (.int y)) = mh sc rest (oG to 0 y) fl ma tr mk cn nu de ru la tb tf ph cs := rfl
theorem ob_25 : (mh sc rest to fl ma tr mk cn nu de ru la tb tf ph cs)[25]? = some (2, [.ref 26, .ref 28, .ref 30, .ref 32, .int (fl.2.1 0)]) := rfl
set_option maxRecDepth 100000 in
theorem os_25_4 (y : Int32) : (mh sc rest to fl ma tr mk cn nu de ru la tb tf ph cs).set 25 (2, ([.ref 26, .ref 28, .ref 30, .ref 32, .int (fl.2.1 0)] : List Value).set 4 (.int y)) = mh sc rest to (oG fl 0 y) ma tr mk cn nu de ru la tb tf ph cs := rfl
theorem ob_34 : (mh sc rest to fl ma tr mk cn nu de ru la tb tf ph cs)[34]? = some (3, [.ref 35, .ref 37, .ref 39, .ref 41, .ref 43, .ref 45, .ref 47, .ref 49, .ref 51, .ref 53, .ref 55, .ref 57, .ref 59, .int (ma.2.1 0), .int (ma.2.1 1), .int (ma.2.1 2), .int (ma.2.1 3), .int (ma.2.1 4), .int (ma.2.1 5)]) := rfl
set_option maxRecDepth 100000 in
theorem os_34_13 (y : Int32) : (mh sc rest to fl ma tr mk cn nu de ru la tb tf ph cs).set 34 (3, ([.ref 35, .ref 37, .ref 39, .ref 41, .ref 43, .ref 45, .ref 47, .ref 49, .ref 51, .ref 53, .ref 55, .ref 57, .ref 59, .int (ma.2.1 0), .int (ma.2.1 1), .int (ma.2.1 2), .int (ma.2.1 3), .int (ma.2.1 4), .int (ma.2.1 5)] : List Value).set 13 (.int y)) = mh sc rest to fl (oG ma 0 y) tr mk cn nu de ru la tb tf ph cs := rfl
set_option maxRecDepth 100000 in
theorem os_34_14 (y : Int32) : (mh sc rest to fl ma tr mk cn nu de ru la tb tf ph cs).set 34 (3, ([.ref 35, .ref 37, .ref 39, .ref 41, .ref 43, .ref 45, .ref 47, .ref 49, .ref 51, .ref 53, .ref 55, .ref 57, .ref 59, .int (ma.2.1 0), .int (ma.2.1 1), .int (ma.2.1 2), .int (ma.2.1 3), .int (ma.2.1 4), .int (ma.2.1 5)] : List Value).set 14 (.int y)) = mh sc rest to fl (oG ma 1 y) tr mk cn nu de ru la tb tf ph cs := rfl
set_option maxRecDepth 100000 in
theorem os_34_15 (y : Int32) : (mh sc rest to fl ma tr mk cn nu de ru la tb tf ph cs).set 34 (3, ([.ref 35, .ref 37, .ref 39, .ref 41, .ref 43, .ref 45, .ref 47, .ref 49, .ref 51, .ref 53, .ref 55, .ref 57, .ref 59, .int (ma.2.1 0), .int (ma.2.1 1), .int (ma.2.1 2), .int (ma.2.1 3), .int (ma.2.1 4), .int (ma.2.1 5)] : List Value).set 15 (.int y)) = mh sc rest to fl (oG ma 2 y) tr mk cn nu de ru la tb tf ph cs := rfl
set_option maxRecDepth 100000 in
theorem os_34_16 (y : Int32) : (mh sc rest to fl ma tr mk cn nu de ru la tb tf ph cs).set 34 (3, ([.ref 35, .ref 37, .ref 39, .ref 41, .ref 43, .ref 45, .ref 47, .ref 49, .ref 51, .ref 53, .ref 55, .ref 57, .ref 59, .int (ma.2.1 0), .int (ma.2.1 1), .int (ma.2.1 2), .int (ma.2.1 3), .int (ma.2.1 4), .int (ma.2.1 5)] : List Value).set 16 (.int y)) = mh sc rest to fl (oG ma 3 y) tr mk cn nu de ru la tb tf ph cs := rfl
set_option maxRecDepth 100000 in
theorem os_34_17 (y : Int32) : (mh sc rest to fl ma tr mk cn nu de ru la tb tf ph cs).set 34 (3, ([.ref 35, .ref 37, .ref 39, .ref 41, .ref 43, .ref 45, .ref 47, .ref 49, .ref 51, .ref 53, .ref 55, .ref 57, .ref 59, .int (ma.2.1 0), .int (ma.2.1 1), .int (ma.2.1 2), .int (ma.2.1 3), .int (ma.2.1 4), .int (ma.2.1 5)] : List Value).set 17 (.int y)) = mh sc rest to fl (oG ma 4 y) tr mk cn nu de ru la tb tf ph cs := rfl
set_option maxRecDepth 100000 in
theorem os_34_18 (y : Int32) : (mh sc rest to fl ma tr mk cn nu de ru la tb tf ph cs).set 34 (3, ([.ref 35, .ref 37, .ref 39, .ref 41, .ref 43, .ref 45, .ref 47, .ref 49, .ref 51, .ref 53, .ref 55, .ref 57, .ref 59, .int (ma.2.1 0), .int (ma.2.1 1), .int (ma.2.1 2), .int (ma.2.1 3), .int (ma.2.1 4), .int (ma.2.1 5)] : List Value).set 18 (.int y)) = mh sc rest to fl (oG ma 5 y) tr mk cn nu de ru la tb tf ph cs := rfl
theorem ob_61 : (mh sc rest to fl ma tr mk cn nu de ru la tb tf ph cs)[61]? = some (3, [.ref 62, .ref 64, .ref 66, .ref 68, .ref 70, .ref 72, .ref 74, .ref 76, .ref 78, .ref 80, .ref 82, .ref 84, .ref 86, .int (tr.2.1 0), .int (tr.2.1 1), .int (tr.2.1 2), .int (tr.2.1 3), .int (tr.2.1 4), .int (tr.2.1 5)]) := rfl
set_option maxRecDepth 100000 in
theorem os_61_13 (y : Int32) : (mh sc rest to fl ma tr mk cn nu de ru la tb tf ph cs).set 61 (3, ([.ref 62, .ref 64, .ref 66, .ref 68, .ref 70, .ref 72, .ref 74, .ref 76, .ref 78, .ref 80, .ref 82, .ref 84, .ref 86, .int (tr.2.1 0), .int (tr.2.1 1), .int (tr.2.1 2), .int (tr.2.1 3), .int (tr.2.1 4), .int (tr.2.1 5)] : List Value).set 13 (.int y)) = mh sc rest to fl ma (oG tr 0 y) mk cn nu de ru la tb tf ph cs := rfl
set_option maxRecDepth 100000 in
theorem os_61_14 (y : Int32) : (mh sc rest to fl ma tr mk cn nu de ru la tb tf ph cs).set 61 (3, ([.ref 62, .ref 64, .ref 66, .ref 68, .ref 70, .ref 72, .ref 74, .ref 76, .ref 78, .ref 80, .ref 82, .ref 84, .ref 86, .int (tr.2.1 0), .int (tr.2.1 1), .int (tr.2.1 2), .int (tr.2.1 3), .int (tr.2.1 4), .int (tr.2.1 5)] : List Value).set 14 (.int y)) = mh sc rest to fl ma (oG tr 1 y) mk cn nu de ru la tb tf ph cs := rfl
set_option maxRecDepth 100000 in
theorem os_61_15 (y : Int32) : (mh sc rest to fl ma tr mk cn nu de ru la tb tf ph cs).set 61 (3, ([.ref 62, .ref 64, .ref 66, .ref 68, .ref 70, .ref 72, .ref 74, .ref 76, .ref 78, .ref 80, .ref 82, .ref 84, .ref 86, .int (tr.2.1 0), .int (tr.2.1 1), .int (tr.2.1 2), .int (tr.2.1 3), .int (tr.2.1 4), .int (tr.2.1 5)] : List Value).set 15 (.int y)) = mh sc rest to fl ma (oG tr 2 y) mk cn nu de ru la tb tf ph cs := rfl
set_option maxRecDepth 100000 in
theorem os_61_16 (y : Int32) : (mh sc rest to fl ma tr mk cn nu de ru la tb tf ph cs).set 61 (3, ([.ref 62, .ref 64, .ref 66, .ref 68, .ref 70, .ref 72, .ref 74, .ref 76, .ref 78, .ref 80, .ref 82, .ref 84, .ref 86, .int (tr.2.1 0), .int (tr.2.1 1), .int (tr.2.1 2), .int (tr.2.1 3), .int (tr.2.1 4), .int (tr.2.1 5)] : List Value).set 16 (.int y)) = mh sc rest to fl ma (oG tr 3 y) mk cn nu de ru la tb tf ph cs := rfl
set_option maxRecDepth 100000 in
theorem os_61_17 (y : Int32) : (mh sc rest to fl ma tr mk cn nu de ru la tb tf ph cs).set 61 (3, ([.ref 62, .ref 64, .ref 66, .ref 68, .ref 70, .ref 72, .ref 74, .ref 76, .ref 78, .ref 80, .ref 82, .ref 84, .ref 86, .int (tr.2.1 0), .int (tr.2.1 1), .int (tr.2.1 2), .int (tr.2.1 3), .int (tr.2.1 4), .int (tr.2.1 5)] : List Value).set 17 (.int y)) = mh sc rest to fl ma (oG tr 4 y) mk cn nu de ru la tb tf ph cs := rfl
set_option maxRecDepth 100000 in
theorem os_61_18 (y : Int32) : (mh sc rest to fl ma tr mk cn nu de ru la tb tf ph cs).set 61 (3, ([.ref 62, .ref 64, .ref 66, .ref 68, .ref 70, .ref 72, .ref 74, .ref 76, .ref 78, .ref 80, .ref 82, .ref 84, .ref 86, .int (tr.2.1 0), .int (tr.2.1 1), .int (tr.2.1 2), .int (tr.2.1 3), .int (tr.2.1 4), .int (tr.2.1 5)] : List Value).set 18 (.int y)) = mh sc rest to fl ma (oG tr 5 y) mk cn nu de ru la tb tf ph cs := rfl
theorem ob_88 : (mh sc rest to fl ma tr mk cn nu de ru la tb tf ph cs)[88]? = some (5, [.ref 89, .ref 91, .ref 93]) := rfl
theorem ob_95 : (mh sc rest to fl ma tr mk cn nu de ru la tb tf ph cs)[95]? = some (0, [.ref 96, .ref 98, .int (cn.2.1 0), .int (cn.2.1 1), .int (b2i (cn.2.2 0))]) := rfl
set_option maxRecDepth 100000 in
theorem os_95_2 (y : Int32) : (mh sc rest to fl ma tr mk cn nu de ru la tb tf ph cs).set 95 (0, ([.ref 96, .ref 98, .int (cn.2.1 0), .int (cn.2.1 1), .int (b2i (cn.2.2 0))] : List Value).set 2 (.int y)) = mh sc rest to fl ma tr mk (oG cn 0 y) nu de ru la tb tf ph cs := rfl
set_option maxRecDepth 100000 in
theorem os_95_3 (y : Int32) : (mh sc rest to fl ma tr mk cn nu de ru la tb tf ph cs).set 95 (0, ([.ref 96, .ref 98, .int (cn.2.1 0), .int (cn.2.1 1), .int (b2i (cn.2.2 0))] : List Value).set 3 (.int y)) = mh sc rest to fl ma tr mk (oG cn 1 y) nu de ru la tb tf ph cs := rfl
set_option maxRecDepth 100000 in
theorem os_95_4 (y : Bool) : (mh sc rest to fl ma tr mk cn nu de ru la tb tf ph cs).set 95 (0, ([.ref 96, .ref 98, .int (cn.2.1 0), .int (cn.2.1 1), .int (b2i (cn.2.2 0))] : List Value).set 4 (.int (b2i y))) = mh sc rest to fl ma tr mk (oB cn 0 y) nu de ru la tb tf ph cs := rfl
theorem ob_100 : (mh sc rest to fl ma tr mk cn nu de ru la tb tf ph cs)[100]? = some (6, [.ref 101]) := rfl
theorem ob_101 : (mh sc rest to fl ma tr mk cn nu de ru la tb tf ph cs)[101]? = some (2, [.ref 102, .ref 104, .ref 106, .ref 108, .int (nu.2.1 0)]) := rfl
set_option maxRecDepth 100000 in
theorem os_101_4 (y : Int32) : (mh sc rest to fl ma tr mk cn nu de ru la tb tf ph cs).set 101 (2, ([.ref 102, .ref 104, .ref 106, .ref 108, .int (nu.2.1 0)] : List Value).set 4 (.int y)) = mh sc rest to fl ma tr mk cn (oG nu 0 y) de ru la tb tf ph cs := rfl
theorem ob_110 : (mh sc rest to fl ma tr mk cn nu de ru la tb tf ph cs)[110]? = some (1, [.ref 111, .int (b2i (de.2.2 0))]) := rfl
set_option maxRecDepth 100000 in
theorem os_110_1 (y : Bool) : (mh sc rest to fl ma tr mk cn nu de ru la tb tf ph cs).set 110 (1, ([.ref 111, .int (b2i (de.2.2 0))] : List Value).set 1 (.int (b2i y))) = mh sc rest to fl ma tr mk cn nu (oB de 0 y) ru la tb tf ph cs := rfl
theorem ob_113 : (mh sc rest to fl ma tr mk cn nu de ru la tb tf ph cs)[113]? = some (4, []) := rfl
theorem ob_114 : (mh sc rest to fl ma tr mk cn nu de ru la tb tf ph cs)[114]? = some (8, [.ref 115, .ref 117, .ref 119]) := rfl
theorem ob_121 : (mh sc rest to fl ma tr mk cn nu de ru la tb tf ph cs)[121]? = some (9, [.ref 124, .ref 122, .int (b2i (la.2.2 0)), .int (la.2.1 0), .int (la.2.1 1), .int (la.2.1 2), .int (la.2.1 3), .int (la.2.1 4)]) := rfl
set_option maxRecDepth 100000 in
theorem os_121_2 (y : Bool) : (mh sc rest to fl ma tr mk cn nu de ru la tb tf ph cs).set 121 (9, ([.ref 124, .ref 122, .int (b2i (la.2.2 0)), .int (la.2.1 0), .int (la.2.1 1), .int (la.2.1 2), .int (la.2.1 3), .int (la.2.1 4)] : List Value).set 2 (.int (b2i y))) = mh sc rest to fl ma tr mk cn nu de ru (oB la 0 y) tb tf ph cs := rfl
set_option maxRecDepth 100000 in
theorem os_121_3 (y : Int32) : (mh sc rest to fl ma tr mk cn nu de ru la tb tf ph cs).set 121 (9, ([.ref 124, .ref 122, .int (b2i (la.2.2 0)), .int (la.2.1 0), .int (la.2.1 1), .int (la.2.1 2), .int (la.2.1 3), .int (la.2.1 4)] : List Value).set 3 (.int y)) = mh sc rest to fl ma tr mk cn nu de ru (oG la 0 y) tb tf ph cs := rfl
set_option maxRecDepth 100000 in
theorem os_121_4 (y : Int32) : (mh sc rest to fl ma tr mk cn nu de ru la tb tf ph cs).set 121 (9, ([.ref 124, .ref 122, .int (b2i (la.2.2 0)), .int (la.2.1 0), .int (la.2.1 1), .int (la.2.1 2), .int (la.2.1 3), .int (la.2.1 4)] : List Value).set 4 (.int y)) = mh sc rest to fl ma tr mk cn nu de ru (oG la 1 y) tb tf ph cs := rfl
set_option maxRecDepth 100000 in
theorem os_121_5 (y : Int32) : (mh sc rest to fl ma tr mk cn nu de ru la tb tf ph cs).set 121 (9, ([.ref 124, .ref 122, .int (b2i (la.2.2 0)), .int (la.2.1 0), .int (la.2.1 1), .int (la.2.1 2), .int (la.2.1 3), .int (la.2.1 4)] : List Value).set 5 (.int y)) = mh sc rest to fl ma tr mk cn nu de ru (oG la 2 y) tb tf ph cs := rfl
set_option maxRecDepth 100000 in
theorem os_121_6 (y : Int32) : (mh sc rest to fl ma tr mk cn nu de ru la tb tf ph cs).set 121 (9, ([.ref 124, .ref 122, .int (b2i (la.2.2 0)), .int (la.2.1 0), .int (la.2.1 1), .int (la.2.1 2), .int (la.2.1 3), .int (la.2.1 4)] : List Value).set 6 (.int y)) = mh sc rest to fl ma tr mk cn nu de ru (oG la 3 y) tb tf ph cs := rfl
set_option maxRecDepth 100000 in
theorem os_121_7 (y : Int32) : (mh sc rest to fl ma tr mk cn nu de ru la tb tf ph cs).set 121 (9, ([.ref 124, .ref 122, .int (b2i (la.2.2 0)), .int (la.2.1 0), .int (la.2.1 1), .int (la.2.1 2), .int (la.2.1 3), .int (la.2.1 4)] : List Value).set 7 (.int y)) = mh sc rest to fl ma tr mk cn nu de ru (oG la 4 y) tb tf ph cs := rfl
theorem ob_126 : (mh sc rest to fl ma tr mk cn nu de ru la tb tf ph cs)[126]? = some (9, [.ref 129, .ref 127, .int (b2i (tb.2.2 0)), .int (tb.2.1 0), .int (tb.2.1 1), .int (tb.2.1 2), .int (tb.2.1 3), .int (tb.2.1 4)]) := rfl
set_option maxRecDepth 100000 in
theorem os_126_2 (y : Bool) : (mh sc rest to fl ma tr mk cn nu de ru la tb tf ph cs).set 126 (9, ([.ref 129, .ref 127, .int (b2i (tb.2.2 0)), .int (tb.2.1 0), .int (tb.2.1 1), .int (tb.2.1 2), .int (tb.2.1 3), .int (tb.2.1 4)] : List Value).set 2 (.int (b2i y))) = mh sc rest to fl ma tr mk cn nu de ru la (oB tb 0 y) tf ph cs := rfl
set_option maxRecDepth 100000 in
theorem os_126_3 (y : Int32) : (mh sc rest to fl ma tr mk cn nu de ru la tb tf ph cs).set 126 (9, ([.ref 129, .ref 127, .int (b2i (tb.2.2 0)), .int (tb.2.1 0), .int (tb.2.1 1), .int (tb.2.1 2), .int (tb.2.1 3), .int (tb.2.1 4)] : List Value).set 3 (.int y)) = mh sc rest to fl ma tr mk cn nu de ru la (oG tb 0 y) tf ph cs := rfl
set_option maxRecDepth 100000 in
theorem os_126_4 (y : Int32) : (mh sc rest to fl ma tr mk cn nu de ru la tb tf ph cs).set 126 (9, ([.ref 129, .ref 127, .int (b2i (tb.2.2 0)), .int (tb.2.1 0), .int (tb.2.1 1), .int (tb.2.1 2), .int (tb.2.1 3), .int (tb.2.1 4)] : List Value).set 4 (.int y)) = mh sc rest to fl ma tr mk cn nu de ru la (oG tb 1 y) tf ph cs := rfl
set_option maxRecDepth 100000 in
theorem os_126_5 (y : Int32) : (mh sc rest to fl ma tr mk cn nu de ru la tb tf ph cs).set 126 (9, ([.ref 129, .ref 127, .int (b2i (tb.2.2 0)), .int (tb.2.1 0), .int (tb.2.1 1), .int (tb.2.1 2), .int (tb.2.1 3), .int (tb.2.1 4)] : List Value).set 5 (.int y)) = mh sc rest to fl ma tr mk cn nu de ru la (oG tb 2 y) tf ph cs := rfl
set_option maxRecDepth 100000 in
theorem os_126_6 (y : Int32) : (mh sc rest to fl ma tr mk cn nu de ru la tb tf ph cs).set 126 (9, ([.ref 129, .ref 127, .int (b2i (tb.2.2 0)), .int (tb.2.1 0), .int (tb.2.1 1), .int (tb.2.1 2), .int (tb.2.1 3), .int (tb.2.1 4)] : List Value).set 6 (.int y)) = mh sc rest to fl ma tr mk cn nu de ru la (oG tb 3 y) tf ph cs := rfl
set_option maxRecDepth 100000 in
theorem os_126_7 (y : Int32) : (mh sc rest to fl ma tr mk cn nu de ru la tb tf ph cs).set 126 (9, ([.ref 129, .ref 127, .int (b2i (tb.2.2 0)), .int (tb.2.1 0), .int (tb.2.1 1), .int (tb.2.1 2), .int (tb.2.1 3), .int (tb.2.1 4)] : List Value).set 7 (.int y)) = mh sc rest to fl ma tr mk cn nu de ru la (oG tb 4 y) tf ph cs := rfl
theorem ob_131 : (mh sc rest to fl ma tr mk cn nu de ru la tb tf ph cs)[131]? = some (9, [.ref 134, .ref 132, .int (b2i (tf.2.2 0)), .int (tf.2.1 0), .int (tf.2.1 1), .int (tf.2.1 2), .int (tf.2.1 3), .int (tf.2.1 4)]) := rfl
set_option maxRecDepth 100000 in
theorem os_131_2 (y : Bool) : (mh sc rest to fl ma tr mk cn nu de ru la tb tf ph cs).set 131 (9, ([.ref 134, .ref 132, .int (b2i (tf.2.2 0)), .int (tf.2.1 0), .int (tf.2.1 1), .int (tf.2.1 2), .int (tf.2.1 3), .int (tf.2.1 4)] : List Value).set 2 (.int (b2i y))) = mh sc rest to fl ma tr mk cn nu de ru la tb (oB tf 0 y) ph cs := rfl
set_option maxRecDepth 100000 in
theorem os_131_3 (y : Int32) : (mh sc rest to fl ma tr mk cn nu de ru la tb tf ph cs).set 131 (9, ([.ref 134, .ref 132, .int (b2i (tf.2.2 0)), .int (tf.2.1 0), .int (tf.2.1 1), .int (tf.2.1 2), .int (tf.2.1 3), .int (tf.2.1 4)] : List Value).set 3 (.int y)) = mh sc rest to fl ma tr mk cn nu de ru la tb (oG tf 0 y) ph cs := rfl
set_option maxRecDepth 100000 in
theorem os_131_4 (y : Int32) : (mh sc rest to fl ma tr mk cn nu de ru la tb tf ph cs).set 131 (9, ([.ref 134, .ref 132, .int (b2i (tf.2.2 0)), .int (tf.2.1 0), .int (tf.2.1 1), .int (tf.2.1 2), .int (tf.2.1 3), .int (tf.2.1 4)] : List Value).set 4 (.int y)) = mh sc rest to fl ma tr mk cn nu de ru la tb (oG tf 1 y) ph cs := rfl
set_option maxRecDepth 100000 in
theorem os_131_5 (y : Int32) : (mh sc rest to fl ma tr mk cn nu de ru la tb tf ph cs).set 131 (9, ([.ref 134, .ref 132, .int (b2i (tf.2.2 0)), .int (tf.2.1 0), .int (tf.2.1 1), .int (tf.2.1 2), .int (tf.2.1 3), .int (tf.2.1 4)] : List Value).set 5 (.int y)) = mh sc rest to fl ma tr mk cn nu de ru la tb (oG tf 2 y) ph cs := rfl
set_option maxRecDepth 100000 in
theorem os_131_6 (y : Int32) : (mh sc rest to fl ma tr mk cn nu de ru la tb tf ph cs).set 131 (9, ([.ref 134, .ref 132, .int (b2i (tf.2.2 0)), .int (tf.2.1 0), .int (tf.2.1 1), .int (tf.2.1 2), .int (tf.2.1 3), .int (tf.2.1 4)] : List Value).set 6 (.int y)) = mh sc rest to fl ma tr mk cn nu de ru la tb (oG tf 3 y) ph cs := rfl
set_option maxRecDepth 100000 in
theorem os_131_7 (y : Int32) : (mh sc rest to fl ma tr mk cn nu de ru la tb tf ph cs).set 131 (9, ([.ref 134, .ref 132, .int (b2i (tf.2.2 0)), .int (tf.2.1 0), .int (tf.2.1 1), .int (tf.2.1 2), .int (tf.2.1 3), .int (tf.2.1 4)] : List Value).set 7 (.int y)) = mh sc rest to fl ma tr mk cn nu de ru la tb (oG tf 4 y) ph cs := rfl
end LAY
