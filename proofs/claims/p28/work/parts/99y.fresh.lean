/-! WHAT THE CONSTRUCTOR LEAVES, by the kernel -/
def hqV : Value → Value → Bool
  | .int x, .int y => decide (x = y)
  | .long x, .long y => decide (x = y)
  | .ref a, .ref b => Nat.beq a b
  | .null, .null => true
  | _, _ => false
def hqL : List Value → List Value → Bool
  | [], [] => true
  | v :: a, w :: b => hqV v w && hqL a b
  | _, _ => false
def hqH : List mmC → List mmC → Bool
  | [], [] => true
  | c :: a, d :: b => Nat.beq c.1 d.1 && hqL c.2 d.2 && hqH a b
  | _, _ => false
def hqX : Option (Option Value × List mmC) → List mmC → Bool
  | some (none, h), g => hqH h g
  | _, _ => false
def zOb : Ob := (fun _ _ => 0, fun _ => 0, fun _ => false)
def to0 : Ob := oG zOb 0 1
def fl1 : Ob := (fun i k => if i = 1 ∨ i = 2 then (if k = 0 then 1 else 0) else if i = 3 then (if k = 0 then 0 else -1) else 0, fun i => if i = 0 then 1 else 0, fun _ => false)
set_option maxRecDepth 1000000 in
theorem reck_run : hqX (mx mmPT 3000 tbX10_reckon 0 [some (.ref 2), none, none] [] (mh (2000, []) [] to0 zOb zOb zOb zOb zOb zOb zOb zOb zOb zOb zOb zOb 0)) (mh (2000, []) [] to0 fl1 zOb zOb zOb zOb zOb zOb zOb zOb zOb zOb zOb 0) = true := by decide +kernel
def phFs : List Value := [.null, .null, .null, .null, .null, .null, .null, .null, .null, .null, .null, .null, .int 0, .int 0, .long 0]
set_option maxRecDepth 1000000 in
theorem init_run : hqX (mx mmPT 3000 tbX11_init 0 [some (.ref 1)] [] [(2000, []), (11, phFs)]) (mh (2000, []) [] to0 fl1 zOb zOb zOb zOb zOb zOb zOb zOb zOb zOb zOb 0) = true := by decide +kernel
set_option maxRecDepth 100000 in
theorem defs_11 : (mmDefs[11]?).any (fun l => hqL l phFs) = true := by decide +kernel
set_option maxRecDepth 100000 in
theorem defs_12 : (mmDefs[12]?).any (fun l => hqL l [.null, .null, .null, .int 0]) = true := by decide +kernel
