-- deps: 70.gp7 62.look
/-! ===== the class: means and shares ===== -/
def mnA (V : CV) (k : Nat) (s : Int32) : Nat → Int32
  | 0 => s
  | c + 1 => mnA V k s c + lcC V (100 + 10 * k) c
def mnT (V : CV) : Nat → Int32
  | 0 => 0
  | k + 1 => mnA V k (mnT V k) 4
def mnD (sh : Sh) (V : CV) : UInt64 := FP.ddiv (FP.i2d (mnT V sh.C)) (FP.i2d (4 * V 1 2))
def shA (V : CV) (i : Nat) : Int32 := bcF (V (400 + 20 * i) 8)
def shB (V : CV) (i : Nat) : Int32 := V (400 + 20 * i) 9
def shD (sh : Sh) (V : CV) : UInt32 := FP.fdiv (FP.i2f (sumI (shB V) sh.S)) (FP.i2f (sumI (shA V) sh.S))

