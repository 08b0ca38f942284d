-- deps: 34.mo13
/-! ===== the reference: bounds of sums, means ===== -/
def bdE (cm : CM) (f m k : Nat) (ab : Bool) : Int32 :=
  if ab then (if cnF cm k 30 f = 1 then (if cm 18 0 (4 * k + m) = 0 then cm 15 0 (4 * k + m) else imax (cm 15 0 (4 * k + m)) 0) else imax (cm 15 0 (4 * k + m)) 0)
  else (if cnF cm k 30 f = 1 then (if cm 18 0 (4 * k + m) = 0 then cm 14 0 (4 * k + m) else imin (cm 14 0 (4 * k + m)) 0) else imin (cm 14 0 (4 * k + m)) 0)
def bdV (cm : CM) (f m k r : Nat) (e : Int32) : Int32 := if cm 9 0 r = 0 then (if cnF cm k 30 f &&& 1 = 1 then (if cm 17 0 (4 * k + m) = 0 then 0 else e) else 0) else 0
def bdA (cm : CM) (f m k : Nat) (e s : Int32) : Nat → Int32
  | 0 => s
  | i + 1 => bdA cm f m k e s i + bdV cm f m k (16 * k + i) e
def bdT (cm : CM) (f m : Nat) (ab : Bool) : Nat → Int32
  | 0 => 0
  | k + 1 => bdA cm f m k (bdE cm f m k ab) (bdT cm f m ab k) (rN cm k)
def bdM (cm : CM) (f m : Int32) (ab : Bool) : Int32 := if noSum cm f m then 0 else bdT (noSumC cm f m) (nn f) (nn m) ab (nn (chN cm))
def mbA (cm : CM) (k : Nat) (s : Int32) : Nat → Int32
  | 0 => s
  | c + 1 => mbA cm k s c + btC cm k c
def mbT (cm : CM) : Nat → Int32
  | 0 => 0
  | k + 1 => mbA cm k (mbT cm k) 4
def mbD (cm : CM) : UInt64 := FP.ddiv (FP.i2d (mbT cm (nn (chN cm)))) (FP.i2d (4 * cm 0 0 0))
def shF (cl : CL) : UInt32 := FP.fdiv (FP.l2f (cl 48)) (FP.l2f (cl 47))

