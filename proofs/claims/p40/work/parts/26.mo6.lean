-- deps: 23.mo3 24.mo4
/-! ===== the reference: filters joined ===== -/
def joinM (cm : CM) (kd x y : Int32) : Int32 × CM :=
  if isJ kd = false then (0, thr cm true 1) else
  if (inR x 0 (cm 3 0 0 - 1) && (decide (kd = 110) || inR y 0 (cm 3 0 0 - 1))) = false then (0, thr (thr cm false 1) true 2) else
  if cm 3 0 0 = 30 ∨ 12 < cm 22 0 (nn x) + (if kd = 110 then 0 else cm 22 0 (nn y)) then (0, thr (thr (thr cm false 1) false 2) true 3) else
  (cm 3 0 0, nfC (thr (thr (thr cm false 1) false 2) false 3) kd x (if kd = 110 then 0 else y) (cm 22 0 (nn x) + (if kd = 110 then 0 else cm 22 0 (nn y))))

