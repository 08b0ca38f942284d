-- deps: 9e.sima
/-! looks: bits and counts -/
theorem bc_10 : ∀ x : Fin 1024, bcF (nI x) = nI (cntN (fun k => (x : Nat).testBit k) 10) := by decide +kernel
theorem or_10 : ∀ x : Fin 1024, ∀ k : Fin 10, (nI x : Int32) ||| ((1 : Int32) <<< (nI k &&& 31)) = nI ((x : Nat) ||| 2 ^ (k : Nat)) := by decide +kernel
theorem ou_10 : ∀ x : Fin 1024, ∀ k : Fin 10, ouB (nI x) k = !(x : Nat).testBit k := by decide +kernel


