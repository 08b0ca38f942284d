/-! ===== a value for what the document keeps: cells by three numbers ===== -/
abbrev CM : Type := Nat → Nat → Nat → Int32
abbrev CL : Type := Nat → Int64
def c3 (cm : CM) (k i j : Nat) (x : Int32) : CM := fun k' => if k' = k then (fun i' => if i' = i then (fun j' => if j' = j then x else cm k i j') else cm k i') else cm k'
theorem c3_n {cm : CM} {k i j k' : Nat} {x : Int32} (h : k' ≠ k) : c3 cm k i j x k' = cm k' := if_neg h
theorem c3_s {cm : CM} {k i j : Nat} {x : Int32} : c3 cm k i j x k i = upd (cm k i) j x := by
  funext j'
  simp [c3, upd]
theorem c3_i {cm : CM} {k i j i' : Nat} {x : Int32} (h : i' ≠ i) : c3 cm k i j x k i' = cm k i' := by
  simp [c3, h]
def cl1 (cl : CL) (k : Nat) (x : Int64) : CL := fun k' => if k' = k then x else cl k'
