-- deps: 9q.simm 63.gp0
/-! the same numbers are asked for -/
theorem inR_nu {n : Nat} (hn : n < 2147483648) (x : Int32) : inR x 0 (nI n - 1) = nuB n x := by
  rw [inR, nuB]
  congr 1
  rw [decide_eq_decide]
  cases n with
  | zero =>
    rw [i32_le, i32_lt, show (nI 0 - 1).toInt = -1 from by decide, show (nI 0).toInt = 0 from by decide]
    omega
  | succ m =>
    rw [nI_m1 (by omega), Nat.add_sub_cancel, i32_le, i32_lt, nI_ti (by omega), nI_ti (by omega)]
    omega
theorem inR_col (c : Int32) : inR c 0 3 = colB c := by
  rw [inR, colB]
  congr 1
  rw [decide_eq_decide, i32_le, i32_lt, show (3 : Int32).toInt = 3 from by decide, show (4 : Int32).toInt = 4 from by decide]
  omega
theorem fsH_nu (sh : Sh) (x : Int32) : fsH sh x = nuB sh.F x := rfl
theorem thrB_nu {V : CV} {o n : Nat} (h : V o 2 = nI n) (x : Int32) : thrB V o x = nuB n x := by rw [thrB, h, nuB]
theorem RdR.asks {cm : CM} {sh : Sh} {V : CV} {R M G P Dn : Nat} (H : RdR cm sh V R M G P Dn) (x c : Int32) : noFil cm x = !fsH sh x ∧ noScan cm x = !nuB sh.S x ∧ noChunk cm x = !nuB sh.C x ∧ noPlace cm x c = !(colB c && nuB sh.C x) := by
  obtain ⟨hT, hF, -, -, -, hCe, -, -, -, -, e4, hS, -⟩ := H
  obtain ⟨hR, -, -, h0, -⟩ := hT
  have hF30 := hF.2.1
  have eC : chN cm = nI sh.C := by rw [chN_nI hR h0, hCe]
  refine ⟨by rw [noFil, hF.1, inR_nu (by omega), fsH_nu], by rw [noScan, e4, inR_nu (by omega)], by rw [noChunk, eC, inR_nu (by omega)], ?_⟩
  rw [noPlace, eC, inR_nu (by omega), inR_col, Bool.and_comm]


