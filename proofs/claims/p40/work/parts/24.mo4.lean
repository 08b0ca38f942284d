-- deps: 23.mo3
/-! ===== the reference: filters made, scans asked ===== -/
def nfC (cm : CM) (kd a b m : Int32) : CM :=
  c3 (c3 (c3 (c3 (c3 cm 19 0 (nn (cm 3 0 0)) kd) 20 0 (nn (cm 3 0 0)) a) 21 0 (nn (cm 3 0 0)) b) 22 0 (nn (cm 3 0 0)) m) 3 0 0 (cm 3 0 0 + 1)
def isCh (x : Int32) : Prop := ∃ q : Nat, q < 65536 ∧ x = nI q
theorem nfC_n {cm : CM} {kd a b m : Int32} {k : Nat} (h1 : k ≠ 3) (h2 : k ≠ 19) (h3 : k ≠ 20) (h4 : k ≠ 21) (h5 : k ≠ 22) : nfC cm kd a b m k = cm k := by
  rw [nfC, c3_n h1, c3_n h5, c3_n h4, c3_n h3, c3_n h2]
def cmpM (cm : CM) (kd c n : Int32) : Int32 × CM :=
  if (decide (kd = 60) || decide (kd = 61) || decide (kd = 62) || decide (kd = 109)) && (inR c 0 3 && (decide (kd = 109) || inR n (-999) 999)) then
    (if cm 3 0 0 = 30 then (0, thr (thr cm false 1) true 2) else (cm 3 0 0, nfC (thr (thr cm false 1) false 2) kd c n 1))
  else (0, thr cm true 1)
theorem Nb_pred {x : Int32} {b : Nat} (h : Nb x (b + 1)) (hn : ¬ x = nI (b + 1)) : Nb x b := by
  obtain ⟨n, h1, rfl⟩ := h
  exact ⟨n, by
    rcases Nat.lt_or_ge n (b + 1) with h | h
    · omega
    · exact absurd (by rw [show n = b + 1 by omega]) hn, rfl⟩
theorem i60s : ((60 : Int32) = 61) = False ∧ ((60 : Int32) = 62) = False ∧ ((60 : Int32) = 109) = False ∧ ((61 : Int32) = 60) = False ∧ ((61 : Int32) = 62) = False ∧ ((61 : Int32) = 109) = False ∧ ((62 : Int32) = 60) = False ∧ ((62 : Int32) = 61) = False ∧ ((62 : Int32) = 109) = False ∧ ((109 : Int32) = 60) = False ∧ ((109 : Int32) = 61) = False ∧ ((109 : Int32) = 62) = False := by simp

