/-! ===== the reference: its cells ===== -/
abbrev CM : Type := Nat → Nat → Nat → Int32
abbrev CL : Type := Nat → Int64
/-- its arrays: kind and length -/
def mAr : Nat → Option (Nat × Nat)
  | 6 => some (0, 640)
  | 7 => some (0, 640)
  | 8 => some (0, 160)
  | 9 => some (0, 160)
  | 10 => some (0, 1100)
  | 11 => some (0, 1100)
  | 12 => some (0, 1100)
  | 13 => some (0, 1100)
  | 14 => some (0, 40)
  | 15 => some (0, 40)
  | 16 => some (0, 10)
  | 17 => some (1, 40)
  | 18 => some (1, 40)
  | 19 => some (2, 30)
  | 20 => some (0, 30)
  | 21 => some (0, 30)
  | 22 => some (0, 30)
  | 23 => some (0, 40)
  | 24 => some (0, 40)
  | 25 => some (0, 40)
  | 26 => some (0, 40)
  | 27 => some (0, 40)
  | 28 => some (0, 40)
  | 29 => some (0, 40)
  | 30 => some (0, 40)
  | 31 => some (0, 40)
  | 32 => some (0, 40)
  | 33 => some (0, 40)
  | 34 => some (0, 40)
  | 35 => some (1, 160)
  | 36 => some (0, 160)
  | 37 => some (1, 400)
  | 50 => some (1, 40)
  | _ => none
/-- its grids: kind of the outer one, of the rows -/
def mGr : Nat → Option (Nat × Nat)
  | 38 => some (5, 0)
  | 39 => some (5, 0)
  | 40 => some (5, 0)
  | 41 => some (5, 0)
  | 42 => some (5, 0)
  | 43 => some (5, 0)
  | 44 => some (6, 1)
  | 51 => some (5, 0)
  | _ => none
def mflds (ad : Nat → Nat) (cm : CM) (cl : CL) : List Value := [.int (cm 0 0 0), .int (cm 1 0 0), .int (cm 2 0 0), .int (cm 3 0 0), .int (cm 4 0 0), .int (cm 5 0 0), .ref (ad 6), .ref (ad 7), .ref (ad 8), .ref (ad 9), .ref (ad 10), .ref (ad 11), .ref (ad 12), .ref (ad 13), .ref (ad 14), .ref (ad 15), .ref (ad 16), .ref (ad 17), .ref (ad 18), .ref (ad 19), .ref (ad 20), .ref (ad 21), .ref (ad 22), .ref (ad 23), .ref (ad 24), .ref (ad 25), .ref (ad 26), .ref (ad 27), .ref (ad 28), .ref (ad 29), .ref (ad 30), .ref (ad 31), .ref (ad 32), .ref (ad 33), .ref (ad 34), .ref (ad 35), .ref (ad 36), .ref (ad 37), .ref (ad 38), .ref (ad 39), .ref (ad 40), .ref (ad 41), .ref (ad 42), .ref (ad 43), .ref (ad 44), .int (cm 45 0 0), .long (cl 46), .long (cl 47), .long (cl 48), .int (cm 49 0 0), .ref (ad 50), .ref (ad 51)]
def vM (i : Nat) : Bool := decide (i = 0) || (mAr i).isSome || (mGr i).isSome || (decide (i % 100 < 40) && (mGr (i / 100)).isSome)
def mOut (ad : Nat → Nat) (k : Nat) : Nat → Option Nat := fun r => if r < 40 then some (ad (100 * k + r)) else none
def MRep (f : AH) (ad : Nat → Nat) (cm : CM) (cl : CL) : Prop :=
  f (ad 0) = some (.inr (10, mflds ad cm cl)) ∧ (∀ k d n, mAr k = some (d, n) → f (ad k) = some (.inl (d, n, .inl (cm k 0)))) ∧
  (∀ k o d, mGr k = some (o, d) → f (ad k) = some (.inl (o, 40, .inr (.inr (.inr (.inr (mOut ad k)))))) ∧ ∀ r, r < 40 → f (ad (100 * k + r)) = some (.inl (d, 160, .inl (cm k r)))) ∧
  ∀ a b, vM a = true → vM b = true → ad a = ad b → a = b
/-- .. and since f0 nothing else has changed -/
def MR (f0 f : AH) (ad : Nat → Nat) (cm : CM) (cl : CL) : Prop := MRep f ad cm cl ∧ ∀ a, (∀ i, vM i = true → a ≠ ad i) → f a = f0 a
def c3 (cm : CM) (k i j : Nat) (x : Int32) : CM := fun k' => if k' = k then (fun i' => if i' = i then (fun j' => if j' = j then x else cm k i j') else cm k i') else cm k'
theorem c3_n {cm : CM} {k i j k' : Nat} {x : Int32} (h : k' ≠ k) : c3 cm k i j x k' = cm k' := if_neg h
theorem c3_s {cm : CM} {k i j : Nat} {x : Int32} : c3 cm k i j x k i = upd (cm k i) j x := by
  funext j'
  simp [c3, upd]
theorem c3_i {cm : CM} {k i j i' : Nat} {x : Int32} (h : i' ≠ i) : c3 cm k i j x k i' = cm k i' := by
  simp [c3, h]
def cl1 (cl : CL) (k : Nat) (x : Int64) : CL := fun k' => if k' = k then x else cl k'
theorem vM_ar {k d n : Nat} (h : mAr k = some (d, n)) : vM k = true := by simp [vM, h]
theorem vM_gr {k d n : Nat} (h : mGr k = some (d, n)) : vM k = true := by simp [vM, h]
theorem vM_row {k d n r : Nat} (h : mGr k = some (d, n)) (hr : r < 40) : vM (100 * k + r) = true := by
  have e1 : (100 * k + r) % 100 = r := by omega
  have e2 : (100 * k + r) / 100 = k := by omega
  simp [vM, e1, e2, h, hr]
theorem mAr_le {k d n : Nat} (h : mAr k = some (d, n)) : 6 ≤ k ∧ k ≤ 50 := by
  unfold mAr at h
  split at h <;> first | (cases h; done) | omega
theorem mGr_le {k d n : Nat} (h : mGr k = some (d, n)) : 38 ≤ k ∧ k ≤ 51 ∧ mAr k = none := by
  unfold mGr at h
  split at h <;> first | (cases h; done) | exact ⟨by omega, by omega, rfl⟩
theorem MR.obj {f0 f : AH} {ad : Nat → Nat} {cm : CM} {cl : CL} (h : MR f0 f ad cm cl) : f (ad 0) = some (.inr (10, mflds ad cm cl)) := h.1.1
theorem MR.ar {f0 f : AH} {ad : Nat → Nat} {cm : CM} {cl : CL} (h : MR f0 f ad cm cl) (k : Nat) {d n : Nat} (hk : mAr k = some (d, n)) : f (ad k) = some (.inl (d, n, .inl (cm k 0))) := h.1.2.1 k d n hk
theorem MR.gr {f0 f : AH} {ad : Nat → Nat} {cm : CM} {cl : CL} (h : MR f0 f ad cm cl) (k : Nat) {o d : Nat} (hk : mGr k = some (o, d)) : f (ad k) = some (.inl (o, 40, .inr (.inr (.inr (.inr (mOut ad k)))))) := (h.1.2.2.1 k o d hk).1
theorem MR.row {f0 f : AH} {ad : Nat → Nat} {cm : CM} {cl : CL} (h : MR f0 f ad cm cl) (k r : Nat) {o d : Nat} (hk : mGr k = some (o, d)) (hr : r < 40) : f (ad (100 * k + r)) = some (.inl (d, 160, .inl (cm k r))) := (h.1.2.2.1 k o d hk).2 r hr
theorem MR.ne {f0 f : AH} {ad : Nat → Nat} {cm : CM} {cl : CL} (h : MR f0 f ad cm cl) {a b : Nat} (ha : vM a = true) (hb : vM b = true) (n : a ≠ b) : ad a ≠ ad b := fun e => n (h.1.2.2.2 a b ha hb e)
theorem MR.fr {f0 f : AH} {ad : Nat → Nat} {cm : CM} {cl : CL} (h : MR f0 f ad cm cl) {i : Nat} (hi : vM i = true) (c : AC) : ∀ a, (∀ i, vM i = true → a ≠ ad i) → aup f (ad i) c a = f0 a := fun a ha => by
  rw [aup_n f c (ha i hi)]
  exact h.2 a ha
/-- a place of an array is stored -/
theorem MR.st {f0 f : AH} {ad : Nat → Nat} {cm : CM} {cl : CL} (h : MR f0 f ad cm cl) (k : Nat) {d n : Nat} (hk : mAr k = some (d, n)) (j : Nat) (x : Int32) : MR f0 (aup f (ad k) (.inl (d, n, .inl (upd (cm k 0) j x)))) ad (c3 cm k 0 j x) cl := by
  have hv := vM_ar hk
  have hle := mAr_le hk
  refine ⟨⟨?_, fun k' d' n' hk' => ?_, fun k' o d' hk' => ⟨?_, fun r hr => ?_⟩, h.1.2.2.2⟩, h.fr hv _⟩
  · rw [aup_n f _ (h.ne rfl hv (by omega)), h.obj]
    congr 3
    simp only [mflds]
    rw [c3_n (cm := cm) (k := k) (i := 0) (j := j) (x := x) (show 0 ≠ k from fun e => by rw [← e] at hk; cases hk), c3_n (cm := cm) (k := k) (i := 0) (j := j) (x := x) (show 1 ≠ k from fun e => by rw [← e] at hk; cases hk), c3_n (cm := cm) (k := k) (i := 0) (j := j) (x := x) (show 2 ≠ k from fun e => by rw [← e] at hk; cases hk), c3_n (cm := cm) (k := k) (i := 0) (j := j) (x := x) (show 3 ≠ k from fun e => by rw [← e] at hk; cases hk), c3_n (cm := cm) (k := k) (i := 0) (j := j) (x := x) (show 4 ≠ k from fun e => by rw [← e] at hk; cases hk), c3_n (cm := cm) (k := k) (i := 0) (j := j) (x := x) (show 5 ≠ k from fun e => by rw [← e] at hk; cases hk), c3_n (cm := cm) (k := k) (i := 0) (j := j) (x := x) (show 45 ≠ k from fun e => by rw [← e] at hk; cases hk), c3_n (cm := cm) (k := k) (i := 0) (j := j) (x := x) (show 49 ≠ k from fun e => by rw [← e] at hk; cases hk)]
  · by_cases e : k' = k
    · subst e
      rw [aup_s, c3_s]
      cases hk.symm.trans hk'
      rfl
    · rw [aup_n f _ (h.ne (vM_ar hk') hv e), h.ar k' hk', c3_n e]
  · have hg := mGr_le hk'
    have e : k' ≠ k := fun e => by rw [← e, hg.2.2] at hk; cases hk
    rw [aup_n f _ (h.ne (vM_gr hk') hv e), h.gr k' hk']
  · have hg := mGr_le hk'
    have e : k' ≠ k := fun e => by rw [← e, hg.2.2] at hk; cases hk
    rw [aup_n f _ (h.ne (vM_row hk' hr) hv (by omega)), h.row k' r hk' hr, c3_n e]
/-- a place of a grid -/
theorem MR.sg {f0 f : AH} {ad : Nat → Nat} {cm : CM} {cl : CL} (h : MR f0 f ad cm cl) (k : Nat) {o d : Nat} (hk : mGr k = some (o, d)) {i : Nat} (hi : i < 40) (j : Nat) (x : Int32) : MR f0 (aup f (ad (100 * k + i)) (.inl (d, 160, .inl (upd (cm k i) j x)))) ad (c3 cm k i j x) cl := by
  have hv := vM_row hk hi
  have hle := mGr_le hk
  refine ⟨⟨?_, fun k' d' n' hk' => ?_, fun k' o d' hk' => ⟨?_, fun r hr => ?_⟩, h.1.2.2.2⟩, h.fr hv _⟩
  · rw [aup_n f _ (h.ne rfl hv (by omega)), h.obj]
    congr 3
    simp only [mflds]
    rw [c3_n (cm := cm) (k := k) (i := i) (j := j) (x := x) (show 0 ≠ k from fun e => by rw [← e] at hk; cases hk), c3_n (cm := cm) (k := k) (i := i) (j := j) (x := x) (show 1 ≠ k from fun e => by rw [← e] at hk; cases hk), c3_n (cm := cm) (k := k) (i := i) (j := j) (x := x) (show 2 ≠ k from fun e => by rw [← e] at hk; cases hk), c3_n (cm := cm) (k := k) (i := i) (j := j) (x := x) (show 3 ≠ k from fun e => by rw [← e] at hk; cases hk), c3_n (cm := cm) (k := k) (i := i) (j := j) (x := x) (show 4 ≠ k from fun e => by rw [← e] at hk; cases hk), c3_n (cm := cm) (k := k) (i := i) (j := j) (x := x) (show 5 ≠ k from fun e => by rw [← e] at hk; cases hk), c3_n (cm := cm) (k := k) (i := i) (j := j) (x := x) (show 45 ≠ k from fun e => by rw [← e] at hk; cases hk), c3_n (cm := cm) (k := k) (i := i) (j := j) (x := x) (show 49 ≠ k from fun e => by rw [← e] at hk; cases hk)]
  · have hg := mAr_le hk'
    have e : k' ≠ k := fun e => by rw [e, hle.2.2] at hk'; cases hk'
    rw [aup_n f _ (h.ne (vM_ar hk') hv (by omega)), h.ar k' hk', c3_n e]
  · have hg := mGr_le hk'
    rw [aup_n f _ (h.ne (vM_gr hk') hv (by omega)), h.gr k' hk']
  · have hg := mGr_le hk'
    by_cases e : k' = k
    · subst e
      cases hk.symm.trans hk'
      by_cases e2 : r = i
      · subst e2
        rw [aup_s, c3_s]
      · rw [aup_n f _ (h.ne (vM_row hk' hr) hv (by omega)), h.row k' r hk' hr, c3_i e2]
    · rw [aup_n f _ (h.ne (vM_row hk' hr) hv (by omega)), h.row k' r hk' hr, c3_n e]
theorem MR.p0 {f0 f : AH} {ad : Nat → Nat} {cm : CM} {cl : CL} (h : MR f0 f ad cm cl) (x : Int32) : MR f0 (aup f (ad 0) (.inr (10, fset (mflds ad cm cl) 0 (.int x)))) ad (c3 cm 0 0 0 x) cl := by
  refine ⟨⟨?_, fun k' d' n' hk' => ?_, fun k' o d' hk' => ⟨?_, fun r hr => ?_⟩, h.1.2.2.2⟩, h.fr rfl _⟩
  · rw [aup_s]
    rfl
  · have hg := mAr_le hk'
    have e : k' ≠ 0 := fun e => by rw [e] at hk'; cases hk'
    rw [aup_n f _ (h.ne (vM_ar hk') rfl (by omega)), h.ar k' hk', c3_n e]
  · have hg := mGr_le hk'
    rw [aup_n f _ (h.ne (vM_gr hk') rfl (by omega)), h.gr k' hk']
  · have hg := mGr_le hk'
    have e : k' ≠ 0 := fun e => by rw [e] at hk'; cases hk'
    rw [aup_n f _ (h.ne (vM_row hk' hr) rfl (by omega)), h.row k' r hk' hr, c3_n e]
theorem MR.p1 {f0 f : AH} {ad : Nat → Nat} {cm : CM} {cl : CL} (h : MR f0 f ad cm cl) (x : Int32) : MR f0 (aup f (ad 0) (.inr (10, fset (mflds ad cm cl) 1 (.int x)))) ad (c3 cm 1 0 0 x) cl := by
  refine ⟨⟨?_, fun k' d' n' hk' => ?_, fun k' o d' hk' => ⟨?_, fun r hr => ?_⟩, h.1.2.2.2⟩, h.fr rfl _⟩
  · rw [aup_s]
    rfl
  · have hg := mAr_le hk'
    have e : k' ≠ 1 := fun e => by rw [e] at hk'; cases hk'
    rw [aup_n f _ (h.ne (vM_ar hk') rfl (by omega)), h.ar k' hk', c3_n e]
  · have hg := mGr_le hk'
    rw [aup_n f _ (h.ne (vM_gr hk') rfl (by omega)), h.gr k' hk']
  · have hg := mGr_le hk'
    have e : k' ≠ 1 := fun e => by rw [e] at hk'; cases hk'
    rw [aup_n f _ (h.ne (vM_row hk' hr) rfl (by omega)), h.row k' r hk' hr, c3_n e]
theorem MR.p2 {f0 f : AH} {ad : Nat → Nat} {cm : CM} {cl : CL} (h : MR f0 f ad cm cl) (x : Int32) : MR f0 (aup f (ad 0) (.inr (10, fset (mflds ad cm cl) 2 (.int x)))) ad (c3 cm 2 0 0 x) cl := by
  refine ⟨⟨?_, fun k' d' n' hk' => ?_, fun k' o d' hk' => ⟨?_, fun r hr => ?_⟩, h.1.2.2.2⟩, h.fr rfl _⟩
  · rw [aup_s]
    rfl
  · have hg := mAr_le hk'
    have e : k' ≠ 2 := fun e => by rw [e] at hk'; cases hk'
    rw [aup_n f _ (h.ne (vM_ar hk') rfl (by omega)), h.ar k' hk', c3_n e]
  · have hg := mGr_le hk'
    rw [aup_n f _ (h.ne (vM_gr hk') rfl (by omega)), h.gr k' hk']
  · have hg := mGr_le hk'
    have e : k' ≠ 2 := fun e => by rw [e] at hk'; cases hk'
    rw [aup_n f _ (h.ne (vM_row hk' hr) rfl (by omega)), h.row k' r hk' hr, c3_n e]
theorem MR.p3 {f0 f : AH} {ad : Nat → Nat} {cm : CM} {cl : CL} (h : MR f0 f ad cm cl) (x : Int32) : MR f0 (aup f (ad 0) (.inr (10, fset (mflds ad cm cl) 3 (.int x)))) ad (c3 cm 3 0 0 x) cl := by
  refine ⟨⟨?_, fun k' d' n' hk' => ?_, fun k' o d' hk' => ⟨?_, fun r hr => ?_⟩, h.1.2.2.2⟩, h.fr rfl _⟩
  · rw [aup_s]
    rfl
  · have hg := mAr_le hk'
    have e : k' ≠ 3 := fun e => by rw [e] at hk'; cases hk'
    rw [aup_n f _ (h.ne (vM_ar hk') rfl (by omega)), h.ar k' hk', c3_n e]
  · have hg := mGr_le hk'
    rw [aup_n f _ (h.ne (vM_gr hk') rfl (by omega)), h.gr k' hk']
  · have hg := mGr_le hk'
    have e : k' ≠ 3 := fun e => by rw [e] at hk'; cases hk'
    rw [aup_n f _ (h.ne (vM_row hk' hr) rfl (by omega)), h.row k' r hk' hr, c3_n e]
theorem MR.p4 {f0 f : AH} {ad : Nat → Nat} {cm : CM} {cl : CL} (h : MR f0 f ad cm cl) (x : Int32) : MR f0 (aup f (ad 0) (.inr (10, fset (mflds ad cm cl) 4 (.int x)))) ad (c3 cm 4 0 0 x) cl := by
  refine ⟨⟨?_, fun k' d' n' hk' => ?_, fun k' o d' hk' => ⟨?_, fun r hr => ?_⟩, h.1.2.2.2⟩, h.fr rfl _⟩
  · rw [aup_s]
    rfl
  · have hg := mAr_le hk'
    have e : k' ≠ 4 := fun e => by rw [e] at hk'; cases hk'
    rw [aup_n f _ (h.ne (vM_ar hk') rfl (by omega)), h.ar k' hk', c3_n e]
  · have hg := mGr_le hk'
    rw [aup_n f _ (h.ne (vM_gr hk') rfl (by omega)), h.gr k' hk']
  · have hg := mGr_le hk'
    have e : k' ≠ 4 := fun e => by rw [e] at hk'; cases hk'
    rw [aup_n f _ (h.ne (vM_row hk' hr) rfl (by omega)), h.row k' r hk' hr, c3_n e]
theorem MR.p5 {f0 f : AH} {ad : Nat → Nat} {cm : CM} {cl : CL} (h : MR f0 f ad cm cl) (x : Int32) : MR f0 (aup f (ad 0) (.inr (10, fset (mflds ad cm cl) 5 (.int x)))) ad (c3 cm 5 0 0 x) cl := by
  refine ⟨⟨?_, fun k' d' n' hk' => ?_, fun k' o d' hk' => ⟨?_, fun r hr => ?_⟩, h.1.2.2.2⟩, h.fr rfl _⟩
  · rw [aup_s]
    rfl
  · have hg := mAr_le hk'
    have e : k' ≠ 5 := fun e => by rw [e] at hk'; cases hk'
    rw [aup_n f _ (h.ne (vM_ar hk') rfl (by omega)), h.ar k' hk', c3_n e]
  · have hg := mGr_le hk'
    rw [aup_n f _ (h.ne (vM_gr hk') rfl (by omega)), h.gr k' hk']
  · have hg := mGr_le hk'
    have e : k' ≠ 5 := fun e => by rw [e] at hk'; cases hk'
    rw [aup_n f _ (h.ne (vM_row hk' hr) rfl (by omega)), h.row k' r hk' hr, c3_n e]
theorem MR.p45 {f0 f : AH} {ad : Nat → Nat} {cm : CM} {cl : CL} (h : MR f0 f ad cm cl) (x : Int32) : MR f0 (aup f (ad 0) (.inr (10, fset (mflds ad cm cl) 45 (.int x)))) ad (c3 cm 45 0 0 x) cl := by
  refine ⟨⟨?_, fun k' d' n' hk' => ?_, fun k' o d' hk' => ⟨?_, fun r hr => ?_⟩, h.1.2.2.2⟩, h.fr rfl _⟩
  · rw [aup_s]
    rfl
  · have hg := mAr_le hk'
    have e : k' ≠ 45 := fun e => by rw [e] at hk'; cases hk'
    rw [aup_n f _ (h.ne (vM_ar hk') rfl (by omega)), h.ar k' hk', c3_n e]
  · have hg := mGr_le hk'
    rw [aup_n f _ (h.ne (vM_gr hk') rfl (by omega)), h.gr k' hk']
  · have hg := mGr_le hk'
    have e : k' ≠ 45 := fun e => by rw [e] at hk'; cases hk'
    rw [aup_n f _ (h.ne (vM_row hk' hr) rfl (by omega)), h.row k' r hk' hr, c3_n e]
theorem MR.p49 {f0 f : AH} {ad : Nat → Nat} {cm : CM} {cl : CL} (h : MR f0 f ad cm cl) (x : Int32) : MR f0 (aup f (ad 0) (.inr (10, fset (mflds ad cm cl) 49 (.int x)))) ad (c3 cm 49 0 0 x) cl := by
  refine ⟨⟨?_, fun k' d' n' hk' => ?_, fun k' o d' hk' => ⟨?_, fun r hr => ?_⟩, h.1.2.2.2⟩, h.fr rfl _⟩
  · rw [aup_s]
    rfl
  · have hg := mAr_le hk'
    have e : k' ≠ 49 := fun e => by rw [e] at hk'; cases hk'
    rw [aup_n f _ (h.ne (vM_ar hk') rfl (by omega)), h.ar k' hk', c3_n e]
  · have hg := mGr_le hk'
    rw [aup_n f _ (h.ne (vM_gr hk') rfl (by omega)), h.gr k' hk']
  · have hg := mGr_le hk'
    have e : k' ≠ 49 := fun e => by rw [e] at hk'; cases hk'
    rw [aup_n f _ (h.ne (vM_row hk' hr) rfl (by omega)), h.row k' r hk' hr, c3_n e]
theorem MR.p46 {f0 f : AH} {ad : Nat → Nat} {cm : CM} {cl : CL} (h : MR f0 f ad cm cl) (x : Int64) : MR f0 (aup f (ad 0) (.inr (10, fset (mflds ad cm cl) 46 (.long x)))) ad cm (cl1 cl 46 x) := by
  refine ⟨⟨?_, fun k' d' n' hk' => ?_, fun k' o d' hk' => ⟨?_, fun r hr => ?_⟩, h.1.2.2.2⟩, h.fr rfl _⟩
  · rw [aup_s]
    rfl
  · have hg := mAr_le hk'
    rw [aup_n f _ (h.ne (vM_ar hk') rfl (by omega)), h.ar k' hk']
  · have hg := mGr_le hk'
    rw [aup_n f _ (h.ne (vM_gr hk') rfl (by omega)), h.gr k' hk']
  · have hg := mGr_le hk'
    rw [aup_n f _ (h.ne (vM_row hk' hr) rfl (by omega)), h.row k' r hk' hr]
theorem MR.p47 {f0 f : AH} {ad : Nat → Nat} {cm : CM} {cl : CL} (h : MR f0 f ad cm cl) (x : Int64) : MR f0 (aup f (ad 0) (.inr (10, fset (mflds ad cm cl) 47 (.long x)))) ad cm (cl1 cl 47 x) := by
  refine ⟨⟨?_, fun k' d' n' hk' => ?_, fun k' o d' hk' => ⟨?_, fun r hr => ?_⟩, h.1.2.2.2⟩, h.fr rfl _⟩
  · rw [aup_s]
    rfl
  · have hg := mAr_le hk'
    rw [aup_n f _ (h.ne (vM_ar hk') rfl (by omega)), h.ar k' hk']
  · have hg := mGr_le hk'
    rw [aup_n f _ (h.ne (vM_gr hk') rfl (by omega)), h.gr k' hk']
  · have hg := mGr_le hk'
    rw [aup_n f _ (h.ne (vM_row hk' hr) rfl (by omega)), h.row k' r hk' hr]
theorem MR.p48 {f0 f : AH} {ad : Nat → Nat} {cm : CM} {cl : CL} (h : MR f0 f ad cm cl) (x : Int64) : MR f0 (aup f (ad 0) (.inr (10, fset (mflds ad cm cl) 48 (.long x)))) ad cm (cl1 cl 48 x) := by
  refine ⟨⟨?_, fun k' d' n' hk' => ?_, fun k' o d' hk' => ⟨?_, fun r hr => ?_⟩, h.1.2.2.2⟩, h.fr rfl _⟩
  · rw [aup_s]
    rfl
  · have hg := mAr_le hk'
    rw [aup_n f _ (h.ne (vM_ar hk') rfl (by omega)), h.ar k' hk']
  · have hg := mGr_le hk'
    rw [aup_n f _ (h.ne (vM_gr hk') rfl (by omega)), h.gr k' hk']
  · have hg := mGr_le hk'
    rw [aup_n f _ (h.ne (vM_row hk' hr) rfl (by omega)), h.row k' r hk' hr]
theorem mf_0 (ad : Nat → Nat) (cm : CM) (cl : CL) : fget (mflds ad cm cl) 0 = some (.int (cm 0 0 0)) := rfl
theorem mf_1 (ad : Nat → Nat) (cm : CM) (cl : CL) : fget (mflds ad cm cl) 1 = some (.int (cm 1 0 0)) := rfl
theorem mf_2 (ad : Nat → Nat) (cm : CM) (cl : CL) : fget (mflds ad cm cl) 2 = some (.int (cm 2 0 0)) := rfl
theorem mf_3 (ad : Nat → Nat) (cm : CM) (cl : CL) : fget (mflds ad cm cl) 3 = some (.int (cm 3 0 0)) := rfl
theorem mf_4 (ad : Nat → Nat) (cm : CM) (cl : CL) : fget (mflds ad cm cl) 4 = some (.int (cm 4 0 0)) := rfl
theorem mf_5 (ad : Nat → Nat) (cm : CM) (cl : CL) : fget (mflds ad cm cl) 5 = some (.int (cm 5 0 0)) := rfl
theorem mf_6 (ad : Nat → Nat) (cm : CM) (cl : CL) : fget (mflds ad cm cl) 6 = some (.ref (ad 6)) := rfl
theorem mf_7 (ad : Nat → Nat) (cm : CM) (cl : CL) : fget (mflds ad cm cl) 7 = some (.ref (ad 7)) := rfl
theorem mf_8 (ad : Nat → Nat) (cm : CM) (cl : CL) : fget (mflds ad cm cl) 8 = some (.ref (ad 8)) := rfl
theorem mf_9 (ad : Nat → Nat) (cm : CM) (cl : CL) : fget (mflds ad cm cl) 9 = some (.ref (ad 9)) := rfl
theorem mf_10 (ad : Nat → Nat) (cm : CM) (cl : CL) : fget (mflds ad cm cl) 10 = some (.ref (ad 10)) := rfl
theorem mf_11 (ad : Nat → Nat) (cm : CM) (cl : CL) : fget (mflds ad cm cl) 11 = some (.ref (ad 11)) := rfl
theorem mf_12 (ad : Nat → Nat) (cm : CM) (cl : CL) : fget (mflds ad cm cl) 12 = some (.ref (ad 12)) := rfl
theorem mf_13 (ad : Nat → Nat) (cm : CM) (cl : CL) : fget (mflds ad cm cl) 13 = some (.ref (ad 13)) := rfl
theorem mf_14 (ad : Nat → Nat) (cm : CM) (cl : CL) : fget (mflds ad cm cl) 14 = some (.ref (ad 14)) := rfl
theorem mf_15 (ad : Nat → Nat) (cm : CM) (cl : CL) : fget (mflds ad cm cl) 15 = some (.ref (ad 15)) := rfl
theorem mf_16 (ad : Nat → Nat) (cm : CM) (cl : CL) : fget (mflds ad cm cl) 16 = some (.ref (ad 16)) := rfl
theorem mf_17 (ad : Nat → Nat) (cm : CM) (cl : CL) : fget (mflds ad cm cl) 17 = some (.ref (ad 17)) := rfl
theorem mf_18 (ad : Nat → Nat) (cm : CM) (cl : CL) : fget (mflds ad cm cl) 18 = some (.ref (ad 18)) := rfl
theorem mf_19 (ad : Nat → Nat) (cm : CM) (cl : CL) : fget (mflds ad cm cl) 19 = some (.ref (ad 19)) := rfl
theorem mf_20 (ad : Nat → Nat) (cm : CM) (cl : CL) : fget (mflds ad cm cl) 20 = some (.ref (ad 20)) := rfl
theorem mf_21 (ad : Nat → Nat) (cm : CM) (cl : CL) : fget (mflds ad cm cl) 21 = some (.ref (ad 21)) := rfl
theorem mf_22 (ad : Nat → Nat) (cm : CM) (cl : CL) : fget (mflds ad cm cl) 22 = some (.ref (ad 22)) := rfl
theorem mf_23 (ad : Nat → Nat) (cm : CM) (cl : CL) : fget (mflds ad cm cl) 23 = some (.ref (ad 23)) := rfl
theorem mf_24 (ad : Nat → Nat) (cm : CM) (cl : CL) : fget (mflds ad cm cl) 24 = some (.ref (ad 24)) := rfl
theorem mf_25 (ad : Nat → Nat) (cm : CM) (cl : CL) : fget (mflds ad cm cl) 25 = some (.ref (ad 25)) := rfl
theorem mf_26 (ad : Nat → Nat) (cm : CM) (cl : CL) : fget (mflds ad cm cl) 26 = some (.ref (ad 26)) := rfl
theorem mf_27 (ad : Nat → Nat) (cm : CM) (cl : CL) : fget (mflds ad cm cl) 27 = some (.ref (ad 27)) := rfl
theorem mf_28 (ad : Nat → Nat) (cm : CM) (cl : CL) : fget (mflds ad cm cl) 28 = some (.ref (ad 28)) := rfl
theorem mf_29 (ad : Nat → Nat) (cm : CM) (cl : CL) : fget (mflds ad cm cl) 29 = some (.ref (ad 29)) := rfl
theorem mf_30 (ad : Nat → Nat) (cm : CM) (cl : CL) : fget (mflds ad cm cl) 30 = some (.ref (ad 30)) := rfl
theorem mf_31 (ad : Nat → Nat) (cm : CM) (cl : CL) : fget (mflds ad cm cl) 31 = some (.ref (ad 31)) := rfl
theorem mf_32 (ad : Nat → Nat) (cm : CM) (cl : CL) : fget (mflds ad cm cl) 32 = some (.ref (ad 32)) := rfl
theorem mf_33 (ad : Nat → Nat) (cm : CM) (cl : CL) : fget (mflds ad cm cl) 33 = some (.ref (ad 33)) := rfl
theorem mf_34 (ad : Nat → Nat) (cm : CM) (cl : CL) : fget (mflds ad cm cl) 34 = some (.ref (ad 34)) := rfl
theorem mf_35 (ad : Nat → Nat) (cm : CM) (cl : CL) : fget (mflds ad cm cl) 35 = some (.ref (ad 35)) := rfl
theorem mf_36 (ad : Nat → Nat) (cm : CM) (cl : CL) : fget (mflds ad cm cl) 36 = some (.ref (ad 36)) := rfl
theorem mf_37 (ad : Nat → Nat) (cm : CM) (cl : CL) : fget (mflds ad cm cl) 37 = some (.ref (ad 37)) := rfl
theorem mf_38 (ad : Nat → Nat) (cm : CM) (cl : CL) : fget (mflds ad cm cl) 38 = some (.ref (ad 38)) := rfl
theorem mf_39 (ad : Nat → Nat) (cm : CM) (cl : CL) : fget (mflds ad cm cl) 39 = some (.ref (ad 39)) := rfl
theorem mf_40 (ad : Nat → Nat) (cm : CM) (cl : CL) : fget (mflds ad cm cl) 40 = some (.ref (ad 40)) := rfl
theorem mf_41 (ad : Nat → Nat) (cm : CM) (cl : CL) : fget (mflds ad cm cl) 41 = some (.ref (ad 41)) := rfl
theorem mf_42 (ad : Nat → Nat) (cm : CM) (cl : CL) : fget (mflds ad cm cl) 42 = some (.ref (ad 42)) := rfl
theorem mf_43 (ad : Nat → Nat) (cm : CM) (cl : CL) : fget (mflds ad cm cl) 43 = some (.ref (ad 43)) := rfl
theorem mf_44 (ad : Nat → Nat) (cm : CM) (cl : CL) : fget (mflds ad cm cl) 44 = some (.ref (ad 44)) := rfl
theorem mf_45 (ad : Nat → Nat) (cm : CM) (cl : CL) : fget (mflds ad cm cl) 45 = some (.int (cm 45 0 0)) := rfl
theorem mf_46 (ad : Nat → Nat) (cm : CM) (cl : CL) : fget (mflds ad cm cl) 46 = some (.long (cl 46)) := rfl
theorem mf_47 (ad : Nat → Nat) (cm : CM) (cl : CL) : fget (mflds ad cm cl) 47 = some (.long (cl 47)) := rfl
theorem mf_48 (ad : Nat → Nat) (cm : CM) (cl : CL) : fget (mflds ad cm cl) 48 = some (.long (cl 48)) := rfl
theorem mf_49 (ad : Nat → Nat) (cm : CM) (cl : CL) : fget (mflds ad cm cl) 49 = some (.int (cm 49 0 0)) := rfl
theorem mf_50 (ad : Nat → Nat) (cm : CM) (cl : CL) : fget (mflds ad cm cl) 50 = some (.ref (ad 50)) := rfl
theorem mf_51 (ad : Nat → Nat) (cm : CM) (cl : CL) : fget (mflds ad cm cl) 51 = some (.ref (ad 51)) := rfl
theorem mf_len (ad : Nat → Nat) (cm : CM) (cl : CL) : (mflds ad cm cl).length = 52 := rfl
theorem mOut_lt {ad : Nat → Nat} {k r : Nat} (h : r < 40) : mOut ad k r = some (ad (100 * k + r)) := if_pos h
theorem MR.q0 {f0 f f1 : AH} {ad : Nat → Nat} {cm : CM} {cl : CL} {x : Int32} (h : MR f0 f ad cm cl) (e : f1 = aup f (ad 0) (.inr (10, fset (mflds ad cm cl) 0 (.int x)))) : MR f0 f1 ad (c3 cm 0 0 0 x) cl := e ▸ h.p0 x
theorem MR.q1 {f0 f f1 : AH} {ad : Nat → Nat} {cm : CM} {cl : CL} {x : Int32} (h : MR f0 f ad cm cl) (e : f1 = aup f (ad 0) (.inr (10, fset (mflds ad cm cl) 1 (.int x)))) : MR f0 f1 ad (c3 cm 1 0 0 x) cl := e ▸ h.p1 x
theorem MR.q2 {f0 f f1 : AH} {ad : Nat → Nat} {cm : CM} {cl : CL} {x : Int32} (h : MR f0 f ad cm cl) (e : f1 = aup f (ad 0) (.inr (10, fset (mflds ad cm cl) 2 (.int x)))) : MR f0 f1 ad (c3 cm 2 0 0 x) cl := e ▸ h.p2 x
theorem MR.q3 {f0 f f1 : AH} {ad : Nat → Nat} {cm : CM} {cl : CL} {x : Int32} (h : MR f0 f ad cm cl) (e : f1 = aup f (ad 0) (.inr (10, fset (mflds ad cm cl) 3 (.int x)))) : MR f0 f1 ad (c3 cm 3 0 0 x) cl := e ▸ h.p3 x
theorem MR.q4 {f0 f f1 : AH} {ad : Nat → Nat} {cm : CM} {cl : CL} {x : Int32} (h : MR f0 f ad cm cl) (e : f1 = aup f (ad 0) (.inr (10, fset (mflds ad cm cl) 4 (.int x)))) : MR f0 f1 ad (c3 cm 4 0 0 x) cl := e ▸ h.p4 x
theorem MR.q5 {f0 f f1 : AH} {ad : Nat → Nat} {cm : CM} {cl : CL} {x : Int32} (h : MR f0 f ad cm cl) (e : f1 = aup f (ad 0) (.inr (10, fset (mflds ad cm cl) 5 (.int x)))) : MR f0 f1 ad (c3 cm 5 0 0 x) cl := e ▸ h.p5 x
theorem MR.q45 {f0 f f1 : AH} {ad : Nat → Nat} {cm : CM} {cl : CL} {x : Int32} (h : MR f0 f ad cm cl) (e : f1 = aup f (ad 0) (.inr (10, fset (mflds ad cm cl) 45 (.int x)))) : MR f0 f1 ad (c3 cm 45 0 0 x) cl := e ▸ h.p45 x
theorem MR.q49 {f0 f f1 : AH} {ad : Nat → Nat} {cm : CM} {cl : CL} {x : Int32} (h : MR f0 f ad cm cl) (e : f1 = aup f (ad 0) (.inr (10, fset (mflds ad cm cl) 49 (.int x)))) : MR f0 f1 ad (c3 cm 49 0 0 x) cl := e ▸ h.p49 x
theorem MR.q46 {f0 f f1 : AH} {ad : Nat → Nat} {cm : CM} {cl : CL} {x : Int64} (h : MR f0 f ad cm cl) (e : f1 = aup f (ad 0) (.inr (10, fset (mflds ad cm cl) 46 (.long x)))) : MR f0 f1 ad cm (cl1 cl 46 x) := e ▸ h.p46 x
theorem MR.q47 {f0 f f1 : AH} {ad : Nat → Nat} {cm : CM} {cl : CL} {x : Int64} (h : MR f0 f ad cm cl) (e : f1 = aup f (ad 0) (.inr (10, fset (mflds ad cm cl) 47 (.long x)))) : MR f0 f1 ad cm (cl1 cl 47 x) := e ▸ h.p47 x
theorem MR.q48 {f0 f f1 : AH} {ad : Nat → Nat} {cm : CM} {cl : CL} {x : Int64} (h : MR f0 f ad cm cl) (e : f1 = aup f (ad 0) (.inr (10, fset (mflds ad cm cl) 48 (.long x)))) : MR f0 f1 ad cm (cl1 cl 48 x) := e ▸ h.p48 x
theorem MR.qa {f0 f f1 : AH} {ad : Nat → Nat} {cm : CM} {cl : CL} {x : Int32} {j : Nat} {arr : Nat → Int32} (h : MR f0 f ad cm cl) (k : Nat) {d n : Nat} (hk : mAr k = some (d, n)) (ha : cm k 0 = arr) (e : f1 = aup f (ad k) (.inl (d, n, .inl (upd arr j x)))) : MR f0 f1 ad (c3 cm k 0 j x) cl := by subst ha; exact e ▸ h.st k hk j x
theorem MR.qg {f0 f f1 : AH} {ad : Nat → Nat} {cm : CM} {cl : CL} {x : Int32} {j i : Nat} {arr : Nat → Int32} (h : MR f0 f ad cm cl) (k : Nat) {o d : Nat} (hk : mGr k = some (o, d)) (hi : i < 40) (ha : cm k i = arr) (e : f1 = aup f (ad (100 * k + i)) (.inl (d, 160, .inl (upd arr j x)))) : MR f0 f1 ad (c3 cm k i j x) cl := by subst ha; exact e ▸ h.sg k hk hi j x
