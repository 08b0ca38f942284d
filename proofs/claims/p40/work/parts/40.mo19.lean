-- deps: 28.mo8 39.mo18
/-! ===== the reference: the reading goes round ===== -/
def rdB (c : CM) (s : Nat) : Bool := decide (c 33 0 s = 0) && (decide (c 5 0 0 < c 28 0 s) && decide (c 37 0 (10 * s + nn (c 5 0 0)) = 0))
abbrev RX : Type := CM × CL × Bool
def rdS (x : RX) (s : Nat) : RX := if rdB x.1 s then (enC (loC x.1 s) s, loL x.1 x.2.1 s, x.2.2 || loB x.1 s) else x
def rdI (x : RX) : Nat → RX
  | 0 => x
  | s + 1 => rdS (rdI x s) s
def rdE (c : CM) : CM := c3 c 5 0 0 (if c 5 0 0 + 1 < chN c then c 5 0 0 + 1 else 0)
def rdL (x : RX) : CL := cl1 x.2.1 46 (x.2.1 46 + (if x.2.2 then 1 else 0))
def rdO (S : Nat) : Nat → CM × CL → CM × CL × Nat
  | 0, x => (x.1, x.2, 0)
  | n + 1, x => if 0 < opN x.1 then
      ((rdO S n (rdE (rdI (x.1, x.2, false) S).1, rdL (rdI (x.1, x.2, false) S))).1, (rdO S n (rdE (rdI (x.1, x.2, false) S).1, rdL (rdI (x.1, x.2, false) S))).2.1, (rdO S n (rdE (rdI (x.1, x.2, false) S).1, rdL (rdI (x.1, x.2, false) S))).2.2 + 1)
    else (x.1, x.2, 0)
def EnOk (cm : CM) (s : Nat) : Prop := Nb (cm 34 0 s) 160 ∧ ∀ y, y < nn (cm 34 0 s) → atF (cm 38 s) (cm 38 s y) (nn (cm 34 0 s)) < 160
/-- what the reading stands upon: a property that its steps keep -/
def RdOk (S : Nat) (I : CM → Prop) : Prop := (∀ c, I c → c 4 0 0 = nI S ∧ ∃ P, P < 10 ∧ c 5 0 0 = nI P) ∧ (∀ c s, I c → s < S → rdB c s = true → LoOk c s ∧ EnOk (loC c s) s ∧ I (enC (loC c s) s)) ∧ (∀ c, I c → I (rdE c))
def rdM (cm : CM) (cl : CL) (x : Int32) : CM × CL × Nat :=
  if inR x 1 40 = false then (thr cm true 1, cl, 0) else rdO (nn (cm 4 0 0)) (nn x) (thr cm false 1, cl)
theorem rdO_le (S : Nat) : ∀ n x, (rdO S n x).2.2 ≤ n
  | 0, _ => Nat.le_refl _
  | n + 1, x => by
    rw [rdO]
    split
    · exact Nat.succ_le_succ (rdO_le S n _)
    · exact Nat.zero_le _

