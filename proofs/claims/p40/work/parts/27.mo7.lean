-- deps: 23.mo3
/-! ===== the reference: the log's rows, bits ===== -/
/-- bits to tell so many things -/
def btF (many : Int32) : Nat → Nat → Nat
  | 0, b => b
  | n + 1, b => if (1 : Int32) <<< (nI b &&& 31) < many then btF many n (b + 1) else b
def btI (many : Int32) : Int32 := nI (btF many 31 0)
theorem btF_le (many : Int32) : ∀ n b, btF many n b ≤ b + n
  | 0, b => Nat.le_refl _
  | n + 1, b => by
    rw [btF]
    split
    · have := btF_le many n (b + 1); omega
    · omega
theorem shl30 : (1 : Int32) <<< (nI 30 &&& 31) = 1073741824 := by decide

