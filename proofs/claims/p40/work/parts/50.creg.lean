-- deps: 23.mo3
/-! ===== the class: its cells ===== -/
abbrev CV : Type := Nat → Nat → Int32
/-- lengths of arrays; how many chunks, filters, scans -/
def Sh : Type := (Nat → Nat) × Nat × Nat × Nat
def Sh.N (sh : Sh) : Nat → Nat := sh.1
def Sh.C (sh : Sh) : Nat := sh.2.1
def Sh.F (sh : Sh) : Nat := sh.2.2.1
def Sh.S (sh : Sh) : Nat := sh.2.2.2
def kd0 : Nat → Nat
  | 0 => 9
  | 1 => 7
  | 2 => 20
  | 3 => 21
  | 4 => 10
  | 6 => 4
  | 7 => 10
  | 9 => 20
  | 10 => 1
  | 11 => 20
  | 12 => 20
  | 13 => 21
  | 14 => 10
  | 16 => 5
  | 17 => 20
  | 18 => 20
  | _ => 0
def kdC : Nat → Nat
  | 0 => 2
  | 1 => 20
  | 2 => 1
  | 3 => 20
  | 4 => 20
  | 5 => 21
  | _ => 0
def kdS : Nat → Nat
  | 0 => 8
  | 1 => 7
  | 2 => 20
  | 3 => 21
  | 4 => 5
  | 5 => 20
  | 6 => 6
  | 7 => 20
  | 8 => 21
  | _ => 0
/-- what stands at a code: 1 Bounds 2 Chunk 3 Filter 4 Filters 5 Groups 6 Parts 7 Rows 8 Scan 9 the store 10 a list 20 int[] 21 boolean[] 22 23 24 the lists' arrays -/
def kd (sh : Sh) (i : Nat) : Nat :=
  if i < 19 then
    (if i = 5 then (if sh.N 5 = 0 then 0 else 22) else if i = 8 then (if sh.N 8 = 0 then 0 else 23) else if i = 15 then (if sh.N 15 = 0 then 0 else 24) else kd0 i)
  else if i < 100 then 0
  else if i < 300 then (if (i - 100) / 10 < sh.C then kdC ((i - 100) % 10) else 0)
  else if i < 400 then (if i - 300 < sh.F then 3 else 0)
  else if (i - 400) / 20 < sh.S then kdS ((i - 400) % 20) else 0
def cell (g : GG) (sh : Sh) (V : CV) (L : Int64) (ad : Nat → Nat) (i : Nat) : Option AC := match kd sh i with
  | 1 => some (.inr (1, [.ref (ad (i + 1)), .ref (ad (i + 2)), .ref (ad (i + 3))]))
  | 2 => some (.inr (2, [.int (V i 0), .ref (ad (i + 1)), .ref (ad (i + 2)), .int (V i 3), .int (V i 4)]))
  | 3 => some (.inr (3, [.int (V i 0), .int (V i 1), .int (V i 2), .int (V i 3), .int (V i 4), .int (V i 5), .int (V i 6), .int (V i 7)]))
  | 4 => some (.inr (4, [.ref (ad (i + 1)), .ref (ad (i + 3)), .ref (ad (i + 4))]))
  | 5 => some (.inr (5, [.ref (ad (i + 1)), .int (V i 1)]))
  | 6 => some (.inr (6, [.ref (ad (i + 1)), .ref (ad (i + 2)), .int (V i 2), .int (V i 3), .int (V i 4)]))
  | 7 => some (.inr (7, [.ref (ad (i + 1)), .ref (ad (i + 2)), .int (V i 2), .int (V i 3)]))
  | 8 => some (.inr (8, [.int (V i 0), .int (V i 1), .int (V i 2), .int (V i 3), .int (V i 4), .ref (ad (i + 1)), .ref (ad (i + 4)), .ref (ad (i + 6)), .int (V i 8), .int (V i 9), .int (V i 10)]))
  | 9 => some (.inr (9, [.ref (ad 1), .ref (ad 4), .ref (ad 6), .ref (ad 14), .ref (ad 16), .ref (ad 18), .int (V i 6), .int (V i 7), .int (V i 8), .long L, .int (V i 10)]))
  | 10 => some (.inr (0, [.int (V i 0), .ref (if sh.N (i + 1) = 0 then g.2.2 2 else ad (i + 1)), .int (V i 2)]))
  | 20 => some (.inl (0, sh.N i, .inl (V i)))
  | 21 => some (.inl (1, sh.N i, .inl (V i)))
  | 22 => some (.inl (7, sh.N i, .inr (.inr (.inr (.inr fun j => if j < sh.C then some (ad (100 + 10 * j)) else none)))))
  | 23 => some (.inl (7, sh.N i, .inr (.inr (.inr (.inr fun j => if j < sh.F then some (ad (300 + j)) else none)))))
  | 24 => some (.inl (7, sh.N i, .inr (.inr (.inr (.inr fun j => if j < sh.S then some (ad (400 + 20 * j)) else none)))))
  | _ => none
/-- the cells stand where ad says, apart from one another and from the others O, which are as they were -/
def CR (g : GG) (O f : AH) (ad : Nat → Nat) (sh : Sh) (V : CV) (L : Int64) : Prop :=
  (∀ i c, cell g sh V L ad i = some c → f (ad i) = some c) ∧ (∀ i j, kd sh i ≠ 0 → kd sh j ≠ 0 → ad i = ad j → i = j) ∧ ∀ q c, O q = some c → f q = some c ∧ ∀ i, kd sh i ≠ 0 → q ≠ ad i
def c2 (V : CV) (i k : Nat) (x : Int32) : CV := fun i' => if i' = i then upd (V i) k x else V i'
theorem c2_s (V : CV) (i k : Nat) (x : Int32) : c2 V i k x i = upd (V i) k x := if_pos rfl
theorem c2_n (V : CV) {i i' : Nat} (k : Nat) (x : Int32) (h : i' ≠ i) : c2 V i k x i' = V i' := if_neg h
theorem cell_n {g : GG} {sh : Sh} {V : CV} {L : Int64} {ad : Nat → Nat} {i j k : Nat} {x : Int32} (h : j ≠ i) : cell g sh (c2 V i k x) L ad j = cell g sh V L ad j := by
  simp only [cell, c2_n V k x h]
theorem CR.st {g : GG} {O f f1 : AH} {ad : Nat → Nat} {sh : Sh} {V : CV} {L : Int64} {i k : Nat} {x : Int32} {c : AC} (h : CR g O f ad sh V L) (hk : kd sh i ≠ 0) (hc : cell g sh (c2 V i k x) L ad i = some c) (e : f1 = aup f (ad i) c) : CR g O f1 ad sh (c2 V i k x) L := by
  subst e
  obtain ⟨h1, h2, h3⟩ := h
  refine ⟨fun j c' hj => ?_, h2, fun q c' hq => ⟨?_, (h3 q c' hq).2⟩⟩
  · by_cases e : j = i
    · subst e
      rw [aup_s, ← hc, hj]
    · rw [cell_n e] at hj
      have hj0 : kd sh j ≠ 0 := fun z => by rw [cell, z] at hj; cases hj
      rw [aup_n f c (fun z => e (h2 j i hj0 hk z))]
      exact h1 j c' hj
  · rw [aup_n f c ((h3 q c' hq).2 i hk)]
    exact (h3 q c' hq).1
theorem CR.stL {g : GG} {O f f1 : AH} {ad : Nat → Nat} {sh : Sh} {V : CV} {L x : Int64} {c : AC} (h : CR g O f ad sh V L) (hc : cell g sh V x ad 0 = some c) (e : f1 = aup f (ad 0) c) : CR g O f1 ad sh V x := by
  subst e
  obtain ⟨h1, h2, h3⟩ := h
  have hk : kd sh 0 ≠ 0 := by show (9 : Nat) ≠ 0; decide
  refine ⟨fun j c' hj => ?_, h2, fun q c' hq => ⟨?_, (h3 q c' hq).2⟩⟩
  · by_cases e : j = 0
    · subst e
      rw [aup_s, ← hc, hj]
    · have hj0 : kd sh j ≠ 0 := fun z => by rw [cell, z] at hj; cases hj
      rw [aup_n f c (fun z => e (h2 j 0 hj0 hk z))]
      refine h1 j c' ?_
      rw [← hj]
      have h9 : kd sh j ≠ 9 := by
        intro z
        apply e
        unfold kd at z
        revert z
        unfold kdC kdS
        repeat' split
        all_goals (intro z; first | (cases z; done) | skip)
        revert z
        unfold kd0
        split <;> (intro z; first | rfl | (cases z; done))
      unfold cell
      split <;> first | rfl | (exact absurd ‹_› h9)
  · rw [aup_n f c ((h3 q c' hq).2 0 hk)]
    exact (h3 q c' hq).1
theorem CR.o1 {g : GG} {O f : AH} {ad : Nat → Nat} {sh : Sh} {V : CV} {L : Int64} {i : Nat} (h : CR g O f ad sh V L) (hk : kd sh i = 1) : f (ad i) = some (.inr (1, [.ref (ad (i + 1)), .ref (ad (i + 2)), .ref (ad (i + 3))])) := h.1 i _ (by rw [cell, hk]; rfl)
theorem CR.o2 {g : GG} {O f : AH} {ad : Nat → Nat} {sh : Sh} {V : CV} {L : Int64} {i : Nat} (h : CR g O f ad sh V L) (hk : kd sh i = 2) : f (ad i) = some (.inr (2, [.int (V i 0), .ref (ad (i + 1)), .ref (ad (i + 2)), .int (V i 3), .int (V i 4)])) := h.1 i _ (by rw [cell, hk]; rfl)
theorem CR.o3 {g : GG} {O f : AH} {ad : Nat → Nat} {sh : Sh} {V : CV} {L : Int64} {i : Nat} (h : CR g O f ad sh V L) (hk : kd sh i = 3) : f (ad i) = some (.inr (3, [.int (V i 0), .int (V i 1), .int (V i 2), .int (V i 3), .int (V i 4), .int (V i 5), .int (V i 6), .int (V i 7)])) := h.1 i _ (by rw [cell, hk]; rfl)
theorem CR.o4 {g : GG} {O f : AH} {ad : Nat → Nat} {sh : Sh} {V : CV} {L : Int64} {i : Nat} (h : CR g O f ad sh V L) (hk : kd sh i = 4) : f (ad i) = some (.inr (4, [.ref (ad (i + 1)), .ref (ad (i + 3)), .ref (ad (i + 4))])) := h.1 i _ (by rw [cell, hk]; rfl)
theorem CR.o5 {g : GG} {O f : AH} {ad : Nat → Nat} {sh : Sh} {V : CV} {L : Int64} {i : Nat} (h : CR g O f ad sh V L) (hk : kd sh i = 5) : f (ad i) = some (.inr (5, [.ref (ad (i + 1)), .int (V i 1)])) := h.1 i _ (by rw [cell, hk]; rfl)
theorem CR.o6 {g : GG} {O f : AH} {ad : Nat → Nat} {sh : Sh} {V : CV} {L : Int64} {i : Nat} (h : CR g O f ad sh V L) (hk : kd sh i = 6) : f (ad i) = some (.inr (6, [.ref (ad (i + 1)), .ref (ad (i + 2)), .int (V i 2), .int (V i 3), .int (V i 4)])) := h.1 i _ (by rw [cell, hk]; rfl)
theorem CR.o7 {g : GG} {O f : AH} {ad : Nat → Nat} {sh : Sh} {V : CV} {L : Int64} {i : Nat} (h : CR g O f ad sh V L) (hk : kd sh i = 7) : f (ad i) = some (.inr (7, [.ref (ad (i + 1)), .ref (ad (i + 2)), .int (V i 2), .int (V i 3)])) := h.1 i _ (by rw [cell, hk]; rfl)
theorem CR.o8 {g : GG} {O f : AH} {ad : Nat → Nat} {sh : Sh} {V : CV} {L : Int64} {i : Nat} (h : CR g O f ad sh V L) (hk : kd sh i = 8) : f (ad i) = some (.inr (8, [.int (V i 0), .int (V i 1), .int (V i 2), .int (V i 3), .int (V i 4), .ref (ad (i + 1)), .ref (ad (i + 4)), .ref (ad (i + 6)), .int (V i 8), .int (V i 9), .int (V i 10)])) := h.1 i _ (by rw [cell, hk]; rfl)
theorem CR.o9 {g : GG} {O f : AH} {ad : Nat → Nat} {sh : Sh} {V : CV} {L : Int64} {i : Nat} (h : CR g O f ad sh V L) (hk : kd sh i = 9) : f (ad i) = some (.inr (9, [.ref (ad 1), .ref (ad 4), .ref (ad 6), .ref (ad 14), .ref (ad 16), .ref (ad 18), .int (V i 6), .int (V i 7), .int (V i 8), .long L, .int (V i 10)])) := h.1 i _ (by rw [cell, hk]; rfl)
theorem CR.o10 {g : GG} {O f : AH} {ad : Nat → Nat} {sh : Sh} {V : CV} {L : Int64} {i : Nat} (h : CR g O f ad sh V L) (hk : kd sh i = 10) : f (ad i) = some (.inr (0, [.int (V i 0), .ref (if sh.N (i + 1) = 0 then g.2.2 2 else ad (i + 1)), .int (V i 2)])) := h.1 i _ (by rw [cell, hk]; rfl)
theorem CR.ai {g : GG} {O f : AH} {ad : Nat → Nat} {sh : Sh} {V : CV} {L : Int64} {i : Nat} (h : CR g O f ad sh V L) (hk : kd sh i = 20) : f (ad i) = some (.inl (0, sh.N i, .inl (V i))) := h.1 i _ (by rw [cell, hk]; rfl)
theorem CR.az {g : GG} {O f : AH} {ad : Nat → Nat} {sh : Sh} {V : CV} {L : Int64} {i : Nat} (h : CR g O f ad sh V L) (hk : kd sh i = 21) : f (ad i) = some (.inl (1, sh.N i, .inl (V i))) := h.1 i _ (by rw [cell, hk]; rfl)
theorem CR.r22 {g : GG} {O f : AH} {ad : Nat → Nat} {sh : Sh} {V : CV} {L : Int64} {i : Nat} (h : CR g O f ad sh V L) (hk : kd sh i = 22) : f (ad i) = some (.inl (7, sh.N i, .inr (.inr (.inr (.inr fun j => if j < sh.C then some (ad (100 + 10 * j)) else none))))) := h.1 i _ (by rw [cell, hk]; rfl)
theorem CR.r23 {g : GG} {O f : AH} {ad : Nat → Nat} {sh : Sh} {V : CV} {L : Int64} {i : Nat} (h : CR g O f ad sh V L) (hk : kd sh i = 23) : f (ad i) = some (.inl (7, sh.N i, .inr (.inr (.inr (.inr fun j => if j < sh.F then some (ad (300 + j)) else none))))) := h.1 i _ (by rw [cell, hk]; rfl)
theorem CR.r24 {g : GG} {O f : AH} {ad : Nat → Nat} {sh : Sh} {V : CV} {L : Int64} {i : Nat} (h : CR g O f ad sh V L) (hk : kd sh i = 24) : f (ad i) = some (.inl (7, sh.N i, .inr (.inr (.inr (.inr fun j => if j < sh.S then some (ad (400 + 20 * j)) else none))))) := h.1 i _ (by rw [cell, hk]; rfl)
theorem CR.sai {g : GG} {O f f1 : AH} {ad : Nat → Nat} {sh : Sh} {V : CV} {L : Int64} {i j : Nat} {x : Int32} {arr : Nat → Int32} (h : CR g O f ad sh V L) (hk : kd sh i = 20) (ha : V i = arr) (e : f1 = aup f (ad i) (.inl (0, sh.N i, .inl (upd arr j x)))) : CR g O f1 ad sh (c2 V i j x) L := by
  subst ha
  exact h.st (by rw [hk]; decide) (by rw [cell, hk, c2_s]; rfl) e
theorem CR.saz {g : GG} {O f f1 : AH} {ad : Nat → Nat} {sh : Sh} {V : CV} {L : Int64} {i j : Nat} {x : Int32} {arr : Nat → Int32} (h : CR g O f ad sh V L) (hk : kd sh i = 21) (ha : V i = arr) (e : f1 = aup f (ad i) (.inl (1, sh.N i, .inl (upd arr j x)))) : CR g O f1 ad sh (c2 V i j x) L := by
  subst ha
  exact h.st (by rw [hk]; decide) (by rw [cell, hk, c2_s]; rfl) e
theorem CR.s2_0 {g : GG} {O f f1 : AH} {ad : Nat → Nat} {sh : Sh} {V : CV} {L : Int64} {i : Nat} {x : Int32} {w1 w2 w3 w4 : Value} (h : CR g O f ad sh V L) (hk : kd sh i = 2) (h1 : .ref (ad (i + 1)) = w1) (h2 : .ref (ad (i + 2)) = w2) (h3 : .int (V i 3) = w3) (h4 : .int (V i 4) = w4) (e : f1 = aup f (ad i) (.inr (2, [.int x, w1, w2, w3, w4]))) : CR g O f1 ad sh (c2 V i 0 x) L := by
  subst h1 h2 h3 h4
  exact h.st (by rw [hk]; decide) (by rw [cell, hk, c2_s]; rfl) e
theorem CR.s2_3 {g : GG} {O f f1 : AH} {ad : Nat → Nat} {sh : Sh} {V : CV} {L : Int64} {i : Nat} {x : Int32} {w0 w1 w2 w4 : Value} (h : CR g O f ad sh V L) (hk : kd sh i = 2) (h0 : .int (V i 0) = w0) (h1 : .ref (ad (i + 1)) = w1) (h2 : .ref (ad (i + 2)) = w2) (h4 : .int (V i 4) = w4) (e : f1 = aup f (ad i) (.inr (2, [w0, w1, w2, .int x, w4]))) : CR g O f1 ad sh (c2 V i 3 x) L := by
  subst h0 h1 h2 h4
  exact h.st (by rw [hk]; decide) (by rw [cell, hk, c2_s]; rfl) e
theorem CR.s2_4 {g : GG} {O f f1 : AH} {ad : Nat → Nat} {sh : Sh} {V : CV} {L : Int64} {i : Nat} {x : Int32} {w0 w1 w2 w3 : Value} (h : CR g O f ad sh V L) (hk : kd sh i = 2) (h0 : .int (V i 0) = w0) (h1 : .ref (ad (i + 1)) = w1) (h2 : .ref (ad (i + 2)) = w2) (h3 : .int (V i 3) = w3) (e : f1 = aup f (ad i) (.inr (2, [w0, w1, w2, w3, .int x]))) : CR g O f1 ad sh (c2 V i 4 x) L := by
  subst h0 h1 h2 h3
  exact h.st (by rw [hk]; decide) (by rw [cell, hk, c2_s]; rfl) e
theorem CR.s3_0 {g : GG} {O f f1 : AH} {ad : Nat → Nat} {sh : Sh} {V : CV} {L : Int64} {i : Nat} {x : Int32} {w1 w2 w3 w4 w5 w6 w7 : Value} (h : CR g O f ad sh V L) (hk : kd sh i = 3) (h1 : .int (V i 1) = w1) (h2 : .int (V i 2) = w2) (h3 : .int (V i 3) = w3) (h4 : .int (V i 4) = w4) (h5 : .int (V i 5) = w5) (h6 : .int (V i 6) = w6) (h7 : .int (V i 7) = w7) (e : f1 = aup f (ad i) (.inr (3, [.int x, w1, w2, w3, w4, w5, w6, w7]))) : CR g O f1 ad sh (c2 V i 0 x) L := by
  subst h1 h2 h3 h4 h5 h6 h7
  exact h.st (by rw [hk]; decide) (by rw [cell, hk, c2_s]; rfl) e
theorem CR.s3_1 {g : GG} {O f f1 : AH} {ad : Nat → Nat} {sh : Sh} {V : CV} {L : Int64} {i : Nat} {x : Int32} {w0 w2 w3 w4 w5 w6 w7 : Value} (h : CR g O f ad sh V L) (hk : kd sh i = 3) (h0 : .int (V i 0) = w0) (h2 : .int (V i 2) = w2) (h3 : .int (V i 3) = w3) (h4 : .int (V i 4) = w4) (h5 : .int (V i 5) = w5) (h6 : .int (V i 6) = w6) (h7 : .int (V i 7) = w7) (e : f1 = aup f (ad i) (.inr (3, [w0, .int x, w2, w3, w4, w5, w6, w7]))) : CR g O f1 ad sh (c2 V i 1 x) L := by
  subst h0 h2 h3 h4 h5 h6 h7
  exact h.st (by rw [hk]; decide) (by rw [cell, hk, c2_s]; rfl) e
theorem CR.s3_2 {g : GG} {O f f1 : AH} {ad : Nat → Nat} {sh : Sh} {V : CV} {L : Int64} {i : Nat} {x : Int32} {w0 w1 w3 w4 w5 w6 w7 : Value} (h : CR g O f ad sh V L) (hk : kd sh i = 3) (h0 : .int (V i 0) = w0) (h1 : .int (V i 1) = w1) (h3 : .int (V i 3) = w3) (h4 : .int (V i 4) = w4) (h5 : .int (V i 5) = w5) (h6 : .int (V i 6) = w6) (h7 : .int (V i 7) = w7) (e : f1 = aup f (ad i) (.inr (3, [w0, w1, .int x, w3, w4, w5, w6, w7]))) : CR g O f1 ad sh (c2 V i 2 x) L := by
  subst h0 h1 h3 h4 h5 h6 h7
  exact h.st (by rw [hk]; decide) (by rw [cell, hk, c2_s]; rfl) e
theorem CR.s3_3 {g : GG} {O f f1 : AH} {ad : Nat → Nat} {sh : Sh} {V : CV} {L : Int64} {i : Nat} {x : Int32} {w0 w1 w2 w4 w5 w6 w7 : Value} (h : CR g O f ad sh V L) (hk : kd sh i = 3) (h0 : .int (V i 0) = w0) (h1 : .int (V i 1) = w1) (h2 : .int (V i 2) = w2) (h4 : .int (V i 4) = w4) (h5 : .int (V i 5) = w5) (h6 : .int (V i 6) = w6) (h7 : .int (V i 7) = w7) (e : f1 = aup f (ad i) (.inr (3, [w0, w1, w2, .int x, w4, w5, w6, w7]))) : CR g O f1 ad sh (c2 V i 3 x) L := by
  subst h0 h1 h2 h4 h5 h6 h7
  exact h.st (by rw [hk]; decide) (by rw [cell, hk, c2_s]; rfl) e
theorem CR.s3_4 {g : GG} {O f f1 : AH} {ad : Nat → Nat} {sh : Sh} {V : CV} {L : Int64} {i : Nat} {x : Int32} {w0 w1 w2 w3 w5 w6 w7 : Value} (h : CR g O f ad sh V L) (hk : kd sh i = 3) (h0 : .int (V i 0) = w0) (h1 : .int (V i 1) = w1) (h2 : .int (V i 2) = w2) (h3 : .int (V i 3) = w3) (h5 : .int (V i 5) = w5) (h6 : .int (V i 6) = w6) (h7 : .int (V i 7) = w7) (e : f1 = aup f (ad i) (.inr (3, [w0, w1, w2, w3, .int x, w5, w6, w7]))) : CR g O f1 ad sh (c2 V i 4 x) L := by
  subst h0 h1 h2 h3 h5 h6 h7
  exact h.st (by rw [hk]; decide) (by rw [cell, hk, c2_s]; rfl) e
theorem CR.s3_5 {g : GG} {O f f1 : AH} {ad : Nat → Nat} {sh : Sh} {V : CV} {L : Int64} {i : Nat} {x : Int32} {w0 w1 w2 w3 w4 w6 w7 : Value} (h : CR g O f ad sh V L) (hk : kd sh i = 3) (h0 : .int (V i 0) = w0) (h1 : .int (V i 1) = w1) (h2 : .int (V i 2) = w2) (h3 : .int (V i 3) = w3) (h4 : .int (V i 4) = w4) (h6 : .int (V i 6) = w6) (h7 : .int (V i 7) = w7) (e : f1 = aup f (ad i) (.inr (3, [w0, w1, w2, w3, w4, .int x, w6, w7]))) : CR g O f1 ad sh (c2 V i 5 x) L := by
  subst h0 h1 h2 h3 h4 h6 h7
  exact h.st (by rw [hk]; decide) (by rw [cell, hk, c2_s]; rfl) e
theorem CR.s3_6 {g : GG} {O f f1 : AH} {ad : Nat → Nat} {sh : Sh} {V : CV} {L : Int64} {i : Nat} {x : Int32} {w0 w1 w2 w3 w4 w5 w7 : Value} (h : CR g O f ad sh V L) (hk : kd sh i = 3) (h0 : .int (V i 0) = w0) (h1 : .int (V i 1) = w1) (h2 : .int (V i 2) = w2) (h3 : .int (V i 3) = w3) (h4 : .int (V i 4) = w4) (h5 : .int (V i 5) = w5) (h7 : .int (V i 7) = w7) (e : f1 = aup f (ad i) (.inr (3, [w0, w1, w2, w3, w4, w5, .int x, w7]))) : CR g O f1 ad sh (c2 V i 6 x) L := by
  subst h0 h1 h2 h3 h4 h5 h7
  exact h.st (by rw [hk]; decide) (by rw [cell, hk, c2_s]; rfl) e
theorem CR.s3_7 {g : GG} {O f f1 : AH} {ad : Nat → Nat} {sh : Sh} {V : CV} {L : Int64} {i : Nat} {x : Int32} {w0 w1 w2 w3 w4 w5 w6 : Value} (h : CR g O f ad sh V L) (hk : kd sh i = 3) (h0 : .int (V i 0) = w0) (h1 : .int (V i 1) = w1) (h2 : .int (V i 2) = w2) (h3 : .int (V i 3) = w3) (h4 : .int (V i 4) = w4) (h5 : .int (V i 5) = w5) (h6 : .int (V i 6) = w6) (e : f1 = aup f (ad i) (.inr (3, [w0, w1, w2, w3, w4, w5, w6, .int x]))) : CR g O f1 ad sh (c2 V i 7 x) L := by
  subst h0 h1 h2 h3 h4 h5 h6
  exact h.st (by rw [hk]; decide) (by rw [cell, hk, c2_s]; rfl) e
theorem CR.s5_1 {g : GG} {O f f1 : AH} {ad : Nat → Nat} {sh : Sh} {V : CV} {L : Int64} {i : Nat} {x : Int32} {w0 : Value} (h : CR g O f ad sh V L) (hk : kd sh i = 5) (h0 : .ref (ad (i + 1)) = w0) (e : f1 = aup f (ad i) (.inr (5, [w0, .int x]))) : CR g O f1 ad sh (c2 V i 1 x) L := by
  subst h0
  exact h.st (by rw [hk]; decide) (by rw [cell, hk, c2_s]; rfl) e
theorem CR.s6_2 {g : GG} {O f f1 : AH} {ad : Nat → Nat} {sh : Sh} {V : CV} {L : Int64} {i : Nat} {x : Int32} {w0 w1 w3 w4 : Value} (h : CR g O f ad sh V L) (hk : kd sh i = 6) (h0 : .ref (ad (i + 1)) = w0) (h1 : .ref (ad (i + 2)) = w1) (h3 : .int (V i 3) = w3) (h4 : .int (V i 4) = w4) (e : f1 = aup f (ad i) (.inr (6, [w0, w1, .int x, w3, w4]))) : CR g O f1 ad sh (c2 V i 2 x) L := by
  subst h0 h1 h3 h4
  exact h.st (by rw [hk]; decide) (by rw [cell, hk, c2_s]; rfl) e
theorem CR.s6_3 {g : GG} {O f f1 : AH} {ad : Nat → Nat} {sh : Sh} {V : CV} {L : Int64} {i : Nat} {x : Int32} {w0 w1 w2 w4 : Value} (h : CR g O f ad sh V L) (hk : kd sh i = 6) (h0 : .ref (ad (i + 1)) = w0) (h1 : .ref (ad (i + 2)) = w1) (h2 : .int (V i 2) = w2) (h4 : .int (V i 4) = w4) (e : f1 = aup f (ad i) (.inr (6, [w0, w1, w2, .int x, w4]))) : CR g O f1 ad sh (c2 V i 3 x) L := by
  subst h0 h1 h2 h4
  exact h.st (by rw [hk]; decide) (by rw [cell, hk, c2_s]; rfl) e
theorem CR.s6_4 {g : GG} {O f f1 : AH} {ad : Nat → Nat} {sh : Sh} {V : CV} {L : Int64} {i : Nat} {x : Int32} {w0 w1 w2 w3 : Value} (h : CR g O f ad sh V L) (hk : kd sh i = 6) (h0 : .ref (ad (i + 1)) = w0) (h1 : .ref (ad (i + 2)) = w1) (h2 : .int (V i 2) = w2) (h3 : .int (V i 3) = w3) (e : f1 = aup f (ad i) (.inr (6, [w0, w1, w2, w3, .int x]))) : CR g O f1 ad sh (c2 V i 4 x) L := by
  subst h0 h1 h2 h3
  exact h.st (by rw [hk]; decide) (by rw [cell, hk, c2_s]; rfl) e
theorem CR.s7_2 {g : GG} {O f f1 : AH} {ad : Nat → Nat} {sh : Sh} {V : CV} {L : Int64} {i : Nat} {x : Int32} {w0 w1 w3 : Value} (h : CR g O f ad sh V L) (hk : kd sh i = 7) (h0 : .ref (ad (i + 1)) = w0) (h1 : .ref (ad (i + 2)) = w1) (h3 : .int (V i 3) = w3) (e : f1 = aup f (ad i) (.inr (7, [w0, w1, .int x, w3]))) : CR g O f1 ad sh (c2 V i 2 x) L := by
  subst h0 h1 h3
  exact h.st (by rw [hk]; decide) (by rw [cell, hk, c2_s]; rfl) e
theorem CR.s7_3 {g : GG} {O f f1 : AH} {ad : Nat → Nat} {sh : Sh} {V : CV} {L : Int64} {i : Nat} {x : Int32} {w0 w1 w2 : Value} (h : CR g O f ad sh V L) (hk : kd sh i = 7) (h0 : .ref (ad (i + 1)) = w0) (h1 : .ref (ad (i + 2)) = w1) (h2 : .int (V i 2) = w2) (e : f1 = aup f (ad i) (.inr (7, [w0, w1, w2, .int x]))) : CR g O f1 ad sh (c2 V i 3 x) L := by
  subst h0 h1 h2
  exact h.st (by rw [hk]; decide) (by rw [cell, hk, c2_s]; rfl) e
theorem CR.s8_0 {g : GG} {O f f1 : AH} {ad : Nat → Nat} {sh : Sh} {V : CV} {L : Int64} {i : Nat} {x : Int32} {w1 w2 w3 w4 w5 w6 w7 w8 w9 w10 : Value} (h : CR g O f ad sh V L) (hk : kd sh i = 8) (h1 : .int (V i 1) = w1) (h2 : .int (V i 2) = w2) (h3 : .int (V i 3) = w3) (h4 : .int (V i 4) = w4) (h5 : .ref (ad (i + 1)) = w5) (h6 : .ref (ad (i + 4)) = w6) (h7 : .ref (ad (i + 6)) = w7) (h8 : .int (V i 8) = w8) (h9 : .int (V i 9) = w9) (h10 : .int (V i 10) = w10) (e : f1 = aup f (ad i) (.inr (8, [.int x, w1, w2, w3, w4, w5, w6, w7, w8, w9, w10]))) : CR g O f1 ad sh (c2 V i 0 x) L := by
  subst h1 h2 h3 h4 h5 h6 h7 h8 h9 h10
  exact h.st (by rw [hk]; decide) (by rw [cell, hk, c2_s]; rfl) e
theorem CR.s8_1 {g : GG} {O f f1 : AH} {ad : Nat → Nat} {sh : Sh} {V : CV} {L : Int64} {i : Nat} {x : Int32} {w0 w2 w3 w4 w5 w6 w7 w8 w9 w10 : Value} (h : CR g O f ad sh V L) (hk : kd sh i = 8) (h0 : .int (V i 0) = w0) (h2 : .int (V i 2) = w2) (h3 : .int (V i 3) = w3) (h4 : .int (V i 4) = w4) (h5 : .ref (ad (i + 1)) = w5) (h6 : .ref (ad (i + 4)) = w6) (h7 : .ref (ad (i + 6)) = w7) (h8 : .int (V i 8) = w8) (h9 : .int (V i 9) = w9) (h10 : .int (V i 10) = w10) (e : f1 = aup f (ad i) (.inr (8, [w0, .int x, w2, w3, w4, w5, w6, w7, w8, w9, w10]))) : CR g O f1 ad sh (c2 V i 1 x) L := by
  subst h0 h2 h3 h4 h5 h6 h7 h8 h9 h10
  exact h.st (by rw [hk]; decide) (by rw [cell, hk, c2_s]; rfl) e
theorem CR.s8_2 {g : GG} {O f f1 : AH} {ad : Nat → Nat} {sh : Sh} {V : CV} {L : Int64} {i : Nat} {x : Int32} {w0 w1 w3 w4 w5 w6 w7 w8 w9 w10 : Value} (h : CR g O f ad sh V L) (hk : kd sh i = 8) (h0 : .int (V i 0) = w0) (h1 : .int (V i 1) = w1) (h3 : .int (V i 3) = w3) (h4 : .int (V i 4) = w4) (h5 : .ref (ad (i + 1)) = w5) (h6 : .ref (ad (i + 4)) = w6) (h7 : .ref (ad (i + 6)) = w7) (h8 : .int (V i 8) = w8) (h9 : .int (V i 9) = w9) (h10 : .int (V i 10) = w10) (e : f1 = aup f (ad i) (.inr (8, [w0, w1, .int x, w3, w4, w5, w6, w7, w8, w9, w10]))) : CR g O f1 ad sh (c2 V i 2 x) L := by
  subst h0 h1 h3 h4 h5 h6 h7 h8 h9 h10
  exact h.st (by rw [hk]; decide) (by rw [cell, hk, c2_s]; rfl) e
theorem CR.s8_3 {g : GG} {O f f1 : AH} {ad : Nat → Nat} {sh : Sh} {V : CV} {L : Int64} {i : Nat} {x : Int32} {w0 w1 w2 w4 w5 w6 w7 w8 w9 w10 : Value} (h : CR g O f ad sh V L) (hk : kd sh i = 8) (h0 : .int (V i 0) = w0) (h1 : .int (V i 1) = w1) (h2 : .int (V i 2) = w2) (h4 : .int (V i 4) = w4) (h5 : .ref (ad (i + 1)) = w5) (h6 : .ref (ad (i + 4)) = w6) (h7 : .ref (ad (i + 6)) = w7) (h8 : .int (V i 8) = w8) (h9 : .int (V i 9) = w9) (h10 : .int (V i 10) = w10) (e : f1 = aup f (ad i) (.inr (8, [w0, w1, w2, .int x, w4, w5, w6, w7, w8, w9, w10]))) : CR g O f1 ad sh (c2 V i 3 x) L := by
  subst h0 h1 h2 h4 h5 h6 h7 h8 h9 h10
  exact h.st (by rw [hk]; decide) (by rw [cell, hk, c2_s]; rfl) e
theorem CR.s8_4 {g : GG} {O f f1 : AH} {ad : Nat → Nat} {sh : Sh} {V : CV} {L : Int64} {i : Nat} {x : Int32} {w0 w1 w2 w3 w5 w6 w7 w8 w9 w10 : Value} (h : CR g O f ad sh V L) (hk : kd sh i = 8) (h0 : .int (V i 0) = w0) (h1 : .int (V i 1) = w1) (h2 : .int (V i 2) = w2) (h3 : .int (V i 3) = w3) (h5 : .ref (ad (i + 1)) = w5) (h6 : .ref (ad (i + 4)) = w6) (h7 : .ref (ad (i + 6)) = w7) (h8 : .int (V i 8) = w8) (h9 : .int (V i 9) = w9) (h10 : .int (V i 10) = w10) (e : f1 = aup f (ad i) (.inr (8, [w0, w1, w2, w3, .int x, w5, w6, w7, w8, w9, w10]))) : CR g O f1 ad sh (c2 V i 4 x) L := by
  subst h0 h1 h2 h3 h5 h6 h7 h8 h9 h10
  exact h.st (by rw [hk]; decide) (by rw [cell, hk, c2_s]; rfl) e
theorem CR.s8_8 {g : GG} {O f f1 : AH} {ad : Nat → Nat} {sh : Sh} {V : CV} {L : Int64} {i : Nat} {x : Int32} {w0 w1 w2 w3 w4 w5 w6 w7 w9 w10 : Value} (h : CR g O f ad sh V L) (hk : kd sh i = 8) (h0 : .int (V i 0) = w0) (h1 : .int (V i 1) = w1) (h2 : .int (V i 2) = w2) (h3 : .int (V i 3) = w3) (h4 : .int (V i 4) = w4) (h5 : .ref (ad (i + 1)) = w5) (h6 : .ref (ad (i + 4)) = w6) (h7 : .ref (ad (i + 6)) = w7) (h9 : .int (V i 9) = w9) (h10 : .int (V i 10) = w10) (e : f1 = aup f (ad i) (.inr (8, [w0, w1, w2, w3, w4, w5, w6, w7, .int x, w9, w10]))) : CR g O f1 ad sh (c2 V i 8 x) L := by
  subst h0 h1 h2 h3 h4 h5 h6 h7 h9 h10
  exact h.st (by rw [hk]; decide) (by rw [cell, hk, c2_s]; rfl) e
theorem CR.s8_9 {g : GG} {O f f1 : AH} {ad : Nat → Nat} {sh : Sh} {V : CV} {L : Int64} {i : Nat} {x : Int32} {w0 w1 w2 w3 w4 w5 w6 w7 w8 w10 : Value} (h : CR g O f ad sh V L) (hk : kd sh i = 8) (h0 : .int (V i 0) = w0) (h1 : .int (V i 1) = w1) (h2 : .int (V i 2) = w2) (h3 : .int (V i 3) = w3) (h4 : .int (V i 4) = w4) (h5 : .ref (ad (i + 1)) = w5) (h6 : .ref (ad (i + 4)) = w6) (h7 : .ref (ad (i + 6)) = w7) (h8 : .int (V i 8) = w8) (h10 : .int (V i 10) = w10) (e : f1 = aup f (ad i) (.inr (8, [w0, w1, w2, w3, w4, w5, w6, w7, w8, .int x, w10]))) : CR g O f1 ad sh (c2 V i 9 x) L := by
  subst h0 h1 h2 h3 h4 h5 h6 h7 h8 h10
  exact h.st (by rw [hk]; decide) (by rw [cell, hk, c2_s]; rfl) e
theorem CR.s8_10 {g : GG} {O f f1 : AH} {ad : Nat → Nat} {sh : Sh} {V : CV} {L : Int64} {i : Nat} {x : Int32} {w0 w1 w2 w3 w4 w5 w6 w7 w8 w9 : Value} (h : CR g O f ad sh V L) (hk : kd sh i = 8) (h0 : .int (V i 0) = w0) (h1 : .int (V i 1) = w1) (h2 : .int (V i 2) = w2) (h3 : .int (V i 3) = w3) (h4 : .int (V i 4) = w4) (h5 : .ref (ad (i + 1)) = w5) (h6 : .ref (ad (i + 4)) = w6) (h7 : .ref (ad (i + 6)) = w7) (h8 : .int (V i 8) = w8) (h9 : .int (V i 9) = w9) (e : f1 = aup f (ad i) (.inr (8, [w0, w1, w2, w3, w4, w5, w6, w7, w8, w9, .int x]))) : CR g O f1 ad sh (c2 V i 10 x) L := by
  subst h0 h1 h2 h3 h4 h5 h6 h7 h8 h9
  exact h.st (by rw [hk]; decide) (by rw [cell, hk, c2_s]; rfl) e
theorem CR.s9_6 {g : GG} {O f f1 : AH} {ad : Nat → Nat} {sh : Sh} {V : CV} {L : Int64} {i : Nat} {x : Int32} {w0 w1 w2 w3 w4 w5 w7 w8 w9 w10 : Value} (h : CR g O f ad sh V L) (hk : kd sh i = 9) (h0 : .ref (ad 1) = w0) (h1 : .ref (ad 4) = w1) (h2 : .ref (ad 6) = w2) (h3 : .ref (ad 14) = w3) (h4 : .ref (ad 16) = w4) (h5 : .ref (ad 18) = w5) (h7 : .int (V i 7) = w7) (h8 : .int (V i 8) = w8) (h9 : .long L = w9) (h10 : .int (V i 10) = w10) (e : f1 = aup f (ad i) (.inr (9, [w0, w1, w2, w3, w4, w5, .int x, w7, w8, w9, w10]))) : CR g O f1 ad sh (c2 V i 6 x) L := by
  subst h0 h1 h2 h3 h4 h5 h7 h8 h9 h10
  exact h.st (by rw [hk]; decide) (by rw [cell, hk, c2_s]; rfl) e
theorem CR.s9_7 {g : GG} {O f f1 : AH} {ad : Nat → Nat} {sh : Sh} {V : CV} {L : Int64} {i : Nat} {x : Int32} {w0 w1 w2 w3 w4 w5 w6 w8 w9 w10 : Value} (h : CR g O f ad sh V L) (hk : kd sh i = 9) (h0 : .ref (ad 1) = w0) (h1 : .ref (ad 4) = w1) (h2 : .ref (ad 6) = w2) (h3 : .ref (ad 14) = w3) (h4 : .ref (ad 16) = w4) (h5 : .ref (ad 18) = w5) (h6 : .int (V i 6) = w6) (h8 : .int (V i 8) = w8) (h9 : .long L = w9) (h10 : .int (V i 10) = w10) (e : f1 = aup f (ad i) (.inr (9, [w0, w1, w2, w3, w4, w5, w6, .int x, w8, w9, w10]))) : CR g O f1 ad sh (c2 V i 7 x) L := by
  subst h0 h1 h2 h3 h4 h5 h6 h8 h9 h10
  exact h.st (by rw [hk]; decide) (by rw [cell, hk, c2_s]; rfl) e
theorem CR.s9_8 {g : GG} {O f f1 : AH} {ad : Nat → Nat} {sh : Sh} {V : CV} {L : Int64} {i : Nat} {x : Int32} {w0 w1 w2 w3 w4 w5 w6 w7 w9 w10 : Value} (h : CR g O f ad sh V L) (hk : kd sh i = 9) (h0 : .ref (ad 1) = w0) (h1 : .ref (ad 4) = w1) (h2 : .ref (ad 6) = w2) (h3 : .ref (ad 14) = w3) (h4 : .ref (ad 16) = w4) (h5 : .ref (ad 18) = w5) (h6 : .int (V i 6) = w6) (h7 : .int (V i 7) = w7) (h9 : .long L = w9) (h10 : .int (V i 10) = w10) (e : f1 = aup f (ad i) (.inr (9, [w0, w1, w2, w3, w4, w5, w6, w7, .int x, w9, w10]))) : CR g O f1 ad sh (c2 V i 8 x) L := by
  subst h0 h1 h2 h3 h4 h5 h6 h7 h9 h10
  exact h.st (by rw [hk]; decide) (by rw [cell, hk, c2_s]; rfl) e
theorem CR.s9_10 {g : GG} {O f f1 : AH} {ad : Nat → Nat} {sh : Sh} {V : CV} {L : Int64} {i : Nat} {x : Int32} {w0 w1 w2 w3 w4 w5 w6 w7 w8 w9 : Value} (h : CR g O f ad sh V L) (hk : kd sh i = 9) (h0 : .ref (ad 1) = w0) (h1 : .ref (ad 4) = w1) (h2 : .ref (ad 6) = w2) (h3 : .ref (ad 14) = w3) (h4 : .ref (ad 16) = w4) (h5 : .ref (ad 18) = w5) (h6 : .int (V i 6) = w6) (h7 : .int (V i 7) = w7) (h8 : .int (V i 8) = w8) (h9 : .long L = w9) (e : f1 = aup f (ad i) (.inr (9, [w0, w1, w2, w3, w4, w5, w6, w7, w8, w9, .int x]))) : CR g O f1 ad sh (c2 V i 10 x) L := by
  subst h0 h1 h2 h3 h4 h5 h6 h7 h8 h9
  exact h.st (by rw [hk]; decide) (by rw [cell, hk, c2_s]; rfl) e
theorem CR.s10_0 {g : GG} {O f f1 : AH} {ad : Nat → Nat} {sh : Sh} {V : CV} {L : Int64} {i : Nat} {x : Int32} {w1 w2 : Value} (h : CR g O f ad sh V L) (hk : kd sh i = 10) (h1 : .ref (if sh.N (i + 1) = 0 then g.2.2 2 else ad (i + 1)) = w1) (h2 : .int (V i 2) = w2) (e : f1 = aup f (ad i) (.inr (0, [.int x, w1, w2]))) : CR g O f1 ad sh (c2 V i 0 x) L := by
  subst h1 h2
  exact h.st (by rw [hk]; decide) (by rw [cell, hk, c2_s]; rfl) e
theorem CR.s10_2 {g : GG} {O f f1 : AH} {ad : Nat → Nat} {sh : Sh} {V : CV} {L : Int64} {i : Nat} {x : Int32} {w0 w1 : Value} (h : CR g O f ad sh V L) (hk : kd sh i = 10) (h0 : .int (V i 0) = w0) (h1 : .ref (if sh.N (i + 1) = 0 then g.2.2 2 else ad (i + 1)) = w1) (e : f1 = aup f (ad i) (.inr (0, [w0, w1, .int x]))) : CR g O f1 ad sh (c2 V i 2 x) L := by
  subst h0 h1
  exact h.st (by rw [hk]; decide) (by rw [cell, hk, c2_s]; rfl) e
theorem CR.kai {g : GG} {O f f1 : AH} {ad : Nat → Nat} {sh : Sh} {V : CV} {L : Int64} {i j n : Nat} {x : Int32} {arr : Nat → Int32} {P : Prop} (h : CR g O f ad sh V L) (hk : kd sh i = 20) (e : f1 = aup f (ad i) (.inl (0, n, .inl (upd arr j x)))) (hn : sh.N i = n) (ha : V i = arr) (kk : CR g O f1 ad sh (c2 V i j x) L → P) : P := by
  subst hn
  exact kk (h.sai hk ha e)
theorem CR.kaz {g : GG} {O f f1 : AH} {ad : Nat → Nat} {sh : Sh} {V : CV} {L : Int64} {i j n : Nat} {x : Int32} {arr : Nat → Int32} {P : Prop} (h : CR g O f ad sh V L) (hk : kd sh i = 21) (e : f1 = aup f (ad i) (.inl (1, n, .inl (upd arr j x)))) (hn : sh.N i = n) (ha : V i = arr) (kk : CR g O f1 ad sh (c2 V i j x) L → P) : P := by
  subst hn
  exact kk (h.saz hk ha e)
theorem CR.k2_0 {g : GG} {O f f1 : AH} {ad : Nat → Nat} {sh : Sh} {V : CV} {L : Int64} {i : Nat} {x : Int32} {w1 w2 w3 w4 : Value} {P : Prop} (h : CR g O f ad sh V L) (hk : kd sh i = 2) (e : f1 = aup f (ad i) (.inr (2, [.int x, w1, w2, w3, w4]))) (h1 : .ref (ad (i + 1)) = w1) (h2 : .ref (ad (i + 2)) = w2) (h3 : .int (V i 3) = w3) (h4 : .int (V i 4) = w4) (kk : CR g O f1 ad sh (c2 V i 0 x) L → P) : P := kk (h.s2_0 hk h1 h2 h3 h4 e)
theorem CR.k2_3 {g : GG} {O f f1 : AH} {ad : Nat → Nat} {sh : Sh} {V : CV} {L : Int64} {i : Nat} {x : Int32} {w0 w1 w2 w4 : Value} {P : Prop} (h : CR g O f ad sh V L) (hk : kd sh i = 2) (e : f1 = aup f (ad i) (.inr (2, [w0, w1, w2, .int x, w4]))) (h0 : .int (V i 0) = w0) (h1 : .ref (ad (i + 1)) = w1) (h2 : .ref (ad (i + 2)) = w2) (h4 : .int (V i 4) = w4) (kk : CR g O f1 ad sh (c2 V i 3 x) L → P) : P := kk (h.s2_3 hk h0 h1 h2 h4 e)
theorem CR.k2_4 {g : GG} {O f f1 : AH} {ad : Nat → Nat} {sh : Sh} {V : CV} {L : Int64} {i : Nat} {x : Int32} {w0 w1 w2 w3 : Value} {P : Prop} (h : CR g O f ad sh V L) (hk : kd sh i = 2) (e : f1 = aup f (ad i) (.inr (2, [w0, w1, w2, w3, .int x]))) (h0 : .int (V i 0) = w0) (h1 : .ref (ad (i + 1)) = w1) (h2 : .ref (ad (i + 2)) = w2) (h3 : .int (V i 3) = w3) (kk : CR g O f1 ad sh (c2 V i 4 x) L → P) : P := kk (h.s2_4 hk h0 h1 h2 h3 e)
theorem CR.k3_0 {g : GG} {O f f1 : AH} {ad : Nat → Nat} {sh : Sh} {V : CV} {L : Int64} {i : Nat} {x : Int32} {w1 w2 w3 w4 w5 w6 w7 : Value} {P : Prop} (h : CR g O f ad sh V L) (hk : kd sh i = 3) (e : f1 = aup f (ad i) (.inr (3, [.int x, w1, w2, w3, w4, w5, w6, w7]))) (h1 : .int (V i 1) = w1) (h2 : .int (V i 2) = w2) (h3 : .int (V i 3) = w3) (h4 : .int (V i 4) = w4) (h5 : .int (V i 5) = w5) (h6 : .int (V i 6) = w6) (h7 : .int (V i 7) = w7) (kk : CR g O f1 ad sh (c2 V i 0 x) L → P) : P := kk (h.s3_0 hk h1 h2 h3 h4 h5 h6 h7 e)
theorem CR.k3_1 {g : GG} {O f f1 : AH} {ad : Nat → Nat} {sh : Sh} {V : CV} {L : Int64} {i : Nat} {x : Int32} {w0 w2 w3 w4 w5 w6 w7 : Value} {P : Prop} (h : CR g O f ad sh V L) (hk : kd sh i = 3) (e : f1 = aup f (ad i) (.inr (3, [w0, .int x, w2, w3, w4, w5, w6, w7]))) (h0 : .int (V i 0) = w0) (h2 : .int (V i 2) = w2) (h3 : .int (V i 3) = w3) (h4 : .int (V i 4) = w4) (h5 : .int (V i 5) = w5) (h6 : .int (V i 6) = w6) (h7 : .int (V i 7) = w7) (kk : CR g O f1 ad sh (c2 V i 1 x) L → P) : P := kk (h.s3_1 hk h0 h2 h3 h4 h5 h6 h7 e)
theorem CR.k3_2 {g : GG} {O f f1 : AH} {ad : Nat → Nat} {sh : Sh} {V : CV} {L : Int64} {i : Nat} {x : Int32} {w0 w1 w3 w4 w5 w6 w7 : Value} {P : Prop} (h : CR g O f ad sh V L) (hk : kd sh i = 3) (e : f1 = aup f (ad i) (.inr (3, [w0, w1, .int x, w3, w4, w5, w6, w7]))) (h0 : .int (V i 0) = w0) (h1 : .int (V i 1) = w1) (h3 : .int (V i 3) = w3) (h4 : .int (V i 4) = w4) (h5 : .int (V i 5) = w5) (h6 : .int (V i 6) = w6) (h7 : .int (V i 7) = w7) (kk : CR g O f1 ad sh (c2 V i 2 x) L → P) : P := kk (h.s3_2 hk h0 h1 h3 h4 h5 h6 h7 e)
theorem CR.k3_3 {g : GG} {O f f1 : AH} {ad : Nat → Nat} {sh : Sh} {V : CV} {L : Int64} {i : Nat} {x : Int32} {w0 w1 w2 w4 w5 w6 w7 : Value} {P : Prop} (h : CR g O f ad sh V L) (hk : kd sh i = 3) (e : f1 = aup f (ad i) (.inr (3, [w0, w1, w2, .int x, w4, w5, w6, w7]))) (h0 : .int (V i 0) = w0) (h1 : .int (V i 1) = w1) (h2 : .int (V i 2) = w2) (h4 : .int (V i 4) = w4) (h5 : .int (V i 5) = w5) (h6 : .int (V i 6) = w6) (h7 : .int (V i 7) = w7) (kk : CR g O f1 ad sh (c2 V i 3 x) L → P) : P := kk (h.s3_3 hk h0 h1 h2 h4 h5 h6 h7 e)
theorem CR.k3_4 {g : GG} {O f f1 : AH} {ad : Nat → Nat} {sh : Sh} {V : CV} {L : Int64} {i : Nat} {x : Int32} {w0 w1 w2 w3 w5 w6 w7 : Value} {P : Prop} (h : CR g O f ad sh V L) (hk : kd sh i = 3) (e : f1 = aup f (ad i) (.inr (3, [w0, w1, w2, w3, .int x, w5, w6, w7]))) (h0 : .int (V i 0) = w0) (h1 : .int (V i 1) = w1) (h2 : .int (V i 2) = w2) (h3 : .int (V i 3) = w3) (h5 : .int (V i 5) = w5) (h6 : .int (V i 6) = w6) (h7 : .int (V i 7) = w7) (kk : CR g O f1 ad sh (c2 V i 4 x) L → P) : P := kk (h.s3_4 hk h0 h1 h2 h3 h5 h6 h7 e)
theorem CR.k3_5 {g : GG} {O f f1 : AH} {ad : Nat → Nat} {sh : Sh} {V : CV} {L : Int64} {i : Nat} {x : Int32} {w0 w1 w2 w3 w4 w6 w7 : Value} {P : Prop} (h : CR g O f ad sh V L) (hk : kd sh i = 3) (e : f1 = aup f (ad i) (.inr (3, [w0, w1, w2, w3, w4, .int x, w6, w7]))) (h0 : .int (V i 0) = w0) (h1 : .int (V i 1) = w1) (h2 : .int (V i 2) = w2) (h3 : .int (V i 3) = w3) (h4 : .int (V i 4) = w4) (h6 : .int (V i 6) = w6) (h7 : .int (V i 7) = w7) (kk : CR g O f1 ad sh (c2 V i 5 x) L → P) : P := kk (h.s3_5 hk h0 h1 h2 h3 h4 h6 h7 e)
theorem CR.k3_6 {g : GG} {O f f1 : AH} {ad : Nat → Nat} {sh : Sh} {V : CV} {L : Int64} {i : Nat} {x : Int32} {w0 w1 w2 w3 w4 w5 w7 : Value} {P : Prop} (h : CR g O f ad sh V L) (hk : kd sh i = 3) (e : f1 = aup f (ad i) (.inr (3, [w0, w1, w2, w3, w4, w5, .int x, w7]))) (h0 : .int (V i 0) = w0) (h1 : .int (V i 1) = w1) (h2 : .int (V i 2) = w2) (h3 : .int (V i 3) = w3) (h4 : .int (V i 4) = w4) (h5 : .int (V i 5) = w5) (h7 : .int (V i 7) = w7) (kk : CR g O f1 ad sh (c2 V i 6 x) L → P) : P := kk (h.s3_6 hk h0 h1 h2 h3 h4 h5 h7 e)
theorem CR.k3_7 {g : GG} {O f f1 : AH} {ad : Nat → Nat} {sh : Sh} {V : CV} {L : Int64} {i : Nat} {x : Int32} {w0 w1 w2 w3 w4 w5 w6 : Value} {P : Prop} (h : CR g O f ad sh V L) (hk : kd sh i = 3) (e : f1 = aup f (ad i) (.inr (3, [w0, w1, w2, w3, w4, w5, w6, .int x]))) (h0 : .int (V i 0) = w0) (h1 : .int (V i 1) = w1) (h2 : .int (V i 2) = w2) (h3 : .int (V i 3) = w3) (h4 : .int (V i 4) = w4) (h5 : .int (V i 5) = w5) (h6 : .int (V i 6) = w6) (kk : CR g O f1 ad sh (c2 V i 7 x) L → P) : P := kk (h.s3_7 hk h0 h1 h2 h3 h4 h5 h6 e)
theorem CR.k5_1 {g : GG} {O f f1 : AH} {ad : Nat → Nat} {sh : Sh} {V : CV} {L : Int64} {i : Nat} {x : Int32} {w0 : Value} {P : Prop} (h : CR g O f ad sh V L) (hk : kd sh i = 5) (e : f1 = aup f (ad i) (.inr (5, [w0, .int x]))) (h0 : .ref (ad (i + 1)) = w0) (kk : CR g O f1 ad sh (c2 V i 1 x) L → P) : P := kk (h.s5_1 hk h0 e)
theorem CR.k6_2 {g : GG} {O f f1 : AH} {ad : Nat → Nat} {sh : Sh} {V : CV} {L : Int64} {i : Nat} {x : Int32} {w0 w1 w3 w4 : Value} {P : Prop} (h : CR g O f ad sh V L) (hk : kd sh i = 6) (e : f1 = aup f (ad i) (.inr (6, [w0, w1, .int x, w3, w4]))) (h0 : .ref (ad (i + 1)) = w0) (h1 : .ref (ad (i + 2)) = w1) (h3 : .int (V i 3) = w3) (h4 : .int (V i 4) = w4) (kk : CR g O f1 ad sh (c2 V i 2 x) L → P) : P := kk (h.s6_2 hk h0 h1 h3 h4 e)
theorem CR.k6_3 {g : GG} {O f f1 : AH} {ad : Nat → Nat} {sh : Sh} {V : CV} {L : Int64} {i : Nat} {x : Int32} {w0 w1 w2 w4 : Value} {P : Prop} (h : CR g O f ad sh V L) (hk : kd sh i = 6) (e : f1 = aup f (ad i) (.inr (6, [w0, w1, w2, .int x, w4]))) (h0 : .ref (ad (i + 1)) = w0) (h1 : .ref (ad (i + 2)) = w1) (h2 : .int (V i 2) = w2) (h4 : .int (V i 4) = w4) (kk : CR g O f1 ad sh (c2 V i 3 x) L → P) : P := kk (h.s6_3 hk h0 h1 h2 h4 e)
theorem CR.k6_4 {g : GG} {O f f1 : AH} {ad : Nat → Nat} {sh : Sh} {V : CV} {L : Int64} {i : Nat} {x : Int32} {w0 w1 w2 w3 : Value} {P : Prop} (h : CR g O f ad sh V L) (hk : kd sh i = 6) (e : f1 = aup f (ad i) (.inr (6, [w0, w1, w2, w3, .int x]))) (h0 : .ref (ad (i + 1)) = w0) (h1 : .ref (ad (i + 2)) = w1) (h2 : .int (V i 2) = w2) (h3 : .int (V i 3) = w3) (kk : CR g O f1 ad sh (c2 V i 4 x) L → P) : P := kk (h.s6_4 hk h0 h1 h2 h3 e)
theorem CR.k7_2 {g : GG} {O f f1 : AH} {ad : Nat → Nat} {sh : Sh} {V : CV} {L : Int64} {i : Nat} {x : Int32} {w0 w1 w3 : Value} {P : Prop} (h : CR g O f ad sh V L) (hk : kd sh i = 7) (e : f1 = aup f (ad i) (.inr (7, [w0, w1, .int x, w3]))) (h0 : .ref (ad (i + 1)) = w0) (h1 : .ref (ad (i + 2)) = w1) (h3 : .int (V i 3) = w3) (kk : CR g O f1 ad sh (c2 V i 2 x) L → P) : P := kk (h.s7_2 hk h0 h1 h3 e)
theorem CR.k7_3 {g : GG} {O f f1 : AH} {ad : Nat → Nat} {sh : Sh} {V : CV} {L : Int64} {i : Nat} {x : Int32} {w0 w1 w2 : Value} {P : Prop} (h : CR g O f ad sh V L) (hk : kd sh i = 7) (e : f1 = aup f (ad i) (.inr (7, [w0, w1, w2, .int x]))) (h0 : .ref (ad (i + 1)) = w0) (h1 : .ref (ad (i + 2)) = w1) (h2 : .int (V i 2) = w2) (kk : CR g O f1 ad sh (c2 V i 3 x) L → P) : P := kk (h.s7_3 hk h0 h1 h2 e)
theorem CR.k8_0 {g : GG} {O f f1 : AH} {ad : Nat → Nat} {sh : Sh} {V : CV} {L : Int64} {i : Nat} {x : Int32} {w1 w2 w3 w4 w5 w6 w7 w8 w9 w10 : Value} {P : Prop} (h : CR g O f ad sh V L) (hk : kd sh i = 8) (e : f1 = aup f (ad i) (.inr (8, [.int x, w1, w2, w3, w4, w5, w6, w7, w8, w9, w10]))) (h1 : .int (V i 1) = w1) (h2 : .int (V i 2) = w2) (h3 : .int (V i 3) = w3) (h4 : .int (V i 4) = w4) (h5 : .ref (ad (i + 1)) = w5) (h6 : .ref (ad (i + 4)) = w6) (h7 : .ref (ad (i + 6)) = w7) (h8 : .int (V i 8) = w8) (h9 : .int (V i 9) = w9) (h10 : .int (V i 10) = w10) (kk : CR g O f1 ad sh (c2 V i 0 x) L → P) : P := kk (h.s8_0 hk h1 h2 h3 h4 h5 h6 h7 h8 h9 h10 e)
theorem CR.k8_1 {g : GG} {O f f1 : AH} {ad : Nat → Nat} {sh : Sh} {V : CV} {L : Int64} {i : Nat} {x : Int32} {w0 w2 w3 w4 w5 w6 w7 w8 w9 w10 : Value} {P : Prop} (h : CR g O f ad sh V L) (hk : kd sh i = 8) (e : f1 = aup f (ad i) (.inr (8, [w0, .int x, w2, w3, w4, w5, w6, w7, w8, w9, w10]))) (h0 : .int (V i 0) = w0) (h2 : .int (V i 2) = w2) (h3 : .int (V i 3) = w3) (h4 : .int (V i 4) = w4) (h5 : .ref (ad (i + 1)) = w5) (h6 : .ref (ad (i + 4)) = w6) (h7 : .ref (ad (i + 6)) = w7) (h8 : .int (V i 8) = w8) (h9 : .int (V i 9) = w9) (h10 : .int (V i 10) = w10) (kk : CR g O f1 ad sh (c2 V i 1 x) L → P) : P := kk (h.s8_1 hk h0 h2 h3 h4 h5 h6 h7 h8 h9 h10 e)
theorem CR.k8_2 {g : GG} {O f f1 : AH} {ad : Nat → Nat} {sh : Sh} {V : CV} {L : Int64} {i : Nat} {x : Int32} {w0 w1 w3 w4 w5 w6 w7 w8 w9 w10 : Value} {P : Prop} (h : CR g O f ad sh V L) (hk : kd sh i = 8) (e : f1 = aup f (ad i) (.inr (8, [w0, w1, .int x, w3, w4, w5, w6, w7, w8, w9, w10]))) (h0 : .int (V i 0) = w0) (h1 : .int (V i 1) = w1) (h3 : .int (V i 3) = w3) (h4 : .int (V i 4) = w4) (h5 : .ref (ad (i + 1)) = w5) (h6 : .ref (ad (i + 4)) = w6) (h7 : .ref (ad (i + 6)) = w7) (h8 : .int (V i 8) = w8) (h9 : .int (V i 9) = w9) (h10 : .int (V i 10) = w10) (kk : CR g O f1 ad sh (c2 V i 2 x) L → P) : P := kk (h.s8_2 hk h0 h1 h3 h4 h5 h6 h7 h8 h9 h10 e)
theorem CR.k8_3 {g : GG} {O f f1 : AH} {ad : Nat → Nat} {sh : Sh} {V : CV} {L : Int64} {i : Nat} {x : Int32} {w0 w1 w2 w4 w5 w6 w7 w8 w9 w10 : Value} {P : Prop} (h : CR g O f ad sh V L) (hk : kd sh i = 8) (e : f1 = aup f (ad i) (.inr (8, [w0, w1, w2, .int x, w4, w5, w6, w7, w8, w9, w10]))) (h0 : .int (V i 0) = w0) (h1 : .int (V i 1) = w1) (h2 : .int (V i 2) = w2) (h4 : .int (V i 4) = w4) (h5 : .ref (ad (i + 1)) = w5) (h6 : .ref (ad (i + 4)) = w6) (h7 : .ref (ad (i + 6)) = w7) (h8 : .int (V i 8) = w8) (h9 : .int (V i 9) = w9) (h10 : .int (V i 10) = w10) (kk : CR g O f1 ad sh (c2 V i 3 x) L → P) : P := kk (h.s8_3 hk h0 h1 h2 h4 h5 h6 h7 h8 h9 h10 e)
theorem CR.k8_4 {g : GG} {O f f1 : AH} {ad : Nat → Nat} {sh : Sh} {V : CV} {L : Int64} {i : Nat} {x : Int32} {w0 w1 w2 w3 w5 w6 w7 w8 w9 w10 : Value} {P : Prop} (h : CR g O f ad sh V L) (hk : kd sh i = 8) (e : f1 = aup f (ad i) (.inr (8, [w0, w1, w2, w3, .int x, w5, w6, w7, w8, w9, w10]))) (h0 : .int (V i 0) = w0) (h1 : .int (V i 1) = w1) (h2 : .int (V i 2) = w2) (h3 : .int (V i 3) = w3) (h5 : .ref (ad (i + 1)) = w5) (h6 : .ref (ad (i + 4)) = w6) (h7 : .ref (ad (i + 6)) = w7) (h8 : .int (V i 8) = w8) (h9 : .int (V i 9) = w9) (h10 : .int (V i 10) = w10) (kk : CR g O f1 ad sh (c2 V i 4 x) L → P) : P := kk (h.s8_4 hk h0 h1 h2 h3 h5 h6 h7 h8 h9 h10 e)
theorem CR.k8_8 {g : GG} {O f f1 : AH} {ad : Nat → Nat} {sh : Sh} {V : CV} {L : Int64} {i : Nat} {x : Int32} {w0 w1 w2 w3 w4 w5 w6 w7 w9 w10 : Value} {P : Prop} (h : CR g O f ad sh V L) (hk : kd sh i = 8) (e : f1 = aup f (ad i) (.inr (8, [w0, w1, w2, w3, w4, w5, w6, w7, .int x, w9, w10]))) (h0 : .int (V i 0) = w0) (h1 : .int (V i 1) = w1) (h2 : .int (V i 2) = w2) (h3 : .int (V i 3) = w3) (h4 : .int (V i 4) = w4) (h5 : .ref (ad (i + 1)) = w5) (h6 : .ref (ad (i + 4)) = w6) (h7 : .ref (ad (i + 6)) = w7) (h9 : .int (V i 9) = w9) (h10 : .int (V i 10) = w10) (kk : CR g O f1 ad sh (c2 V i 8 x) L → P) : P := kk (h.s8_8 hk h0 h1 h2 h3 h4 h5 h6 h7 h9 h10 e)
theorem CR.k8_9 {g : GG} {O f f1 : AH} {ad : Nat → Nat} {sh : Sh} {V : CV} {L : Int64} {i : Nat} {x : Int32} {w0 w1 w2 w3 w4 w5 w6 w7 w8 w10 : Value} {P : Prop} (h : CR g O f ad sh V L) (hk : kd sh i = 8) (e : f1 = aup f (ad i) (.inr (8, [w0, w1, w2, w3, w4, w5, w6, w7, w8, .int x, w10]))) (h0 : .int (V i 0) = w0) (h1 : .int (V i 1) = w1) (h2 : .int (V i 2) = w2) (h3 : .int (V i 3) = w3) (h4 : .int (V i 4) = w4) (h5 : .ref (ad (i + 1)) = w5) (h6 : .ref (ad (i + 4)) = w6) (h7 : .ref (ad (i + 6)) = w7) (h8 : .int (V i 8) = w8) (h10 : .int (V i 10) = w10) (kk : CR g O f1 ad sh (c2 V i 9 x) L → P) : P := kk (h.s8_9 hk h0 h1 h2 h3 h4 h5 h6 h7 h8 h10 e)
theorem CR.k8_10 {g : GG} {O f f1 : AH} {ad : Nat → Nat} {sh : Sh} {V : CV} {L : Int64} {i : Nat} {x : Int32} {w0 w1 w2 w3 w4 w5 w6 w7 w8 w9 : Value} {P : Prop} (h : CR g O f ad sh V L) (hk : kd sh i = 8) (e : f1 = aup f (ad i) (.inr (8, [w0, w1, w2, w3, w4, w5, w6, w7, w8, w9, .int x]))) (h0 : .int (V i 0) = w0) (h1 : .int (V i 1) = w1) (h2 : .int (V i 2) = w2) (h3 : .int (V i 3) = w3) (h4 : .int (V i 4) = w4) (h5 : .ref (ad (i + 1)) = w5) (h6 : .ref (ad (i + 4)) = w6) (h7 : .ref (ad (i + 6)) = w7) (h8 : .int (V i 8) = w8) (h9 : .int (V i 9) = w9) (kk : CR g O f1 ad sh (c2 V i 10 x) L → P) : P := kk (h.s8_10 hk h0 h1 h2 h3 h4 h5 h6 h7 h8 h9 e)
theorem CR.k9_6 {g : GG} {O f f1 : AH} {ad : Nat → Nat} {sh : Sh} {V : CV} {L : Int64} {i : Nat} {x : Int32} {w0 w1 w2 w3 w4 w5 w7 w8 w9 w10 : Value} {P : Prop} (h : CR g O f ad sh V L) (hk : kd sh i = 9) (e : f1 = aup f (ad i) (.inr (9, [w0, w1, w2, w3, w4, w5, .int x, w7, w8, w9, w10]))) (h0 : .ref (ad 1) = w0) (h1 : .ref (ad 4) = w1) (h2 : .ref (ad 6) = w2) (h3 : .ref (ad 14) = w3) (h4 : .ref (ad 16) = w4) (h5 : .ref (ad 18) = w5) (h7 : .int (V i 7) = w7) (h8 : .int (V i 8) = w8) (h9 : .long L = w9) (h10 : .int (V i 10) = w10) (kk : CR g O f1 ad sh (c2 V i 6 x) L → P) : P := kk (h.s9_6 hk h0 h1 h2 h3 h4 h5 h7 h8 h9 h10 e)
theorem CR.k9_7 {g : GG} {O f f1 : AH} {ad : Nat → Nat} {sh : Sh} {V : CV} {L : Int64} {i : Nat} {x : Int32} {w0 w1 w2 w3 w4 w5 w6 w8 w9 w10 : Value} {P : Prop} (h : CR g O f ad sh V L) (hk : kd sh i = 9) (e : f1 = aup f (ad i) (.inr (9, [w0, w1, w2, w3, w4, w5, w6, .int x, w8, w9, w10]))) (h0 : .ref (ad 1) = w0) (h1 : .ref (ad 4) = w1) (h2 : .ref (ad 6) = w2) (h3 : .ref (ad 14) = w3) (h4 : .ref (ad 16) = w4) (h5 : .ref (ad 18) = w5) (h6 : .int (V i 6) = w6) (h8 : .int (V i 8) = w8) (h9 : .long L = w9) (h10 : .int (V i 10) = w10) (kk : CR g O f1 ad sh (c2 V i 7 x) L → P) : P := kk (h.s9_7 hk h0 h1 h2 h3 h4 h5 h6 h8 h9 h10 e)
theorem CR.k9_8 {g : GG} {O f f1 : AH} {ad : Nat → Nat} {sh : Sh} {V : CV} {L : Int64} {i : Nat} {x : Int32} {w0 w1 w2 w3 w4 w5 w6 w7 w9 w10 : Value} {P : Prop} (h : CR g O f ad sh V L) (hk : kd sh i = 9) (e : f1 = aup f (ad i) (.inr (9, [w0, w1, w2, w3, w4, w5, w6, w7, .int x, w9, w10]))) (h0 : .ref (ad 1) = w0) (h1 : .ref (ad 4) = w1) (h2 : .ref (ad 6) = w2) (h3 : .ref (ad 14) = w3) (h4 : .ref (ad 16) = w4) (h5 : .ref (ad 18) = w5) (h6 : .int (V i 6) = w6) (h7 : .int (V i 7) = w7) (h9 : .long L = w9) (h10 : .int (V i 10) = w10) (kk : CR g O f1 ad sh (c2 V i 8 x) L → P) : P := kk (h.s9_8 hk h0 h1 h2 h3 h4 h5 h6 h7 h9 h10 e)
theorem CR.k9_10 {g : GG} {O f f1 : AH} {ad : Nat → Nat} {sh : Sh} {V : CV} {L : Int64} {i : Nat} {x : Int32} {w0 w1 w2 w3 w4 w5 w6 w7 w8 w9 : Value} {P : Prop} (h : CR g O f ad sh V L) (hk : kd sh i = 9) (e : f1 = aup f (ad i) (.inr (9, [w0, w1, w2, w3, w4, w5, w6, w7, w8, w9, .int x]))) (h0 : .ref (ad 1) = w0) (h1 : .ref (ad 4) = w1) (h2 : .ref (ad 6) = w2) (h3 : .ref (ad 14) = w3) (h4 : .ref (ad 16) = w4) (h5 : .ref (ad 18) = w5) (h6 : .int (V i 6) = w6) (h7 : .int (V i 7) = w7) (h8 : .int (V i 8) = w8) (h9 : .long L = w9) (kk : CR g O f1 ad sh (c2 V i 10 x) L → P) : P := kk (h.s9_10 hk h0 h1 h2 h3 h4 h5 h6 h7 h8 h9 e)
theorem CR.k10_0 {g : GG} {O f f1 : AH} {ad : Nat → Nat} {sh : Sh} {V : CV} {L : Int64} {i : Nat} {x : Int32} {w1 w2 : Value} {P : Prop} (h : CR g O f ad sh V L) (hk : kd sh i = 10) (e : f1 = aup f (ad i) (.inr (0, [.int x, w1, w2]))) (h1 : .ref (if sh.N (i + 1) = 0 then g.2.2 2 else ad (i + 1)) = w1) (h2 : .int (V i 2) = w2) (kk : CR g O f1 ad sh (c2 V i 0 x) L → P) : P := kk (h.s10_0 hk h1 h2 e)
theorem CR.k10_2 {g : GG} {O f f1 : AH} {ad : Nat → Nat} {sh : Sh} {V : CV} {L : Int64} {i : Nat} {x : Int32} {w0 w1 : Value} {P : Prop} (h : CR g O f ad sh V L) (hk : kd sh i = 10) (e : f1 = aup f (ad i) (.inr (0, [w0, w1, .int x]))) (h0 : .int (V i 0) = w0) (h1 : .ref (if sh.N (i + 1) = 0 then g.2.2 2 else ad (i + 1)) = w1) (kk : CR g O f1 ad sh (c2 V i 2 x) L → P) : P := kk (h.s10_2 hk h0 h1 e)
def chK : Nat → Nat → Nat
  | 1, 1 => 20
  | 1, 2 => 20
  | 1, 3 => 21
  | 2, 1 => 20
  | 2, 2 => 1
  | 2, 3 => 20
  | 2, 4 => 20
  | 2, 5 => 21
  | 4, 1 => 10
  | 4, 3 => 20
  | 4, 4 => 1
  | 5, 1 => 20
  | 6, 1 => 20
  | 6, 2 => 21
  | 7, 1 => 20
  | 7, 2 => 21
  | 8, 1 => 7
  | 8, 2 => 20
  | 8, 3 => 21
  | 8, 4 => 5
  | 8, 5 => 20
  | 8, 6 => 6
  | 8, 7 => 20
  | 8, 8 => 21
  | _, _ => 0
def kdb0 (i c : Nat) : Bool := chK (kd0 i) c == 0 || (decide (i + c < 19) && !(i == 5) && !(i == 8) && !(i == 15) && !(i + c == 5) && !(i + c == 8) && !(i + c == 15) && (kd0 (i + c) == chK (kd0 i) c))
theorem kdch00 : ∀ i, i < 19 → ∀ c, c < 9 → kdb0 i c = true := by decide +kernel
theorem kdch0 (i : Nat) (hi : i < 19) (c : Nat) (hc : c < 9) (h : chK (kd0 i) c ≠ 0) : i + c < 19 ∧ i ≠ 5 ∧ i ≠ 8 ∧ i ≠ 15 ∧ i + c ≠ 5 ∧ i + c ≠ 8 ∧ i + c ≠ 15 ∧ kd0 (i + c) = chK (kd0 i) c := by
  have := kdch00 i hi c hc
  simp only [kdb0, Bool.or_eq_true, Bool.and_eq_true, beq_iff_eq, decide_eq_true_eq, Bool.not_eq_true', beq_eq_false_iff_ne] at this
  rcases this with h9 | h9
  · exact absurd h9 h
  · obtain ⟨⟨⟨⟨⟨⟨⟨h1, h2⟩, h3⟩, h4⟩, h5⟩, h6⟩, h7⟩, h8⟩ := h9
    exact ⟨h1, h2, h3, h4, h5, h6, h7, h8⟩
theorem kdchC : ∀ i, i < 10 → ∀ c, c < 9 → chK (kdC i) c ≠ 0 → i + c < 10 ∧ kdC (i + c) = chK (kdC i) c := by decide +kernel
theorem kdchS : ∀ i, i < 20 → ∀ c, c < 9 → chK (kdS i) c ≠ 0 → i + c < 20 ∧ kdS (i + c) = chK (kdS i) c := by decide +kernel
theorem chK_r {k c : Nat} (h : chK k c ≠ 0) : k ≠ 0 ∧ k ≠ 3 ∧ k < 20 ∧ c < 9 := by
  unfold chK at h
  split at h <;> first | exact absurd rfl h | exact ⟨by decide, by decide, by decide, by decide⟩
theorem kdch {sh : Sh} {i k c kk : Nat} (hn : kk ≠ 0) (h : kd sh i = k) (hc : chK k c = kk) : kd sh (i + c) = kk := by
  subst hc
  obtain ⟨k0, k3, k20, c9⟩ := chK_r hn
  subst h
  unfold kd at hn k0 k3 k20 ⊢
  by_cases h1 : i < 19
  · simp only [if_pos h1] at hn k0 k3 k20 ⊢
    by_cases h5 : i = 5
    · subst h5
      exfalso
      revert k0 k20
      simp only [if_true]
      split <;> omega
    · by_cases h8 : i = 8
      · subst h8
        exfalso
        revert k0 k20
        simp only [if_true, if_neg (show ¬ (8 : Nat) = 5 by decide)]
        split <;> omega
      · by_cases h15 : i = 15
        · subst h15
          exfalso
          revert k0 k20
          simp only [if_true, if_neg (show ¬ (15 : Nat) = 5 by decide), if_neg (show ¬ (15 : Nat) = 8 by decide)]
          split <;> omega
        · simp only [if_neg h5, if_neg h8, if_neg h15] at hn ⊢
          obtain ⟨q1, -, -, -, q5, q8, q15, q⟩ := kdch0 i h1 c c9 hn
          rw [if_pos q1, if_neg q5, if_neg q8, if_neg q15, q]
  · simp only [if_neg h1] at hn k0 k3 k20 ⊢
    by_cases h2 : i < 100
    · simp only [if_pos h2] at k0
      exact absurd rfl k0
    · simp only [if_neg h2] at hn k0 k3 k20 ⊢
      by_cases h3 : i < 300
      · simp only [if_pos h3] at hn k0 k3 k20 ⊢
        by_cases h4 : (i - 100) / 10 < sh.C
        · simp only [if_pos h4] at hn k0 k3 k20 ⊢
          obtain ⟨q1, q2⟩ := kdchC ((i - 100) % 10) (Nat.mod_lt _ (by decide)) c c9 hn
          have e1 : (i + c - 100) / 10 = (i - 100) / 10 := by omega
          have e2 : (i + c - 100) % 10 = (i - 100) % 10 + c := by omega
          rw [if_neg (by omega), if_neg (by omega), if_pos (by omega), e1, e2, if_pos h4, q2]
        · simp only [if_neg h4] at k0
          exact absurd rfl k0
      · simp only [if_neg h3] at hn k0 k3 k20 ⊢
        by_cases h4 : i < 400
        · simp only [if_pos h4] at k0 k3
          by_cases h5 : i - 300 < sh.F
          · simp only [if_pos h5] at k3
            exact absurd rfl k3
          · simp only [if_neg h5] at k0
            exact absurd rfl k0
        · simp only [if_neg h4] at hn k0 k3 k20 ⊢
          by_cases h5 : (i - 400) / 20 < sh.S
          · simp only [if_pos h5] at hn k0 k3 k20 ⊢
            obtain ⟨q1, q2⟩ := kdchS ((i - 400) % 20) (Nat.mod_lt _ (by decide)) c c9 hn
            have e1 : (i + c - 400) / 20 = (i - 400) / 20 := by omega
            have e2 : (i + c - 400) % 20 = (i - 400) % 20 + c := by omega
            rw [if_neg (by omega), if_neg (by omega), if_neg (by omega), if_neg (by omega), e1, e2, if_pos h5, q2]
          · simp only [if_neg h5] at k0
            exact absurd rfl k0
theorem kd_1_1 {sh : Sh} {i : Nat} (h : kd sh i = 1) : kd sh (i + 1) = 20 := kdch (by decide) h (by decide)
theorem kd_1_2 {sh : Sh} {i : Nat} (h : kd sh i = 1) : kd sh (i + 2) = 20 := kdch (by decide) h (by decide)
theorem kd_1_3 {sh : Sh} {i : Nat} (h : kd sh i = 1) : kd sh (i + 3) = 21 := kdch (by decide) h (by decide)
theorem kd_2_1 {sh : Sh} {i : Nat} (h : kd sh i = 2) : kd sh (i + 1) = 20 := kdch (by decide) h (by decide)
theorem kd_2_2 {sh : Sh} {i : Nat} (h : kd sh i = 2) : kd sh (i + 2) = 1 := kdch (by decide) h (by decide)
theorem kd_2_3 {sh : Sh} {i : Nat} (h : kd sh i = 2) : kd sh (i + 3) = 20 := kdch (by decide) h (by decide)
theorem kd_2_4 {sh : Sh} {i : Nat} (h : kd sh i = 2) : kd sh (i + 4) = 20 := kdch (by decide) h (by decide)
theorem kd_2_5 {sh : Sh} {i : Nat} (h : kd sh i = 2) : kd sh (i + 5) = 21 := kdch (by decide) h (by decide)
theorem kd_4_1 {sh : Sh} {i : Nat} (h : kd sh i = 4) : kd sh (i + 1) = 10 := kdch (by decide) h (by decide)
theorem kd_4_3 {sh : Sh} {i : Nat} (h : kd sh i = 4) : kd sh (i + 3) = 20 := kdch (by decide) h (by decide)
theorem kd_4_4 {sh : Sh} {i : Nat} (h : kd sh i = 4) : kd sh (i + 4) = 1 := kdch (by decide) h (by decide)
theorem kd_5_1 {sh : Sh} {i : Nat} (h : kd sh i = 5) : kd sh (i + 1) = 20 := kdch (by decide) h (by decide)
theorem kd_6_1 {sh : Sh} {i : Nat} (h : kd sh i = 6) : kd sh (i + 1) = 20 := kdch (by decide) h (by decide)
theorem kd_6_2 {sh : Sh} {i : Nat} (h : kd sh i = 6) : kd sh (i + 2) = 21 := kdch (by decide) h (by decide)
theorem kd_7_1 {sh : Sh} {i : Nat} (h : kd sh i = 7) : kd sh (i + 1) = 20 := kdch (by decide) h (by decide)
theorem kd_7_2 {sh : Sh} {i : Nat} (h : kd sh i = 7) : kd sh (i + 2) = 21 := kdch (by decide) h (by decide)
theorem kd_8_1 {sh : Sh} {i : Nat} (h : kd sh i = 8) : kd sh (i + 1) = 7 := kdch (by decide) h (by decide)
theorem kd_8_2 {sh : Sh} {i : Nat} (h : kd sh i = 8) : kd sh (i + 2) = 20 := kdch (by decide) h (by decide)
theorem kd_8_3 {sh : Sh} {i : Nat} (h : kd sh i = 8) : kd sh (i + 3) = 21 := kdch (by decide) h (by decide)
theorem kd_8_4 {sh : Sh} {i : Nat} (h : kd sh i = 8) : kd sh (i + 4) = 5 := kdch (by decide) h (by decide)
theorem kd_8_5 {sh : Sh} {i : Nat} (h : kd sh i = 8) : kd sh (i + 5) = 20 := kdch (by decide) h (by decide)
theorem kd_8_6 {sh : Sh} {i : Nat} (h : kd sh i = 8) : kd sh (i + 6) = 6 := kdch (by decide) h (by decide)
theorem kd_8_7 {sh : Sh} {i : Nat} (h : kd sh i = 8) : kd sh (i + 7) = 20 := kdch (by decide) h (by decide)
theorem kd_8_8 {sh : Sh} {i : Nat} (h : kd sh i = 8) : kd sh (i + 8) = 21 := kdch (by decide) h (by decide)


