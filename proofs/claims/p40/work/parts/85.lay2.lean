-- deps: 84.lay
/-! ===== what is new is laid into the class's cells: filters, scans ===== -/
/-! a filter more -/
def sXF (sh : Sh)  : Sh := (fun i => if i = 8 then alG sh.F (sh.N 8) else sh.N i, sh.C, sh.F + 1, sh.S)
def adF (sh : Sh) (ad : Nat → Nat) (arr w0 : Nat) : Nat → Nat := fun i => if i = 8 then arr else if i = 300 + sh.F then w0 else ad i
def vF (sh : Sh) (V : CV) (v : Nat → Int32) : CV := fun i => if i = 7 then (fun k => if k = 0 then V 7 0 + 1 else if k = 2 then nI (sh.F + 1) else V 7 k) else if i = 300 + sh.F then v else V i
def chF (sh : Sh) (i : Nat) : Prop := i = 7 ∨ i = 8 ∨ (i = 300 + sh.F)
theorem sXF_N {sh : Sh}  {i : Nat} (h5 : i ≠ 8) (h : ¬ (i = 300 + sh.F)) : (sXF sh).N i = sh.N i := by
  show (if i = 8 then _ else _) = _
  rw [if_neg h5]
theorem vF_o {sh : Sh} {V : CV} {v : Nat → Int32} {i : Nat} (h4 : i ≠ 7) (h : ¬ (i = 300 + sh.F)) : vF sh V v i = V i := by
  unfold vF
  rw [if_neg h4, if_neg (by omega)]
theorem adF_o {sh : Sh} {ad : Nat → Nat} {arr w0 i : Nat} (h5 : i ≠ 8) (h : ¬ (i = 300 + sh.F)) : adF sh ad arr w0 i = ad i := by
  unfold adF
  rw [if_neg h5, if_neg (by omega)]
theorem sXF_F (sh : Sh)  : (sXF sh).F = sh.F + 1 := rfl
theorem kd_sXF {sh : Sh}  {i : Nat} (h : ¬ (i = 8 ∨ (i = 300 + sh.F))) : kd (sXF sh) i = kd sh i := by
  unfold kd
  by_cases h1 : i < 19
  · rw [if_pos h1, if_pos h1, if_neg (show ¬ i = 8 by omega), if_neg (show ¬ i = 8 by omega), sXF_N (i := 5) (by decide) (by omega), sXF_N (i := 15) (by decide) (by omega)]
  · rw [if_neg h1, if_neg h1]
    by_cases h2 : i < 100
    · rw [if_pos h2, if_pos h2]
    · rw [if_neg h2, if_neg h2]
      by_cases h3 : i < 300
      · rw [if_pos h3, if_pos h3]
        rfl
      · rw [if_neg h3, if_neg h3]
        by_cases h4 : i < 400
        · rw [if_pos h4, if_pos h4, sXF_F]
          by_cases h5 : i - 300 < sh.F
          · rw [if_pos h5, if_pos (by omega)]
          · rw [if_neg h5, if_neg (by omega)]
        · rw [if_neg h4, if_neg h4]
          rfl
theorem kd_sXF_n {sh : Sh}  (hB : sh.F < 100) : kd (sXF sh) (300 + sh.F) = 3 := by
  unfold kd
  rw [sXF_F, if_neg (by omega), if_neg (by omega), if_neg (by omega), if_pos (by omega), if_pos (by omega)]
theorem kd_rF {sh : Sh} (hB : sh.F < 100) {i : Nat} (h : kd sh i ≠ 0) : ¬ (i = 300 + sh.F) := by
  rintro rfl
  apply h
  unfold kd
  rw [if_neg (by omega), if_neg (by omega), if_neg (by omega), if_pos (by omega), if_neg (by omega)]
set_option maxHeartbeats 4000000 in
theorem CR.addF {g : GG} {O f f' : AH} {ad : Nat → Nat} {sh : Sh} {V : CV} {L : Int64} {arr w0 : Nat} {v : Nat → Int32} (hM : CR g O f ad sh V L) (hB : sh.F < 100) (hC10 : sh.C ≤ 10) (hN5 : sh.F ≤ sh.N 8)
    (hfr : Frs f [w0]) (ha1 : sh.F = sh.N 8 → f arr = none ∧ arr ∉ [w0]) (ha2 : sh.F ≠ sh.N 8 → arr = ad 8)
    (k4 : f' (ad 7) = some (.inr (0, [.int (V 7 0 + 1), .ref arr, .int (nI (sh.F + 1))])))
    (k5 : f' arr = some (arq (alG sh.F (sh.N 8)) (updq (fun j => if j < sh.F then some (ad (300 + j)) else none) sh.F (some w0))))
    (kc : f' w0 = some (.inr (3, [.int (v 0), .int (v 1), .int (v 2), .int (v 3), .int (v 4), .int (v 5), .int (v 6), .int (v 7)]))) (hoth : ∀ p, p ≠ ad 7 → p ≠ arr → p ∉ [w0] → f' p = f p) : CR g O f' (adF sh ad arr w0) (sXF sh) (vF sh V v) L := by
  have hal := alG_0 sh.F (sh.N 8) hN5
  have hw : ∀ x, x ∈ [w0] → ∀ i, kd sh i ≠ 0 → x ≠ ad i := by
    intro x hx i hi
    obtain ⟨c, hc⟩ := kd_cell (g := g) (V := V) (L := L) (ad := ad) hi
    exact ne_fr (hfr.1 x hx) (hM.1 i c hc)
  have hex : ∀ i, kd sh i ≠ 0 → ∃ c, f (ad i) = some c := by
    intro i hi
    obtain ⟨c, hc⟩ := kd_cell (g := g) (V := V) (L := L) (ad := ad) hi
    exact ⟨c, hM.1 i c hc⟩
  have harr : ∀ i, kd sh i ≠ 0 → i ≠ 8 → arr ≠ ad i := by
    intro i hi h5
    by_cases e : sh.F = sh.N 8
    · obtain ⟨c, hc⟩ := hex i hi
      exact ne_fr (ha1 e).1 hc
    · rw [ha2 e]
      intro z
      exact h5 (hM.2.1 8 i (by show (if sh.N 8 = 0 then 0 else 23) ≠ 0; rw [if_neg (by omega)]; decide) hi z).symm
  have harrw : ∀ x, x ∈ [w0] → x ≠ arr := by
    intro x hx
    by_cases e : sh.F = sh.N 8
    · rintro rfl
      exact (ha1 e).2 hx
    · rw [ha2 e]
      exact hw x hx 8 (by show (if sh.N 8 = 0 then 0 else 23) ≠ 0; rw [if_neg (by omega)]; decide)
  have k40 : kd sh 7 ≠ 0 := by show (10 : Nat) ≠ 0; decide
  have kd5 : kd (sXF sh) 8 = 23 := by
    show (if alG sh.F (sh.N 8) = 0 then 0 else 23) = 23
    rw [if_neg (by omega)]
  have e0 : adF sh ad arr w0 (300 + sh.F) = w0 := by
    unfold adF
    rw [if_neg (by omega), if_pos rfl]
  have a4 : adF sh ad arr w0 7 = ad 7 := adF_o (by decide) (by omega)
  have a5 : adF sh ad arr w0 8 = arr := if_pos rfl
  have cases9 : ∀ i, chF sh i → kd (sXF sh) i ≠ 0 → (i = 7 ∧ adF sh ad arr w0 i = ad 7) ∨ (i = 8 ∧ adF sh ad arr w0 i = arr) ∨ (i = 300 + sh.F ∧ adF sh ad arr w0 i = w0) := by
    intro i hi hk
    rcases hi with rfl | rfl | hi
    · exact Or.inl ⟨rfl, a4⟩
    · exact Or.inr (Or.inl ⟨rfl, a5⟩)
    · subst hi
      exact Or.inr (Or.inr (⟨rfl, e0⟩))

  refine CR.ext (chF sh) hM ?_ ?_ ?_ ?_ ?_ ?_
  · intro i hi
    have hi5 : i ≠ 8 := fun e => hi (Or.inr (Or.inl e))
    have hi4 : i ≠ 7 := fun e => hi (Or.inl e)
    have hir : ¬ (i = 300 + sh.F) := fun e => hi (Or.inr (Or.inr e))
    have hk : kd (sXF sh) i = kd sh i := kd_sXF (fun e => e.elim hi5 hir)
    refine ⟨hk, adF_o hi5 hir, cell_cg hk (vF_o hi4 hir) (sXF_N hi5 hir) ?_ ?_ ?_ ?_ ?_ ?_⟩
    · intro n hn
      obtain ⟨d1, d2, d3, d4⟩ := kd_ch hn
      exact adF_o d3 (kd_rF hB d1)
    · intro _
      exact ⟨adF_o (by decide) (by omega), adF_o (by decide) (by omega), adF_o (by decide) (by omega), adF_o (by decide) (by omega), adF_o (by decide) (by omega), adF_o (by decide) (by omega)⟩
    · intro h
      rcases kd_10 h with rfl | rfl | rfl
      · exact ⟨sXF_N (by decide) (by omega), adF_o (by decide) (by omega)⟩
      · exact absurd rfl hi4
      · exact ⟨sXF_N (by decide) (by omega), adF_o (by decide) (by omega)⟩
    · intro _
      exact ⟨rfl, fun j hj => adF_o (by omega) (by omega)⟩
    · intro h
      exact absurd (kd_23 h) hi5
    · intro _
      exact ⟨rfl, fun j hj => adF_o (by omega) (by omega)⟩
  · intro i c hi hc
    have hN5' : (sXF sh).N 8 = alG sh.F (sh.N 8) := rfl
    rcases cases9 i hi (cell_kd hc) with ⟨rfl, e⟩ | ⟨rfl, e⟩ | ⟨rfl, e⟩ <;> rw [e]
    · rw [cell, show kd (sXF sh) 7 = 10 from rfl] at hc
      have hc : some (.inr (0, [.int (vF sh V v 7 0), .ref (if (sXF sh).N 8 = 0 then g.2.2 2 else adF sh ad arr w0 8), .int (vF sh V v 7 2)])) = some c := hc
      rw [if_neg (by rw [hN5']; omega), a5] at hc
      rw [k4, ← hc]
      rfl
    · rw [k5, ← hc, cell, kd5]
      show _ = some (arq ((sXF sh).N 8) (fun j => if j < sh.F + 1 then some (adF sh ad arr w0 (300 + j)) else none))
      rw [hN5']
      congr 8
      funext j
      by_cases h1 : j = sh.F
      · subst h1
        rw [updq_s, if_pos (by omega), e0]
      · rw [updq_n _ _ h1]
        by_cases h2 : j < sh.F
        · rw [if_pos h2, if_pos (by omega), adF_o (by omega) (by omega)]
        · rw [if_neg h2, if_neg (by omega)]
    · rw [cell, show kd (sXF sh) (300 + sh.F) = 3 from kd_sXF_n hB] at hc
      have hc : some (.inr (3, [.int (vF sh V v (300 + sh.F) 0), .int (vF sh V v (300 + sh.F) 1), .int (vF sh V v (300 + sh.F) 2), .int (vF sh V v (300 + sh.F) 3), .int (vF sh V v (300 + sh.F) 4), .int (vF sh V v (300 + sh.F) 5), .int (vF sh V v (300 + sh.F) 6), .int (vF sh V v (300 + sh.F) 7)])) = some c := hc
      have hv : vF sh V v (300 + sh.F) = v := by
        unfold vF
        rw [if_neg (by omega), if_pos rfl]
      rw [hv] at hc
      rw [kc, ← hc]
  · intro i hi hk
    refine hoth _ (fun z => hi (Or.inl (hM.2.1 i 7 hk k40 z))) (Ne.symm (harr i hk (fun z => hi (Or.inr (Or.inl z))))) fun z => hw _ z i hk rfl
  · intro i j hi hj hki hkj e
    obtain ⟨-, hp⟩ := hfr
    simp only [List.pairwise_cons, List.mem_cons, List.not_mem_nil, or_false, forall_eq_or_imp, forall_eq, false_imp_iff, implies_true, List.Pairwise.nil, and_true] at hp
    have u4 : ∀ x, x ∈ [w0] → x ≠ ad 7 := fun x hx => hw x hx 7 k40
    have ua : arr ≠ ad 7 := harr 7 k40 (by decide)
    simp only [List.mem_cons, List.not_mem_nil, or_false, forall_eq_or_imp, forall_eq] at u4 harrw
    rcases cases9 i hi hki with ⟨rfl, e9⟩ | ⟨rfl, e9⟩ | ⟨rfl, e9⟩ <;> rcases cases9 j hj hkj with ⟨rfl, e8⟩ | ⟨rfl, e8⟩ | ⟨rfl, e8⟩ <;> first | rfl | (rw [e9, e8] at e; first | exact absurd e (by assumption) | exact absurd e.symm (by assumption))
  · intro i j hi hj hki hkj
    have hj5 : j ≠ 8 := fun z => hj (Or.inr (Or.inl z))
    have u : ∀ x, x ∈ [w0] → x ≠ ad j := fun x hx => hw x hx j hkj
    simp only [List.mem_cons, List.not_mem_nil, or_false, forall_eq_or_imp, forall_eq] at u
    have ua := harr j hkj hj5
    have u4 : ad 7 ≠ ad j := fun z => hj (Or.inl (hM.2.1 7 j k40 hkj z).symm)
    rcases cases9 i hi hki with ⟨rfl, e9⟩ | ⟨rfl, e9⟩ | ⟨rfl, e9⟩ <;> rw [e9] <;> assumption
  · intro q c hq
    obtain ⟨o1, o2⟩ := hM.2.2 q c hq
    have u : ∀ x, x ∈ [w0] → q ≠ x := fun x hx => Ne.symm (ne_fr (hfr.1 x hx) o1)
    have ua : q ≠ arr := by
      by_cases e : sh.F = sh.N 8
      · exact Ne.symm (ne_fr (ha1 e).1 o1)
      · rw [ha2 e]
        exact o2 8 (by show (if sh.N 8 = 0 then 0 else 23) ≠ 0; rw [if_neg (by omega)]; decide)
    refine ⟨hoth q (o2 7 k40) ua (fun z => u q z rfl), fun i hi hki => ?_⟩
    simp only [List.mem_cons, List.not_mem_nil, or_false, forall_eq_or_imp, forall_eq] at u
    have u4 := o2 7 k40
    rcases cases9 i hi hki with ⟨rfl, e9⟩ | ⟨rfl, e9⟩ | ⟨rfl, e9⟩ <;> rw [e9] <;> assumption
/-! a scan more -/
def sXS (sh : Sh) (n : Nat) (m : Nat) : Sh := (fun i => if i = 15 then alG sh.S (sh.N 15) else if i = 400 + 20 * sh.S + 2 then 4 * n else if i = 400 + 20 * sh.S + 3 then n else if i = 400 + 20 * sh.S + 5 then 6 * m else if i = 400 + 20 * sh.S + 7 then 4 else if i = 400 + 20 * sh.S + 8 then 4 else sh.N i, sh.C, sh.F, sh.S + 1)
def adS (sh : Sh) (ad : Nat → Nat) (arr w0 w1 w2 w3 w4 w5 w6 w7 w8 : Nat) : Nat → Nat := fun i => if i = 15 then arr else if i = 400 + 20 * sh.S then w0 else if i = 400 + 20 * sh.S + 1 then w1 else if i = 400 + 20 * sh.S + 2 then w2 else if i = 400 + 20 * sh.S + 3 then w3 else if i = 400 + 20 * sh.S + 4 then w4 else if i = 400 + 20 * sh.S + 5 then w5 else if i = 400 + 20 * sh.S + 6 then w6 else if i = 400 + 20 * sh.S + 7 then w7 else if i = 400 + 20 * sh.S + 8 then w8 else ad i
def vS (sh : Sh) (V : CV) (n : Nat) (x : Int32) (y : Int32) (z : Int32) (w : Int32) (mo : Int32) (cc : Int32) (lv : Int32) (vals : Nat → Int32) (al : Nat → Int32) : CV := fun i => if i = 14 then (fun k => if k = 0 then V 14 0 + 1 else if k = 2 then nI (sh.S + 1) else V 14 k) else if i = 400 + 20 * sh.S then (fun k => if k = 0 then x else if k = 1 then y else if k = 2 then z else if k = 3 then mo else if k = 4 then cc else if k = 10 then -1 else 0) else if i = 400 + 20 * sh.S + 1 then (fun k => if k = 2 then nI n else if k = 3 then lv else 0) else if i = 400 + 20 * sh.S + 2 then cpV vals (4 * n) else if i = 400 + 20 * sh.S + 3 then cpV al n else if i = 400 + 20 * sh.S + 4 then v0 else if i = 400 + 20 * sh.S + 5 then v0 else if i = 400 + 20 * sh.S + 6 then (fun k => if k = 2 then w else 0) else if i = 400 + 20 * sh.S + 7 then v0 else if i = 400 + 20 * sh.S + 8 then v0 else V i
def chS (sh : Sh) (i : Nat) : Prop := i = 14 ∨ i = 15 ∨ (400 + 20 * sh.S ≤ i ∧ i < 400 + 20 * sh.S + 20)
theorem sXS_N {sh : Sh} {n : Nat} {m : Nat} {i : Nat} (h5 : i ≠ 15) (h : ¬ (400 + 20 * sh.S ≤ i ∧ i < 400 + 20 * sh.S + 20)) : (sXS sh n m).N i = sh.N i := by
  show (if i = 15 then _ else _) = _
  rw [if_neg h5, if_neg (by omega), if_neg (by omega), if_neg (by omega), if_neg (by omega), if_neg (by omega)]
theorem vS_o {sh : Sh} {V : CV} {n : Nat} {x : Int32} {y : Int32} {z : Int32} {w : Int32} {mo : Int32} {cc : Int32} {lv : Int32} {vals : Nat → Int32} {al : Nat → Int32} {i : Nat} (h4 : i ≠ 14) (h : ¬ (400 + 20 * sh.S ≤ i ∧ i < 400 + 20 * sh.S + 20)) : vS sh V n x y z w mo cc lv vals al i = V i := by
  unfold vS
  rw [if_neg h4, if_neg (by omega), if_neg (by omega), if_neg (by omega), if_neg (by omega), if_neg (by omega), if_neg (by omega), if_neg (by omega), if_neg (by omega), if_neg (by omega)]
theorem adS_o {sh : Sh} {ad : Nat → Nat} {arr w0 w1 w2 w3 w4 w5 w6 w7 w8 i : Nat} (h5 : i ≠ 15) (h : ¬ (400 + 20 * sh.S ≤ i ∧ i < 400 + 20 * sh.S + 20)) : adS sh ad arr w0 w1 w2 w3 w4 w5 w6 w7 w8 i = ad i := by
  unfold adS
  rw [if_neg h5, if_neg (by omega), if_neg (by omega), if_neg (by omega), if_neg (by omega), if_neg (by omega), if_neg (by omega), if_neg (by omega), if_neg (by omega), if_neg (by omega)]
theorem sXS_S (sh : Sh) (n : Nat) (m : Nat) : (sXS sh n m).S = sh.S + 1 := rfl
theorem kd_sXS {sh : Sh} {n : Nat} {m : Nat} {i : Nat} (h : ¬ (i = 15 ∨ (400 + 20 * sh.S ≤ i ∧ i < 400 + 20 * sh.S + 20))) : kd (sXS sh n m) i = kd sh i := by
  unfold kd
  by_cases h1 : i < 19
  · rw [if_pos h1, if_pos h1, if_neg (show ¬ i = 15 by omega), if_neg (show ¬ i = 15 by omega), sXS_N (i := 5) (by decide) (by omega), sXS_N (i := 8) (by decide) (by omega)]
  · rw [if_neg h1, if_neg h1]
    by_cases h2 : i < 100
    · rw [if_pos h2, if_pos h2]
    · rw [if_neg h2, if_neg h2]
      by_cases h3 : i < 300
      · rw [if_pos h3, if_pos h3]
        rfl
      · rw [if_neg h3, if_neg h3]
        by_cases h4 : i < 400
        · rw [if_pos h4, if_pos h4]
          rfl
        · rw [if_neg h4, if_neg h4, sXS_S]
          by_cases h5 : (i - 400) / 20 < sh.S
          · rw [if_pos h5, if_pos (by omega)]
          · rw [if_neg h5, if_neg (by omega)]
theorem kd_sXS_n {sh : Sh} {n : Nat} {m : Nat} {k9 : Nat} (hk9 : k9 < 20) : kd (sXS sh n m) (400 + 20 * sh.S + k9) = kdS k9 := by
  unfold kd
  rw [sXS_S, if_neg (by omega), if_neg (by omega), if_neg (by omega), if_neg (by omega), if_pos (by omega), show (400 + 20 * sh.S + k9 - 400) % 20 = k9 by omega]
theorem kd_rS {sh : Sh} {i : Nat} (h : kd sh i ≠ 0) : ¬ (400 + 20 * sh.S ≤ i ∧ i < 400 + 20 * sh.S + 20) := by
  intro hi
  apply h
  unfold kd
  rw [if_neg (by omega), if_neg (by omega), if_neg (by omega), if_neg (by omega), if_neg (by omega)]
set_option maxHeartbeats 4000000 in
theorem CR.addS {g : GG} {O f f' : AH} {ad : Nat → Nat} {sh : Sh} {V : CV} {L : Int64} {arr w0 w1 w2 w3 w4 w5 w6 w7 w8 : Nat} {n : Nat} {m : Nat} {x : Int32} {y : Int32} {z : Int32} {w : Int32} {mo : Int32} {cc : Int32} {lv : Int32} {vals : Nat → Int32} {al : Nat → Int32} (hM : CR g O f ad sh V L) (hC10 : sh.C ≤ 10) (hF30 : sh.F ≤ 30) (hN5 : sh.S ≤ sh.N 15)
    (hfr : Frs f [w0, w1, w2, w3, w4, w5, w6, w7, w8]) (ha1 : sh.S = sh.N 15 → f arr = none ∧ arr ∉ [w0, w1, w2, w3, w4, w5, w6, w7, w8]) (ha2 : sh.S ≠ sh.N 15 → arr = ad 15)
    (k4 : f' (ad 14) = some (.inr (0, [.int (V 14 0 + 1), .ref arr, .int (nI (sh.S + 1))])))
    (k5 : f' arr = some (arq (alG sh.S (sh.N 15)) (updq (fun j => if j < sh.S then some (ad (400 + 20 * j)) else none) sh.S (some w0))))
    (kc : ScR f' w0 w1 w2 w3 w4 w5 w6 w7 w8 n m x y z w mo cc lv vals al) (hoth : ∀ p, p ≠ ad 14 → p ≠ arr → p ∉ [w0, w1, w2, w3, w4, w5, w6, w7, w8] → f' p = f p) : CR g O f' (adS sh ad arr w0 w1 w2 w3 w4 w5 w6 w7 w8) (sXS sh n m) (vS sh V n x y z w mo cc lv vals al) L := by
  have hal := alG_0 sh.S (sh.N 15) hN5
  have hw : ∀ x, x ∈ [w0, w1, w2, w3, w4, w5, w6, w7, w8] → ∀ i, kd sh i ≠ 0 → x ≠ ad i := by
    intro x hx i hi
    obtain ⟨c, hc⟩ := kd_cell (g := g) (V := V) (L := L) (ad := ad) hi
    exact ne_fr (hfr.1 x hx) (hM.1 i c hc)
  have hex : ∀ i, kd sh i ≠ 0 → ∃ c, f (ad i) = some c := by
    intro i hi
    obtain ⟨c, hc⟩ := kd_cell (g := g) (V := V) (L := L) (ad := ad) hi
    exact ⟨c, hM.1 i c hc⟩
  have harr : ∀ i, kd sh i ≠ 0 → i ≠ 15 → arr ≠ ad i := by
    intro i hi h5
    by_cases e : sh.S = sh.N 15
    · obtain ⟨c, hc⟩ := hex i hi
      exact ne_fr (ha1 e).1 hc
    · rw [ha2 e]
      intro z
      exact h5 (hM.2.1 15 i (by show (if sh.N 15 = 0 then 0 else 24) ≠ 0; rw [if_neg (by omega)]; decide) hi z).symm
  have harrw : ∀ x, x ∈ [w0, w1, w2, w3, w4, w5, w6, w7, w8] → x ≠ arr := by
    intro x hx
    by_cases e : sh.S = sh.N 15
    · rintro rfl
      exact (ha1 e).2 hx
    · rw [ha2 e]
      exact hw x hx 15 (by show (if sh.N 15 = 0 then 0 else 24) ≠ 0; rw [if_neg (by omega)]; decide)
  have k40 : kd sh 14 ≠ 0 := by show (10 : Nat) ≠ 0; decide
  have kd5 : kd (sXS sh n m) 15 = 24 := by
    show (if alG sh.S (sh.N 15) = 0 then 0 else 24) = 24
    rw [if_neg (by omega)]
  have e0 : adS sh ad arr w0 w1 w2 w3 w4 w5 w6 w7 w8 (400 + 20 * sh.S) = w0 := by
    unfold adS
    rw [if_neg (by omega), if_pos rfl]
  have e1 : adS sh ad arr w0 w1 w2 w3 w4 w5 w6 w7 w8 (400 + 20 * sh.S + 1) = w1 := by
    unfold adS
    rw [if_neg (by omega), if_neg (by omega), if_pos rfl]
  have e2 : adS sh ad arr w0 w1 w2 w3 w4 w5 w6 w7 w8 (400 + 20 * sh.S + 2) = w2 := by
    unfold adS
    rw [if_neg (by omega), if_neg (by omega), if_neg (by omega), if_pos rfl]
  have e3 : adS sh ad arr w0 w1 w2 w3 w4 w5 w6 w7 w8 (400 + 20 * sh.S + 3) = w3 := by
    unfold adS
    rw [if_neg (by omega), if_neg (by omega), if_neg (by omega), if_neg (by omega), if_pos rfl]
  have e4 : adS sh ad arr w0 w1 w2 w3 w4 w5 w6 w7 w8 (400 + 20 * sh.S + 4) = w4 := by
    unfold adS
    rw [if_neg (by omega), if_neg (by omega), if_neg (by omega), if_neg (by omega), if_neg (by omega), if_pos rfl]
  have e5 : adS sh ad arr w0 w1 w2 w3 w4 w5 w6 w7 w8 (400 + 20 * sh.S + 5) = w5 := by
    unfold adS
    rw [if_neg (by omega), if_neg (by omega), if_neg (by omega), if_neg (by omega), if_neg (by omega), if_neg (by omega), if_pos rfl]
  have e6 : adS sh ad arr w0 w1 w2 w3 w4 w5 w6 w7 w8 (400 + 20 * sh.S + 6) = w6 := by
    unfold adS
    rw [if_neg (by omega), if_neg (by omega), if_neg (by omega), if_neg (by omega), if_neg (by omega), if_neg (by omega), if_neg (by omega), if_pos rfl]
  have e7 : adS sh ad arr w0 w1 w2 w3 w4 w5 w6 w7 w8 (400 + 20 * sh.S + 7) = w7 := by
    unfold adS
    rw [if_neg (by omega), if_neg (by omega), if_neg (by omega), if_neg (by omega), if_neg (by omega), if_neg (by omega), if_neg (by omega), if_neg (by omega), if_pos rfl]
  have e8 : adS sh ad arr w0 w1 w2 w3 w4 w5 w6 w7 w8 (400 + 20 * sh.S + 8) = w8 := by
    unfold adS
    rw [if_neg (by omega), if_neg (by omega), if_neg (by omega), if_neg (by omega), if_neg (by omega), if_neg (by omega), if_neg (by omega), if_neg (by omega), if_neg (by omega), if_pos rfl]
  have a4 : adS sh ad arr w0 w1 w2 w3 w4 w5 w6 w7 w8 14 = ad 14 := adS_o (by decide) (by omega)
  have a5 : adS sh ad arr w0 w1 w2 w3 w4 w5 w6 w7 w8 15 = arr := if_pos rfl
  have cases9 : ∀ i, chS sh i → kd (sXS sh n m) i ≠ 0 → (i = 14 ∧ adS sh ad arr w0 w1 w2 w3 w4 w5 w6 w7 w8 i = ad 14) ∨ (i = 15 ∧ adS sh ad arr w0 w1 w2 w3 w4 w5 w6 w7 w8 i = arr) ∨ (i = 400 + 20 * sh.S ∧ adS sh ad arr w0 w1 w2 w3 w4 w5 w6 w7 w8 i = w0) ∨ (i = 400 + 20 * sh.S + 1 ∧ adS sh ad arr w0 w1 w2 w3 w4 w5 w6 w7 w8 i = w1) ∨ (i = 400 + 20 * sh.S + 2 ∧ adS sh ad arr w0 w1 w2 w3 w4 w5 w6 w7 w8 i = w2) ∨ (i = 400 + 20 * sh.S + 3 ∧ adS sh ad arr w0 w1 w2 w3 w4 w5 w6 w7 w8 i = w3) ∨ (i = 400 + 20 * sh.S + 4 ∧ adS sh ad arr w0 w1 w2 w3 w4 w5 w6 w7 w8 i = w4) ∨ (i = 400 + 20 * sh.S + 5 ∧ adS sh ad arr w0 w1 w2 w3 w4 w5 w6 w7 w8 i = w5) ∨ (i = 400 + 20 * sh.S + 6 ∧ adS sh ad arr w0 w1 w2 w3 w4 w5 w6 w7 w8 i = w6) ∨ (i = 400 + 20 * sh.S + 7 ∧ adS sh ad arr w0 w1 w2 w3 w4 w5 w6 w7 w8 i = w7) ∨ (i = 400 + 20 * sh.S + 8 ∧ adS sh ad arr w0 w1 w2 w3 w4 w5 w6 w7 w8 i = w8) := by
    intro i hi hk
    rcases hi with rfl | rfl | hi
    · exact Or.inl ⟨rfl, a4⟩
    · exact Or.inr (Or.inl ⟨rfl, a5⟩)
    · obtain ⟨k9, hk9, rfl⟩ : ∃ k9, k9 < 20 ∧ i = 400 + 20 * sh.S + k9 := ⟨i - (400 + 20 * sh.S), by omega, by omega⟩
      rw [kd_sXS_n hk9] at hk
      have hn6 : k9 < 9 := (by decide : ∀ n, n < 20 → kdS n ≠ 0 → n < 9) k9 hk9 hk
      rcases (by omega : k9 = 0 ∨ k9 = 1 ∨ k9 = 2 ∨ k9 = 3 ∨ k9 = 4 ∨ k9 = 5 ∨ k9 = 6 ∨ k9 = 7 ∨ k9 = 8) with rfl | rfl | rfl | rfl | rfl | rfl | rfl | rfl | rfl
      · exact Or.inr (Or.inr (Or.inl ⟨rfl, e0⟩))
      · exact Or.inr (Or.inr (Or.inr (Or.inl ⟨rfl, e1⟩)))
      · exact Or.inr (Or.inr (Or.inr (Or.inr (Or.inl ⟨rfl, e2⟩))))
      · exact Or.inr (Or.inr (Or.inr (Or.inr (Or.inr (Or.inl ⟨rfl, e3⟩)))))
      · exact Or.inr (Or.inr (Or.inr (Or.inr (Or.inr (Or.inr (Or.inl ⟨rfl, e4⟩))))))
      · exact Or.inr (Or.inr (Or.inr (Or.inr (Or.inr (Or.inr (Or.inr (Or.inl ⟨rfl, e5⟩)))))))
      · exact Or.inr (Or.inr (Or.inr (Or.inr (Or.inr (Or.inr (Or.inr (Or.inr (Or.inl ⟨rfl, e6⟩))))))))
      · exact Or.inr (Or.inr (Or.inr (Or.inr (Or.inr (Or.inr (Or.inr (Or.inr (Or.inr (Or.inl ⟨rfl, e7⟩)))))))))
      · exact Or.inr (Or.inr (Or.inr (Or.inr (Or.inr (Or.inr (Or.inr (Or.inr (Or.inr (Or.inr (⟨rfl, e8⟩))))))))))
  obtain ⟨⟨c0, c1, c2, c3⟩, ⟨c4, c5⟩, c6, c7, c8⟩ := kc
  refine CR.ext (chS sh) hM ?_ ?_ ?_ ?_ ?_ ?_
  · intro i hi
    have hi5 : i ≠ 15 := fun e => hi (Or.inr (Or.inl e))
    have hi4 : i ≠ 14 := fun e => hi (Or.inl e)
    have hir : ¬ (400 + 20 * sh.S ≤ i ∧ i < 400 + 20 * sh.S + 20) := fun e => hi (Or.inr (Or.inr e))
    have hk : kd (sXS sh n m) i = kd sh i := kd_sXS (fun e => e.elim hi5 hir)
    refine ⟨hk, adS_o hi5 hir, cell_cg hk (vS_o hi4 hir) (sXS_N hi5 hir) ?_ ?_ ?_ ?_ ?_ ?_⟩
    · intro n hn
      obtain ⟨d1, d2, d3, d4⟩ := kd_ch hn
      exact adS_o d4 (kd_rS d1)
    · intro _
      exact ⟨adS_o (by decide) (by omega), adS_o (by decide) (by omega), adS_o (by decide) (by omega), adS_o (by decide) (by omega), adS_o (by decide) (by omega), adS_o (by decide) (by omega)⟩
    · intro h
      rcases kd_10 h with rfl | rfl | rfl
      · exact ⟨sXS_N (by decide) (by omega), adS_o (by decide) (by omega)⟩
      · exact ⟨sXS_N (by decide) (by omega), adS_o (by decide) (by omega)⟩
      · exact absurd rfl hi4
    · intro _
      exact ⟨rfl, fun j hj => adS_o (by omega) (by omega)⟩
    · intro _
      exact ⟨rfl, fun j hj => adS_o (by omega) (by omega)⟩
    · intro h
      exact absurd (kd_24 h) hi5
  · intro i c hi hc
    have hN5' : (sXS sh n m).N 15 = alG sh.S (sh.N 15) := rfl
    rcases cases9 i hi (cell_kd hc) with ⟨rfl, e⟩ | ⟨rfl, e⟩ | ⟨rfl, e⟩ | ⟨rfl, e⟩ | ⟨rfl, e⟩ | ⟨rfl, e⟩ | ⟨rfl, e⟩ | ⟨rfl, e⟩ | ⟨rfl, e⟩ | ⟨rfl, e⟩ | ⟨rfl, e⟩ <;> rw [e]
    · rw [cell, show kd (sXS sh n m) 14 = 10 from rfl] at hc
      have hc : some (.inr (0, [.int (vS sh V n x y z w mo cc lv vals al 14 0), .ref (if (sXS sh n m).N 15 = 0 then g.2.2 2 else adS sh ad arr w0 w1 w2 w3 w4 w5 w6 w7 w8 15), .int (vS sh V n x y z w mo cc lv vals al 14 2)])) = some c := hc
      rw [if_neg (by rw [hN5']; omega), a5] at hc
      rw [k4, ← hc]
      rfl
    · rw [k5, ← hc, cell, kd5]
      show _ = some (arq ((sXS sh n m).N 15) (fun j => if j < sh.S + 1 then some (adS sh ad arr w0 w1 w2 w3 w4 w5 w6 w7 w8 (400 + 20 * j)) else none))
      rw [hN5']
      congr 8
      funext j
      by_cases h1 : j = sh.S
      · subst h1
        rw [updq_s, if_pos (by omega), e0]
      · rw [updq_n _ _ h1]
        by_cases h2 : j < sh.S
        · rw [if_pos h2, if_pos (by omega), adS_o (by omega) (by omega)]
        · rw [if_neg h2, if_neg (by omega)]
    · rw [cell, show kd (sXS sh n m) (400 + 20 * sh.S) = 8 from kd_sXS_n (k9 := 0) (by decide)] at hc
      have hc : some (.inr (8, [.int (vS sh V n x y z w mo cc lv vals al (400 + 20 * sh.S) 0), .int (vS sh V n x y z w mo cc lv vals al (400 + 20 * sh.S) 1), .int (vS sh V n x y z w mo cc lv vals al (400 + 20 * sh.S) 2), .int (vS sh V n x y z w mo cc lv vals al (400 + 20 * sh.S) 3), .int (vS sh V n x y z w mo cc lv vals al (400 + 20 * sh.S) 4), .ref (adS sh ad arr w0 w1 w2 w3 w4 w5 w6 w7 w8 (400 + 20 * sh.S + 1)), .ref (adS sh ad arr w0 w1 w2 w3 w4 w5 w6 w7 w8 (400 + 20 * sh.S + 4)), .ref (adS sh ad arr w0 w1 w2 w3 w4 w5 w6 w7 w8 (400 + 20 * sh.S + 6)), .int (vS sh V n x y z w mo cc lv vals al (400 + 20 * sh.S) 8), .int (vS sh V n x y z w mo cc lv vals al (400 + 20 * sh.S) 9), .int (vS sh V n x y z w mo cc lv vals al (400 + 20 * sh.S) 10)])) = some c := hc
      have hv : vS sh V n x y z w mo cc lv vals al (400 + 20 * sh.S) = (fun k => if k = 0 then x else if k = 1 then y else if k = 2 then z else if k = 3 then mo else if k = 4 then cc else if k = 10 then -1 else 0) := by
        unfold vS
        rw [if_neg (by omega), if_pos rfl]
      rw [e1, e4, e6, hv] at hc
      rw [c0, ← hc]
      rfl
    · rw [cell, show kd (sXS sh n m) (400 + 20 * sh.S + 1) = 7 from kd_sXS_n (k9 := 1) (by decide)] at hc
      have hc : some (.inr (7, [.ref (adS sh ad arr w0 w1 w2 w3 w4 w5 w6 w7 w8 (400 + 20 * sh.S + 2)), .ref (adS sh ad arr w0 w1 w2 w3 w4 w5 w6 w7 w8 (400 + 20 * sh.S + 3)), .int (vS sh V n x y z w mo cc lv vals al (400 + 20 * sh.S + 1) 2), .int (vS sh V n x y z w mo cc lv vals al (400 + 20 * sh.S + 1) 3)])) = some c := hc
      have hv : vS sh V n x y z w mo cc lv vals al (400 + 20 * sh.S + 1) = (fun k => if k = 2 then nI n else if k = 3 then lv else 0) := by
        unfold vS
        rw [if_neg (by omega), if_neg (by omega), if_pos rfl]
      rw [e2, e3, hv] at hc
      rw [c1, ← hc]
      rfl
    · rw [cell, show kd (sXS sh n m) (400 + 20 * sh.S + 2) = 20 from kd_sXS_n (k9 := 2) (by decide)] at hc
      have hc : some (.inl (0, (sXS sh n m).N (400 + 20 * sh.S + 2), .inl (vS sh V n x y z w mo cc lv vals al (400 + 20 * sh.S + 2)))) = some c := hc
      have hv : vS sh V n x y z w mo cc lv vals al (400 + 20 * sh.S + 2) = cpV vals (4 * n) := by
        unfold vS
        rw [if_neg (by omega), if_neg (by omega), if_neg (by omega), if_pos rfl]
      have hN : (sXS sh n m).N (400 + 20 * sh.S + 2) = 4 * n := by
        show (if 400 + 20 * sh.S + 2 = 15 then _ else _) = _
        rw [if_neg (by omega), if_pos rfl]
      rw [hv, hN] at hc
      rw [c2, ← hc]
    · rw [cell, show kd (sXS sh n m) (400 + 20 * sh.S + 3) = 21 from kd_sXS_n (k9 := 3) (by decide)] at hc
      have hc : some (.inl (1, (sXS sh n m).N (400 + 20 * sh.S + 3), .inl (vS sh V n x y z w mo cc lv vals al (400 + 20 * sh.S + 3)))) = some c := hc
      have hv : vS sh V n x y z w mo cc lv vals al (400 + 20 * sh.S + 3) = cpV al n := by
        unfold vS
        rw [if_neg (by omega), if_neg (by omega), if_neg (by omega), if_neg (by omega), if_pos rfl]
      have hN : (sXS sh n m).N (400 + 20 * sh.S + 3) = n := by
        show (if 400 + 20 * sh.S + 3 = 15 then _ else _) = _
        rw [if_neg (by omega), if_neg (by omega), if_pos rfl]
      rw [hv, hN] at hc
      rw [c3, ← hc]
    · rw [cell, show kd (sXS sh n m) (400 + 20 * sh.S + 4) = 5 from kd_sXS_n (k9 := 4) (by decide)] at hc
      have hc : some (.inr (5, [.ref (adS sh ad arr w0 w1 w2 w3 w4 w5 w6 w7 w8 (400 + 20 * sh.S + 5)), .int (vS sh V n x y z w mo cc lv vals al (400 + 20 * sh.S + 4) 1)])) = some c := hc
      have hv : vS sh V n x y z w mo cc lv vals al (400 + 20 * sh.S + 4) = v0 := by
        unfold vS
        rw [if_neg (by omega), if_neg (by omega), if_neg (by omega), if_neg (by omega), if_neg (by omega), if_pos rfl]
      rw [e5, hv] at hc
      rw [c4, ← hc]
      rfl
    · rw [cell, show kd (sXS sh n m) (400 + 20 * sh.S + 5) = 20 from kd_sXS_n (k9 := 5) (by decide)] at hc
      have hc : some (.inl (0, (sXS sh n m).N (400 + 20 * sh.S + 5), .inl (vS sh V n x y z w mo cc lv vals al (400 + 20 * sh.S + 5)))) = some c := hc
      have hv : vS sh V n x y z w mo cc lv vals al (400 + 20 * sh.S + 5) = v0 := by
        unfold vS
        rw [if_neg (by omega), if_neg (by omega), if_neg (by omega), if_neg (by omega), if_neg (by omega), if_neg (by omega), if_pos rfl]
      have hN : (sXS sh n m).N (400 + 20 * sh.S + 5) = 6 * m := by
        show (if 400 + 20 * sh.S + 5 = 15 then _ else _) = _
        rw [if_neg (by omega), if_neg (by omega), if_neg (by omega), if_pos rfl]
      rw [hv, hN] at hc
      rw [c5, ← hc]
    · rw [cell, show kd (sXS sh n m) (400 + 20 * sh.S + 6) = 6 from kd_sXS_n (k9 := 6) (by decide)] at hc
      have hc : some (.inr (6, [.ref (adS sh ad arr w0 w1 w2 w3 w4 w5 w6 w7 w8 (400 + 20 * sh.S + 7)), .ref (adS sh ad arr w0 w1 w2 w3 w4 w5 w6 w7 w8 (400 + 20 * sh.S + 8)), .int (vS sh V n x y z w mo cc lv vals al (400 + 20 * sh.S + 6) 2), .int (vS sh V n x y z w mo cc lv vals al (400 + 20 * sh.S + 6) 3), .int (vS sh V n x y z w mo cc lv vals al (400 + 20 * sh.S + 6) 4)])) = some c := hc
      have hv : vS sh V n x y z w mo cc lv vals al (400 + 20 * sh.S + 6) = (fun k => if k = 2 then w else 0) := by
        unfold vS
        rw [if_neg (by omega), if_neg (by omega), if_neg (by omega), if_neg (by omega), if_neg (by omega), if_neg (by omega), if_neg (by omega), if_pos rfl]
      rw [e7, e8, hv] at hc
      rw [c6, ← hc]
      rfl
    · rw [cell, show kd (sXS sh n m) (400 + 20 * sh.S + 7) = 20 from kd_sXS_n (k9 := 7) (by decide)] at hc
      have hc : some (.inl (0, (sXS sh n m).N (400 + 20 * sh.S + 7), .inl (vS sh V n x y z w mo cc lv vals al (400 + 20 * sh.S + 7)))) = some c := hc
      have hv : vS sh V n x y z w mo cc lv vals al (400 + 20 * sh.S + 7) = v0 := by
        unfold vS
        rw [if_neg (by omega), if_neg (by omega), if_neg (by omega), if_neg (by omega), if_neg (by omega), if_neg (by omega), if_neg (by omega), if_neg (by omega), if_pos rfl]
      have hN : (sXS sh n m).N (400 + 20 * sh.S + 7) = 4 := by
        show (if 400 + 20 * sh.S + 7 = 15 then _ else _) = _
        rw [if_neg (by omega), if_neg (by omega), if_neg (by omega), if_neg (by omega), if_pos rfl]
      rw [hv, hN] at hc
      rw [c7, ← hc]
    · rw [cell, show kd (sXS sh n m) (400 + 20 * sh.S + 8) = 21 from kd_sXS_n (k9 := 8) (by decide)] at hc
      have hc : some (.inl (1, (sXS sh n m).N (400 + 20 * sh.S + 8), .inl (vS sh V n x y z w mo cc lv vals al (400 + 20 * sh.S + 8)))) = some c := hc
      have hv : vS sh V n x y z w mo cc lv vals al (400 + 20 * sh.S + 8) = v0 := by
        unfold vS
        rw [if_neg (by omega), if_neg (by omega), if_neg (by omega), if_neg (by omega), if_neg (by omega), if_neg (by omega), if_neg (by omega), if_neg (by omega), if_neg (by omega), if_pos rfl]
      have hN : (sXS sh n m).N (400 + 20 * sh.S + 8) = 4 := by
        show (if 400 + 20 * sh.S + 8 = 15 then _ else _) = _
        rw [if_neg (by omega), if_neg (by omega), if_neg (by omega), if_neg (by omega), if_neg (by omega), if_pos rfl]
      rw [hv, hN] at hc
      rw [c8, ← hc]
  · intro i hi hk
    refine hoth _ (fun z => hi (Or.inl (hM.2.1 i 14 hk k40 z))) (Ne.symm (harr i hk (fun z => hi (Or.inr (Or.inl z))))) fun z => hw _ z i hk rfl
  · intro i j hi hj hki hkj e
    obtain ⟨-, hp⟩ := hfr
    simp only [List.pairwise_cons, List.mem_cons, List.not_mem_nil, or_false, forall_eq_or_imp, forall_eq, false_imp_iff, implies_true, List.Pairwise.nil, and_true] at hp
    obtain ⟨⟨p01, p02, p03, p04, p05, p06, p07, p08⟩, ⟨p12, p13, p14, p15, p16, p17, p18⟩, ⟨p23, p24, p25, p26, p27, p28⟩, ⟨p34, p35, p36, p37, p38⟩, ⟨p45, p46, p47, p48⟩, ⟨p56, p57, p58⟩, ⟨p67, p68⟩, p78⟩ := hp
    have u4 : ∀ x, x ∈ [w0, w1, w2, w3, w4, w5, w6, w7, w8] → x ≠ ad 14 := fun x hx => hw x hx 14 k40
    have ua : arr ≠ ad 14 := harr 14 k40 (by decide)
    simp only [List.mem_cons, List.not_mem_nil, or_false, forall_eq_or_imp, forall_eq] at u4 harrw
    obtain ⟨t0, t1, t2, t3, t4, t5, t6, t7, t8⟩ := u4
    obtain ⟨r0, r1, r2, r3, r4, r5, r6, r7, r8⟩ := harrw
    rcases cases9 i hi hki with ⟨rfl, e9⟩ | ⟨rfl, e9⟩ | ⟨rfl, e9⟩ | ⟨rfl, e9⟩ | ⟨rfl, e9⟩ | ⟨rfl, e9⟩ | ⟨rfl, e9⟩ | ⟨rfl, e9⟩ | ⟨rfl, e9⟩ | ⟨rfl, e9⟩ | ⟨rfl, e9⟩ <;> rcases cases9 j hj hkj with ⟨rfl, e8⟩ | ⟨rfl, e8⟩ | ⟨rfl, e8⟩ | ⟨rfl, e8⟩ | ⟨rfl, e8⟩ | ⟨rfl, e8⟩ | ⟨rfl, e8⟩ | ⟨rfl, e8⟩ | ⟨rfl, e8⟩ | ⟨rfl, e8⟩ | ⟨rfl, e8⟩ <;> first | rfl | (rw [e9, e8] at e; first | exact absurd e (by assumption) | exact absurd e.symm (by assumption))
  · intro i j hi hj hki hkj
    have hj5 : j ≠ 15 := fun z => hj (Or.inr (Or.inl z))
    have u : ∀ x, x ∈ [w0, w1, w2, w3, w4, w5, w6, w7, w8] → x ≠ ad j := fun x hx => hw x hx j hkj
    simp only [List.mem_cons, List.not_mem_nil, or_false, forall_eq_or_imp, forall_eq] at u
    obtain ⟨t0, t1, t2, t3, t4, t5, t6, t7, t8⟩ := u
    have ua := harr j hkj hj5
    have u4 : ad 14 ≠ ad j := fun z => hj (Or.inl (hM.2.1 14 j k40 hkj z).symm)
    rcases cases9 i hi hki with ⟨rfl, e9⟩ | ⟨rfl, e9⟩ | ⟨rfl, e9⟩ | ⟨rfl, e9⟩ | ⟨rfl, e9⟩ | ⟨rfl, e9⟩ | ⟨rfl, e9⟩ | ⟨rfl, e9⟩ | ⟨rfl, e9⟩ | ⟨rfl, e9⟩ | ⟨rfl, e9⟩ <;> rw [e9] <;> assumption
  · intro q c hq
    obtain ⟨o1, o2⟩ := hM.2.2 q c hq
    have u : ∀ x, x ∈ [w0, w1, w2, w3, w4, w5, w6, w7, w8] → q ≠ x := fun x hx => Ne.symm (ne_fr (hfr.1 x hx) o1)
    have ua : q ≠ arr := by
      by_cases e : sh.S = sh.N 15
      · exact Ne.symm (ne_fr (ha1 e).1 o1)
      · rw [ha2 e]
        exact o2 15 (by show (if sh.N 15 = 0 then 0 else 24) ≠ 0; rw [if_neg (by omega)]; decide)
    refine ⟨hoth q (o2 14 k40) ua (fun z => u q z rfl), fun i hi hki => ?_⟩
    simp only [List.mem_cons, List.not_mem_nil, or_false, forall_eq_or_imp, forall_eq] at u
    obtain ⟨t0, t1, t2, t3, t4, t5, t6, t7, t8⟩ := u
    have u4 := o2 14 k40
    rcases cases9 i hi hki with ⟨rfl, e9⟩ | ⟨rfl, e9⟩ | ⟨rfl, e9⟩ | ⟨rfl, e9⟩ | ⟨rfl, e9⟩ | ⟨rfl, e9⟩ | ⟨rfl, e9⟩ | ⟨rfl, e9⟩ | ⟨rfl, e9⟩ | ⟨rfl, e9⟩ | ⟨rfl, e9⟩ <;> rw [e9] <;> assumption


