-- deps: 82.inits2 83.addl 58.list 54.groups
/-! ===== what is new is laid into the class's cells ===== -/
theorem kd_big {sh : Sh} {i k : Nat} (h : kd sh i = k) (hk : k = 9 ∨ k = 10 ∨ k = 22 ∨ k = 23 ∨ k = 24) : i < 19 ∨ (k = 10 ∧ False) := by
  left
  by_cases h1 : i < 19
  · exact h1
  · exfalso
    unfold kd at h
    rw [if_neg h1] at h
    by_cases h2 : i < 100
    · rw [if_pos h2] at h; omega
    · rw [if_neg h2] at h
      by_cases h3 : i < 300
      · rw [if_pos h3] at h
        split at h
        · have : ∀ z, z < 10 → kdC z ≠ 9 ∧ kdC z ≠ 10 ∧ kdC z ≠ 22 ∧ kdC z ≠ 23 ∧ kdC z ≠ 24 := by decide
          have := this _ (Nat.mod_lt (i - 100) (by decide))
          omega
        · omega
      · rw [if_neg h3] at h
        by_cases h4 : i < 400
        · rw [if_pos h4] at h
          split at h <;> omega
        · rw [if_neg h4] at h
          split at h
          · have : ∀ z, z < 20 → kdS z ≠ 9 ∧ kdS z ≠ 10 ∧ kdS z ≠ 22 ∧ kdS z ≠ 23 ∧ kdS z ≠ 24 := by decide
            have := this _ (Nat.mod_lt (i - 400) (by decide))
            omega
          · omega
theorem kd_low {sh : Sh} {i : Nat} (h : i < 19) : kd sh i = (if i = 5 then (if sh.N 5 = 0 then 0 else 22) else if i = 8 then (if sh.N 8 = 0 then 0 else 23) else if i = 15 then (if sh.N 15 = 0 then 0 else 24) else kd0 i) := by
  unfold kd
  rw [if_pos h]
theorem kd_10 {sh : Sh} {i : Nat} (h : kd sh i = 10) : i = 4 ∨ i = 7 ∨ i = 14 := by
  have h1 : i < 19 := (kd_big h (by omega)).resolve_right (fun z => z.2)
  rw [kd_low h1] at h
  split at h
  · split at h <;> omega
  · split at h
    · split at h <;> omega
    · split at h
      · split at h <;> omega
      · exact (by decide : ∀ i, i < 19 → kd0 i = 10 → i = 4 ∨ i = 7 ∨ i = 14) i h1 h
theorem kd_9 {sh : Sh} {i : Nat} (h : kd sh i = 9) : i = 0 := by
  have h1 : i < 19 := (kd_big h (by omega)).resolve_right (fun z => z.2)
  rw [kd_low h1] at h
  split at h
  · split at h <;> omega
  · split at h
    · split at h <;> omega
    · split at h
      · split at h <;> omega
      · exact (by decide : ∀ i, i < 19 → kd0 i = 9 → i = 0) i h1 h
theorem kd_22 {sh : Sh} {i : Nat} (h : kd sh i = 22) : i = 5 := by
  have h1 : i < 19 := (kd_big h (by omega)).resolve_right (fun z => z.2)
  rw [kd_low h1] at h
  split at h
  · assumption
  · split at h
    · split at h <;> omega
    · split at h
      · split at h <;> omega
      · exact absurd h ((by decide : ∀ i, i < 19 → kd0 i ≠ 22) i h1)
theorem kd_23 {sh : Sh} {i : Nat} (h : kd sh i = 23) : i = 8 := by
  have h1 : i < 19 := (kd_big h (by omega)).resolve_right (fun z => z.2)
  rw [kd_low h1] at h
  split at h
  · split at h <;> omega
  · split at h
    · assumption
    · split at h
      · split at h <;> omega
      · exact absurd h ((by decide : ∀ i, i < 19 → kd0 i ≠ 23) i h1)
theorem kd_24 {sh : Sh} {i : Nat} (h : kd sh i = 24) : i = 15 := by
  have h1 : i < 19 := (kd_big h (by omega)).resolve_right (fun z => z.2)
  rw [kd_low h1] at h
  split at h
  · split at h <;> omega
  · split at h
    · split at h <;> omega
    · split at h
      · assumption
      · exact absurd h ((by decide : ∀ i, i < 19 → kd0 i ≠ 24) i h1)
theorem cell_cg {g : GG} {sh sh' : Sh} {V V' : CV} {L : Int64} {ad ad' : Nat → Nat} {i : Nat} (hk : kd sh' i = kd sh i) (hV : V' i = V i) (hN : sh'.N i = sh.N i)
    (hch : ∀ n, chK (kd sh i) n ≠ 0 → ad' (i + n) = ad (i + n))
    (h9 : kd sh i = 9 → ad' 1 = ad 1 ∧ ad' 4 = ad 4 ∧ ad' 6 = ad 6 ∧ ad' 14 = ad 14 ∧ ad' 16 = ad 16 ∧ ad' 18 = ad 18)
    (h10 : kd sh i = 10 → sh'.N (i + 1) = sh.N (i + 1) ∧ ad' (i + 1) = ad (i + 1))
    (h22 : kd sh i = 22 → sh'.C = sh.C ∧ ∀ j, j < sh.C → ad' (100 + 10 * j) = ad (100 + 10 * j))
    (h23 : kd sh i = 23 → sh'.F = sh.F ∧ ∀ j, j < sh.F → ad' (300 + j) = ad (300 + j))
    (h24 : kd sh i = 24 → sh'.S = sh.S ∧ ∀ j, j < sh.S → ad' (400 + 20 * j) = ad (400 + 20 * j)) : cell g sh' V' L ad' i = cell g sh V L ad i := by
  unfold cell
  rw [hk, hV, hN]
  generalize kd sh i = x at hch h9 h10 h22 h23 h24
  split
  · rw [hch 1 (by decide), hch 2 (by decide), hch 3 (by decide)]
  · rw [hch 1 (by decide), hch 2 (by decide)]
  · rfl
  · rw [hch 1 (by decide), hch 3 (by decide), hch 4 (by decide)]
  · rw [hch 1 (by decide)]
  · rw [hch 1 (by decide), hch 2 (by decide)]
  · rw [hch 1 (by decide), hch 2 (by decide)]
  · rw [hch 1 (by decide), hch 4 (by decide), hch 6 (by decide)]
  · obtain ⟨a1, a4, a6, a14, a16, a18⟩ := h9 rfl
    rw [a1, a4, a6, a14, a16, a18]
  · obtain ⟨a1, a2⟩ := h10 rfl
    rw [a1, a2]
  · rfl
  · rfl
  · obtain ⟨a1, a2⟩ := h22 rfl
    rw [a1]
    congr 8
    funext j
    by_cases hj : j < sh.C
    · rw [if_pos hj, if_pos hj, a2 j hj]
    · rw [if_neg hj, if_neg hj]
  · obtain ⟨a1, a2⟩ := h23 rfl
    rw [a1]
    congr 8
    funext j
    by_cases hj : j < sh.F
    · rw [if_pos hj, if_pos hj, a2 j hj]
    · rw [if_neg hj, if_neg hj]
  · obtain ⟨a1, a2⟩ := h24 rfl
    rw [a1]
    congr 8
    funext j
    by_cases hj : j < sh.S
    · rw [if_pos hj, if_pos hj, a2 j hj]
    · rw [if_neg hj, if_neg hj]
  · rfl
theorem cell_kd {g : GG} {sh : Sh} {V : CV} {L : Int64} {ad : Nat → Nat} {i : Nat} {c : AC} (h : cell g sh V L ad i = some c) : kd sh i ≠ 0 := fun z => by
  rw [cell, z] at h
  cases h
/-- cells that are new or otherwise than before, all others as they were -/
theorem CR.ext {g : GG} {O f f' : AH} {ad ad' : Nat → Nat} {sh sh' : Sh} {V V' : CV} {L : Int64} (ch : Nat → Prop) (h : CR g O f ad sh V L)
    (ha : ∀ i, ¬ ch i → kd sh' i = kd sh i ∧ ad' i = ad i ∧ cell g sh' V' L ad' i = cell g sh V L ad i)
    (hc : ∀ i c, ch i → cell g sh' V' L ad' i = some c → f' (ad' i) = some c)
    (hd : ∀ i, ¬ ch i → kd sh i ≠ 0 → f' (ad i) = f (ad i))
    (he : ∀ i j, ch i → ch j → kd sh' i ≠ 0 → kd sh' j ≠ 0 → ad' i = ad' j → i = j)
    (he2 : ∀ i j, ch i → ¬ ch j → kd sh' i ≠ 0 → kd sh j ≠ 0 → ad' i ≠ ad j)
    (hO : ∀ q c, O q = some c → f' q = f q ∧ ∀ i, ch i → kd sh' i ≠ 0 → q ≠ ad' i) : CR g O f' ad' sh' V' L := by
  obtain ⟨h1, h2, h3⟩ := h
  refine ⟨fun i c hi => ?_, fun i j hi hj e => ?_, fun q c hq => ⟨?_, fun i hi => ?_⟩⟩
  · by_cases hch : ch i
    · exact hc i c hch hi
    · obtain ⟨a1, a2, a3⟩ := ha i hch
      rw [a3] at hi
      rw [a2, hd i hch (cell_kd hi)]
      exact h1 i c hi
  · by_cases ci : ch i
    · by_cases cj : ch j
      · exact he i j ci cj hi hj e
      · obtain ⟨a1, a2, a3⟩ := ha j cj
        rw [a1] at hj
        rw [a2] at e
        exact absurd e (he2 i j ci cj hi hj)
    · obtain ⟨a1, a2, a3⟩ := ha i ci
      rw [a1] at hi
      rw [a2] at e
      by_cases cj : ch j
      · exact absurd e.symm (he2 j i cj ci hj hi)
      · obtain ⟨b1, b2, b3⟩ := ha j cj
        rw [b1] at hj
        rw [b2] at e
        exact h2 i j hi hj e
  · rw [(hO q c hq).1]
    exact (h3 q c hq).1
  · by_cases ci : ch i
    · exact (hO q c hq).2 i ci hi
    · obtain ⟨a1, a2, a3⟩ := ha i ci
      rw [a1] at hi
      rw [a2]
      exact (h3 q c hq).2 i hi
theorem chK_le {k n : Nat} : chK k n ≤ 21 := by
  unfold chK
  split <;> omega
/-- what stands at 5, 8, 15 is no child -/
theorem kd_ch {sh : Sh} {i n : Nat} (h : chK (kd sh i) n ≠ 0) : kd sh (i + n) ≠ 0 ∧ i + n ≠ 5 ∧ i + n ≠ 8 ∧ i + n ≠ 15 := by
  have h1 : kd sh (i + n) = chK (kd sh i) n := kdch h rfl rfl
  have h2 := chK_le (k := kd sh i) (n := n)
  refine ⟨by rw [h1]; exact h, fun e => ?_, fun e => ?_, fun e => ?_⟩
  · have : kd sh 5 = if sh.N 5 = 0 then 0 else 22 := rfl
    rw [e, this] at h1
    split at h1 <;> omega
  · have : kd sh 8 = if sh.N 8 = 0 then 0 else 23 := rfl
    rw [e, this] at h1
    split at h1 <;> omega
  · have : kd sh 15 = if sh.N 15 = 0 then 0 else 24 := rfl
    rw [e, this] at h1
    split at h1 <;> omega
theorem kd_cell {g : GG} {sh : Sh} {V : CV} {L : Int64} {ad : Nat → Nat} {i : Nat} (h : kd sh i ≠ 0) : ∃ c, cell g sh V L ad i = some c := by
  have hv : kd sh i ∈ [0, 1, 2, 3, 4, 5, 6, 7, 8, 9, 10, 20, 21, 22, 23, 24] := by
    by_cases h1 : i < 19
    · rw [kd_low h1]
      split
      · split <;> decide
      · split
        · split <;> decide
        · split
          · split <;> decide
          · exact (by decide : ∀ i, i < 19 → kd0 i ∈ [0, 1, 2, 3, 4, 5, 6, 7, 8, 9, 10, 20, 21, 22, 23, 24]) i h1
    · unfold kd
      rw [if_neg h1]
      split
      · decide
      · split
        · split
          · exact (by decide : ∀ i, i < 10 → kdC i ∈ [0, 1, 2, 3, 4, 5, 6, 7, 8, 9, 10, 20, 21, 22, 23, 24]) _ (Nat.mod_lt _ (by decide))
          · decide
        · split
          · split <;> decide
          · split
            · exact (by decide : ∀ i, i < 20 → kdS i ∈ [0, 1, 2, 3, 4, 5, 6, 7, 8, 9, 10, 20, 21, 22, 23, 24]) _ (Nat.mod_lt _ (by decide))
            · decide
  simp only [List.mem_cons, List.not_mem_nil, or_false] at hv
  unfold cell
  rcases hv with e | e | e | e | e | e | e | e | e | e | e | e | e | e | e | e <;> rw [e]
  · exact absurd e h
  all_goals exact ⟨_, rfl⟩
/-! a chunk more -/
def shC (sh : Sh) : Sh := (fun i => if i = 5 then alG sh.C (sh.N 5) else if i = 100 + 10 * sh.C + 1 then 64 else if i = 100 + 10 * sh.C + 3 then 4 else if i = 100 + 10 * sh.C + 4 then 4 else if i = 100 + 10 * sh.C + 5 then 4 else sh.N i, sh.C + 1, sh.F, sh.S)
def adC (sh : Sh) (ad : Nat → Nat) (arr w0 w1 w2 w3 w4 w5 : Nat) : Nat → Nat := fun i => if i = 5 then arr else if i = 100 + 10 * sh.C then w0 else if i = 100 + 10 * sh.C + 1 then w1 else if i = 100 + 10 * sh.C + 2 then w2 else if i = 100 + 10 * sh.C + 3 then w3 else if i = 100 + 10 * sh.C + 4 then w4 else if i = 100 + 10 * sh.C + 5 then w5 else ad i
def vC (sh : Sh) (V : CV) (st : Int32) : CV := fun i => if i = 4 then (fun k => if k = 0 then V 4 0 + 1 else if k = 2 then nI (sh.C + 1) else V 4 k) else if i = 100 + 10 * sh.C then (fun k => if k = 0 then st else 0) else if i = 100 + 10 * sh.C + 1 then v0 else if i = 100 + 10 * sh.C + 3 then v1000 else if i = 100 + 10 * sh.C + 4 then vm1000 else if i = 100 + 10 * sh.C + 5 then v0 else V i
theorem alG_0 (n N : Nat) (h : n ≤ N) : n < alG n N := by
  rw [alG]
  split
  · split
    · omega
    · have := Nat.le_max_left 1 (N / 2)
      omega
  · omega
def chC (sh : Sh) (i : Nat) : Prop := i = 4 ∨ i = 5 ∨ (100 + 10 * sh.C ≤ i ∧ i < 100 + 10 * sh.C + 10)
theorem shC_C (sh : Sh) : (shC sh).C = sh.C + 1 := rfl
theorem kd_shC {sh : Sh} {i : Nat} (h : ¬ (i = 5 ∨ (100 + 10 * sh.C ≤ i ∧ i < 100 + 10 * sh.C + 10))) : kd (shC sh) i = kd sh i := by
  have hN : ∀ x, x ≠ 5 → x < 100 → (shC sh).N x = sh.N x := fun x h1 h2 => by
    show (if x = 5 then _ else _) = _
    rw [if_neg h1, if_neg (by omega), if_neg (by omega), if_neg (by omega), if_neg (by omega)]
  unfold kd
  by_cases h1 : i < 19
  · rw [if_pos h1, if_pos h1, if_neg (by omega), if_neg (show ¬ i = 5 by omega), hN 8 (by decide) (by decide), hN 15 (by decide) (by decide)]
  · rw [if_neg h1, if_neg h1]
    by_cases h2 : i < 100
    · rw [if_pos h2, if_pos h2]
    · rw [if_neg h2, if_neg h2]
      by_cases h3 : i < 300
      · rw [if_pos h3, if_pos h3, shC_C]
        by_cases h4 : (i - 100) / 10 < sh.C
        · rw [if_pos h4, if_pos (by omega)]
        · rw [if_neg h4, if_neg (by omega)]
      · rw [if_neg h3, if_neg h3]
        rfl
theorem kd_shC_n {sh : Sh} (hC : sh.C < 10) {n : Nat} (hn : n < 10) : kd (shC sh) (100 + 10 * sh.C + n) = kdC n := by
  unfold kd
  rw [shC_C, if_neg (by omega), if_neg (by omega), if_pos (by omega), if_pos (by omega), show (100 + 10 * sh.C + n - 100) % 10 = n by omega]
theorem adC_o {sh : Sh} {ad : Nat → Nat} {arr w0 w1 w2 w3 w4 w5 i : Nat} (h5 : i ≠ 5) (h : ¬ (100 + 10 * sh.C ≤ i ∧ i < 100 + 10 * sh.C + 10)) : adC sh ad arr w0 w1 w2 w3 w4 w5 i = ad i := by
  unfold adC
  rw [if_neg h5, if_neg (by omega), if_neg (by omega), if_neg (by omega), if_neg (by omega), if_neg (by omega), if_neg (by omega)]
theorem shC_N {sh : Sh} {i : Nat} (h5 : i ≠ 5) (h : ¬ (100 + 10 * sh.C ≤ i ∧ i < 100 + 10 * sh.C + 10)) : (shC sh).N i = sh.N i := by
  show (if i = 5 then _ else _) = _
  rw [if_neg h5, if_neg (by omega), if_neg (by omega), if_neg (by omega), if_neg (by omega)]
theorem vC_o {sh : Sh} {V : CV} {st : Int32} {i : Nat} (h4 : i ≠ 4) (h : ¬ (100 + 10 * sh.C ≤ i ∧ i < 100 + 10 * sh.C + 10)) : vC sh V st i = V i := by
  unfold vC
  rw [if_neg h4, if_neg (by omega), if_neg (by omega), if_neg (by omega), if_neg (by omega), if_neg (by omega)]
theorem kd_rC {sh : Sh} (hC : sh.C < 10) {i : Nat} (h : kd sh i ≠ 0) : ¬ (100 + 10 * sh.C ≤ i ∧ i < 100 + 10 * sh.C + 10) := by
  intro hi
  apply h
  unfold kd
  rw [if_neg (by omega), if_neg (by omega), if_pos (by omega), if_neg (by omega)]
set_option maxHeartbeats 1000000 in
theorem CR.addC {g : GG} {O f f' : AH} {ad : Nat → Nat} {sh : Sh} {V : CV} {L : Int64} {arr w0 w1 w2 w3 w4 w5 : Nat} {st : Int32} (hM : CR g O f ad sh V L) (hC : sh.C < 10) (hN5 : sh.C ≤ sh.N 5)
    (hfr : Frs f [w0, w1, w2, w3, w4, w5]) (ha1 : sh.C = sh.N 5 → f arr = none ∧ arr ∉ [w0, w1, w2, w3, w4, w5]) (ha2 : sh.C ≠ sh.N 5 → arr = ad 5)
    (k4 : f' (ad 4) = some (.inr (0, [.int (V 4 0 + 1), .ref arr, .int (nI (sh.C + 1))])))
    (k5 : f' arr = some (arq (alG sh.C (sh.N 5)) (updq (fun j => if j < sh.C then some (ad (100 + 10 * j)) else none) sh.C (some w0))))
    (kc : ChR f' w0 w1 w2 w3 w4 w5 st) (hoth : ∀ p, p ≠ ad 4 → p ≠ arr → p ∉ [w0, w1, w2, w3, w4, w5] → f' p = f p) : CR g O f' (adC sh ad arr w0 w1 w2 w3 w4 w5) (shC sh) (vC sh V st) L := by
  have hal := alG_0 sh.C (sh.N 5) hN5
  have hw : ∀ x, x ∈ [w0, w1, w2, w3, w4, w5] → ∀ i, kd sh i ≠ 0 → x ≠ ad i := by
    intro x hx i hi
    obtain ⟨c, hc⟩ := kd_cell (g := g) (V := V) (L := L) (ad := ad) hi
    exact ne_fr (hfr.1 x hx) (hM.1 i c hc)
  have hex : ∀ i, kd sh i ≠ 0 → ∃ c, f (ad i) = some c := by
    intro i hi
    obtain ⟨c, hc⟩ := kd_cell (g := g) (V := V) (L := L) (ad := ad) hi
    exact ⟨c, hM.1 i c hc⟩
  have harr : ∀ i, kd sh i ≠ 0 → i ≠ 5 → arr ≠ ad i := by
    intro i hi h5
    by_cases e : sh.C = sh.N 5
    · obtain ⟨c, hc⟩ := hex i hi
      exact ne_fr (ha1 e).1 hc
    · rw [ha2 e]
      intro z
      exact h5 (hM.2.1 5 i (by show (if sh.N 5 = 0 then 0 else 22) ≠ 0; rw [if_neg (by omega)]; decide) hi z).symm
  have harrw : ∀ x, x ∈ [w0, w1, w2, w3, w4, w5] → x ≠ arr := by
    intro x hx
    by_cases e : sh.C = sh.N 5
    · rintro rfl
      exact (ha1 e).2 hx
    · rw [ha2 e]
      exact hw x hx 5 (by show (if sh.N 5 = 0 then 0 else 22) ≠ 0; rw [if_neg (by omega)]; decide)
  have k40 : kd sh 4 ≠ 0 := by show (10 : Nat) ≠ 0; decide
  have kd5 : kd (shC sh) 5 = 22 := by
    show (if alG sh.C (sh.N 5) = 0 then 0 else 22) = 22
    rw [if_neg (by omega)]
  have e0 : adC sh ad arr w0 w1 w2 w3 w4 w5 (100 + 10 * sh.C) = w0 := by
    unfold adC
    rw [if_neg (by omega), if_pos rfl]
  have e1 : adC sh ad arr w0 w1 w2 w3 w4 w5 (100 + 10 * sh.C + 1) = w1 := by
    unfold adC
    rw [if_neg (by omega), if_neg (by omega), if_pos rfl]
  have e2 : adC sh ad arr w0 w1 w2 w3 w4 w5 (100 + 10 * sh.C + 2) = w2 := by
    unfold adC
    rw [if_neg (by omega), if_neg (by omega), if_neg (by omega), if_pos rfl]
  have e3 : adC sh ad arr w0 w1 w2 w3 w4 w5 (100 + 10 * sh.C + 3) = w3 := by
    unfold adC
    rw [if_neg (by omega), if_neg (by omega), if_neg (by omega), if_neg (by omega), if_pos rfl]
  have e4 : adC sh ad arr w0 w1 w2 w3 w4 w5 (100 + 10 * sh.C + 4) = w4 := by
    unfold adC
    rw [if_neg (by omega), if_neg (by omega), if_neg (by omega), if_neg (by omega), if_neg (by omega), if_pos rfl]
  have e5 : adC sh ad arr w0 w1 w2 w3 w4 w5 (100 + 10 * sh.C + 5) = w5 := by
    unfold adC
    rw [if_neg (by omega), if_neg (by omega), if_neg (by omega), if_neg (by omega), if_neg (by omega), if_neg (by omega), if_pos rfl]
  have a4 : adC sh ad arr w0 w1 w2 w3 w4 w5 4 = ad 4 := adC_o (by decide) (by omega)
  have a5 : adC sh ad arr w0 w1 w2 w3 w4 w5 5 = arr := if_pos rfl
  -- what a code that has changed stands for
  have cases9 : ∀ i, chC sh i → kd (shC sh) i ≠ 0 → (i = 4 ∧ adC sh ad arr w0 w1 w2 w3 w4 w5 i = ad 4) ∨ (i = 5 ∧ adC sh ad arr w0 w1 w2 w3 w4 w5 i = arr) ∨ (i = 100 + 10 * sh.C ∧ adC sh ad arr w0 w1 w2 w3 w4 w5 i = w0) ∨ (i = 100 + 10 * sh.C + 1 ∧ adC sh ad arr w0 w1 w2 w3 w4 w5 i = w1) ∨ (i = 100 + 10 * sh.C + 2 ∧ adC sh ad arr w0 w1 w2 w3 w4 w5 i = w2) ∨ (i = 100 + 10 * sh.C + 3 ∧ adC sh ad arr w0 w1 w2 w3 w4 w5 i = w3) ∨ (i = 100 + 10 * sh.C + 4 ∧ adC sh ad arr w0 w1 w2 w3 w4 w5 i = w4) ∨ (i = 100 + 10 * sh.C + 5 ∧ adC sh ad arr w0 w1 w2 w3 w4 w5 i = w5) := by
    intro i hi hk
    rcases hi with rfl | rfl | hi
    · exact Or.inl ⟨rfl, a4⟩
    · exact Or.inr (Or.inl ⟨rfl, a5⟩)
    · obtain ⟨n, hn, rfl⟩ : ∃ n, n < 10 ∧ i = 100 + 10 * sh.C + n := ⟨i - (100 + 10 * sh.C), by omega, by omega⟩
      rw [kd_shC_n hC hn] at hk
      have hn6 : n < 6 := (by decide : ∀ n, n < 10 → kdC n ≠ 0 → n < 6) n hn hk
      rcases (by omega : n = 0 ∨ n = 1 ∨ n = 2 ∨ n = 3 ∨ n = 4 ∨ n = 5) with rfl | rfl | rfl | rfl | rfl | rfl
      · exact Or.inr (Or.inr (Or.inl ⟨rfl, e0⟩))
      · exact Or.inr (Or.inr (Or.inr (Or.inl ⟨rfl, e1⟩)))
      · exact Or.inr (Or.inr (Or.inr (Or.inr (Or.inl ⟨rfl, e2⟩))))
      · exact Or.inr (Or.inr (Or.inr (Or.inr (Or.inr (Or.inl ⟨rfl, e3⟩)))))
      · exact Or.inr (Or.inr (Or.inr (Or.inr (Or.inr (Or.inr (Or.inl ⟨rfl, e4⟩))))))
      · exact Or.inr (Or.inr (Or.inr (Or.inr (Or.inr (Or.inr (Or.inr ⟨rfl, e5⟩))))))
  obtain ⟨c0, c1, ⟨c2, c3, c4, c5⟩, -⟩ := kc
  refine CR.ext (chC sh) hM ?_ ?_ ?_ ?_ ?_ ?_
  · intro i hi
    have hi5 : i ≠ 5 := fun e => hi (Or.inr (Or.inl e))
    have hi4 : i ≠ 4 := fun e => hi (Or.inl e)
    have hir : ¬ (100 + 10 * sh.C ≤ i ∧ i < 100 + 10 * sh.C + 10) := fun e => hi (Or.inr (Or.inr e))
    have hk : kd (shC sh) i = kd sh i := kd_shC (fun e => e.elim hi5 hir)
    refine ⟨hk, adC_o hi5 hir, cell_cg hk (vC_o hi4 hir) (shC_N hi5 hir) ?_ ?_ ?_ ?_ ?_ ?_⟩
    · intro n hn
      obtain ⟨d1, d2, -⟩ := kd_ch hn
      exact adC_o d2 (kd_rC hC d1)
    · intro _
      exact ⟨adC_o (by decide) (by omega), adC_o (by decide) (by omega), adC_o (by decide) (by omega), adC_o (by decide) (by omega), adC_o (by decide) (by omega), adC_o (by decide) (by omega)⟩
    · intro h
      rcases kd_10 h with rfl | rfl | rfl
      · exact absurd rfl hi4
      · exact ⟨shC_N (by decide) (by omega), adC_o (by decide) (by omega)⟩
      · exact ⟨shC_N (by decide) (by omega), adC_o (by decide) (by omega)⟩
    · intro h
      exact absurd (kd_22 h) hi5
    · intro _
      exact ⟨rfl, fun j hj => adC_o (by omega) (by omega)⟩
    · intro _
      exact ⟨rfl, fun j hj => adC_o (by omega) (by omega)⟩
  · intro i c hi hc
    have hN5' : (shC sh).N 5 = alG sh.C (sh.N 5) := rfl
    rcases cases9 i hi (cell_kd hc) with ⟨rfl, e⟩ | ⟨rfl, e⟩ | ⟨rfl, e⟩ | ⟨rfl, e⟩ | ⟨rfl, e⟩ | ⟨rfl, e⟩ | ⟨rfl, e⟩ | ⟨rfl, e⟩ <;> rw [e]
    · rw [cell, show kd (shC sh) 4 = 10 from rfl] at hc
      have hc : some (.inr (0, [.int (vC sh V st 4 0), .ref (if (shC sh).N 5 = 0 then g.2.2 2 else adC sh ad arr w0 w1 w2 w3 w4 w5 5), .int (vC sh V st 4 2)])) = some c := hc
      rw [if_neg (by rw [hN5']; omega), a5] at hc
      rw [k4, ← hc]
      rfl
    · rw [k5, ← hc, cell, kd5]
      show _ = some (arq ((shC sh).N 5) (fun j => if j < sh.C + 1 then some (adC sh ad arr w0 w1 w2 w3 w4 w5 (100 + 10 * j)) else none))
      rw [hN5']
      congr 8
      funext j
      by_cases h1 : j = sh.C
      · subst h1
        rw [updq_s, if_pos (by omega), e0]
      · rw [updq_n _ _ h1]
        by_cases h2 : j < sh.C
        · rw [if_pos h2, if_pos (by omega), adC_o (by omega) (by omega)]
        · rw [if_neg h2, if_neg (by omega)]
    · rw [cell, show kd (shC sh) (100 + 10 * sh.C) = 2 from kd_shC_n hC (n := 0) (by decide)] at hc
      have hc : some (.inr (2, [.int (vC sh V st (100 + 10 * sh.C) 0), .ref (adC sh ad arr w0 w1 w2 w3 w4 w5 (100 + 10 * sh.C + 1)), .ref (adC sh ad arr w0 w1 w2 w3 w4 w5 (100 + 10 * sh.C + 2)), .int (vC sh V st (100 + 10 * sh.C) 3), .int (vC sh V st (100 + 10 * sh.C) 4)])) = some c := hc
      have hv : vC sh V st (100 + 10 * sh.C) = fun k => if k = 0 then st else 0 := by
        unfold vC
        rw [if_neg (by omega), if_pos rfl]
      rw [e1, e2, hv] at hc
      rw [c0, ← hc]
      rfl
    · rw [cell, show kd (shC sh) (100 + 10 * sh.C + 1) = 20 from kd_shC_n hC (n := 1) (by decide)] at hc
      have hc : some (.inl (0, (shC sh).N (100 + 10 * sh.C + 1), .inl (vC sh V st (100 + 10 * sh.C + 1)))) = some c := hc
      have hv : vC sh V st (100 + 10 * sh.C + 1) = v0 := by
        unfold vC
        rw [if_neg (by omega), if_neg (by omega), if_pos rfl]
      have hN : (shC sh).N (100 + 10 * sh.C + 1) = 64 := by
        show (if 100 + 10 * sh.C + 1 = 5 then _ else _) = _
        rw [if_neg (by omega), if_pos rfl]
      rw [hv, hN] at hc
      rw [c1, ← hc]
    · rw [cell, show kd (shC sh) (100 + 10 * sh.C + 2) = 1 from kd_shC_n hC (n := 2) (by decide)] at hc
      have hc : some (.inr (1, [.ref (adC sh ad arr w0 w1 w2 w3 w4 w5 (100 + 10 * sh.C + 3)), .ref (adC sh ad arr w0 w1 w2 w3 w4 w5 (100 + 10 * sh.C + 4)), .ref (adC sh ad arr w0 w1 w2 w3 w4 w5 (100 + 10 * sh.C + 5))])) = some c := hc
      rw [e3, e4, e5] at hc
      rw [c2, ← hc]
    · rw [cell, show kd (shC sh) (100 + 10 * sh.C + 3) = 20 from kd_shC_n hC (n := 3) (by decide)] at hc
      have hc : some (.inl (0, (shC sh).N (100 + 10 * sh.C + 3), .inl (vC sh V st (100 + 10 * sh.C + 3)))) = some c := hc
      have hv : vC sh V st (100 + 10 * sh.C + 3) = v1000 := by
        unfold vC
        rw [if_neg (by omega), if_neg (by omega), if_neg (by omega), if_pos rfl]
      have hN : (shC sh).N (100 + 10 * sh.C + 3) = 4 := by
        show (if 100 + 10 * sh.C + 3 = 5 then _ else _) = _
        rw [if_neg (by omega), if_neg (by omega), if_pos rfl]
      rw [hv, hN] at hc
      rw [c3, ← hc]
    · rw [cell, show kd (shC sh) (100 + 10 * sh.C + 4) = 20 from kd_shC_n hC (n := 4) (by decide)] at hc
      have hc : some (.inl (0, (shC sh).N (100 + 10 * sh.C + 4), .inl (vC sh V st (100 + 10 * sh.C + 4)))) = some c := hc
      have hv : vC sh V st (100 + 10 * sh.C + 4) = vm1000 := by
        unfold vC
        rw [if_neg (by omega), if_neg (by omega), if_neg (by omega), if_neg (by omega), if_pos rfl]
      have hN : (shC sh).N (100 + 10 * sh.C + 4) = 4 := by
        show (if 100 + 10 * sh.C + 4 = 5 then _ else _) = _
        rw [if_neg (by omega), if_neg (by omega), if_neg (by omega), if_pos rfl]
      rw [hv, hN] at hc
      rw [c4, ← hc]
    · rw [cell, show kd (shC sh) (100 + 10 * sh.C + 5) = 21 from kd_shC_n hC (n := 5) (by decide)] at hc
      have hc : some (.inl (1, (shC sh).N (100 + 10 * sh.C + 5), .inl (vC sh V st (100 + 10 * sh.C + 5)))) = some c := hc
      have hv : vC sh V st (100 + 10 * sh.C + 5) = v0 := by
        unfold vC
        rw [if_neg (by omega), if_neg (by omega), if_neg (by omega), if_neg (by omega), if_neg (by omega), if_pos rfl]
      have hN : (shC sh).N (100 + 10 * sh.C + 5) = 4 := by
        show (if 100 + 10 * sh.C + 5 = 5 then _ else _) = _
        rw [if_neg (by omega), if_neg (by omega), if_neg (by omega), if_neg (by omega), if_pos rfl]
      rw [hv, hN] at hc
      rw [c5, ← hc]
  · intro i hi hk
    refine hoth _ (fun z => hi (Or.inl (hM.2.1 i 4 hk k40 z))) (Ne.symm (harr i hk (fun z => hi (Or.inr (Or.inl z))))) fun z => hw _ z i hk rfl
  · intro i j hi hj hki hkj e
    obtain ⟨-, hp⟩ := hfr
    simp only [List.pairwise_cons, List.mem_cons, List.not_mem_nil, or_false, forall_eq_or_imp, forall_eq, false_imp_iff, implies_true, List.Pairwise.nil, and_true] at hp
    obtain ⟨⟨p01, p02, p03, p04, p05⟩, ⟨p12, p13, p14, p15⟩, ⟨p23, p24, p25⟩, ⟨p34, p35⟩, p45⟩ := hp
    have u4 : ∀ x, x ∈ [w0, w1, w2, w3, w4, w5] → x ≠ ad 4 := fun x hx => hw x hx 4 k40
    have ua : arr ≠ ad 4 := harr 4 k40 (by decide)
    simp only [List.mem_cons, List.not_mem_nil, or_false, forall_eq_or_imp, forall_eq] at u4 harrw
    obtain ⟨t0, t1, t2, t3, t4, t5⟩ := u4
    obtain ⟨r0, r1, r2, r3, r4, r5⟩ := harrw
    rcases cases9 i hi hki with ⟨rfl, e9⟩ | ⟨rfl, e9⟩ | ⟨rfl, e9⟩ | ⟨rfl, e9⟩ | ⟨rfl, e9⟩ | ⟨rfl, e9⟩ | ⟨rfl, e9⟩ | ⟨rfl, e9⟩ <;> rcases cases9 j hj hkj with ⟨rfl, e8⟩ | ⟨rfl, e8⟩ | ⟨rfl, e8⟩ | ⟨rfl, e8⟩ | ⟨rfl, e8⟩ | ⟨rfl, e8⟩ | ⟨rfl, e8⟩ | ⟨rfl, e8⟩ <;> first | rfl | (rw [e9, e8] at e; first | exact absurd e (by assumption) | exact absurd e.symm (by assumption))
  · intro i j hi hj hki hkj
    have hj5 : j ≠ 5 := fun z => hj (Or.inr (Or.inl z))
    have u : ∀ x, x ∈ [w0, w1, w2, w3, w4, w5] → x ≠ ad j := fun x hx => hw x hx j hkj
    simp only [List.mem_cons, List.not_mem_nil, or_false, forall_eq_or_imp, forall_eq] at u
    obtain ⟨t0, t1, t2, t3, t4, t5⟩ := u
    have ua := harr j hkj hj5
    have u4 : ad 4 ≠ ad j := fun z => hj (Or.inl (hM.2.1 4 j k40 hkj z).symm)
    rcases cases9 i hi hki with ⟨rfl, e9⟩ | ⟨rfl, e9⟩ | ⟨rfl, e9⟩ | ⟨rfl, e9⟩ | ⟨rfl, e9⟩ | ⟨rfl, e9⟩ | ⟨rfl, e9⟩ | ⟨rfl, e9⟩ <;> rw [e9] <;> assumption
  · intro q c hq
    obtain ⟨o1, o2⟩ := hM.2.2 q c hq
    have u : ∀ x, x ∈ [w0, w1, w2, w3, w4, w5] → q ≠ x := fun x hx => Ne.symm (ne_fr (hfr.1 x hx) o1)
    have ua : q ≠ arr := by
      by_cases e : sh.C = sh.N 5
      · exact Ne.symm (ne_fr (ha1 e).1 o1)
      · rw [ha2 e]
        exact o2 5 (by show (if sh.N 5 = 0 then 0 else 22) ≠ 0; rw [if_neg (by omega)]; decide)
    refine ⟨hoth q (o2 4 k40) ua (fun z => u q z rfl), fun i hi hki => ?_⟩
    simp only [List.mem_cons, List.not_mem_nil, or_false, forall_eq_or_imp, forall_eq] at u
    obtain ⟨t0, t1, t2, t3, t4, t5⟩ := u
    have u4 := o2 4 k40
    rcases cases9 i hi hki with ⟨rfl, e9⟩ | ⟨rfl, e9⟩ | ⟨rfl, e9⟩ | ⟨rfl, e9⟩ | ⟨rfl, e9⟩ | ⟨rfl, e9⟩ | ⟨rfl, e9⟩ | ⟨rfl, e9⟩ <;> rw [e9] <;> assumption


