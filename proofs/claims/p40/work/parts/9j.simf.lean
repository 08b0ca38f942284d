-- deps: 9i.sime
/-! what belongs to one scan, of the reference -/
def own (s k i j : Nat) : Prop := ((k = 26 ∨ k = 29 ∨ k = 30 ∨ k = 31 ∨ k = 32 ∨ k = 33 ∨ k = 34) ∧ i = 0 ∧ j = s) ∨ ((k = 35 ∨ k = 36) ∧ i = 0 ∧ j / 4 = s) ∨ (k = 37 ∧ i = 0 ∧ j / 10 = s) ∨ (((38 ≤ k ∧ k ≤ 44) ∨ k = 51) ∧ i = s) ∨ k = 45
def FrX (s : Nat) (cm cm' : CM) : Prop := ∀ k i j, ¬ own s k i j → cm' k i j = cm k i j
theorem FrX.rfl {s : Nat} {cm : CM} : FrX s cm cm := fun _ _ _ _ => Eq.refl _
theorem FrX.trans {s : Nat} {a b c : CM} (h : FrX s a b) (h2 : FrX s b c) : FrX s a c := fun k i j hk => (h2 k i j hk).trans (h k i j hk)
theorem FrX.c3 {s k i j : Nat} {cm c : CM} {x : Int32} (h : FrX s cm c) (ho : own s k i j) : FrX s cm (c3 c k i j x) := by
  intro k' i' j' hn
  rw [← h k' i' j' hn]
  by_cases hk : k' = k
  · subst hk
    by_cases hi : i' = i
    · subst hi
      rw [c3_s, upd_n _ _ fun e => hn (by rw [e]; exact ho)]
    · rw [c3_i hi]
  · rw [c3_n hk]
theorem FrX.row {s : Nat} {cm c : CM} {F : Nat → Int32} {m : Nat} (h : FrX s cm c) : FrX s cm (rowU c 44 s F m) := by
  intro k' i' j' hn
  rw [← h k' i' j' hn]
  by_cases hk : k' = 44
  · subst hk
    have : i' ≠ s := fun e => hn (by rw [own]; omega)
    simp only [rowU, if_true, if_neg this]
  · rw [rowU_n hk]
theorem sp_X {s : Nat} {cm c : CM} (h : FrX s cm c) : FrX s cm (spC c s) := by
  have hf := fuM_le (pv c s) 3
  rw [spC, spA]
  refine FrX.row (((h.c3 ?_).c3 ?_).c3 ?_) <;> rw [own] <;> omega
theorem tkC_X {s r : Nat} {cm c : CM} (h : FrX s cm c) : FrX s cm (tkC c s r) := by
  obtain ⟨p, hp, ep⟩ := prt_lt (tkK c s r)
  rw [tkC, ep, nn_nI (by omega)]
  generalize tkK c s r = k
  generalize lk c r (nn (c 25 0 s)) (c 27 0 s) = v
  generalize grN c s k = g
  have h1 : FrX s cm (grC c s k) := by
    rw [grC]
    split
    · exact h
    · refine (h.c3 ?_).c3 ?_ <;> rw [own] <;> omega
  generalize grC c s k = c1 at h1
  have h2 : FrX s cm (tkS c1 s g p) := by
    rw [tkS]
    split
    · split
      · split
        · exact h1
        · exact sp_X h1
      · exact h1
    · exact h1
  generalize tkS c1 s g p = c2 at h2
  have h3 : FrX s cm (tkM c2 s g p) := by
    rw [tkM]
    split
    · split
      · refine (h2.c3 ?_).c3 ?_ <;> rw [own] <;> omega
      · exact h2
    · refine h2.c3 ?_; rw [own]; omega
  generalize tkM c2 s g p = c3' at h3
  rw [tkV]
  split
  · refine h3.c3 ?_; rw [own]; omega
  · refine ((((h3.c3 ?_).c3 ?_).c3 ?_).c3 ?_).c3 ?_ <;> rw [own] <;> omega
theorem loR_X {s P f : Nat} {cm c : CM} (h : FrX s cm c) : ∀ i, FrX s cm (loR c s P f i)
  | 0 => h
  | i + 1 => by
    rw [loR]
    split
    · exact tkC_X (loR_X h i)
    · exact loR_X h i
theorem loC_X {s P : Nat} {cm : CM} (e5 : cm 5 0 0 = nI P) (hP : P < 10) : FrX s cm (loC cm s) := by
  have h1 : FrX s cm (loA cm s) := by
    rw [loA, e5, nn_nI (by omega)]
    refine (FrX.rfl.c3 ?_).c3 ?_ <;> rw [own] <;> omega
  rw [loC]
  split
  · exact loR_X h1 _
  · refine h1.c3 ?_; rw [own]; omega
theorem soC_X {s : Nat} {cm c : CM} (h : FrX s cm c) : ∀ y, FrX s cm (soC c s y)
  | 0 => h
  | y + 1 => by rw [soC]; refine (soC_X h y).c3 ?_; rw [own]; omega
theorem enC_X {s : Nat} {cm : CM} : FrX s cm (enC cm s) := by
  rw [enC]
  split
  · refine soC_X ((FrX.rfl.c3 ?_).c3 ?_) _ <;> rw [own] <;> omega
  · exact FrX.rfl
theorem FrX.N {s : Nat} {cm cm' : CM} (h : FrX s cm cm') : FrN cm cm' := by
  intro k hk
  funext i j
  refine h k i j fun ho => ?_
  simp only [m18, m12, Bool.or_eq_false_iff, beq_eq_false_iff_ne] at hk
  rw [own] at ho
  omega
/-! the end of a scan -/
theorem soC_nq {cm : CM} {s k : Nat} (h : k ≠ 51) : ∀ y, soC cm s y k = cm k
  | 0 => rfl
  | y + 1 => by rw [soC, c3_n h, soC_nq h y]
theorem soC_51 {cm : CM} {s n : Nat} (hn : n = nn (cm 34 0 s)) (hi : ∀ g h, g < n → h < n → h ≠ g → atF (cm 38 s) (cm 38 s h) n ≠ atF (cm 38 s) (cm 38 s g) n) : ∀ m, m ≤ n → ∀ g, g < m → soC cm s m 51 s (atF (cm 38 s) (cm 38 s g) n) = nI g := by
  intro m
  induction m with
  | zero => intro _ g h; omega
  | succ m ih =>
    intro hm g hg
    rw [soC, c3_s, ← hn]
    by_cases e : g = m
    · rw [e, upd_s]
    · rw [upd_n _ _ (hi m g (by omega) (by omega) e), ih (by omega) g (by omega)]
def OrS (cm : CM) (s n : Nat) : Prop := ∀ g, g < n → cm 51 s (atF (cm 38 s) (cm 38 s g) n) = nI g
def DnS (cm : CM) (V : CV) (s Dn : Nat) : Prop := (cm 33 0 s = 0 ∧ V (400 + 20 * s) 10 = -1) ∨ ∃ d n, d < Dn ∧ n < 1000 ∧ V (400 + 20 * s) 10 = nI d ∧ cm 33 0 s = nI (d + 1) ∧ cm 34 0 s = nI n ∧ OrS cm s n
theorem fiV_n {V : CV} {q i : Nat} (h : i ≠ q) (h0 : i ≠ 0) : fiV V q i = V i := by rw [fiV, c2_n _ _ _ h0, c2_n _ _ _ h]
theorem fiV_k {V : CV} {q i k : Nat} (h : k ≠ 10) : fiV V q i k = V i k := by
  rw [fiV]
  by_cases e0 : i = 0
  · rw [e0, c2_s, upd_n _ _ h]
    by_cases eq : 0 = q
    · rw [← eq, c2_s, upd_n _ _ h]
    · rw [c2_n _ _ _ eq]
  · rw [c2_n _ _ _ e0]
    by_cases eq : i = q
    · rw [eq, c2_s, upd_n _ _ h]
    · rw [c2_n _ _ _ eq]
theorem fiV_10 {V : CV} {q : Nat} (h : q ≠ 0) : fiV V q q 10 = V 0 10 ∧ fiV V q 0 10 = V 0 10 + 1 := by
  rw [fiV]
  exact ⟨by rw [c2_n _ _ _ h, c2_s, upd_s], by rw [c2_s, upd_s]⟩
/-- a scan that has just looked at a chunk, ends or does not -/
theorem end_eq {cm : CM} {V : CV} {s o x B y Dn : Nat} (D : ScD cm V s x B y) (hB : B < 1000) (e28 : cm 28 0 s = nI o) (e4 : V (400 + 20 * s) 4 = nI o) (ho : o ≤ 10) (hx : x < 2 ^ o) (e33 : cm 33 0 s = 0) (e10 : V (400 + 20 * s) 10 = -1) (e45 : cm 45 0 0 = nI Dn) (v45 : V 0 10 = nI Dn) (hD : Dn < 1000) :
    ∃ W D', W = (if V (400 + 20 * s) 4 ≤ bcF (V (400 + 20 * s) 8) then fiV V (400 + 20 * s) else V) ∧ Dn ≤ D' ∧ D' ≤ Dn + 1 ∧ enC cm s 45 0 0 = nI D' ∧ W 0 10 = nI D' ∧ FrW (400 + 20 * s) V W ∧ (∀ k, k ≠ 10 → W 0 k = V 0 k) ∧ ScD (enC cm s) W s x B y ∧ DnS (enC cm s) W s D' ∧ (enC cm s 33 0 s = 0 ↔ ¬ pc10 x = o) ∧ (D' = Dn + 1 ↔ pc10 x = o) := by
  obtain ⟨⟨x1, x2, x3, x4, x5⟩, n, h, g1, g2⟩ := D
  have hle := pc_le hx ho
  refine ⟨_, if pc10 x = o then Dn + 1 else Dn, rfl, by split <;> omega, by split <;> omega, ?_⟩
  rw [e4, x2, bc_x x1, enC, x4, e28]
  by_cases hp : pc10 x = o
  · rw [hp, if_pos rfl, if_pos (Int32.le_refl _), if_pos rfl]
    have g1c := id g1
    obtain ⟨hK, h34, -, hnB, -⟩ := g1c
    rw [h34, nn_nI (by omega)]
    generalize ec : c3 (c3 cm 45 0 0 (cm 45 0 0 + 1)) 33 0 s (cm 45 0 0 + 1) = c
    have cn : ∀ k, k ≠ 45 → k ≠ 33 → c k = cm k := fun k a b => by rw [← ec, c3_n b, c3_n a]
    have sn : ∀ k, k ≠ 51 → k ≠ 45 → k ≠ 33 → soC c s n k = cm k := fun k a b d => by rw [soC_nq a, cn k b d]
    have hv := fun i (h1 : i ≠ 400 + 20 * s) (h0 : i ≠ 0) => fiV_n (V := V) h1 h0
    have e1 : (1 : Int32) = nI 1 := rfl
    obtain ⟨t1, t2⟩ := fiV_10 (V := V) (q := 400 + 20 * s) (by omega)
    refine ⟨?_, ?_, ⟨fun i _ h1 h0 => hv i h1 h0, fun k hk => fiV_k (by omega)⟩, fun k hk => fiV_k hk, ⟨⟨x1, ?_, ?_, ?_, ?_⟩, n, h, ?_, ?_⟩, .inr ⟨Dn, n, by omega, by omega, ?_, ?_, ?_, ?_⟩, ?_, by simp⟩
    · rw [soC_nq (by decide), ← ec, c3_n (by decide), c3_s, upd_s, e45, e1, nI_add]
    · rw [t2, v45, e1, nI_add]
    · rw [fiV_k (by decide), x2]
    · rw [sn 37 (by decide) (by decide) (by decide)]; exact x3
    · rw [sn 29 (by decide) (by decide) (by decide), x4]
    · rw [fiV_k (by decide), x5, sn 30 (by decide) (by decide) (by decide)]
    · exact g1.cgM (fun k hk => sn k (by omega) (by omega) (by omega)) (hv _ (by omega) (by omega)) (hv _ (by omega) (by omega))
    · exact g2.cg (sn _ (by decide) (by decide) (by decide)) (sn _ (by decide) (by decide) (by decide)) (sn _ (by decide) (by decide) (by decide)) (sn _ (by decide) (by decide) (by decide)) (sn _ (by decide) (by decide) (by decide)) (sn _ (by decide) (by decide) (by decide)) (fun q _ => by rw [sn 38 (by decide) (by decide) (by decide)]) (hv _ (by omega) (by omega)) (hv _ (by omega) (by omega)) (hv _ (by omega) (by omega))
    · rw [t1, v45]
    · rw [soC_nq (by decide), ← ec, c3_s, upd_s, e45, e1, nI_add]
    · rw [sn 34 (by decide) (by decide) (by decide), h34]
    · intro g hg
      have e38 : c 38 = cm 38 := cn 38 (by decide) (by decide)
      rw [soC_nq (k := 38) (by decide), e38]
      have := soC_51 (cm := c) (s := s) (n := n) (by rw [cn 34 (by decide) (by decide), h34, nn_nI (by omega)]) (by rw [e38]; exact fun g h a b c => hK.inj a b c) n (Nat.le_refl _) g hg
      rw [e38] at this
      exact this
    · rw [soC_nq (by decide), ← ec, c3_s, upd_s, e45, e1, nI_add]
      constructor
      · intro q
        rw [show (0 : Int32) = nI 0 from rfl] at q
        have := nI_i q (by omega) (by omega)
        omega
      · intro q; exact absurd rfl q
  · rw [if_neg (show ¬ nI (pc10 x) = nI o from fun q => hp (nI_i q (by omega) (by omega))), if_neg (show ¬ nI o ≤ nI (pc10 x) from fun q => hp (by have := (nI_leq (by omega) (by omega)).mp q; omega)), if_neg hp]
    exact ⟨e45, v45, ⟨fun _ _ _ _ => rfl, fun _ _ => rfl⟩, fun _ _ => rfl, ⟨⟨x1, x2, x3, x4, x5⟩, n, h, g1, g2⟩, .inl ⟨e33, e10⟩, ⟨fun _ => hp, fun _ => e33⟩, ⟨fun q => by omega, fun q => absurd q hp⟩⟩


