-- deps: 9d.sim9 62.look
/-! a scan looks at a chunk: both sides -/
def cntN (p : Nat → Bool) : Nat → Nat
  | 0 => 0
  | n + 1 => cntN p n + (if p n then 1 else 0)
theorem cntN_le (p : Nat → Bool) : ∀ n, cntN p n ≤ n
  | 0 => Nat.le_refl _
  | n + 1 => by
    rw [cntN]
    have := cntN_le p n
    split <;> omega
/-- what a row's taking changes, of the reference and of the class -/
def m12 (k : Nat) : Bool := k == 31 || k == 32 || k == 34 || k == 35 || k == 36 || k == 38 || k == 39 || k == 40 || k == 41 || k == 42 || k == 43 || k == 44
def v9 (o i : Nat) : Bool := i == 9 || i == 11 || i == 12 || i == 13 || (decide (o + 4 ≤ i) && decide (i ≤ o + 8))
def FrM (cm cm' : CM) : Prop := ∀ k, m12 k = false → cm' k = cm k
def FrV (o : Nat) (V W : CV) : Prop := ∀ i, v9 o i = false → W i = V i
/-- and what a look, the end of a scan change beside it -/
def m18 (k : Nat) : Bool := m12 k || (k == 26 || k == 29 || k == 30 || k == 33 || k == 37 || k == 45 || k == 49 || k == 51 || k == 5)
def FrN (cm cm' : CM) : Prop := ∀ k, m18 k = false → cm' k = cm k
def FrW (o : Nat) (V W : CV) : Prop := (∀ i, v9 o i = false → i ≠ o → i ≠ 0 → W i = V i) ∧ ∀ k, k < 8 → W o k = V o k
theorem FrM.wide {cm cm' : CM} (h : FrM cm cm') : FrN cm cm' := fun k hk => h k (Bool.or_eq_false_iff.mp hk).1
theorem FrV.w {o : Nat} {V W : CV} (h : FrV o V W) (ho : v9 o o = false) : FrW o V W := ⟨fun i hi _ _ => h i hi, fun k _ => by rw [h o ho]⟩
theorem tkC_f {cm : CM} {s r k : Nat} (h : m12 k = false) : tkC cm s r k = cm k := by
  simp only [m12, Bool.or_eq_false_iff, beq_eq_false_iff_ne] at h
  obtain ⟨⟨⟨⟨⟨⟨⟨⟨⟨⟨⟨a, b⟩, c⟩, d⟩, e⟩, f⟩, g⟩, h⟩, i⟩, j⟩, k⟩, l⟩ := h
  exact tkC_n a b c d e f g h i j k l
theorem v9_n {o i : Nat} (h : v9 o i = false) : i ≠ 9 ∧ i ≠ 11 ∧ i ≠ 12 ∧ i ≠ 13 ∧ i ≠ o + 4 ∧ i ≠ o + 5 ∧ i ≠ o + 6 ∧ i ≠ o + 7 ∧ i ≠ o + 8 := by
  simp only [v9, Bool.or_eq_false_iff, beq_eq_false_iff_ne, Bool.and_eq_false_iff, decide_eq_false_iff_not] at h
  omega
theorem v9_f {o i : Nat} (ho : 14 ≤ o) (h : i < 9 ∨ i = 10 ∨ (13 < i ∧ (i < o + 4 ∨ o + 8 < i))) : v9 o i = false := by
  simp only [v9, Bool.or_eq_false_iff, beq_eq_false_iff_ne, Bool.and_eq_false_iff, decide_eq_false_iff_not]
  omega
theorem FrN.lk {cm cm' : CM} (h : FrN cm cm') (r c : Nat) (t : Int32) : lk cm' r c t = lk cm r c t := lk_cg (h 2 rfl) (h 6 rfl) (h 10 rfl) (h 11 rfl) (h 12 rfl) (h 13 rfl) r c t
theorem FrN.al {cm cm' : CM} (h : FrN cm cm') (r : Nat) (t : Int32) : aliveM cm' r t = aliveM cm r t := by rw [aliveM, aliveM, h 8 rfl, h 9 rfl]
theorem FrN.tm {cm cm' : CM} {R M G : Nat} (h : FrN cm cm') (H : TmR cm R M G) : TmR cm' R M G := by
  rw [TmR, TmL, TmA, h 0 rfl, h 1 rfl, h 2 rfl, h 13 rfl, h 12 rfl, h 10 rfl, h 8 rfl, h 9 rfl, h 6 rfl]; exact H
theorem FrN.fr {cm cm' : CM} {sh : Sh} {V : CV} (h : FrN cm cm') (H : FR cm sh V) : FR cm' sh V := by
  obtain ⟨h1, h2, h3⟩ := H
  refine ⟨by rw [h 3 rfl]; exact h1, h2, fun j hj => ?_⟩
  have h3 := h3 j hj
  rw [FR1] at h3 ⊢
  rw [h 19 rfl, h 20 rfl, h 21 rfl, h 22 rfl]
  simp only [about_cg (h 19 rfl) (h 20 rfl) (h 21 rfl)]
  exact h3
theorem FrN.rw {cm cm' : CM} {sh : Sh} {V : CV} {o n : Nat} {t : Int32} (h : FrN cm cm') (H : RwS cm sh V o n t) : RwS cm' sh V o n t := by
  rw [RwS] at H ⊢
  simp only [h.lk, h.al]
  exact H
/-- what stays of a scan -/
def ScS (cm : CM) (sh : Sh) (V : CV) (R s j ns ts : Nat) : Prop :=
  j < sh.F ∧ V (400 + 20 * s) 0 = nI j ∧ cm 23 0 s = nI j ∧
  V (400 + 20 * s) 1 = cm 24 0 s ∧ (cm 24 0 s = -1 ∨ ∃ c, c < 4 ∧ cm 24 0 s = nI c) ∧
  V (400 + 20 * s) 2 = cm 25 0 s ∧ (∃ c, c < 4 ∧ cm 25 0 s = nI c) ∧
  V (400 + 20 * s) 3 = nI ts ∧ cm 27 0 s = nI ts ∧ V (400 + 20 * s) 4 = nI ((ns + 15) / 16) ∧ cm 28 0 s = nI ((ns + 15) / 16) ∧
  ns ≤ R ∧ RwS cm sh V (400 + 20 * s + 1) ns (nI ts) ∧ (∀ r, ns ≤ r → r < R → aliveM cm r (nI ts) = false) ∧
  sh.N (400 + 20 * s + 5) = 6 * cntN (fun r => aliveM cm r (nI ts)) ns ∧ PaOk sh (400 + 20 * s + 6)
theorem ScS.cg {cm cm' : CM} {sh : Sh} {V W : CV} {R s j ns ts : Nat} (H : ScS cm sh V R s j ns ts) (h : FrN cm cm') (hv : FrW (400 + 20 * s) V W) : ScS cm' sh W R s j ns ts := by
  rw [ScS] at H ⊢
  rw [hv.2 0 (by omega), hv.2 1 (by omega), hv.2 2 (by omega), hv.2 3 (by omega), hv.2 4 (by omega), h 23 rfl, h 24 rfl, h 25 rfl, h 27 rfl, h 28 rfl]
  simp only [h.al]
  obtain ⟨a1, a2, a3, a4, a5, a6, a7, a8, a9, b1, b2, b3, b4, b5, b6, b7⟩ := H
  exact ⟨a1, a2, a3, a4, a5, a6, a7, a8, a9, b1, b2, b3, h.rw (b4.cg (hv.1 _ (v9_f (by omega) (by omega)) (by omega) (by omega)) (hv.1 _ (v9_f (by omega) (by omega)) (by omega) (by omega)) (hv.1 _ (v9_f (by omega) (by omega)) (by omega) (by omega))), b5, b6, b7⟩
theorem GkS.mono {cm : CM} {V : CV} {s n B B' : Nat} (H : GkS cm V s n B) (h : B ≤ B') : GkS cm V s n B' := by
  obtain ⟨a, b, c, d, e, f⟩ := H
  exact ⟨a, b, c, by omega, fun g hg => by obtain ⟨x, hx, ex⟩ := e g hg; exact ⟨x, by omega, ex⟩, f⟩
theorem GkS.cg {cm : CM} {V W : CV} {s n B : Nat} (H : GkS cm V s n B) (h4 : W (400 + 20 * s + 4) = V (400 + 20 * s + 4)) (h5 : W (400 + 20 * s + 4 + 1) = V (400 + 20 * s + 4 + 1)) : GkS cm W s n B := by
  rw [GkS, h4, h5]; exact H
theorem MmS.cgv {cm : CM} {V W : CV} {s y n : Nat} {h : Nat → Nat} (H : MmS cm V s h y n) (v6 : W (400 + 20 * s + 6) = V (400 + 20 * s + 6)) (v7 : W (400 + 20 * s + 6 + 1) = V (400 + 20 * s + 6 + 1)) (v8 : W (400 + 20 * s + 6 + 2) = V (400 + 20 * s + 6 + 2)) : MmS cm W s h y n :=
  H.cg rfl rfl rfl rfl rfl rfl (fun _ _ => rfl) v6 v7 v8
/-- the key and the measure of a row -/
theorem ScS.km {cm : CM} {sh : Sh} {V : CV} {R M G s j ns ts r : Nat} (H : ScS cm sh V R s j ns ts) (hT : TmR cm R M G) (hr : r < ns) :
    vl (tkK cm s r) ∧ scK V (400 + 20 * s) (400 + 20 * s + 1) r = mp (tkK cm s r) ∧ vl (lk cm r (nn (cm 25 0 s)) (cm 27 0 s)) ∧ rVal V (400 + 20 * s + 1) r (nn (V (400 + 20 * s) 2)) = mp (lk cm r (nn (cm 25 0 s)) (cm 27 0 s)) := by
  obtain ⟨-, -, -, a4, a5, a6, ⟨c, hc, ec⟩, -, a9, -, -, b3, b4, -⟩ := H
  have hrR : r < R := by omega
  rw [a6, a9, ec, nn_nI (by omega), b4.val hr hc, tkK, scK, a4, a9]
  refine ⟨?_, ?_, lk_vl hT _ hrR hc, rfl⟩
  · rcases a5 with e | ⟨d, hd, e⟩
    · rw [e, if_pos (by decide)]; exact .inr (by decide)
    · rw [e, if_neg (nI_pos (by omega)), nn_nI (by omega)]
      exact lk_vl hT _ hrR hd
  · rcases a5 with e | ⟨d, hd, e⟩
    · rw [e, if_pos rfl, if_pos (by decide)]; rfl
    · rw [e, if_neg (nI_pos (by omega)), if_neg (fun q => nI_pos (show d < 2147483648 by omega) (by rw [q]; decide)), nn_nI (by omega), b4.val hr hd]
theorem gk_le {cm : CM} {V : CV} {s n B : Nat} (H : GkS cm V s n B) (hB : B < 1000) (k : Int32) : grN cm s k ≤ B := by
  obtain ⟨-, h2, -, h4, -⟩ := H
  rw [grN, h2, nn_nI (by omega)]
  have := gix_le (cm 38 s) k n 0
  omega
/-- one row -/
theorem look_row {cm : CM} {sh : Sh} {V : CV} {R M G s j ns ts r n B y : Nat} {h : Nat → Nat} (hT : TmR cm R M G) (hF : FR cm sh V) (H : ScS cm sh V R s j ns ts) (hr : r < R) (hG : GkS cm V s n B) (hB : B < 900) (hM : MmS cm V s h y n) :
    FrM cm (if loT cm s j r then tkC cm s r else cm) ∧ FrV (400 + 20 * s) V (lkS sh V j (400 + 20 * s) r) ∧ ∃ n' h', GkS (if loT cm s j r then tkC cm s r else cm) (lkS sh V j (400 + 20 * s) r) s n' (B + (if aliveM cm r (nI ts) then 1 else 0)) ∧ MmS (if loT cm s j r then tkC cm s r else cm) (lkS sh V j (400 + 20 * s) r) s h' y n' := by
  obtain ⟨a1, -, -, -, -, -, -, -, a9, -, -, b3, b4, b5, -⟩ := id H
  rw [loT, a9, lkS, b4.al]
  cases hal : aliveM cm r (nI ts)
  · rw [Bool.and_false, Bool.false_and, if_neg (by decide), if_neg (by decide), if_neg (by decide)]
    exact ⟨fun _ _ => rfl, fun _ _ => rfl, n, h, hG, hM⟩
  · have hns : r < ns := Classical.byContradiction fun h9 => by
      have := b5 r (by omega) hr
      rw [hal] at this
      exact Bool.noConfusion this
    have hf := b4.fc (j := j) hT hF b3 (.inr (by omega)) hns a1
    have hv : FrV (400 + 20 * s) V (fcW V j (400 + 20 * s + 1) r) := fun i hi => by
      obtain ⟨x1, x2, x3, x4, -⟩ := v9_n hi
      exact fcW_nq x1 x2 x3 x4
    have hn := fun i (h : 400 ≤ i) => fcW_nq (V := V) (j := j) (q := 400 + 20 * s + 1) (r := r) (i := i) (by omega) (by omega) (by omega) (by omega)
    have hG2 := hG.cg (hn (400 + 20 * s + 4) (by omega)) (hn (400 + 20 * s + 4 + 1) (by omega))
    have hM2 := hM.cgv (hn (400 + 20 * s + 6) (by omega)) (hn (400 + 20 * s + 6 + 1) (by omega)) (hn (400 + 20 * s + 6 + 2) (by omega))
    have H2 := H.cg (fun _ _ => rfl) (hv.w (v9_f (by omega) (by omega)))
    rw [decide_eq_true hns, Bool.and_true, Bool.true_and, if_pos rfl, if_pos rfl, hf]
    by_cases ht : trF cm r (nI ts) 30 j = 1
    · rw [if_pos ht, decide_eq_true ht, if_pos rfl]
      obtain ⟨k1, k2, k3, k4⟩ := H2.km hT hns
      obtain ⟨-, n', h', g1, g2⟩ := take_eq hG2 (by omega) hM2 k1 k3 rfl rfl k2 k4
      refine ⟨fun k hk => tkC_f hk, fun i hi => ?_, n', h', g1, g2⟩
      obtain ⟨x1, x2, x3, x4, x5, x6, x7, x8, x9⟩ := v9_n hi
      rw [scR_n x5 x6 x7 x8 x9]
      exact hv i hi
    · rw [if_neg ht, decide_eq_false ht, if_neg (by decide)]
      exact ⟨fun _ _ => rfl, hv, n, h, hG2.mono (by omega), hM2⟩
theorem FrM.trans {a b c : CM} (h : FrM a b) (h2 : FrM b c) : FrM a c := fun k hk => (h2 k hk).trans (h k hk)
theorem FrV.trans {o : Nat} {a b c : CV} (h : FrV o a b) (h2 : FrV o b c) : FrV o a c := fun k hk => (h2 k hk).trans (h k hk)
theorem FR.cgv {cm : CM} {sh : Sh} {V W : CV} {s : Nat} (h : FR cm sh V) (hv : FrV (400 + 20 * s) V W) : FR cm sh W := h.cg fun i h1 h2 => hv i (v9_f (by omega) (by omega))
/-- the rows of a chunk -/
theorem look_rows {cm : CM} {sh : Sh} {V : CV} {R M G s j ns ts n B y P : Nat} {h : Nat → Nat} (hT : TmR cm R M G) (hF : FR cm sh V) (H : ScS cm sh V R s j ns ts) (hG : GkS cm V s n B) (hB : B < 800) (hM : MmS cm V s h y n) : ∀ i, i ≤ 16 → 16 * P + i ≤ R →
    FrM cm (loR cm s P j i) ∧ FrV (400 + 20 * s) V (lkR sh V j (400 + 20 * s) (16 * P) i) ∧ ∃ n' h', GkS (loR cm s P j i) (lkR sh V j (400 + 20 * s) (16 * P) i) s n' (B + cntN (fun q => aliveM cm (16 * P + q) (nI ts)) i) ∧ MmS (loR cm s P j i) (lkR sh V j (400 + 20 * s) (16 * P) i) s h' y n' := by
  intro i
  induction i with
  | zero => intro _ _; exact ⟨fun _ _ => rfl, fun _ _ => rfl, n, h, hG, hM⟩
  | succ i ih =>
    intro hi hR
    obtain ⟨f1, f2, n1, h1, g1, g2⟩ := ih (by omega) (by omega)
    have hc := cntN_le (fun q => aliveM cm (16 * P + q) (nI ts)) i
    obtain ⟨q1, q2, n2, h2, q3, q4⟩ := look_row (f1.wide.tm hT) (f1.wide.fr (hF.cgv f2)) (H.cg f1.wide (f2.w (v9_f (by omega) (by omega)))) (show 16 * P + i < R by omega) g1 (by omega) g2
    rw [loR, lkR, cntN]
    rw [f1.wide.al, Nat.add_assoc] at q3
    exact ⟨f1.trans q1, f2.trans q2, n2, h2, q3, q4⟩
/-- the class's loop goes on to sixteen rows: the others were not there -/
theorem look_more {sh : Sh} {V : CV} {j o a m : Nat} : ∀ n, (∀ i, m ≤ i → i < m + n → rAl sh (lkR sh V j o a m) (o + 1) (a + i) = false) → lkR sh V j o a (m + n) = lkR sh V j o a m := by
  intro n
  induction n with
  | zero => intro _; rfl
  | succ n ih =>
    intro h
    have ih := ih fun i h1 h2 => h i h1 (by omega)
    rw [← Nat.add_assoc, lkR, ih, lkS, h (m + n) (by omega) (by omega), if_neg (by decide)]


