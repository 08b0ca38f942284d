-- deps: 9h.simd
/-! what the class's look asks for -/
theorem lkR_ge {sh : Sh} {V : CV} {j o a m : Nat} (h : ∀ i, m ≤ i → rAl sh (lkR sh V j o a m) (o + 1) (a + i) = false) {i : Nat} (hi : m ≤ i) : lkR sh V j o a i = lkR sh V j o a m := by
  obtain ⟨d, rfl⟩ : ∃ d, i = m + d := ⟨i - m, by omega⟩
  exact look_more d fun i h1 _ => h i h1
theorem look_Lk {cm : CM} {sh : Sh} {V : CV} {R M G s j ns ts x y P : Nat} (hT : TmR cm R M G) (hF : FR cm sh V) (hFs : FsOk sh V) (H : ScS cm sh V R s j ns ts) (D : ScD cm V s x (pas x (fun r => aliveM cm r (nI ts)) ns) y) (e5 : cm 5 0 0 = nI P) (hP : P < 10) (hPR : 16 * P < R) (hC : CkS cm sh V R P) (hx : x.testBit P = false) :
    ∃ I : Nat → CV → Prop, LkOk sh j (400 + 20 * s) (16 * P) (100 + 10 * P) I ∧ I 0 (lk0 V j (400 + 20 * s) P (100 + 10 * P)) := by
  obtain ⟨a1, a2, a3, -⟩ := id H
  obtain ⟨⟨x1, x2, x3, x4, x5⟩, n, h, g1, g2⟩ := D
  have hF30 := hF.2.1
  obtain ⟨hR, -, -, h0, -⟩ := id hT
  have n0 := fun i (h9 : i ≠ 9) (ho : i ≠ 400 + 20 * s) => lk0_n (V := V) (j := j) (k := P) (q := 100 + 10 * P) h9 ho
  have o0 := lk0_o (V := V) (j := j) (o := 400 + 20 * s) (k := P) (q := 100 + 10 * P) (by omega)
  have fw : FrW (400 + 20 * s) V (lk0 V j (400 + 20 * s) P (100 + 10 * P)) := ⟨fun i hi ho _ => n0 i (v9_n hi).1 ho, fun k hk => by rw [o0, upd_n _ _ (by omega)]⟩
  have H0 := H.cg (loA_N (s := s)) fw
  have G0 : GkS (loA cm s) (lk0 V j (400 + 20 * s) P (100 + 10 * P)) s n (pas x (fun r => aliveM cm r (nI ts)) ns) := g1.cgM (fun k hk => loA_n (by omega) (by omega)) (n0 _ (by omega) (by omega)) (n0 _ (by omega) (by omega))
  have M0 : MmS (loA cm s) (lk0 V j (400 + 20 * s) P (100 + 10 * P)) s h y n := g2.cg (loA_n (by decide) (by decide)) (loA_n (by decide) (by decide)) (loA_n (by decide) (by decide)) (loA_n (by decide) (by decide)) (loA_n (by decide) (by decide)) (loA_n (by decide) (by decide)) (fun q _ => by rw [loA_n (k := 38) (by decide) (by decide)]) (n0 _ (by omega) (by omega)) (n0 _ (by omega) (by omega)) (n0 _ (by omega) (by omega))
  have hF0 : FR (loA cm s) sh (lk0 V j (400 + 20 * s) P (100 + 10 * P)) := loA_N.fr (hF.cg fun i h1 h2 => n0 i (by omega) (by omega))
  have w7 := n0 7 (by omega) (by omega)
  have wq : lk0 V j (400 + 20 * s) P (100 + 10 * P) (100 + 10 * P) 0 = nI (16 * P) := by rw [n0 _ (by omega) (by omega)]; exact hC.1
  have hns : ns ≤ R := H.2.2.2.2.2.2.2.2.2.2.2.1
  have hBl : pas x (fun r => aliveM cm r (nI ts)) ns ≤ ns := cntN_le _ ns
  have hrow : ∀ i, i ≤ 16 → 16 * P + i ≤ R → _ := fun i h1 h2 => look_rows (P := P) (loA_N.tm hT) hF0 H0 G0 (by omega) M0 i h1 h2
  have hge : ∀ i, min 16 (R - 16 * P) ≤ i → lkR sh (lk0 V j (400 + 20 * s) P (100 + 10 * P)) j (400 + 20 * s) (16 * P) i = lkR sh (lk0 V j (400 + 20 * s) P (100 + 10 * P)) j (400 + 20 * s) (16 * P) (min 16 (R - 16 * P)) ∨ 16 < i := by
    intro i hi
    by_cases h16 : 16 < i
    · exact .inr h16
    · refine .inl ?_
      obtain ⟨d, hd⟩ : ∃ d, i = min 16 (R - 16 * P) + d := ⟨i - min 16 (R - 16 * P), by omega⟩
      rw [hd]
      refine look_more d fun q h1 h2 => ?_
      obtain ⟨f1, f2, -⟩ := hrow (min 16 (R - 16 * P)) (by omega) (by omega)
      obtain ⟨-, -, -, -, -, -, -, -, -, -, -, b3, b4, -⟩ := H0.cg f1.wide (f2.w (v9_f (by omega) (by omega)))
      rw [b4.al, decide_eq_false (by omega)]; rfl
  refine ⟨fun i W => i ≤ 16 ∧ W = lkR sh (lk0 V j (400 + 20 * s) P (100 + 10 * P)) j (400 + 20 * s) (16 * P) i, ⟨?_, ?_, ?_⟩, by omega, rfl⟩
  · rintro W i hi ⟨-, rfl⟩
    have hfr : ∃ i', i' ≤ 16 ∧ 16 * P + i' ≤ R ∧ lkR sh (lk0 V j (400 + 20 * s) P (100 + 10 * P)) j (400 + 20 * s) (16 * P) i = lkR sh (lk0 V j (400 + 20 * s) P (100 + 10 * P)) j (400 + 20 * s) (16 * P) i' := by
      by_cases h9 : min 16 (R - 16 * P) ≤ i
      · exact ⟨min 16 (R - 16 * P), by omega, by omega, (hge i h9).resolve_right (by omega)⟩
      · exact ⟨i, hi, by omega, rfl⟩
    obtain ⟨i', hi', hR', e⟩ := hfr
    rw [e]
    obtain ⟨f1, f2, -⟩ := hrow i' hi' hR'
    obtain ⟨-, b0, -, -, -, -, -, -, -, -, -, b3, b4, -⟩ := H0.cg f1.wide (f2.w (v9_f (by omega) (by omega)))
    exact ⟨FsOk_cg ((f2 7 (v9_f (by omega) (by omega))).trans w7) hFs, (hF0.cgv f2).FlOk, b4.ok, b0, by rw [f2 _ (v9_f (by omega) (by omega))]; exact wq⟩
  · rintro W i hi ⟨-, rfl⟩ hal hch
    have him : i < min 16 (R - 16 * P) := Classical.byContradiction fun h9 => by
      rw [(hge i (by omega)).resolve_right (by omega)] at hal
      obtain ⟨f1, f2, -⟩ := hrow (min 16 (R - 16 * P)) (by omega) (by omega)
      obtain ⟨-, -, -, -, -, -, -, -, -, -, -, b3, b4, -⟩ := H0.cg f1.wide (f2.w (v9_f (by omega) (by omega)))
      rw [b4.al, decide_eq_false (by omega)] at hal
      exact Bool.noConfusion hal
    obtain ⟨f1, f2, n1, h1, q1, q2⟩ := hrow i (by omega) (by omega)
    have Hi := H0.cg f1.wide (f2.w (v9_f (by omega) (by omega)))
    generalize lkR sh (lk0 V j (400 + 20 * s) P (100 + 10 * P)) j (400 + 20 * s) (16 * P) i = W at *
    have hn := fun i (h : 400 ≤ i) => fcW_nq (V := W) (j := j) (q := 400 + 20 * s + 1) (r := 16 * P + i) (i := i) (by omega) (by omega) (by omega) (by omega)
    have hfv : FrV (400 + 20 * s) W (fcW W j (400 + 20 * s + 1) (16 * P + i)) := fun i hi => by
      obtain ⟨x1, x2, x3, x4, -⟩ := v9_n hi
      exact fcW_nq x1 x2 x3 x4
    have Hf := Hi.cg (fun _ _ => rfl) (hfv.w (v9_f (by omega) (by omega)))
    obtain ⟨-, -, -, c4, c5, c6, c7, -, -, -, -, c3, c8, -, c10, c11⟩ := Hf
    obtain ⟨-, -, -, -, -, -, -, -, -, -, -, -, d4, -, -, -⟩ := Hi
    rw [d4.al, Bool.and_eq_true, decide_eq_true_eq] at hal
    obtain ⟨hal1, hal2⟩ := hal
    obtain ⟨-, -, s1, s2, -⟩ := q1
    have e41 : fcW W j (400 + 20 * s + 1) (16 * P + i) (400 + 20 * s + 4) = W (400 + 20 * s + 4) := fcW_nq (by omega) (by omega) (by omega) (by omega)
    have hA : ∀ r, aliveM (loR (loA cm s) s P j i) r (nI ts) = aliveM cm r (nI ts) := fun r => by rw [f1.wide.al, loA_N.al]
    simp only [hA] at c10
    rw [hA] at hal2
    have hroom := pas_room (a := fun r => aliveM cm r (nI ts)) (n := ns) (i := i + 1) hx (by omega) (by omega)
    rw [cntN, if_pos hal2] at hroom
    simp only [loA_N.al] at s2
    have h160 : cntN (fun r => aliveM cm r (nI ts)) ns ≤ ns := cntN_le _ ns
    refine ⟨⟨c8.ok, c4 ▸ c5, c6 ▸ c7, c11, ⟨n1, ?_, ?_⟩, ?_⟩, fun _ => ?_⟩
    · show 6 * n1 ≤ sh.N (400 + 20 * s + 5); rw [c10]; omega
    · rw [e41]; exact s1
    · show sh.N (400 + 20 * s + 5) ≤ 960; rw [c10]; omega
    · rw [e41, s1, nn_nI (by omega)]
      show 6 * n1 + 6 ≤ sh.N (400 + 20 * s + 5); rw [c10]; omega
  · rintro W i hi ⟨-, rfl⟩
    exact ⟨by omega, rfl⟩


