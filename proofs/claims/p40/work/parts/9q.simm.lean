-- deps: 9p.siml
/-! `thrown` is no matter -/
theorem RdR.c49 {cm cm' : CM} {sh : Sh} {V : CV} {R M G P Dn : Nat} (H : RdR cm sh V R M G P Dn) (n5 : ∀ k, k ≠ 49 → cm' k = cm k) : RdR cm' sh V R M G P Dn := by
  obtain ⟨hT, hF, hFs, hL14, hL4, hCe, hCk, hz, e5, v8, e4, hS, e45, v10, hDn, hSc⟩ := H
  have hN : FrN cm cm' := fun k hk => n5 k fun e => by subst e; exact Bool.noConfusion hk
  refine ⟨hN.tm hT, hN.fr hF, hFs, hL14, hL4, hCe, fun k hk => (hCk k hk).cgN hN, fun k h1 h2 c hc => by rw [n5 17 (by decide)]; exact hz k h1 h2 c hc, by rw [n5 5 (by decide)]; exact e5, v8, by rw [n5 4 (by decide)]; exact e4, hS, by rw [n5 45 (by decide)]; exact e45, v10, by rw [n5 33 (by decide)]; exact hDn, fun s hs => ?_⟩
  obtain ⟨j, ns, ts, x, y, H1, h2, h3, ⟨⟨x1, x2, x3, x4, x5⟩, n, h4, g1, g2⟩, h5, h6⟩ := hSc s hs
  refine ⟨j, ns, ts, x, y, H1.cg2 hN (fun _ _ _ => rfl), h2, h3, ⟨⟨x1, x2, ?_, ?_, ?_⟩, n, h4, ?_, ?_⟩, ?_, ?_⟩
  · rw [n5 37 (by decide)]; exact x3
  · rw [n5 29 (by decide)]; exact x4
  · rw [n5 30 (by decide)]; exact x5
  · simp only [hN.al]
    exact g1.cgM (fun k hk => n5 k (by omega)) rfl rfl
  · exact g2.cg (n5 _ (by decide)) (n5 _ (by decide)) (n5 _ (by decide)) (n5 _ (by decide)) (n5 _ (by decide)) (n5 _ (by decide)) (fun q _ => by rw [n5 38 (by decide)]) rfl rfl rfl
  · rw [DnS] at h5 ⊢
    rw [n5 33 (by decide), n5 34 (by decide)]
    simp only [OrS, n5 51 (by decide), n5 38 (by decide)] at h5 ⊢
    exact h5
  · rw [n5 33 (by decide)]; exact h6
theorem thr_nq {cm : CM} {b : Bool} {k : Int32} {q : Nat} (h : q ≠ 49) : thr cm b k q = cm q := by rw [thr, c3_n h]
theorem RdR.th {cm : CM} {sh : Sh} {V : CV} {R M G P Dn : Nat} (H : RdR cm sh V R M G P Dn) (b : Bool) (k : Int32) : RdR (thr cm b k) sh V R M G P Dn := H.c49 fun _ h => thr_nq h
/-- what a result shows: the group at an index of the class is the reference's group that `order` names there -/
theorem ScG.at {cm : CM} {sh : Sh} {V : CV} {R M s Dn : Nat} (H : ScG cm sh V R M s Dn) (hR : R ≤ 160) (hd : ¬ cm 33 0 s = 0) : ∃ n, n ≤ 160 ∧ cm 34 0 s = nI n ∧ V (400 + 20 * s + 4) 1 = nI n ∧ ∀ i, i < n → ∃ g, g < n ∧ cm 51 s i = nI g ∧ vl (cm 38 s g) ∧ ∀ w, w < 6 → V (400 + 20 * s + 4 + 1) (6 * i + w) = rsF cm s g w := by
  obtain ⟨j, ns, ts, x, y, H1, -, -, ⟨-, n, h, g1, -⟩, h5, -⟩ := H
  have hns : ns ≤ R := H1.2.2.2.2.2.2.2.2.2.2.2.1
  have hB : pas x (fun r => aliveM cm r (nI ts)) ns ≤ ns := cntN_le _ ns
  obtain ⟨hK, h34, hV, hn, -⟩ := g1
  rcases h5 with ⟨a, -⟩ | ⟨d, m, -, hm, -, -, e34, hO⟩
  · exact absurd a hd
  · have em : m = n := by
      exact nI_i (e34.symm.trans h34) (by omega) (by omega)
    subst em
    refine ⟨m, by omega, h34, hV, fun i hi => ?_⟩
    obtain ⟨g, hg, e⟩ := hK.2.2.1 i hi
    refine ⟨g, hg, by rw [← e]; exact hO g hg, hK.1 g hg, fun w hw => ?_⟩
    rw [← e]
    exact hK.2.2.2.2 g hg w hw


