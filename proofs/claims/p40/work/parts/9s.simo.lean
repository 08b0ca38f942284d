-- deps: 9r.simn
/-! what a scan is asked for -/
theorem ScG.vals {cm : CM} {sh : Sh} {V : CV} {R M s Dn : Nat} (H : ScG cm sh V R M s Dn) (hD : Dn < 1000) : V (400 + 20 * s) 9 = cm 30 0 s ∧ V (400 + 20 * s + 6) 3 = cm 31 0 s ∧ V (400 + 20 * s + 6) 4 = cm 32 0 s ∧ V (400 + 20 * s + 6) 2 = cm 26 0 s ∧ (V (400 + 20 * s) 10 = -1 ↔ cm 33 0 s = 0) ∧ (0 < cm 33 0 s ↔ ¬ cm 33 0 s = 0) ∧ V (400 + 20 * s) 0 = cm 23 0 s ∧ V (400 + 20 * s) 1 = cm 24 0 s ∧ V (400 + 20 * s) 2 = cm 25 0 s ∧ bcF (V (400 + 20 * s) 8) = cm 29 0 s ∧ PaOk sh (400 + 20 * s + 6) := by
  obtain ⟨j, ns, ts, x, y, H1, -, -, ⟨⟨x1, x2, x3, x4, x5⟩, n, h, g1, ⟨⟨-, -, p3, p4, p5⟩, -⟩⟩, h5, -⟩ := H
  obtain ⟨a1, a2, a3, a4, a5, a6, a7, a8, a9, b1, b2, hns, hRw, hdead, hroom, hPa⟩ := H1
  refine ⟨x5, p4, p5, p3, ?_, ?_, by rw [a2, a3], a4, a6, by rw [x2, bc_x x1, x4], hPa⟩
  · rcases h5 with ⟨a, b⟩ | ⟨d, m, hd, -, b, a, -⟩
    · exact ⟨fun _ => a, fun _ => b⟩
    · constructor
      · intro q
        rw [b] at q
        have := congrArg Int32.toInt q
        rw [nI_ti (by omega), show (-1 : Int32).toInt = -1 from by decide] at this
        omega
      · intro q
        rw [a, show (0 : Int32) = nI 0 from rfl] at q
        have := nI_i q (by omega) (by omega)
        omega
  · rcases h5 with ⟨a, b⟩ | ⟨d, m, hd, -, b, a, -⟩
    · rw [a]; exact ⟨fun q => absurd q (Int32.lt_irrefl), fun q => absurd rfl q⟩
    · rw [a, show (0 : Int32) = nI 0 from rfl, nI_ltq (by omega) (by omega), nI_eqq (by omega) (by omega)]
      omega


