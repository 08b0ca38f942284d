-- deps: a9.simF 91.gpinit
/-! the beginning of both sides -/
theorem SR.init : SR (fun _ _ _ => 0) (fun _ => 0) sh0 V0 0 0 := by
  have z : (0 : Int32) = nI 0 := rfl
  have hv : ∀ i k, i ≠ 11 → i ≠ 12 → V0 i k = 0 := fun i k h1 h2 => by rw [V0, if_neg h1, if_neg h2]; rfl
  have eS : sh0.S = 0 := rfl
  have eC : sh0.C = 0 := rfl
  have eF : sh0.F = 0 := rfl
  have hL : ∀ o, isL o → (o ≠ 11 ∧ o ≠ 12) → lcn sh0 o = 0 → LsOk sh0 V0 o := fun o h h2 h3 => by
    refine ⟨h, by rw [hv o 2 h2.1 h2.2, h3]; rfl, by rw [h3]; exact Nat.zero_le _, ?_⟩
    rcases h with rfl | rfl | rfl <;> decide
  refine ⟨0, 0, 0, 0, 0, fun _ => 0, ⟨⟨by decide, by decide, by decide, rfl, rfl, rfl, fun k h => by omega, fun r h => by omega⟩, ⟨rfl, by decide, fun j h => by rw [eF] at h; omega⟩, ⟨hL 7 (.inr (.inl rfl)) (by decide) rfl, rfl, ⟨rfl, rfl, rfl⟩, by decide⟩, hL 14 (.inr (.inr rfl)) (by decide) rfl, hL 4 (.inl rfl) (by decide) rfl, rfl, fun k h => by rw [eC] at h; omega, fun _ _ _ _ _ => rfl, rfl, hv 0 8 (by decide) (by decide), rfl, by decide, rfl, hv 0 10 (by decide) (by decide), rfl, fun s h => by rw [eS] at h; omega⟩, ⟨by decide, .inr rfl, Nat.zero_le _⟩, ⟨hv 0 7 (by decide) (by decide), hv 0 6 (by decide) (by decide), fun c _ => hv 18 c (by decide) (by decide)⟩, ⟨⟨hv 1 2 (by decide) (by decide), Nat.zero_le _, rfl, Nat.le_refl _, fun r c h => by omega, fun r h => by omega, fun r _ _ => hv 3 r (by decide) (by decide)⟩, rfl, hv 1 3 (by decide) (by decide), rfl, rfl⟩, ⟨Nat.le_refl _, fun _ _ => Nat.le_refl _, fun k h => by omega, fun r h => by omega⟩, ⟨fun j _ => v5_0, fun _ _ _ => ⟨rfl, fun _ _ => rfl⟩, fun s _ _ => ⟨rfl, fun _ _ _ => rfl, fun _ _ => ⟨rfl, rfl⟩, fun _ _ => rfl, fun _ => ⟨rfl, rfl, rfl, rfl⟩⟩⟩, ⟨rfl, fun _ => 0, fun _ => 0, fun s h => by rw [eS] at h; omega, rfl, rfl⟩, fun s h => by rw [eS] at h; omega, fun r h => by omega, fun s h => by rw [eS] at h; omega, fun s h => by rw [eS] at h; omega⟩


