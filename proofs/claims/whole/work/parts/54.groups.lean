-- deps: 51.rows
/-! ===== the class: a piece of an array moved within it ===== -/
def o_acpy : Op := fun lv st f bc bs K _ _ _ => match st with
  | .int n :: .int dp :: .ref a :: .int sp :: .ref b :: r => b = a ∧ r.length ≤ 4 ∧ hAI f a 0 fun N arr => ∃ s' d' n' : Nat, sp = nI s' ∧ dp = nI d' ∧ n = nI n' ∧ s' + n' ≤ N ∧ d' + n' ≤ N ∧ N < 2147483648 ∧ Sto (aup f a (.inl (0, N, .inl (va_cpy arr arr s' d' n')))) (fun f1 => K lv r f1 bc bs) (0 : Nat)
  | _ => False
theorem e_acpy (lv : LV) (n dp sp : Int32) (a b : Nat) (r : List Value) (f : AH) (bc bs : Nat) (K : Kx) (B : Bx) (Q : Option Value → AH → Prop) (X : String → AH → Prop) : o_acpy lv (.int n :: .int dp :: .ref a :: .int sp :: .ref b :: r) f bc bs K B Q X = (b = a ∧ r.length ≤ 4 ∧ hAI f a 0 fun N arr => ∃ s' d' n' : Nat, sp = nI s' ∧ dp = nI d' ∧ n = nI n' ∧ s' + n' ≤ N ∧ d' + n' ≤ N ∧ N < 2147483648 ∧ Sto (aup f a (.inl (0, N, .inl (va_cpy arr arr s' d' n')))) (fun f1 => K lv r f1 bc bs) (0 : Nat)) := rfl
theorem ok_acpy {M : MI} {pc i : Nat} (h1 : Cond.methodLink M.1 i arraycopyName ∈ lw_tbl) (h2 : Cond.native arraycopyName ∈ lw_tbl) (h3 : Cond.static arraycopyName ∈ lw_tbl) (h4 : Cond.initialized "java/lang/System" ∈ lw_tbl) (d : decode M.2.1 pc = .ok (.invokestatic i, 3)) : OpOk M pc 3 o_acpy := by
  intro C Q X hC K hK B' hB lv st f bc bs h
  obtain ⟨⟨g, MC, MS⟩, ⟨p, l, e, R⟩, ⟨s, m, args, below, meth, c⟩, Qf⟩ := C
  obtain ⟨hx, hb, hml, hown, hw, hlk, hE, hst, hR, hex, hin, hrt, hQ, hgl⟩ := hC
  intro ls H locs cells slots hl hrep hS hc1 hc2
  simp only [o_acpy] at h
  split at h
  · next n dp a sp b r =>
    obtain ⟨rfl, hr4, h⟩ := h
    obtain ⟨N, arr, hf, s', d', n', rfl, rfl, rfl, a1, a2, a3, h⟩ := hAI_ex h
    subst hR
    have hv := vf_le r (by omega)
    have hcell : H[b]? = some (vp_cell (g.2.1 0) (N, .inl arr)) := (hrep b _ hf).1
    obtain ⟨-, k0, hk0, cm0, hkk0⟩ := (hE.1.2 0 _ rfl).1 N (fun j => .int (arr j))
    have hv2 : (r.map fun v => v.category).sum ≤ 8 := by
      have : ∀ l : List Value, (l.map fun v => v.category).sum ≤ 2 * l.length := by
        intro l
        induction l with
        | nil => simp
        | cons v r ih =>
          have hv : v.category ≤ 2 := by rcases lv_cat v with h | h <;> omega
          simp only [List.map_cons, List.sum_cons, List.length_cons]
          omega
      have := this r
      omega
    intro T hT Xs
    obtain ⟨vm', X', step⟩ := Xs.arraycopy hx hown (hw _ h1 rfl) (hw _ h2 rfl) (hw _ h3 rfl) (hw _ h4 rfl) (src := b) (dst := b) (cs := vp_cell (g.2.1 0) (N, .inl arr)) (cd := vp_cell (g.2.1 0) (N, .inl arr)) (srcPos := nI s') (destPos := nI d') (n := nI n') (by rw [hT]; exact hcell) (by rw [hT]; exact hcell)
      (fun _ h => by cases h) (fun _ h => by cases h) (fun h => by cases h) (fun h => by cases h) hk0 hk0 hkk0 hkk0 (by rfl) (nI_pos (by omega)) (nI_pos (by omega)) (nI_pos (by omega))
      (by rw [nI_toInt (by omega), nI_toInt (by omega)]; show ¬ _ > ((arrV (g.2.1 0) N (fun j => .int (arr j))).slots.size : Int); rw [arrV_size]; omega)
      (by rw [nI_toInt (by omega), nI_toInt (by omega)]; show ¬ _ > ((arrV (g.2.1 0) N (fun j => .int (arr j))).slots.size : Int); rw [arrV_size]; omega)
      (fun vm₁ _ i hi => by
        rw [nI_clamp (by omega)] at hi
        have e : (vp_cell (g.2.1 0) (N, .inl arr)).slots.getD ((nI s').toNatClampNeg + i) .null = .int (arr (s' + i)) := by
          show (arrV (g.2.1 0) N (fun j => .int (arr j))).slots.getD _ _ = _
          rw [nI_clamp (by omega), Array.getD_eq_getD_getElem?, arrV_read _ _ (by omega)]
          rfl
        refine ⟨?_, ?_⟩
        · rw [e]
          rfl
        · rw [e]
          exact trivial)
      (g := F0 m pc ls (.int (nI n') :: .int (nI d') :: .ref b :: .int (nI s') :: .ref b :: r)) rfl (by show _ = c.maxLocals; rw [hml]; exact hl.1) (rest := r) rfl (by rw [hb]; exact d) (by show 1 ≤ 10 + _; omega) (by
        have hn : nativeFrameWords "java/lang/System" "arraycopy" 5 ≤ 100 := by decide
        show 2 * 0 + _ + _ ≤ 200 + _
        omega)
    have e1 : copied (vp_cell (g.2.1 0) (N, .inl arr)) (vp_cell (g.2.1 0) (N, .inl arr)) (nI s') (nI d') (nI n') = vp_cell (g.2.1 0) (N, .inl (va_cpy arr arr s' d' n')) := by
      have := va_copied (fun z => .int z) (g.2.1 0) (g.2.1 0) arr arr (dp := d') (n1 := N) a1
      unfold copied
      rw [nI_clamp (by omega), nI_clamp (by omega), nI_clamp (by omega)]
      exact this
    rw [e1] at X' step
    have hl9 : b < H.size := (Array.getElem?_eq_some_iff.mp hcell).1
    have hheap : ((T.setVm vm').setCell b (vp_cell (g.2.1 0) (N, .inl (va_cpy arr arr s' d' n')))).heap = H.setIfInBounds b (vp_cell (g.2.1 0) (N, .inl (va_cpy arr arr s' d' n'))) := by rw [← hT]; rfl
    have oq : ∀ q : Nat, q ≠ b → (H.setIfInBounds b (vp_cell (g.2.1 0) (N, .inl (va_cpy arr arr s' d' n'))))[q]? = H[q]? := fun q hq => by simp [Array.getElem?_setIfInBounds, Ne.symm hq]
    have hnew : (H.setIfInBounds b (vp_cell (g.2.1 0) (N, .inl (va_cpy arr arr s' d' n'))))[b]? = some (vp_cell (g.2.1 0) (N, .inl (va_cpy arr arr s' d' n'))) := by simp [Array.getElem?_setIfInBounds, hl9]
    have hA := (hrep b _ hf).2
    obtain ⟨t, t1, t2⟩ := hK _ _ _ _ _ (h _ rfl) ls _ _ cells slots hl (hrep.up hA hnew oq) ⟨by simp; exact hS.1, fun q g1 g2 => by
        rw [oq q (fun e => g2 (by rw [e]; exact hA))]
        exact hS.2.1 q g1 g2, fun q hq => by
        rcases List.mem_append.mp hq with h | h
        · exact hS.2.2 q h
        · obtain ⟨z, -, hz⟩ := List.mem_map.mp h
          rw [← hz]
          exact hA⟩ hc1 hc2 _ hheap X'
    exact ⟨t, step t t1, t2⟩
  · exact h.elim

