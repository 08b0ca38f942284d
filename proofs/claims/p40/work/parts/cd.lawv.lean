-- deps: cc.lawg
/-! ===== rows of rows: int[][] made and filled ===== -/
abbrev krr (n : Nat) (c : Nat → Option Nat) : AC := .inl (5, n, .inr (.inr (.inr (.inr c))))
def o_anewI : Op := fun lv st f bc bs K _ _ _ => match st with
  | .int n :: r => ∃ N bc' bs', n = nI N ∧ N ≤ 100000 ∧ bc = bc' + 1 ∧ bs = bs' + N ∧ Mak f (krr N (fun _ => none)) (fun q f1 => K lv (.ref q :: r) f1 bc' bs') (0 : Nat)
  | _ => False
theorem ok_anewI {M : MI} {pc i : Nat} (hcl : Cond.classLink M.1 i "[I" ∈ lw_tbl) (d : decode M.2.1 pc = .ok (.anewarray i, 3)) : OpOk M pc 3 o_anewI := by
  intro C Q X hC K hK B' hB lv st f bc bs h
  obtain ⟨⟨g, MC, MS⟩, ⟨p, l, e, R⟩, ⟨s, m, args, below, meth, c⟩, Qf⟩ := C
  obtain ⟨hx, hb, hml, hown, hw, hlk, hE, hst, hR, hex, hin, hrt, hQ, hgl⟩ := hC
  intro ls H locs cells slots hl hrep hS hc1 hc2
  simp only [o_anewI] at h
  split at h
  · obtain ⟨N, bc', bs', rfl, hN, rfl, rfl, h⟩ := h
    subst hR
    have hc9 := clampN (j := N) (by omega)
    refine W.anewA (t := .int) hx hb hown (hw _ hcl rfl) (va_AOA.use hE.2.2.2.2.2.2.2.2.2.2.1.1) rfl d rfl (nI_pos (by omega)) (by rw [hc9]; exact Nat.le_trans (Nat.mul_le_mul hN (Nat.le_refl _)) (Nat.le_of_ble_eq_true rfl)) (by show cells + 1 ≤ MC; omega) (by show slots + _ ≤ MS; rw [hc9]; omega) fun cA kA comp f1 f2 f3 f4 => ?_
    have hcA : g.2.1 5 = cA := Option.some.inj (((hE.1.2 5 _ rfl).2 : s.vm.findClass _ = some _).symm.trans f1)
    subst hcA
    rw [hc9]
    have z1 : (H.push ({ cls := g.2.1 5, slots := Array.replicate N .null, vm := .none } : Cell)).size = H.size + 1 := Array.size_push ..
    have o1 : ∀ q : Nat, q < H.size → (H.push ({ cls := g.2.1 5, slots := Array.replicate N .null, vm := .none } : Cell))[q]? = H[q]? := fun q hq => by rw [Array.getElem?_push, if_neg (Nat.ne_of_lt hq)]
    refine hK _ _ _ _ _ (h H.size _ hrep.new rfl) ls _ locs (cells + 1) (slots + N) hl (hrep.upN (Nat.le_trans hE.2.2.2.2.2.2.2.2.2.2.2 hS.1) ?_ o1) ⟨Nat.le_trans hS.1 (by omega), fun x h1 h2 => (o1 x (Nat.lt_of_lt_of_le h1 hS.1)).trans (hS.2.1 x h1 h2), hS.2.2⟩ (by omega) (by omega)
    show _ = some (vp_cell (g.2.1 5) _)
    rw [Array.getElem?_push_size]
    exact congrArg some (arrV_new ..)
  · exact h.elim
def o_aastI : Op := fun lv st f bc bs K _ _ _ => match st with
  | .ref x :: .int i :: .ref a :: r => (∃ n c, f x = some (.inl (0, n, .inl c))) ∧ hAR f a 5 fun n arr => ∃ j : Nat, i = nI j ∧ j < n ∧ j < 2147483648 ∧ Sto (aup f a (krr n (updq arr j (some x)))) (fun f1 => K lv r f1 bc bs) (0 : Nat)
  | _ => False
theorem ok_aastI {M : MI} {pc : Nat} (d : decode M.2.1 pc = .ok (.aastore, 1)) : OpOk M pc 1 o_aastI := by
  intro C Q X hC K hK B' hB lv st f bc bs h
  obtain ⟨⟨g, MC, MS⟩, ⟨p, l, e, R⟩, ⟨s, m, args, below, meth, c⟩, Qf⟩ := C
  obtain ⟨hx, hb, hml, hown, hw, hlk, hE, hst, hR, hex, hin, hrt, hQ, hgl⟩ := hC
  intro ls H locs cells slots hl hrep hS hc1 hc2
  simp only [o_aastI] at h
  split at h
  · next x i a st9 =>
    obtain ⟨⟨n0, c0, hfx⟩, h⟩ := h
    obtain ⟨n, arr, hf, j, rfl, hj, hj2, h⟩ := hAR_ex h
    obtain ⟨comp, cc5, kA, h1, -, k1, k2, h5⟩ := va_AOA.spec (A := args) hE.2.2.2.2.2.2.2.2.2.2.1.1
    have hcA : g.2.1 5 = cc5 := Option.some.inj (((hE.1.2 5 _ rfl).2 : s.vm.findClass _ = some _).symm.trans h5)
    have hc0 : g.2.1 0 = comp := Option.some.inj (((hE.1.2 0 _ rfl).2 : s.vm.findClass _ = some _).symm.trans h1)
    subst hcA
    subst hc0
    obtain ⟨kE, hkE, -⟩ := Vm.findClass_spec h1
    have hcell : H[a]? = some (vp_cell (g.2.1 5) (n, .inr (.inr (.inr (.inr arr))))) := (hrep a _ hf).1
    have hcx : H[x]? = some (vp_cell (g.2.1 0) (n0, .inl c0)) := (hrep x _ hfx).1
    refine W.aast hx hb hcell (fun q h => by cases h) (fun h => by cases h) k1 k2 rfl hkE ⟨nI_pos hj2, by show _ < (arrV _ _ _).slots.size; rw [arrV_size, clampN hj2]; exact hj⟩ hcx (fun q h => by cases h) hkE (va_asg _ _) rfl rfl d fun H1 e z oq => ?_
    refine hK _ _ _ _ _ (h _ rfl) ls H1 _ cells slots hl (hrep.up (hrep a _ hf).2 ?_ oq) (hS.put z oq (hrep a _ hf).2) hc1 hc2
    show H1[a]? = some (vp_cell _ _)
    rw [e, vp_cell_q, vp_cell_q, arrV_store, clampN hj2]
    congr 2
    funext q
    by_cases hq : q = j
    · subst hq
      simp [updV, updq, va_rf]
    · simp [updV, updq, hq]
  · exact h.elim
theorem e_anewI (lv : LV) (n : Int32) (r : List Value) (f : AH) (bc bs : Nat) (K : Kx) (B : Bx) (Q : Option Value → AH → Prop) (X : String → AH → Prop) : o_anewI lv (.int n :: r) f bc bs K B Q X = (∃ N bc' bs', n = nI N ∧ N ≤ 100000 ∧ bc = bc' + 1 ∧ bs = bs' + N ∧ Mak f (krr N (fun _ => none)) (fun q f1 => K lv (.ref q :: r) f1 bc' bs') (0 : Nat)) := (rfl)
theorem e_aastI (lv : LV) (x a : Nat) (i : Int32) (r : List Value) (f : AH) (bc bs : Nat) (K : Kx) (B : Bx) (Q : Option Value → AH → Prop) (X : String → AH → Prop) : o_aastI lv (.ref x :: .int i :: .ref a :: r) f bc bs K B Q X = ((∃ n c, f x = some (.inl (0, n, .inl c))) ∧ hAR f a 5 fun n arr => IX i n (fun j => Sto (aup f a (krr n (updq arr j (some x)))) (fun f1 => K lv r f1 bc bs) (0 : Nat)) (0 : Nat)) := (rfl)
/-! ===== what the law keeps ===== -/
/-- of each scan: the net of its opening, and what it was opened with -/
def ScI (cm : CM) (O : AH) (an R M S : Nat) (D : Nat → Int32) (ka : Nat → Option Nat) : Prop := ∀ s, s < S → ∃ (j m ts a : Nat) (K : Nat → Int32), ka s = some a ∧ a ≠ an ∧ O a = some (iar 1100 K) ∧ NetT cm R ts K ∧ ts ≤ M ∧ j < 9 ∧ m < 4 ∧ D (4 * s) = nI j ∧ (D (4 * s + 1) = -1 ∨ ∃ c, c < 4 ∧ D (4 * s + 1) = nI c) ∧ D (4 * s + 2) = nI m ∧ cm 23 0 s = nI j ∧ cm 24 0 s = D (4 * s + 1) ∧ cm 25 0 s = nI m ∧ cm 27 0 s = nI ts ∧ cm 28 0 s = chN cm
def LI (g : GG) (f : AH) (o an kp tl : Nat) (cm : CM) (M S R : Nat) (F D : Nat → Int32) (ka : Nat → Option Nat) : Prop := ∃ O, GS g f o O cm M S 9 ∧ O an = some (iar 1100 F) ∧ O tl = some (iar 12 D) ∧ O kp = some (krr 3 ka) ∧ NetN cm R M F ∧ cm 0 0 0 = nI R ∧ 1 ≤ R ∧ R ≤ 160 ∧ S ≤ 3 ∧ ScI cm O an R M S D ka
theorem iar_i {n n' : Nat} {F F' : Nat → Int32} (h : (some (iar n F) : Option AC) = some (iar n' F')) : n = n' := by
  injection h with h
  injection h with h
  injection h with _ h
  injection h
theorem iar_k {n n' : Nat} {F : Nat → Int32} {c : Nat → Option Nat} (h : (some (iar n F) : Option AC) = some (krr n' c)) : False := by
  injection h with h
  injection h with h
  injection h with h _
  exact absurd h (by decide)
theorem NetT.cgF {cm : CM} {R t : Nat} {F G : Nat → Int32} (H : NetT cm R t F) (hR : R ≤ 160) (h : ∀ k, k < 1100 → G k = F k) : NetT cm R t G := by
  obtain ⟨h1, h2, h3, h4⟩ := H
  refine ⟨by rw [h 0 (by omega)]; exact h1, fun r c hr hc => by rw [h _ (by omega)]; exact h2 r c hr hc, fun r hr => by rw [h _ (by omega)]; exact h3 r hr, fun j hj => ?_⟩
  rw [h _ (by omega), h _ (by omega), h _ (by omega)]
  exact h4 j hj
theorem chN_ck {cm cm' : CM} (h : cm' 0 = cm 0) : chN cm' = chN cm := by rw [chN, chN, h]
/-- scans stay as they were, while rows are written or read -/
theorem ScI.keep {cm cm' : CM} {O O' : AH} {an R M M' S : Nat} {D : Nat → Int32} {ka : Nat → Option Nat} (H : ScI cm O an R M S D ka) (h : Keep cm cm' R M) (hM : M ≤ M') (hO : ∀ p, p ≠ an → O' p = O p) : ScI cm' O' an R M' S D ka := by
  intro s hs
  obtain ⟨j, m, ts, a, K, a1, a2, a3, a4, a5, a6, a7, a8, a9, b1, b2, b3, b4, b5, b6⟩ := H s hs
  exact ⟨j, m, ts, a, K, a1, a2, by rw [hO a a2]; exact a3, a4.tm h.1 a5 fun k q h1 h2 _ => by rw [h.2 k (by omega)], by omega, a6, a7, a8, a9, b1, by rw [h.2 23 (by omega)]; exact b2, by rw [h.2 24 (by omega)]; exact b3, by rw [h.2 25 (by omega)]; exact b4, by rw [h.2 27 (by omega)]; exact b5, by rw [h.2 28 (by omega), chN_ck (h.2 0 (by omega))]; exact b6⟩
/-- a write is done -/
theorem LI.write {g : GG} {f f' : AH} {o an kp tl : Nat} {O : AH} {cm cm' : CM} {M M' S R : Nat} {F F' D : Nat → Int32} {ka : Nat → Option Nat} (hO : O an = some (iar 1100 F)) (hT : O tl = some (iar 12 D)) (hk : O kp = some (krr 3 ka)) (h0 : cm 0 0 0 = nI R) (hR1 : 1 ≤ R) (hR : R ≤ 160) (hS : S ≤ 3) (hI : ScI cm O an R M S D ka) (H : GS g f' o (aup O an (iar 1100 F')) cm' M' S 9) (hN : NetN cm' R M' F') (hK : Keep cm cm' R M) (hM : M ≤ M') : LI g f' o an kp tl cm' M' S R F' D ka := by
  have e1 : tl ≠ an := fun e => by rw [e, hO] at hT; exact absurd (iar_i hT) (by decide)
  have e2 : kp ≠ an := fun e => by rw [e, hO] at hk; exact iar_k hk
  exact ⟨_, H, aup_s _ _ _, by rw [aup_n _ _ e1]; exact hT, by rw [aup_n _ _ e2]; exact hk, hN, by rw [hK.2 0 (by omega)]; exact h0, hR1, hR, hS, hI.keep hK hM fun p hp => aup_n _ _ hp⟩
/-- reading: what stays -/
theorem rdM_N {cm : CM} {cl : CL} {sh : Sh} {V : CV} {L : Int64} {M n : Nat} (H : SR cm cl sh V L M) (hn : 1 ≤ n) (hn40 : n ≤ 40) : (rdM cm cl (nI n)).1 49 0 0 = 0 ∧ (rdM cm cl (nI n)).2.2 ≤ n ∧ rdM cm cl (nI n) = rdO sh.S n (thr cm false 1, cl) ∧ ∀ k, m18 k = false → (rdM cm cl (nI n)).1 k = cm k := by
  obtain ⟨R, G, hT, -, -, -, -, -, -, e4, hS⟩ := H.tmr
  have e1 : inR (nI n) 1 40 = true := by
    refine inR_i ?_ ?_
    · rw [nI_ti (by omega), show (1 : Int32).toInt = 1 from rfl]; omega
    · rw [nI_ti (by omega), show (40 : Int32).toInt = 40 from rfl]; omega
  have e : rdM cm cl (nI n) = rdO sh.S n (thr cm false 1, cl) := by
    rw [rdM, e1, if_neg (by decide), e4, nn_nI (by omega), nn_nI (by omega)]
  obtain ⟨k1, k2, -⟩ := (H.th false 1).rdk n
  rw [e]
  exact ⟨by rw [k2]; exact thr_49f, rdO_le _ _ _, rfl, fun k hk => by rw [k1 k hk, thr_nq fun z => by subst z; exact Bool.noConfusion hk]⟩
theorem m18_keep {k : Nat} (h : k = 0 ∨ (2 ≤ k ∧ k ≤ 4) ∨ k = 6 ∨ (8 ≤ k ∧ k ≤ 13) ∨ (19 ≤ k ∧ k ≤ 25) ∨ k = 27 ∨ k = 28) : m18 k = false := by
  simp only [m18, m12, Bool.or_eq_false_iff, beq_eq_false_iff_ne]
  omega
theorem NetN.m18 {cm cm' : CM} {R M : Nat} {F : Nat → Int32} (H : NetN cm R M F) (h : ∀ k, m18 k = false → cm' k = cm k) : NetN cm' R M F := ⟨H.1.ck (fun k hk => h k (m18_keep (by omega))) fun k j h1 h2 _ => by rw [h k (m18_keep (by omega))], H.2⟩
/-- a result's rows, keys and measures as the kept net has them -/
theorem ResG.cg {cm : CM} {s R n : Nat} {gi : Nat → Nat} {T T' : Nat → Bool} {key key' mea mea' : Nat → Int32} (H : ResG cm s R n gi T key mea) (h : ∀ r, r < R → T' r = T r ∧ (T r = true → key' r = key r ∧ mea' r = mea r)) : ResG cm s R n gi T' key' mea' := by
  obtain ⟨h1, h2, h3, h4, h5, h6, h7⟩ := H
  refine ⟨h1, h2, h3, h4, fun i hi w hw => by rw [h5 i hi w hw, recF_cg R h], fun r hr hT => ?_, fun i hi => ?_⟩
  · obtain ⟨e1, e2⟩ := h r hr
    rw [e1] at hT
    obtain ⟨i, hi, e⟩ := h6 r hr hT
    exact ⟨i, hi, by rw [(e2 hT).1]; exact e⟩
  · obtain ⟨r, hr, hT, e⟩ := h7 i hi
    obtain ⟨e1, e2⟩ := h r hr
    exact ⟨r, hr, by rw [e1]; exact hT, by rw [(e2 hT).1]; exact e⟩
theorem SR.net {cm : CM} {cl : CL} {sh : Sh} {V : CV} {L : Int64} {M R s j m ts : Nat} {ky : Int32} {K : Nat → Int32} (H : SR cm cl sh V L M) (h9 : sh.F = 9) (hs : s < sh.S) (hd : ¬ cm 33 0 s = 0) (h0 : cm 0 0 0 = nI R) (hR : R ≤ 160) (hK : NetT cm R ts K) (hts : ts ≤ M) (hj : j < 9) (hm : m < 4) (hky : ky = -1 ∨ ∃ c, c < 4 ∧ ky = nI c) (h23 : cm 23 0 s = nI j) (h24 : cm 24 0 s = ky) (h25 : cm 25 0 s = nI m) (h27 : cm 27 0 s = nI ts) : (∃ n gi, ResG cm s R n gi (TL K j) (keyL K ky) (meaL K m)) ∧ FlN K ∧ ∀ r c, r < R → c < 4 → vl (K (100 + 4 * r + c)) := by
  obtain ⟨R1, G, hT, e0, -, -, hFO, e3, -⟩ := H.tmr
  have : R1 = R := nI_i (e0.symm.trans h0) (by have := hT.1; omega) (by omega)
  subst this
  have hFl := hK.fl hFO (by rw [e3, h9])
  have hM := hT.2.1
  obtain ⟨R2, n, gi, ts', j', hR2, e02, hts', -, e27, hj', e23, hG⟩ := H.res hs hd
  have : R2 = R1 := nI_i (e02.symm.trans h0) (by omega) (by omega)
  subst this
  have : j' = j := nI_i (e23.symm.trans h23) (by omega) (by omega)
  subst this
  refine ⟨⟨n, gi, hG.cg fun r hr => ⟨?_, fun _ => ⟨?_, ?_⟩⟩⟩, hFl, fun r c hr hc => by rw [hK.2.1 r c hr hc]; exact lk_vl hT _ hr hc⟩
  · rw [hK.sel hFl hr hj, loT, h27]
  · rw [tkK, keyL, h24, h27]
    rcases hky with e | ⟨c, hc, e⟩
    · rw [e, if_pos (by decide), if_pos (by decide)]
    · rw [e, if_neg (nI_pos (by omega)), if_neg (nI_pos (by omega)), nn_nI (by omega), hK.2.1 r c hr hc]
  · rw [meaK, meaL, h25, h27, nn_nI (by omega), hK.2.1 r m hr hm]

