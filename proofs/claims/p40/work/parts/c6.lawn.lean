-- deps: c5.lawp
/-! ===== nets: what the law writes down, and the document's values ===== -/
/-- a net says how the rows were at a moment, and which filters there are -/
def NetT (cm : CM) (R t : Nat) (F : Nat → Int32) : Prop := F 0 = nI R ∧ (∀ r c, r < R → c < 4 → F (100 + 4 * r + c) = lk cm r c (nI t)) ∧ (∀ r, r < R → F (800 + r) = if aliveM cm r (nI t) = true then 0 else 1) ∧ ∀ j, j < 9 → F (1000 + 3 * j) = cm 19 0 j ∧ F (1000 + 3 * j + 1) = cm 20 0 j ∧ (¬ cm 19 0 j = 110 → F (1000 + 3 * j + 2) = cm 21 0 j)
/-- the net of now -/
def NetN (cm : CM) (R M : Nat) (F : Nat → Int32) : Prop := NetT cm R M F ∧ F 1 = nI M ∧ F 2 = nI 9 ∧ ∀ r, R ≤ r → r < 160 → F (800 + r) = 0
theorem lk_ck {cm cm' : CM} (h : ∀ k, k = 2 ∨ k = 6 ∨ (10 ≤ k ∧ k ≤ 13) → cm' k = cm k) (r c : Nat) (t : Int32) : lk cm' r c t = lk cm r c t := by
  rw [lk, lk, h 2 (by omega)]
  exact lkup_cg (by rw [h 6 (by omega)]) _ fun k _ => ⟨by rw [h 10 (by omega)], by rw [h 11 (by omega)], by rw [h 12 (by omega)], by rw [h 13 (by omega)]⟩
theorem NetT.ck {cm cm' : CM} {R t : Nat} {F : Nat → Int32} (H : NetT cm R t F) (h : ∀ k, k = 2 ∨ k = 6 ∨ (8 ≤ k ∧ k ≤ 13) → cm' k = cm k) (e : ∀ k j, 19 ≤ k → k ≤ 21 → j < 9 → cm' k 0 j = cm k 0 j) : NetT cm' R t F := by
  obtain ⟨h1, h2, h3, h4⟩ := H
  refine ⟨h1, fun r c hr hc => by rw [h2 r c hr hc, lk_ck fun k hk => h k (by omega)], fun r hr => by rw [h3 r hr, aliveM, aliveM, h 8 (by omega), h 9 (by omega)], fun j hj => ?_⟩
  rw [e 19 j (by omega) (by omega) hj, e 20 j (by omega) (by omega) hj, e 21 j (by omega) (by omega) hj]
  exact h4 j hj
theorem NetT.tm {cm cm' : CM} {R t M : Nat} {F : Nat → Int32} (H : NetT cm R t F) (h : TmE cm cm' R M) (ht : t ≤ M) (e : ∀ k j, 19 ≤ k → k ≤ 21 → j < 9 → cm' k 0 j = cm k 0 j) : NetT cm' R t F := by
  obtain ⟨h1, h2, h3, h4⟩ := H
  refine ⟨h1, fun r c hr hc => by rw [h2 r c hr hc, (h r t hr ht).1 c hc], fun r hr => by rw [h3 r hr, (h r t hr ht).2], fun j hj => ?_⟩
  rw [e 19 j (by omega) (by omega) hj, e 20 j (by omega) (by omega) hj, e 21 j (by omega) (by omega) hj]
  exact h4 j hj
theorem NetT.fl {cm : CM} {R t : Nat} {F : Nat → Int32} (H : NetT cm R t F) (hF : FOk cm) (h3 : cm 3 0 0 = nI 9) : FlN F := by
  intro j hj
  obtain ⟨a, b, c⟩ := H.2.2.2 j hj
  obtain ⟨k1, k2⟩ := hF.2 j (by rw [h3, nn_nI (by omega)]; exact hj)
  rw [a, b]
  exact ⟨fun hJ => ⟨(k1 hJ).1, fun hn => by rw [c hn]; exact (k1 hJ).2 hn⟩, k2⟩
/-! truth, both ways -/
def tauI (x : Int32) : Int32 := if x = 1 then 2 else if x = 2 then 0 else 1
theorem tv_not {x : Int32} (h : tv x) : tv (notI x) ∧ 2 - tauI x = tauI (notI x) := by
  rcases h with rfl | rfl | rfl <;> exact ⟨by unfold tv; decide, by decide⟩
theorem tv_both {x y : Int32} (hx : tv x) (hy : tv y) : tv (bothI x y) ∧ imin (tauI x) (tauI y) = tauI (bothI x y) := by
  rcases hx with rfl | rfl | rfl <;> rcases hy with rfl | rfl | rfl <;> exact ⟨by unfold tv; decide, by decide⟩
theorem tv_or {x y : Int32} (hx : tv x) (hy : tv y) : tv (notI (bothI (notI x) (notI y))) ∧ imax (tauI x) (tauI y) = tauI (notI (bothI (notI x) (notI y))) := by
  rcases hx with rfl | rfl | rfl <;> rcases hy with rfl | rfl | rfl <;> exact ⟨by unfold tv; decide, by decide⟩
theorem tau_2 {x : Int32} (h : tv x) : tauI x = 2 ↔ x = 1 := by
  rcases h with rfl | rfl | rfl <;> decide
theorem NetT.tr {cm : CM} {R t : Nat} {F : Nat → Int32} (H : NetT cm R t F) (hF : FlN F) {r : Nat} (hr : r < R) : ∀ d j, j < 9 → j < d → tv (trF cm r (nI t) d j) ∧ trL F r d j = tauI (trF cm r (nI t) d j) := by
  intro d
  induction d with
  | zero => intro j _ h; omega
  | succ d ih =>
    intro j hj9 hjd
    obtain ⟨a, b, c⟩ := H.2.2.2 j hj9
    obtain ⟨k1, k2⟩ := hF j hj9
    rw [trL, trF, a, b]
    rw [a, b] at k1 k2
    cases hJ : isJ (cm 19 0 j)
    · obtain ⟨q, hq, e20⟩ := k2 hJ
      simp only [isJ, Bool.or_eq_false_iff, decide_eq_false_iff_not] at hJ
      obtain ⟨⟨c97, c111⟩, c110⟩ := hJ
      rw [if_neg c110, if_neg c97, if_neg c111, if_neg c110, if_neg c97, if_neg c111, e20, nn_nI (by omega), H.2.1 r q hr hq, c c110]
      by_cases h1 : cm 19 0 j = 109
      · rw [if_pos h1, if_pos h1]
        by_cases h2 : lk cm r q (nI t) = 5000
        · rw [if_pos h2, if_pos h2]; exact ⟨.inl rfl, by decide⟩
        · rw [if_neg h2, if_neg h2]; exact ⟨.inr (.inl rfl), by decide⟩
      · rw [if_neg h1, if_neg h1]
        by_cases h2 : lk cm r q (nI t) = 5000
        · rw [if_pos h2, if_pos h2]; exact ⟨.inr (.inr rfl), by decide⟩
        · rw [if_neg h2, if_neg h2]
          cases fulB (cm 19 0 j) (lk cm r q (nI t)) (cm 21 0 j)
          · rw [if_neg (by decide), if_neg (by decide)]; exact ⟨.inr (.inl rfl), by decide⟩
          · rw [if_pos rfl, if_pos rfl]; exact ⟨.inl rfl, by decide⟩
    · obtain ⟨m, hm, e20⟩ := (k1 hJ).1
      obtain ⟨t1, t2⟩ := ih m (by omega) (by omega)
      by_cases c110 : cm 19 0 j = 110
      · rw [if_pos c110, if_pos c110, e20, nn_nI (by omega), t2]
        exact tv_not t1
      · obtain ⟨m2, hm2, e21⟩ := (k1 hJ).2 c110
        have e21' : cm 21 0 j = nI m2 := (c c110).symm.trans e21
        obtain ⟨t3, t4⟩ := ih m2 (by omega) (by omega)
        by_cases c97 : cm 19 0 j = 97
        · rw [if_neg c110, if_pos c97, if_neg c110, if_pos c97, e20, e21, e21', nn_nI (by omega), nn_nI (by omega), t2, t4]
          exact tv_both t1 t3
        · have c111 : cm 19 0 j = 111 := by simp [isJ, c97, c110] at hJ; exact hJ
          rw [if_neg c110, if_neg c97, if_pos c111, if_neg c110, if_neg c97, if_pos c111, e20, e21, e21', nn_nI (by omega), nn_nI (by omega), t2, t4]
          exact tv_or t1 t3
/-! which rows a net chooses, with which key and measure -/
def TL (F : Nat → Int32) (j r : Nat) : Bool := decide (F (800 + r) = 0) && decide (trL F r 30 j = 2)
def keyL (F : Nat → Int32) (k : Int32) (r : Nat) : Int32 := if k < 0 then 0 else F (100 + 4 * r + nn k)
def meaL (F : Nat → Int32) (m : Nat) (r : Nat) : Int32 := F (100 + 4 * r + m)
theorem NetT.sel {cm : CM} {R t : Nat} {F : Nat → Int32} (H : NetT cm R t F) (hF : FlN F) {r j : Nat} (hr : r < R) (hj : j < 9) : TL F j r = (aliveM cm r (nI t) && decide (trF cm r (nI t) 30 j = 1)) := by
  obtain ⟨h1, h2⟩ := H.tr hF hr 30 j hj (by omega)
  have h3 : (F (800 + r) = 0) ↔ aliveM cm r (nI t) = true := by
    rw [H.2.2.1 r hr]
    by_cases e : aliveM cm r (nI t) = true
    · rw [if_pos e]; exact ⟨fun _ => e, fun _ => rfl⟩
    · rw [if_neg e]; exact ⟨fun q => absurd q (by decide), fun q => absurd q e⟩
  have h4 := tau_2 h1
  rw [TL, h2, Bool.eq_iff_iff, Bool.and_eq_true, Bool.and_eq_true, decide_eq_true_eq, decide_eq_true_eq, decide_eq_true_eq, h3, h4]
/-! what a result of a finished scan shows -/
/-- groups: n of them, in the order of their keys; gi names them -/
def ResG (cm : CM) (s R n : Nat) (gi : Nat → Nat) (T : Nat → Bool) (key mea : Nat → Int32) : Prop :=
  n ≤ 160 ∧ cm 34 0 s = nI n ∧ (∀ i, i < n → gi i < n ∧ cm 51 s i = nI (gi i) ∧ vl (cm 38 s (gi i))) ∧ (∀ i h, i < h → h < n → mp (cm 38 s (gi i)) < mp (cm 38 s (gi h))) ∧ (∀ i, i < n → ∀ w, w < 6 → rsF cm s (gi i) w = recF T key mea (cm 38 s (gi i)) R w) ∧ (∀ r, r < R → T r = true → ∃ i, i < n ∧ cm 38 s (gi i) = key r) ∧ ∀ i, i < n → ∃ r, r < R ∧ T r = true ∧ cm 38 s (gi i) = key r
theorem cnt_full {p : Nat → Bool} : ∀ n, cntN p n = n → ∀ i, i < n → p i = true
  | 0, _, i, hi => absurd hi (Nat.not_lt_zero _)
  | n + 1, h, i, hi => by
    rw [cntN] at h
    have hl := cntN_le p n
    cases hp : p n
    · rw [hp, if_neg (by decide)] at h; omega
    · rw [hp, if_pos rfl] at h
      rcases Nat.lt_succ_iff_lt_or_eq.mp hi with h1 | h1
      · exact cnt_full n (by omega) i h1
      · rw [h1]; exact hp
theorem SR.res {cm : CM} {cl : CL} {sh : Sh} {V : CV} {L : Int64} {M : Nat} (H : SR cm cl sh V L M) {s : Nat} (hs : s < sh.S) (hd : ¬ cm 33 0 s = 0) : ∃ R n gi ts j, R ≤ 160 ∧ cm 0 0 0 = nI R ∧ ts ≤ M ∧ M ≤ 1000 ∧ cm 27 0 s = nI ts ∧ j < sh.F ∧ cm 23 0 s = nI j ∧ ResG cm s R n gi (loT cm s j) (tkK cm s) (meaK cm s) := by
  obtain ⟨R, G, P, Dn, w, W, hRd, hP, hMo, hNw, hWt, hFh, hLn, hTc, hBs, hOp, hCl⟩ := H
  obtain ⟨hT, hF, hFs, hL14, hL4, hCe, hCk, hz, e5, v8, e4, hS, e45, v10, hDn, hSc⟩ := hRd
  obtain ⟨hR, hM, hG, h0, h1, h2, hTL, hTA⟩ := hT
  have hF30 := hF.2.1
  have hC10 : sh.C ≤ 10 := by omega
  obtain ⟨j, ns, ts, x, y, H1, hts, hx2, ⟨⟨x1, x2, x3, x4, x5⟩, n, h, gk, mm⟩, h5, h6⟩ := hSc s hs
  obtain ⟨a1, a2, a3, a4, a5, a6, a7, a8, a9, b1, b2, b3, b4, b5, b6, b7⟩ := H1
  have hns : pas x (fun r => aliveM cm r (nI ts)) ns ≤ ns := cntN_le _ ns
  obtain ⟨hK, h34, hV, hn, hq, -⟩ := gk
  rcases h5 with ⟨a, -⟩ | ⟨d, m, -, hm, -, -, e34, hO⟩
  · exact absurd a hd
  have em : m = n := nI_i (e34.symm.trans h34) (by omega) (by omega)
  subst em
  -- all chunks are looked at
  have hfull : pc10 x = (ns + 15) / 16 := Classical.byContradiction fun q => hd (h6.mpr q)
  have hbit : ∀ k, k < (ns + 15) / 16 → x.testBit k = true := by
    have hz : ∀ k, (ns + 15) / 16 ≤ k → x.testBit k = false := fun k hk => Nat.testBit_lt_two_pow (Nat.lt_of_lt_of_le hx2 (Nat.pow_le_pow_right (by decide) hk))
    have e : cntN (fun k => x.testBit k) ((ns + 15) / 16) = (ns + 15) / 16 := by
      rw [pc10, show 10 = (ns + 15) / 16 + (10 - (ns + 15) / 16) by omega, cntN_add, cntN_0 (10 - (ns + 15) / 16) fun i _ => hz _ (by omega)] at hfull
      omega
    exact cnt_full _ e
  have hsel : ∀ r, r < R → selT cm s r = loT cm s j r := by
    intro r hr
    rw [selT, a3, nn_nI (by omega)]
    by_cases hrn : r < ns
    · rw [x3 (r / 16) (by omega), hbit (r / 16) (by omega), if_pos rfl, decide_eq_false (by decide)]; rfl
    · rw [loT, a9, b5 r (by omega) hr, Bool.false_and, Bool.and_false]
  obtain ⟨n', hn', q1, q2, q3, q4⟩ := hCl s hs
  have en : n' = m := nI_i (q1.symm.trans h34) (by omega) (by omega)
  subst en
  have hky := hK.ky
  have hex : ∀ i, ∃ g, i < n' → g < n' ∧ atF (cm 38 s) (cm 38 s g) n' = i := fun i => by
    by_cases hi : i < n'
    · obtain ⟨g, hg, e⟩ := hK.2.2.1 i hi
      exact ⟨g, fun _ => ⟨hg, e⟩⟩
    · exact ⟨0, fun h => absurd h hi⟩
  obtain ⟨gi, hgi⟩ := Classical.axiomOfChoice hex
  have hgi : ∀ i, i < n' → gi i < n' ∧ atF (cm 38 s) (cm 38 s (gi i)) n' = i := hgi
  refine ⟨R, n', gi, ts, j, hR, h0, hts, hM, a9, a1, a3, by omega, h34, fun i hi => ⟨(hgi i hi).1, ?_, hK.1 _ (hgi i hi).1⟩, fun i h hih hh => ?_, fun i hi w hw => ?_, fun r hr hT => ?_, fun i hi => ?_⟩
  · have := hO (gi i) (hgi i hi).1
    rw [(hgi i hi).2] at this
    exact this
  · have e1 := hky.low (hK.1 _ (hgi h hh).1) i (by rw [(hgi h hh).2]; exact hih)
    have e2 := hky.2.2.2 _ (hgi i (by omega)).1
    rw [(hgi i (by omega)).2] at e2
    rw [e2] at e1
    exact e1
  · rw [q2 _ (hgi i hi).1 w hw]
    exact congrFun (recF_cg R fun r hr => ⟨hsel r hr, fun _ => ⟨rfl, rfl⟩⟩) w
  · obtain ⟨g, hg, e⟩ := q3 r hr (by rw [hsel r hr]; exact hT)
    have hlt : atF (cm 38 s) (cm 38 s g) n' < n' := atF_ltn (g := g) (fun e => Int32.lt_irrefl e) n' hg
    refine ⟨atF (cm 38 s) (cm 38 s g) n', hlt, ?_⟩
    obtain ⟨u1, u2⟩ := hgi _ hlt
    rw [← e]
    refine (mp_inj (hK.1 _ u1) (hK.1 _ hg)).mp ?_
    rw [← hky.2.2.2 _ u1, ← hky.2.2.2 _ hg, u2]
  · obtain ⟨r, hr, a, b⟩ := q4 (gi i) (hgi i hi).1
    exact ⟨r, hr, by rw [← hsel r hr]; exact a, b⟩

