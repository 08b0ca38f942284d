-- deps: 9t.simp
/-! all that both sides keep -/
def MoS (V : CV) (M w : Nat) (W : Nat → Nat) : Prop := V 0 7 = nI M ∧ V 0 6 = nI w ∧ ∀ c, c < 4 → V 18 c = nI (W c)
def NwS (cm : CM) (sh : Sh) (V : CV) (R M : Nat) : Prop := RwS cm sh V 1 R (nI M) ∧ sh.N 3 = 160 ∧ V 1 3 = nI (cntN (fun r => decide (cm 9 0 r = 0)) R) ∧ sh.N 17 = 960 ∧ sh.N 18 = 4
def WtS (cm : CM) (R M G w : Nat) (W : Nat → Nat) : Prop := w ≤ M ∧ (∀ c, c < 4 → W c ≤ M) ∧ (∀ k, k < G → ∃ c a, c < 4 ∧ cm 11 0 k = nI c ∧ cm 13 0 k = nI a ∧ a ≤ W c) ∧ ∀ r, r < R → (∃ a, a ≤ w ∧ cm 8 0 r = nI a) ∧ ∃ b, b ≤ w ∧ cm 9 0 r = nI b
def FhC (cm : CM) (s : Nat) : Prop := (∀ k, 29 ≤ k → k ≤ 34 → cm k 0 s = 0) ∧ (∀ p, p < 4 → cm 35 0 (4 * s + p) = 0 ∧ cm 36 0 (4 * s + p) = 0) ∧ (∀ k, k < 10 → cm 37 0 (10 * s + k) = 0) ∧ ∀ g, cm 39 s g = 0 ∧ cm 40 s g = 0 ∧ cm 41 s g = 0 ∧ cm 44 s g = 0
def FhS (cm : CM) (sh : Sh) : Prop := BOk cm ∧ (∀ k, sh.C ≤ k → k < 10 → cm 16 0 k = 0 ∧ ∀ c, c < 4 → cm 18 0 (4 * k + c) = 0) ∧ ∀ s, sh.S ≤ s → s < 40 → cm 50 0 s = 0 ∧ FhC cm s
def sumN (a : Nat → Nat) : Nat → Nat
  | 0 => 0
  | n + 1 => sumN a n + a n
def LnS (cm : CM) (cl : CL) (L : Int64) (S : Nat) : Prop := cl 46 = L ∧ ∃ a b : Nat → Nat, (∀ s, s < S → cm 29 0 s = nI (a s) ∧ cm 30 0 s = nI (b s) ∧ b s ≤ a s ∧ a s ≤ 10) ∧ cl 47 = Int64.ofNat (sumN a S) ∧ cl 48 = Int64.ofNat (sumN b S)
def TcS (cm : CM) (S M w : Nat) (W : Nat → Nat) : Prop := ∀ s, s < S → ∃ ts, ts ≤ M ∧ cm 27 0 s = nI ts ∧ b01 (cm 50 0 s) ∧ (cm 50 0 s = 0 ↔ w ≤ ts ∧ ∀ c, c < 4 → tchB cm (nI c) s = true → W c ≤ ts)
def BdI (cm : CM) (a : Nat) (v : Int32) : Prop := (v = 5000 ∧ ¬ cm 18 0 a = 0) ∨ (¬ v = 5000 ∧ ¬ cm 17 0 a = 0 ∧ (cm 14 0 a).toInt ≤ v.toInt ∧ v.toInt ≤ (cm 15 0 a).toInt)
def BsS (cm : CM) (R t : Nat) : Prop := ∀ r, r < R → aliveM cm r (nI t) = true → ∀ c, c < 4 → BdI cm (4 * (r / 16) + c) (lk cm r c (nI t))
/-- the rows that a scan has taken -/
def selT (cm : CM) (s r : Nat) : Bool := !decide (cm 37 0 (10 * s + r / 16) = 0) && loT cm s (nn (cm 23 0 s)) r
def meaK (cm : CM) (s r : Nat) : Int32 := lk cm r (nn (cm 25 0 s)) (cm 27 0 s)
def recF (T : Nat → Bool) (key mea : Nat → Int32) (k : Int32) : Nat → Nat → Int32
  | 0 => gNew (mp k)
  | r + 1 => if T r = true ∧ key r = k then gA (mp (mea r)) (recF T key mea k r) else recF T key mea k r
/-- its groups are what comes of them -/
def ClF (cm : CM) (s R : Nat) (T : Nat → Bool) (key mea : Nat → Int32) : Prop := ∃ n, n < 1000 ∧ cm 34 0 s = nI n ∧ (∀ g, g < n → ∀ w, w < 6 → rsF cm s g w = recF T key mea (cm 38 s g) R w) ∧ (∀ r, r < R → T r = true → ∃ g, g < n ∧ cm 38 s g = key r) ∧ ∀ g, g < n → ∃ r, r < R ∧ T r = true ∧ cm 38 s g = key r
def ClG (cm : CM) (s R : Nat) : Prop := ClF cm s R (selT cm s) (tkK cm s) (meaK cm s)
def OpB (cm : CM) (S R M : Nat) : Prop := ∀ s, s < S → cm 33 0 s = 0 → ∀ ts, ts ≤ M → cm 27 0 s = nI ts → BsS cm R ts
def SR (cm : CM) (cl : CL) (sh : Sh) (V : CV) (L : Int64) (M : Nat) : Prop := ∃ R G P Dn w W, RdR cm sh V R M G P Dn ∧ (P < 10 ∧ (P < sh.C ∨ P = 0) ∧ sh.S ≤ Dn + 4) ∧ MoS V M w W ∧ NwS cm sh V R M ∧ WtS cm R M G w W ∧ FhS cm sh ∧ LnS cm cl L sh.S ∧ TcS cm sh.S M w W ∧ BsS cm R M ∧ OpB cm sh.S R M ∧ ∀ s, s < sh.S → ClG cm s R
/-! they stay -/
theorem TmR.ck {cm cm' : CM} {R M G : Nat} (H : TmR cm R M G) (h : ∀ k, k ≤ 2 ∨ k = 6 ∨ (8 ≤ k ∧ k ≤ 13) → cm' k = cm k) : TmR cm' R M G := by
  rw [TmR, TmL, TmA] at H ⊢
  rw [h 0 (by omega), h 1 (by omega), h 2 (by omega), h 6 (by omega), h 8 (by omega), h 9 (by omega), h 10 (by omega), h 12 (by omega), h 13 (by omega)]
  exact H
theorem WtS.ck {cm cm' : CM} {R M G w : Nat} {W : Nat → Nat} (H : WtS cm R M G w W) (h : ∀ k, 8 ≤ k ∧ k ≤ 13 → cm' k = cm k) : WtS cm' R M G w W := by
  rw [WtS] at H ⊢
  rw [h 8 (by omega), h 9 (by omega), h 11 (by omega), h 13 (by omega)]
  exact H
theorem FhC.ck {cm cm' : CM} {s : Nat} (H : FhC cm s) (h : ∀ k, 29 ≤ k ∧ k ≤ 44 → ∀ i j, cm' k i j = cm k i j) : FhC cm' s := by
  obtain ⟨h1, h2, h3, h4⟩ := H
  refine ⟨fun k a b => by rw [h k (by omega)]; exact h1 k a b, fun p hp => by rw [h 35 (by omega), h 36 (by omega)]; exact h2 p hp, fun k hk => by rw [h 37 (by omega)]; exact h3 k hk, fun g => by rw [h 39 (by omega), h 40 (by omega), h 41 (by omega), h 44 (by omega)]; exact h4 g⟩
theorem FhS.ck {cm cm' : CM} {sh : Sh} (H : FhS cm sh) (h : ∀ k, k = 7 ∨ k = 16 ∨ k = 18 ∨ k = 50 ∨ (29 ≤ k ∧ k ≤ 44) → cm' k = cm k) : FhS cm' sh := by
  obtain ⟨h1, h2, h3⟩ := H
  refine ⟨by rw [BOk, h 7 (by omega)]; exact h1, by rw [h 16 (by omega), h 18 (by omega)]; exact h2, fun s a b => ⟨by rw [h 50 (by omega)]; exact (h3 s a b).1, (h3 s a b).2.ck fun k hk i j => by rw [h k (by omega)]⟩⟩
theorem LnS.ck {cm cm' : CM} {cl : CL} {L : Int64} {S : Nat} (H : LnS cm cl L S) (h : ∀ s, s < S → cm' 29 0 s = cm 29 0 s ∧ cm' 30 0 s = cm 30 0 s) : LnS cm' cl L S := by
  obtain ⟨h1, a, b, h2, h3⟩ := H
  exact ⟨h1, a, b, fun s hs => by rw [(h s hs).1, (h s hs).2]; exact h2 s hs, h3⟩
theorem about_ck {cm cm' : CM} (e : ∀ k, 19 ≤ k ∧ k ≤ 21 → cm' k = cm k) (col : Int32) : ∀ d f, about cm' col d f = about cm col d f := by
  intro d
  induction d with
  | zero => intro f; rfl
  | succ d ih => intro f; rw [about, about, e 19 (by omega), e 20 (by omega), e 21 (by omega), ih, ih]
theorem tchB_ck {cm cm' : CM} (e : ∀ k, (19 ≤ k ∧ k ≤ 21) ∨ (23 ≤ k ∧ k ≤ 25) → cm' k = cm k) (col : Int32) (s : Nat) : tchB cm' col s = tchB cm col s := by
  rw [tchB, tchB, e 23 (by omega), e 24 (by omega), e 25 (by omega), about_ck fun k hk => e k (by omega)]
theorem TcS.ck {cm cm' : CM} {S M w : Nat} {W : Nat → Nat} (H : TcS cm S M w W) (h : ∀ k, (19 ≤ k ∧ k ≤ 21) ∨ (23 ≤ k ∧ k ≤ 25) ∨ k = 27 ∨ k = 50 → cm' k = cm k) : TcS cm' S M w W := by
  intro s hs
  obtain ⟨ts, h1, h2, h3, h4⟩ := H s hs
  refine ⟨ts, h1, by rw [h 27 (by omega)]; exact h2, by rw [h 50 (by omega)]; exact h3, ?_⟩
  simp only [h 50 (by omega), tchB_ck (cm := cm) (cm' := cm') fun k hk => h k (by omega)]
  exact h4
theorem BsS.mono {cm cm' : CM} {R t t' : Nat} (H : BsS cm R t) (h : ∀ r, r < R → aliveM cm' r (nI t') = true → aliveM cm r (nI t) = true ∧ ∀ c, c < 4 → lk cm' r c (nI t') = lk cm r c (nI t)) (hb : ∀ a v, BdI cm a v → BdI cm' a v) : BsS cm' R t' := by
  intro r hr ha c hc
  obtain ⟨h1, h2⟩ := h r hr ha
  rw [h2 c hc]
  exact hb _ _ (H r hr h1 c hc)
theorem BdI.ck {cm cm' : CM} {a : Nat} {v : Int32} (h : ∀ k, 14 ≤ k ∧ k ≤ 18 → cm' k = cm k) (H : BdI cm a v) : BdI cm' a v := by
  rw [BdI] at H ⊢
  rw [h 14 (by omega), h 15 (by omega), h 17 (by omega), h 18 (by omega)]
  exact H
theorem OpB.mono {cm cm' : CM} {S R M M' : Nat} (H : OpB cm S R M) (hT : TmE cm cm' R M) (h : ∀ s, s < S → cm' 33 0 s = 0 → cm 33 0 s = 0) (h2 : ∀ s, s < S → cm' 27 0 s = cm 27 0 s) (hts : ∀ s, s < S → ∃ ts, ts ≤ M ∧ cm 27 0 s = nI ts) (hM : M' < 2147483648) (hM2 : M < 2147483648) (hb : ∀ a v, BdI cm a v → BdI cm' a v) : OpB cm' S R M' := by
  intro s hs h33 ts hts' h27
  rw [h2 s hs] at h27
  obtain ⟨t, ht, et⟩ := hts s hs
  have : ts = t := nI_i (h27.symm.trans et) (by omega) (by omega)
  subst this
  refine (H s hs (h s hs h33) ts ht h27).mono (fun r hr ha => ?_) hb
  rw [(hT r ts hr ht).2] at ha
  exact ⟨ha, (hT r ts hr ht).1⟩
theorem recF_cg {T T' : Nat → Bool} {key key' mea mea' : Nat → Int32} {k : Int32} : ∀ R, (∀ r, r < R → T' r = T r ∧ (T r = true → key' r = key r ∧ mea' r = mea r)) → recF T' key' mea' k R = recF T key mea k R
  | 0, _ => rfl
  | R + 1, h => by
    obtain ⟨h1, h2⟩ := h R (by omega)
    rw [recF, recF, recF_cg R fun r hr => h r (by omega), h1]
    by_cases hT : T R = true
    · rw [(h2 hT).1, (h2 hT).2]
    · rw [if_neg (fun q => hT q.1), if_neg (fun q => hT q.1)]
theorem recF_more {T : Nat → Bool} {key mea : Nat → Int32} {k : Int32} {R : Nat} : ∀ n, (∀ r, R ≤ r → r < R + n → T r = false) → recF T key mea k (R + n) = recF T key mea k R
  | 0, _ => rfl
  | n + 1, h => by
    rw [← Nat.add_assoc, recF, if_neg (fun q => by have := h (R + n) (by omega) (by omega); rw [this] at q; exact Bool.noConfusion q.1), recF_more n fun r h1 h2 => h r h1 (by omega)]
theorem ClG.ck {cm cm' : CM} {sh : Sh} {V : CV} {s R R' M ts : Nat} (H : ClG cm s R) (h : ScE s cm cm') (hF : FR cm sh V) (e : ∀ k j, 19 ≤ k → k ≤ 21 → j < sh.F → cm' k 0 j = cm k 0 j) (hj : ∃ j, j < sh.F ∧ cm 23 0 s = nI j) (hk : cm 24 0 s = -1 ∨ ∃ c, c < 4 ∧ cm 24 0 s = nI c) (hm : ∃ c, c < 4 ∧ cm 25 0 s = nI c)
    (h27 : cm 27 0 s = nI ts) (hts : ts ≤ M) (h160 : R ≤ 160) (hT : TmE cm cm' R M) (hR : R ≤ R') (hd : ∀ r t, R ≤ r → r < R' → t ≤ M → aliveM cm' r (nI t) = false) : ClG cm' s R' := by
  obtain ⟨j, hj, ej⟩ := hj
  obtain ⟨m, hm, em⟩ := hm
  have hF30 := hF.2.1
  have e0 : ∀ k, 23 ≤ k → k ≤ 34 → cm' k 0 s = cm k 0 s := fun k h1 h2 => h k 0 s (by rw [scn]; omega)
  have e38 : ∀ k, 38 ≤ k → k ≤ 43 → cm' k s = cm k s := fun k h1 h2 => funext fun j => h k s j (by rw [scn]; omega)
  have er : ∀ g w, rsF cm' s g w = rsF cm s g w := fun g w => rsF_cg (by rw [e38 38 (by omega) (by omega)]) (by rw [e38 39 (by omega) (by omega)]) (by rw [e38 40 (by omega) (by omega)]) (by rw [e38 41 (by omega) (by omega)]) (by rw [e38 42 (by omega) (by omega)]) (by rw [e38 43 (by omega) (by omega)]) w
  have hS : ∀ r, r < R → selT cm' s r = selT cm s r ∧ tkK cm' s r = tkK cm s r ∧ meaK cm' s r = meaK cm s r := by
    intro r hr
    obtain ⟨l1, l2⟩ := hT r ts hr hts
    refine ⟨?_, ?_, ?_⟩
    · rw [selT, selT, loT, loT]
      rw [h 37 0 (10 * s + r / 16) (by rw [scn]; omega), e0 23 (by omega) (by omega), e0 27 (by omega) (by omega), h27, l2, ej, nn_nI (by omega), trF_j (cm' := cm') (t' := nI ts) hF e 30 j hj fun c hc _ => l1 c hc]
    · rw [tkK, tkK, e0 24 (by omega) (by omega), e0 27 (by omega) (by omega), h27]
      rcases hk with hk | ⟨c, hc, ec⟩
      · rw [hk, if_pos (by decide), if_pos (by decide)]
      · rw [ec, nn_nI (by omega), l1 c hc]
    · rw [meaK, meaK, e0 25 (by omega) (by omega), e0 27 (by omega) (by omega), h27, em, nn_nI (by omega), l1 m hm]
  have hN : ∀ r, R ≤ r → r < R' → selT cm' s r = false := by
    intro r h1 h2
    rw [selT, loT, e0 27 (by omega) (by omega), h27, hd r ts h1 h2 hts, Bool.false_and, Bool.and_false]
  obtain ⟨n, h0, h1, h2, h3, h4⟩ := H
  refine ⟨n, h0, by rw [e0 34 (by omega) (by omega)]; exact h1, fun g hg w hw => ?_, fun r hr hs => ?_, fun g hg => ?_⟩
  · have := recF_more (T := selT cm' s) (key := tkK cm' s) (mea := meaK cm' s) (k := cm' 38 s g) (R := R) (R' - R) fun r a b => hN r a (by omega)
    rw [show R + (R' - R) = R' by omega] at this
    rw [this, er, h2 g hg w hw, e38 38 (by omega) (by omega), recF_cg R fun r hr => ⟨(hS r hr).1, fun _ => (hS r hr).2⟩]
  · by_cases hrR : r < R
    · obtain ⟨q1, q2, -⟩ := hS r hrR
      rw [q1] at hs
      rw [e38 38 (by omega) (by omega), q2]
      exact h3 r hrR hs
    · rw [hN r (by omega) hr] at hs; exact Bool.noConfusion hs
  · obtain ⟨r, hr, a, b⟩ := h4 g hg
    obtain ⟨q1, q2, -⟩ := hS r hr
    exact ⟨r, by omega, by rw [q1]; exact a, by rw [q2, e38 38 (by omega) (by omega)]; exact b⟩


