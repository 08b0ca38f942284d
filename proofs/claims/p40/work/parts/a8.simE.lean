-- deps: a7.simD 77.gpe
/-! the same keys and the same figures make the same cells -/
theorem pig : ∀ (n m : Nat) (f : Nat → Nat), (∀ i, i < n → f i < m) → (∀ i j, i < n → j < n → f i = f j → i = j) → n ≤ m
  | 0, _, _, _, _ => Nat.zero_le _
  | n + 1, 0, f, h, _ => absurd (h n (by omega)) (by omega)
  | n + 1, m + 1, f, h, hi => by
    refine Nat.succ_le_succ (pig n m (fun i => if f i = m then f n else f i) (fun i hin => ?_) fun i j hin hjn he => ?_)
    · show (if f i = m then f n else f i) < m
      have h1 := h i (by omega)
      have h2 := h n (by omega)
      split
      · rename_i e
        have : ¬ f n = m := fun e2 => by have := hi i n (by omega) (by omega) (e.trans e2.symm); omega
        omega
      · omega
    · have he' : (if f i = m then f n else f i) = (if f j = m then f n else f j) := he
      by_cases e1 : f i = m
      · by_cases e2 : f j = m
        · exact hi i j (by omega) (by omega) (e1.trans e2.symm)
        · rw [if_pos e1, if_neg e2] at he'
          have := hi n j (by omega) (by omega) he'
          omega
      · by_cases e2 : f j = m
        · rw [if_neg e1, if_pos e2] at he'
          have := hi i n (by omega) (by omega) he'
          omega
        · rw [if_neg e1, if_neg e2] at he'
          exact hi i j (by omega) (by omega) he'
theorem KrS.sub {K K' c c' : Nat → Int32} {rs rs' : Nat → Nat → Int32} {n n' : Nat} (H : KrS K c rs n) (H' : KrS K' c' rs' n') (h1 : ∀ g, g < n → ∃ h, h < n' ∧ K' h = K g) : n ≤ n' ∧ ∀ x, atF K x n ≤ atF K' x n' := by
  have hf : ∀ g, ∃ h, g < n → h < n' ∧ K' h = K g := fun g => by
    by_cases hg : g < n
    · obtain ⟨h, a⟩ := h1 g hg
      exact ⟨h, fun _ => a⟩
    · exact ⟨0, fun q => absurd q hg⟩
  obtain ⟨f, hf⟩ := Classical.axiomOfChoice hf
  have hp : ∀ i, ∃ g, i < n → g < n ∧ atF K (K g) n = i := fun i => by
    by_cases hi : i < n
    · obtain ⟨g, a⟩ := H.2.2.1 i hi
      exact ⟨g, fun _ => a⟩
    · exact ⟨0, fun q => absurd q hi⟩
  obtain ⟨p, hp⟩ := Classical.axiomOfChoice hp
  refine ⟨pig n n' f (fun g hg => (hf g hg).1) fun g h hg hh e => ?_, fun x => ?_⟩
  · refine H.2.1 g h hg hh ?_
    rw [← (hf g hg).2, ← (hf h hh).2, e]
  · have hle := atF_le K x n
    refine pig _ _ (fun i => atF K' (K (p i)) n') (fun i hi => ?_) fun i j hi hj e => ?_
    · obtain ⟨a1, a2⟩ := hp i (by omega)
      obtain ⟨b1, b2⟩ := hf (p i) a1
      have hlt : rkI (K (p i)) < rkI x := by
        refine Classical.byContradiction fun q => ?_
        have := atF_mono (v := K) (i32_nlt.mp q) n
        omega
      show atF K' (K (p i)) n' < atF K' x n'
      refine atF_str (g := f (p i)) ?_ ?_ n' b1
      · rw [b2]; exact Int32.le_refl _
      · rw [b2]; exact hlt
    · have e' : atF K' (K (p i)) n' = atF K' (K (p j)) n' := e
      obtain ⟨a1, a2⟩ := hp i (by omega)
      obtain ⟨b1, b2⟩ := hf (p i) a1
      obtain ⟨c1, c2⟩ := hp j (by omega)
      obtain ⟨d1, d2⟩ := hf (p j) c1
      have hh : f (p i) = f (p j) := by
        refine Classical.byContradiction fun q => H'.inj d1 b1 q ?_
        rw [b2, d2, e']
      have : K (p i) = K (p j) := by rw [← b2, ← d2, hh]
      rw [← a2, ← c2, this]
theorem KrS.uniq {K K' c c' : Nat → Int32} {rs rs' : Nat → Nat → Int32} {n n' : Nat} (H : KrS K c rs n) (H' : KrS K' c' rs' n') (h1 : ∀ g, g < n → ∃ h, h < n' ∧ K' h = K g) (h2 : ∀ h, h < n' → ∃ g, g < n ∧ K g = K' h) (hr : ∀ g h, g < n → h < n' → K' h = K g → ∀ w, w < 6 → rs' h w = rs g w) : n = n' ∧ ∀ i, i < n → ∀ w, w < 6 → c' (6 * i + w) = c (6 * i + w) := by
  obtain ⟨a1, a2⟩ := H.sub H' h1
  obtain ⟨b1, b2⟩ := H'.sub H h2
  refine ⟨by omega, fun i hi w hw => ?_⟩
  obtain ⟨g, hg, eg⟩ := H.2.2.1 i hi
  obtain ⟨h, hh, eh⟩ := h1 g hg
  have e : atF K' (K' h) n' = i := by
    have := a2 (K g)
    have := b2 (K g)
    rw [eh]; omega
  have q1 := H.2.2.2.2 g hg w hw
  have q2 := H'.2.2.2.2 h hh w hw
  rw [eg] at q1
  rw [e] at q2
  rw [q1, q2]
  exact hr g h hg hh eh w hw
/-! a result is counted anew, in the order of the rows -/
def CgS (V : CV) (o : Nat) (T : Nat → Bool) (key mea : Nat → Int32) (r : Nat) : Prop := ∃ K n, n ≤ r ∧ KrS K (V (o + 1)) (fun g w => recF T key mea (K g) r w) n ∧ V o 1 = nI n ∧ (∀ q, q < r → T q = true → ∃ g, g < n ∧ K g = key q) ∧ ∀ g, g < n → ∃ q, q < r ∧ T q = true ∧ K g = key q
theorem CgS.no {V W : CV} {o r : Nat} {T : Nat → Bool} {key mea : Nat → Int32} (H : CgS V o T key mea r) (hT : T r = false) (h : W o = V o) (h1 : W (o + 1) = V (o + 1)) : CgS W o T key mea (r + 1) := by
  obtain ⟨K, n, hn, hK, h2, h3, h4⟩ := H
  have er : (fun g w => recF T key mea (K g) (r + 1) w) = (fun g w => recF T key mea (K g) r w) := by
    funext g w
    rw [recF, if_neg (fun q => by rw [hT] at q; exact Bool.noConfusion q.1)]
  refine ⟨K, n, by omega, by rw [h1, er]; exact hK, by rw [h]; exact h2, fun q hq ht => ?_, fun g hg => ?_⟩
  · by_cases e : q = r
    · rw [e, hT] at ht; exact Bool.noConfusion ht
    · exact h3 q (by omega) ht
  · obtain ⟨q, hq, a⟩ := h4 g hg
    exact ⟨q, by omega, a⟩
theorem CgS.row {V W : CV} {o r : Nat} {T : Nat → Bool} {key mea : Nat → Int32} (H : CgS V o T key mea r) (hr : r < 900) (hT : T r = true) (hk : vl (key r)) (h : W o = V o) (h1 : W (o + 1) = V (o + 1)) : CgS (grT W o (mp (key r)) (mp (mea r))) o T key mea (r + 1) := by
  obtain ⟨K, n, hn, hK, h2, h3, h4⟩ := H
  have w1 : W o 1 = nI n := by rw [h]; exact h2
  rw [← h1] at hK
  have hX : gpX W o (mp (key r)) = atF K (key r) n := by
    rw [gpX, w1, nn_nI (by omega)]
    exact hK.ky.gpl hk
  have hH : gHas W o (mp (key r)) = true ↔ ∃ g, g < n ∧ K g = key r := by
    rw [gHas, hX, w1, nn_nI (by omega), Bool.and_eq_true, decide_eq_true_eq, decide_eq_true_eq]
    exact hK.ky.has hk
  by_cases hex : ∃ g, g < n ∧ K g = key r
  · have hh := hH.mpr hex
    obtain ⟨g, hg, eg⟩ := hex
    have eT : grT W o (mp (key r)) (mp (mea r)) = grA W o (atF K (K g) n) (mp (mea r)) := by
      rw [grT, hh, if_pos rfl, hX, eg]
    rw [eT]
    refine ⟨K, n, by omega, ?_, by rw [grA_o (by omega)]; exact w1, fun q hq ht => ?_, fun g' hg' => ?_⟩
    · refine hK.one (m := mp (mea r)) hg (fun j w hw hj => ?_) (fun w hw => ?_) fun q hq hne w hw => ?_
      · rw [grA_c hw]
      · show recF T key mea (K g) (r + 1) w = _
        rw [recF, if_pos ⟨hT, eg.symm⟩]
      · show recF T key mea (K q) (r + 1) w = _
        rw [recF, if_neg (fun e => hne (hK.2.1 q g hq hg (by rw [eg, e.2])))]
    · by_cases e : q = r
      · rw [e]; exact ⟨g, hg, eg⟩
      · exact h3 q (by omega) ht
    · obtain ⟨q, hq, a⟩ := h4 g' hg'
      exact ⟨q, by omega, a⟩
  · have hno : ∀ g, g < n → ¬ K g = key r := fun g hg e => hex ⟨g, hg, e⟩
    have hh : gHas W o (mp (key r)) = false := Bool.eq_false_iff.mpr fun q => hex (hH.mp q)
    have eT : grT W o (mp (key r)) (mp (mea r)) = grA (grI W o (atF K (key r) n) (mp (key r))) o (atF K (key r) n) (mp (mea r)) := by
      rw [grT, hh, if_neg (by decide), hX]
    have hle := atF_le K (key r) n
    rw [eT]
    refine ⟨upd K n (key r), n + 1, by omega, ?_, ?_, fun q hq ht => ?_, fun g' hg' => ?_⟩
    · refine hK.ins (m := mp (mea r)) hk hno (fun j w hw hj => ?_) (fun w hw => ?_) fun q hq w hw => ?_
      · rw [grA_c hw]
        by_cases e : j = atF K (key r) n
        · rw [if_pos e, if_pos e]
          exact gA_cg (fun w hw => by rw [grI_c w1 (by omega) hle hw hle, if_pos rfl]) hw
        · rw [if_neg e, if_neg e, grI_c w1 (by omega) hle hw hj, if_neg e]
      · show recF T key mea (upd K n (key r) n) (r + 1) w = _
        rw [upd_s, recF, if_pos ⟨hT, rfl⟩, recF_none r fun q hq ht e => ?_]
        obtain ⟨g, hg, eg⟩ := h3 q hq ht
        exact hno g hg (by rw [eg, e])
      · show recF T key mea (upd K n (key r) q) (r + 1) w = recF T key mea (K q) r w
        rw [upd_n _ _ (by omega), recF, if_neg (fun e => hno q hq e.2.symm)]
    · rw [grA_o (by omega), grI_s, upd_s, w1, show (1 : Int32) = nI 1 from rfl, nI_add]
    · by_cases e : q = r
      · rw [e]; exact ⟨n, by omega, upd_s _ _ _⟩
      · obtain ⟨g, hg, eg⟩ := h3 q (by omega) ht
        exact ⟨g, by omega, by rw [upd_n _ _ (by omega)]; exact eg⟩
    · by_cases e : g' = n
      · rw [e]; exact ⟨r, by omega, hT, upd_s _ _ _⟩
      · obtain ⟨q, hq, a, b⟩ := h4 g' (by omega)
        exact ⟨q, by omega, a, by rw [upd_n _ _ e]; exact b⟩
def nowT (cm : CM) (M j r : Nat) : Bool := decide (cm 9 0 r = 0) && decide (trF cm r (nI M) 30 j = 1)
def nowK (cm : CM) (M s r : Nat) : Int32 := if cm 24 0 s < 0 then 0 else lk cm r (nn (cm 24 0 s)) (nI M)
def nowM (cm : CM) (M s r : Nat) : Int32 := lk cm r (nn (cm 25 0 s)) (nI M)
theorem rc_eq {cm : CM} {sh : Sh} {V : CV} {R M G P Dn s j : Nat} (hRd : RdR cm sh V R M G P Dn) (hW : RwS cm sh V 1 R (nI M)) (hs : s < sh.S) (hj : j < sh.F) : ∀ r, r ≤ R → CgS (rcT sh V (400 + 20 * s) j r) 16 (nowT cm M j) (nowK cm M s) (nowM cm M s) r := by
  obtain ⟨j', ts, -, -, k1, k2, -⟩ := hRd.sc hs
  obtain ⟨hT, hF, -, -, -, -, -, -, -, -, -, -, -, -, -, hSc⟩ := hRd
  obtain ⟨-, -, -, -, -, ⟨-, -, -, v1, -, v2, -⟩, -⟩ := hSc s hs
  have hR := hT.1
  have hF30 := hF.2.1
  intro r
  induction r with
  | zero =>
    intro _
    refine ⟨fun _ => 0, 0, Nat.le_refl _, ⟨fun g h => by omega, fun g h a => by omega, fun g h => by omega, fun g h => by omega, fun g h => by omega⟩, ?_, fun q h => by omega, fun g h => by omega⟩
    rw [rcT, c2_e]; rfl
  | succ r ih =>
    intro hr
    have ih := ih (by omega)
    have hn := fun i h0 h1 h2 h3 h4 h5 => rcT_n (sh := sh) (V := V) (q := 400 + 20 * s) (j := j) (i := i) h0 h1 h2 h3 h4 h5 r
    have hF2 : FR cm sh (rcT sh V (400 + 20 * s) j r) := hF.cg fun i h1 h2 => hn i (by omega) (by omega) (by omega) (by omega) (by omega) (by omega)
    have hW2 : RwS cm sh (rcT sh V (400 + 20 * s) j r) 1 R (nI M) := hW.cg (hn 1 (by omega) (by omega) (by omega) (by omega) (by omega) (by omega)) (hn 2 (by omega) (by omega) (by omega) (by omega) (by omega) (by omega)) (hn 3 (by omega) (by omega) (by omega) (by omega) (by omega) (by omega))
    have hq := hn (400 + 20 * s) (by omega) (by omega) (by omega) (by omega) (by omega) (by omega)
    rw [rcT, rcS, hW2.al, decide_eq_true (show r < R by omega), Bool.true_and, alive_M hT (by omega), hW2.fc hT hF2 (Nat.le_refl _) (.inl rfl) (by omega) hj]
    generalize rcT sh V (400 + 20 * s) j r = Z at *
    have f1 := fcW_nq (V := Z) (j := j) (q := 1) (r := r) (i := 1) (by omega) (by omega) (by omega) (by omega)
    have f2 := fcW_nq (V := Z) (j := j) (q := 1) (r := r) (i := 2) (by omega) (by omega) (by omega) (by omega)
    have f16 := fcW_nq (V := Z) (j := j) (q := 1) (r := r) (i := 16) (by omega) (by omega) (by omega) (by omega)
    have f17 := fcW_nq (V := Z) (j := j) (q := 1) (r := r) (i := 17) (by omega) (by omega) (by omega) (by omega)
    have fq := fcW_nq (V := Z) (j := j) (q := 1) (r := r) (i := 400 + 20 * s) (by omega) (by omega) (by omega) (by omega)
    by_cases h9 : cm 9 0 r = 0
    · rw [if_pos (decide_eq_true h9)]
      by_cases ht : trF cm r (nI M) 30 j = 1
      · rw [if_pos ht]
        have hTr : nowT cm M j r = true := by rw [nowT, decide_eq_true h9, decide_eq_true ht]; rfl
        have ek : vl (nowK cm M s r) ∧ scK (fcW Z j 1 r) (400 + 20 * s) 1 r = mp (nowK cm M s r) := by
          rw [scK, fq, hq, v1, nowK]
          rcases k1 with h | ⟨c, hc, ec⟩
          · rw [h, if_pos rfl, if_pos (by decide)]
            exact ⟨.inr (by decide), by decide⟩
          · have hc1 : ¬ nI c = -1 := fun e => by
              have := congrArg Int32.toInt e
              rw [nI_ti (by omega), show (-1 : Int32).toInt = -1 from by decide] at this
              omega
            have hc0 : ¬ nI c < 0 := fun e => by
              rw [i32_lt, nI_ti (by omega), show (0 : Int32).toInt = 0 from rfl] at e
              omega
            rw [ec, if_neg hc1, if_neg hc0, nn_nI (by omega), rVal_cg f1 f2, hW2.val (by omega) hc]
            exact ⟨lk_vl hT _ (by omega) hc, rfl⟩
        have em : rVal (fcW Z j 1 r) 1 r (nn (fcW Z j 1 r (400 + 20 * s) 2)) = mp (nowM cm M s r) := by
          obtain ⟨c, hc, ec⟩ := k2
          rw [fq, hq, v2, nowM, ec, nn_nI (by omega), rVal_cg f1 f2, hW2.val (by omega) hc]
        rw [ek.2, em]
        exact ih.row (by omega) hTr ek.1 f16 f17
      · rw [if_neg ht]
        exact ih.no (by rw [nowT, decide_eq_false ht, Bool.and_false]) f16 f17
    · rw [decide_eq_false h9, if_neg (by decide)]
      exact ih.no (by rw [nowT, decide_eq_false h9, Bool.false_and]) rfl rfl


