-- deps: 9z.simv
/-! the order of the rows does not matter -/
theorem imin_ti {a b : Int32} : (imin a b).toInt = min a.toInt b.toInt := by
  rw [imin]; split <;> rename_i h <;> rw [i32_lt] at h <;> omega
theorem imax_ti {a b : Int32} : (imax a b).toInt = max a.toInt b.toInt := by
  rw [imax]; split <;> rename_i h <;> rw [i32_lt] at h <;> omega
theorem imin_c3 (a b c : Int32) : imin (imin a b) c = imin (imin a c) b := by rw [i32_eq, imin_ti, imin_ti, imin_ti, imin_ti]; omega
theorem imax_c3 (a b c : Int32) : imax (imax a b) c = imax (imax a c) b := by rw [i32_eq, imax_ti, imax_ti, imax_ti, imax_ti]; omega
theorem add_c3 (a b c : Int32) : a + b + c = a + c + b := by rw [Int32.add_assoc, Int32.add_comm b c, ← Int32.add_assoc]
theorem gA_1 {m : Int32} {c : Nat → Int32} : gA m c 1 = c 1 + 1 := if_pos rfl
theorem gA_5 {c : Nat → Int32} {w : Nat} (hw : w ≠ 1) : gA (-1000) c w = c w := by rw [gA, if_neg hw, if_pos rfl]
theorem gA_v {m : Int32} {c : Nat → Int32} (hm : ¬ m = -1000) : gA m c 2 = c 2 + 1 ∧ gA m c 3 = c 3 + m ∧ gA m c 4 = imin (c 4) m ∧ gA m c 5 = imax (c 5) m ∧ ∀ w, w ≠ 1 → w ≠ 2 → w ≠ 3 → w ≠ 4 → w ≠ 5 → gA m c w = c w := by
  refine ⟨?_, ?_, ?_, ?_, fun w h1 h2 h3 h4 h5 => ?_⟩
  · rw [gA, if_neg (by decide), if_neg hm, if_pos rfl]
  · rw [gA, if_neg (by decide), if_neg hm, if_neg (by decide), if_pos rfl]
  · rw [gA, if_neg (by decide), if_neg hm, if_neg (by decide), if_neg (by decide), if_pos rfl]
  · rw [gA, if_neg (by decide), if_neg hm, if_neg (by decide), if_neg (by decide), if_neg (by decide), if_pos rfl]
  · rw [gA, if_neg h1, if_neg hm, if_neg h2, if_neg h3, if_neg h4, if_neg h5]
theorem gA_comm (m m' : Int32) (c : Nat → Int32) : gA m (gA m' c) = gA m' (gA m c) := by
  funext w
  by_cases h1 : w = 1
  · subst h1; rw [gA_1, gA_1, gA_1, gA_1]
  · by_cases hm : m = -1000
    · subst hm
      rw [gA_5 h1]
      by_cases hm' : m' = -1000
      · subst hm'; rw [gA_5 h1, gA_5 h1, gA_5 h1]
      · obtain ⟨a2, a3, a4, a5, a6⟩ := gA_v (c := c) hm'
        obtain ⟨b2, b3, b4, b5, b6⟩ := gA_v (c := gA (-1000) c) hm'
        by_cases h2 : w = 2
        · subst h2; rw [a2, b2, gA_5 h1]
        · by_cases h3 : w = 3
          · subst h3; rw [a3, b3, gA_5 h1]
          · by_cases h4 : w = 4
            · subst h4; rw [a4, b4, gA_5 h1]
            · by_cases h5 : w = 5
              · subst h5; rw [a5, b5, gA_5 h1]
              · rw [a6 w h1 h2 h3 h4 h5, b6 w h1 h2 h3 h4 h5, gA_5 h1]
    · by_cases hm' : m' = -1000
      · subst hm'
        rw [gA_5 (c := gA m c) h1]
        obtain ⟨a2, a3, a4, a5, a6⟩ := gA_v (c := c) hm
        obtain ⟨b2, b3, b4, b5, b6⟩ := gA_v (c := gA (-1000) c) hm
        by_cases h2 : w = 2
        · subst h2; rw [a2, b2, gA_5 h1]
        · by_cases h3 : w = 3
          · subst h3; rw [a3, b3, gA_5 h1]
          · by_cases h4 : w = 4
            · subst h4; rw [a4, b4, gA_5 h1]
            · by_cases h5 : w = 5
              · subst h5; rw [a5, b5, gA_5 h1]
              · rw [a6 w h1 h2 h3 h4 h5, b6 w h1 h2 h3 h4 h5, gA_5 h1]
      · obtain ⟨a2, a3, a4, a5, a6⟩ := gA_v (c := c) hm
        obtain ⟨b2, b3, b4, b5, b6⟩ := gA_v (c := gA m' c) hm
        obtain ⟨d2, d3, d4, d5, d6⟩ := gA_v (c := c) hm'
        obtain ⟨e2, e3, e4, e5, e6⟩ := gA_v (c := gA m c) hm'
        by_cases h2 : w = 2
        · subst h2; rw [b2, e2, a2, d2]
        · by_cases h3 : w = 3
          · subst h3; rw [b3, e3, a3, d3, add_c3]
          · by_cases h4 : w = 4
            · subst h4; rw [b4, e4, a4, d4, imin_c3]
            · by_cases h5 : w = 5
              · subst h5; rw [b5, e5, a5, d5, imax_c3]
              · rw [b6 w h1 h2 h3 h4 h5, e6 w h1 h2 h3 h4 h5, a6 w h1 h2 h3 h4 h5, d6 w h1 h2 h3 h4 h5]
theorem recF_none {T : Nat → Bool} {key mea : Nat → Int32} {k : Int32} : ∀ R, (∀ r, r < R → T r = true → ¬ key r = k) → recF T key mea k R = gNew (mp k)
  | 0, _ => rfl
  | R + 1, h => by rw [recF, if_neg fun q => h R (by omega) q.1 q.2, recF_none R fun r hr => h r (by omega)]
theorem recF_add {T : Nat → Bool} {key mea : Nat → Int32} {k : Int32} {r : Nat} (hT : T r = false) : ∀ R, recF (fun q => T q || decide (q = r)) key mea k R = if r < R ∧ key r = k then gA (mp (mea r)) (recF T key mea k R) else recF T key mea k R
  | 0 => by rw [if_neg (by omega)]; rfl
  | R + 1 => by
    rw [recF, recF, recF_add hT R]
    by_cases hr : R = r
    · subst hr
      rw [hT, if_neg (show ¬ (R < R ∧ key R = k) by omega), if_neg (show ¬ (false = true ∧ key R = k) from fun q => Bool.noConfusion q.1)]
      by_cases hk : key R = k
      · rw [if_pos ⟨by simp, hk⟩, if_pos ⟨by omega, hk⟩]
      · rw [if_neg (fun q => hk q.2), if_neg (fun q => hk q.2)]
    · rw [decide_eq_false hr, Bool.or_false]
      by_cases hrk : r < R ∧ key r = k
      · rw [if_pos hrk, if_pos (show r < R + 1 ∧ key r = k from ⟨by omega, hrk.2⟩)]
        by_cases hTR : T R = true ∧ key R = k
        · rw [if_pos hTR, if_pos hTR, gA_comm]
        · rw [if_neg hTR, if_neg hTR]
      · rw [if_neg hrk, if_neg (show ¬ (r < R + 1 ∧ key r = k) from fun q => hrk ⟨by omega, q.2⟩)]
/-- one more row is taken -/
theorem ClF.ext {cm : CM} {s R : Nat} {T T' : Nat → Bool} {key key' mea mea' : Nat → Int32} (H : ClF cm s R T key mea) (h : ∀ r, r < R → T' r = T r ∧ (T r = true → key' r = key r ∧ mea' r = mea r)) : ClF cm s R T' key' mea' := by
  obtain ⟨n, h0, h1, h2, h3, h4⟩ := H
  refine ⟨n, h0, h1, fun g hg w hw => by rw [recF_cg R h]; exact h2 g hg w hw, fun r hr ht => ?_, fun g hg => ?_⟩
  · rw [(h r hr).1] at ht
    rw [((h r hr).2 ht).1]; exact h3 r hr ht
  · obtain ⟨r, hr, a, b⟩ := h4 g hg
    exact ⟨r, hr, by rw [(h r hr).1]; exact a, by rw [((h r hr).2 a).1]; exact b⟩
theorem ClF.row {cm cm' : CM} {s R : Nat} {T : Nat → Bool} {key mea : Nat → Int32} (H : ClF cm s R T key mea) (h : ∀ k j, k = 34 ∧ j = s ∨ False → cm' k 0 j = cm k 0 j) (h2 : ∀ k, 38 ≤ k → k ≤ 43 → cm' k s = cm k s) : ClF cm' s R T key mea := by
  obtain ⟨n, h0, h1, h3, h4, h5⟩ := H
  have er : ∀ g w, rsF cm' s g w = rsF cm s g w := fun g w => rsF_cg (by rw [h2 38 (by omega) (by omega)]) (by rw [h2 39 (by omega) (by omega)]) (by rw [h2 40 (by omega) (by omega)]) (by rw [h2 41 (by omega) (by omega)]) (by rw [h2 42 (by omega) (by omega)]) (by rw [h2 43 (by omega) (by omega)]) w
  refine ⟨n, h0, by rw [h 34 s (.inl ⟨rfl, rfl⟩)]; exact h1, fun g hg w hw => by rw [er, h2 38 (by omega) (by omega)]; exact h3 g hg w hw, by rw [h2 38 (by omega) (by omega)]; exact h4, by rw [h2 38 (by omega) (by omega)]; exact h5⟩
theorem tkC_cl {cm : CM} {V : CV} {s r R n B : Nat} {k v : Int32} {T : Nat → Bool} {key mea : Nat → Int32} (H : ClF cm s R T key mea) (gk : GkS cm V s n B) (hB : B < 900) (hr : r < R) (hT : T r = false) (hk : vl k) (hv : vl v) (ek : tkK cm s r = k) (ev : lk cm r (nn (cm 25 0 s)) (cm 27 0 s) = v) (hkey : key r = k) (hmea : mea r = v) : ClF (tkC cm s r) s R (fun q => T q || decide (q = r)) key mea := by
  obtain ⟨n', hn', h34', hR, c1, c2⟩ := H
  obtain ⟨g1, g2⟩ := gk.grN (k := k) (by omega)
  obtain ⟨hKr, h34, -, hnB, hm, hz⟩ := gk
  have enn : n' = n := nI_i (h34'.symm.trans h34) (by omega) (by omega)
  subst enn
  obtain ⟨p, hp, ep⟩ := prt_lt k
  rw [tkC, ek, ev, ep, nn_nI (by omega)]
  show ClF (tkV (tk2 (grC cm s k) s (grN cm s k) p) s (grN cm s k) v) s R _ key mea
  by_cases hex : ∃ g, g < n' ∧ cm 38 s g = k
  · obtain ⟨g, hg, eg⟩ := hex
    have eN := g1 g hg eg
    rw [eN, grC_old h34 (by omega) (by rw [eN]; exact hg)]
    have t := fun k h1 h2 h3 h4 h5 => tk2_n (cm := cm) (s := s) (g := g) (p := p) (k := k) h1 h2 h3 h4 h5
    have tv := fun j h1 h2 h3 h4 h5 => tkV_nq (cm := tk2 cm s g p) (s := s) (g := g) (v := v) (k := j) h1 h2 h3 h4 h5
    have t38 := t 38 (by decide) (by decide) (by decide) (by decide) (by decide)
    have t40 := t 40 (by decide) (by decide) (by decide) (by decide) (by decide)
    have t34 := t 34 (by decide) (by decide) (by decide) (by decide) (by decide)
    have ers : ∀ q w, rsF (tk2 cm s g p) s q w = rsF cm s q w := fun q w => rsF_cg (by rw [t38]) (by rw [t 39 (by decide) (by decide) (by decide) (by decide) (by decide)]) (by rw [t40]) (by rw [t 41 (by decide) (by decide) (by decide) (by decide) (by decide)]) (by rw [t 42 (by decide) (by decide) (by decide) (by decide) (by decide)]) (by rw [t 43 (by decide) (by decide) (by decide) (by decide) (by decide)]) w
    have e38 : tkV (tk2 cm s g p) s g v 38 = cm 38 := by rw [tv 38 (by decide) (by decide) (by decide) (by decide) (by decide), t38]
    obtain ⟨a, ha, e40⟩ := hm g hg
    refine ⟨n', hn', by rw [tv 34 (by decide) (by decide) (by decide) (by decide) (by decide), t34]; exact h34, fun q hq w hw => ?_, fun q hq ht => ?_, fun q hq => ?_⟩
    · rw [e38, recF_add hT R]
      by_cases e : q = g
      · subst e
        rw [if_pos ⟨hr, by rw [hkey, eg]⟩, tkV_rs hv (a := a) (by rw [t40]; exact e40) (by omega) w hw, hmea]
        exact gA_cg (fun w hw => by rw [ers, hR q hq w hw]) hw
      · rw [if_neg (fun h => e (hKr.2.1 q g hq hg (by rw [eg, ← hkey, h.2]))), ← hR q hq w hw, ← ers q w]
        exact rsF_cg (tkV_o e) (tkV_o e) (tkV_o e) (tkV_o e) (tkV_o e) (tkV_o e) w
    · rw [e38]
      rcases Bool.or_eq_true _ _ |>.mp ht with h | h
      · exact c1 q hq h
      · rw [of_decide_eq_true h, hkey]; exact ⟨g, hg, eg⟩
    · rw [e38]
      obtain ⟨x, hx, a, b⟩ := c2 q hq
      exact ⟨x, hx, by show (T x || decide (x = r)) = true; rw [a]; rfl, b⟩
  · have hno : ∀ g, g < n' → ¬ cm 38 s g = k := fun g hg e => hex ⟨g, hg, e⟩
    have eN := g2 hno
    obtain ⟨c38, c34, cn⟩ := grC_new h34 (by omega) eN
    rw [eN]
    generalize grC cm s k = c1' at *
    have t := fun k h1 h2 h3 h4 h5 => tk2_n (cm := c1') (s := s) (g := n') (p := p) (k := k) h1 h2 h3 h4 h5
    have tv := fun j h1 h2 h3 h4 h5 => tkV_nq (cm := tk2 c1' s n' p) (s := s) (g := n') (v := v) (k := j) h1 h2 h3 h4 h5
    have t38 := t 38 (by decide) (by decide) (by decide) (by decide) (by decide)
    have t34 := t 34 (by decide) (by decide) (by decide) (by decide) (by decide)
    have t39 := (t 39 (by decide) (by decide) (by decide) (by decide) (by decide)).trans (cn 39 (by decide) (by decide))
    have t40 := (t 40 (by decide) (by decide) (by decide) (by decide) (by decide)).trans (cn 40 (by decide) (by decide))
    have t41 := (t 41 (by decide) (by decide) (by decide) (by decide) (by decide)).trans (cn 41 (by decide) (by decide))
    have t42 := (t 42 (by decide) (by decide) (by decide) (by decide) (by decide)).trans (cn 42 (by decide) (by decide))
    have t43 := (t 43 (by decide) (by decide) (by decide) (by decide) (by decide)).trans (cn 43 (by decide) (by decide))
    obtain ⟨z1, z2, z3⟩ := hz n' (Nat.le_refl _)
    have ern : ∀ w, w < 6 → rsF (tk2 c1' s n' p) s n' w = gNew (mp k) w := by
      intro w hw
      rw [rsF, t38, c38, upd_s, t39, t40, t41, z1, z2, z3, if_pos rfl, if_pos rfl, gNew]
      rcases (show w = 0 ∨ w = 1 ∨ w = 2 ∨ w = 3 ∨ w = 4 ∨ w = 5 by omega) with rfl | rfl | rfl | rfl | rfl | rfl <;> simp
    have e38 : tkV (tk2 c1' s n' p) s n' v 38 s = upd (cm 38 s) n' k := by rw [tv 38 (by decide) (by decide) (by decide) (by decide) (by decide), t38, c38]
    refine ⟨n' + 1, by omega, by rw [tv 34 (by decide) (by decide) (by decide) (by decide) (by decide), t34]; exact c34, fun q hq w hw => ?_, fun q hq ht => ?_, fun q hq => ?_⟩
    · rw [e38, recF_add hT R]
      by_cases e : q = n'
      · subst e
        rw [upd_s, if_pos ⟨hr, hkey⟩, tkV_rs hv (a := 0) (by rw [t40]; exact z2) (by omega) w hw, hmea, recF_none R fun x hx hTx ekx => ?_]
        · exact gA_cg ern hw
        · obtain ⟨g, hg, e⟩ := c1 x hx hTx
          exact hno g hg (by rw [e, ekx])
      · rw [upd_n _ _ e, if_neg (fun h => hno q (by omega) (by rw [← hkey, h.2])), ← hR q (by omega) w hw]
        refine rsF_cg ?_ ?_ ?_ ?_ ?_ ?_ w <;> rw [tkV_o e]
        · rw [t38, c38, upd_n _ _ e]
        · rw [t39]
        · rw [t40]
        · rw [t41]
        · rw [t42]
        · rw [t43]
    · rw [e38]
      rcases Bool.or_eq_true _ _ |>.mp ht with h | h
      · obtain ⟨g, hg, e⟩ := c1 q hq h
        exact ⟨g, by omega, by rw [upd_n _ _ (by omega)]; exact e⟩
      · rw [of_decide_eq_true h, hkey]; exact ⟨n', by omega, by rw [upd_s]⟩
    · rw [e38]
      by_cases e : q = n'
      · subst e
        exact ⟨r, hr, by simp, by rw [upd_s, hkey]⟩
      · obtain ⟨x, hx, a, b⟩ := c2 q (by omega)
        exact ⟨x, hx, by show (T x || decide (x = r)) = true; rw [a]; rfl, by rw [upd_n _ _ e]; exact b⟩


