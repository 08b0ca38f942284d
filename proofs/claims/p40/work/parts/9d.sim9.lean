-- deps: 9c.sim8
/-! a scan takes a row: both sides -/
theorem gA_cg {m : Int32} {c c' : Nat → Int32} (h : ∀ w, w < 6 → c w = c' w) {w : Nat} (hw : w < 6) : gA m c w = gA m c' w := by
  rw [gA, gA, h 1 (by omega), h 2 (by omega), h 3 (by omega), h 4 (by omega), h 5 (by omega), h w hw]
theorem gHas_cgq {V W : CV} {o : Nat} {k : Int32} (h : W o = V o) (h1 : W (o + 1) = V (o + 1)) : gpX W o k = gpX V o k ∧ gHas W o k = gHas V o k := by
  have e : gpX W o k = gpX V o k := by rw [gpX, gpX, h, h1]
  exact ⟨e, by rw [gHas, gHas, e, h, h1]⟩
theorem MmS.cg {cm cm' : CM} {V W : CV} {s y n : Nat} {h : Nat → Nat} (H : MmS cm V s h y n) (e36 : cm' 36 = cm 36) (e35 : cm' 35 = cm 35) (e26 : cm' 26 = cm 26) (e31 : cm' 31 = cm 31) (e32 : cm' 32 = cm 32) (e44 : cm' 44 = cm 44) (e38 : ∀ g, g < n → cm' 38 s g = cm 38 s g)
    (v6 : W (400 + 20 * s + 6) = V (400 + 20 * s + 6)) (v7 : W (400 + 20 * s + 6 + 1) = V (400 + 20 * s + 6 + 1)) (v8 : W (400 + 20 * s + 6 + 2) = V (400 + 20 * s + 6 + 2)) : MmS cm' W s h y n := by
  obtain ⟨hP, hI, hr⟩ := H
  refine ⟨?_, ⟨fun g hg => ?_, ?_⟩, by rw [e26]; exact hr⟩
  · rw [PaC, v6, v7, v8, e36, e35, e26, e31, e32]; exact hP
  · rw [e44, e35, e38 g hg]; exact hI.1 g hg
  · rw [e44]; exact hI.2
theorem grC_old {cm : CM} {s n : Nat} {k : Int32} (h34 : cm 34 0 s = nI n) (hn : n < 100000) (h : grN cm s k < n) : grC cm s k = cm := by
  rw [grC, h34, nn_nI (by omega), if_pos h]
theorem grC_new {cm : CM} {s n : Nat} {k : Int32} (h34 : cm 34 0 s = nI n) (hn : n < 100000) (h : grN cm s k = n) : grC cm s k 38 s = upd (cm 38 s) n k ∧ grC cm s k 34 0 s = nI (n + 1) ∧ ∀ j, j ≠ 34 → j ≠ 38 → grC cm s k j = cm j := by
  refine ⟨?_, ?_, fun j h1 h2 => grC_n h1 h2⟩ <;> rw [grC, h34, nn_nI (by omega), if_neg (by omega)]
  · rw [c3_n (by decide), c3_s]
  · rw [c3_s, upd_s, show (1 : Int32) = nI 1 from rfl, nI_add]
def tk2 (cm : CM) (s g p : Nat) : CM := tkM (tkS cm s g p) s g p
theorem tk2_n {cm : CM} {s g p k : Nat} (h1 : k ≠ 31) (h2 : k ≠ 35) (h3 : k ≠ 36) (h4 : k ≠ 44) (h5 : k ≠ 32) : tk2 cm s g p k = cm k := by
  rw [tk2, tkM_n h4 h3 h5, tkS_n h1 h2 h3 h4]
theorem take_eq {cm : CM} {V : CV} {s r n B y : Nat} {h : Nat → Nat} {k v : Int32} (H : GkS cm V s n B) (hB : B < 1000) (M : MmS cm V s h y n) (hk : vl k) (hv : vl v) (ek : tkK cm s r = k) (ev : lk cm r (nn (cm 25 0 s)) (cm 27 0 s) = v)
    (eK : scK V (400 + 20 * s) (400 + 20 * s + 1) r = mp k) (eV : rVal V (400 + 20 * s + 1) r (nn (V (400 + 20 * s) 2)) = mp v) :
    grN cm s k ≤ n ∧ ∃ n' h', GkS (tkC cm s r) (scR V (400 + 20 * s) r) s n' (B + 1) ∧ MmS (tkC cm s r) (scR V (400 + 20 * s) r) s h' y n' := by
  obtain ⟨eX, eH⟩ := H.has hB hk
  obtain ⟨g1, g2⟩ := H.grN (k := k) hB
  obtain ⟨hKr, h34, hV1, hnB, hm, hz⟩ := id H
  obtain ⟨p, hp, ep⟩ := prt_lt k
  have hW := fun i h1 h2 h3 => scP_n (V := V) (o := 400 + 20 * s) (i := i) (k := mp k) h1 h2 h3
  have w4 := hW (400 + 20 * s + 4) (by omega) (by omega) (by omega)
  have w5 := hW (400 + 20 * s + 4 + 1) (by omega) (by omega) (by omega)
  obtain ⟨cX, cH⟩ := gHas_cgq (k := mp k) w4 w5
  rw [tkC, ek, ev, ep, nn_nI (by omega), scR, eK, eV]
  show grN cm s k ≤ n ∧ ∃ n' h', GkS (tkV (tk2 (grC cm s k) s (grN cm s k) p) s (grN cm s k) v) _ s n' (B + 1) ∧ MmS (tkV (tk2 (grC cm s k) s (grN cm s k) p) s (grN cm s k) v) _ s h' y n'
  have eP : scP V (400 + 20 * s) (mp k) = paT (paK V (400 + 20 * s + 6) p (!gHas V (400 + 20 * s + 4) (mp k))) (400 + 20 * s + 6) p (!gHas V (400 + 20 * s + 4) (mp k)) := by
    rw [scP, paP_mp hk, ep, nn_nI (by omega)]
  by_cases hex : ∃ g, g < n ∧ cm 38 s g = k
  · have hh := eH.mpr hex
    obtain ⟨g, hg, eg⟩ := hex
    have eN := g1 g hg eg
    rw [eN, grC_old h34 (by omega) (by rw [eN]; exact hg)]
    rw [hh] at eP cH
    have M2 : MmS (tk2 cm s g p) (scP V (400 + 20 * s) (mp k)) s h y n := by
      rw [eP]
      exact mem_old M hp hg (by rw [eg]; exact ep)
    generalize scP V (400 + 20 * s) (mp k) = W at *
    have t := fun k h1 h2 h3 h4 h5 => tk2_n (cm := cm) (s := s) (g := g) (p := p) (k := k) h1 h2 h3 h4 h5
    have tv := fun j h1 h2 h3 h4 h5 => tkV_nq (cm := tk2 cm s g p) (s := s) (g := g) (v := v) (k := j) h1 h2 h3 h4 h5
    have t38 := t 38 (by decide) (by decide) (by decide) (by decide) (by decide)
    have t40 := t 40 (by decide) (by decide) (by decide) (by decide) (by decide)
    have t34 := t 34 (by decide) (by decide) (by decide) (by decide) (by decide)
    have ers : ∀ q w, rsF (tk2 cm s g p) s q w = rsF cm s q w := fun q w => rsF_cg (by rw [t38]) (by rw [t 39 (by decide) (by decide) (by decide) (by decide) (by decide)]) (by rw [t40]) (by rw [t 41 (by decide) (by decide) (by decide) (by decide) (by decide)]) (by rw [t 42 (by decide) (by decide) (by decide) (by decide) (by decide)]) (by rw [t 43 (by decide) (by decide) (by decide) (by decide) (by decide)]) w
    have eT : grT W (400 + 20 * s + 4) (mp k) (mp v) = grA W (400 + 20 * s + 4) (atF (cm 38 s) (cm 38 s g) n) (mp v) := by
      rw [grT, cH, if_pos rfl, cX, eX, eg]
    obtain ⟨a, ha, e40⟩ := hm g hg
    refine ⟨by omega, n, h, ⟨?_, ?_, ?_, by omega, fun q hq => ?_, fun q hq => ?_⟩, ?_⟩
    · rw [eT, tv 38 (by decide) (by decide) (by decide) (by decide) (by decide), t38]
      refine hKr.one (m := mp v) hg (fun j w hw hj => ?_) (fun w hw => ?_) fun q hq hne w hw => ?_
      · rw [grA_c hw, w5]
      · rw [tkV_rs hv (a := a) (by rw [t40]; exact e40) (by omega) w hw]
        exact gA_cg (fun w hw => ers g w) hw
      · rw [← ers q w]
        exact rsF_cg (tkV_o hne) (tkV_o hne) (tkV_o hne) (tkV_o hne) (tkV_o hne) (tkV_o hne) w
    · rw [tv 34 (by decide) (by decide) (by decide) (by decide) (by decide), t34]; exact h34
    · rw [eT, grA_o (by omega), w4]; exact hV1
    · by_cases e : q = g
      · subst e
        obtain ⟨b, hb, e⟩ := tkV_40 (g := q) (s := s) (v := v) (show tk2 cm s q p 40 s q = nI a by rw [t40]; exact e40)
        exact ⟨b, by omega, e⟩
      · obtain ⟨b, hb, eb⟩ := hm q hq
        exact ⟨b, by omega, by rw [tkV_o e, t40]; exact eb⟩
    · have hne : q ≠ g := by omega
      rw [tkV_o hne, tkV_o hne, tkV_o hne, t40, t 39 (by decide) (by decide) (by decide) (by decide) (by decide), t 41 (by decide) (by decide) (by decide) (by decide) (by decide)]
      exact hz q hq
    · refine M2.cg (tv 36 (by decide) (by decide) (by decide) (by decide) (by decide)) (tv 35 (by decide) (by decide) (by decide) (by decide) (by decide)) (tv 26 (by decide) (by decide) (by decide) (by decide) (by decide)) (tv 31 (by decide) (by decide) (by decide) (by decide) (by decide)) (tv 32 (by decide) (by decide) (by decide) (by decide) (by decide)) (tv 44 (by decide) (by decide) (by decide) (by decide) (by decide)) (fun q _ => by rw [tv 38 (by decide) (by decide) (by decide) (by decide) (by decide)]) ?_ ?_ ?_ <;> rw [eT, grA_o (by omega)]
  · have hno : ∀ g, g < n → ¬ cm 38 s g = k := fun g hg e => hex ⟨g, hg, e⟩
    have hh : gHas V (400 + 20 * s + 4) (mp k) = false := Bool.eq_false_iff.mpr fun q => hex (eH.mp q)
    have eN := g2 hno
    obtain ⟨c38, c34, cn⟩ := grC_new h34 (by omega) eN
    rw [eN]
    rw [hh] at eP cH
    have M1 : MmS (grC cm s k) V s h y n := M.cg (cn 36 (by decide) (by decide)) (cn 35 (by decide) (by decide)) (cn 26 (by decide) (by decide)) (cn 31 (by decide) (by decide)) (cn 32 (by decide) (by decide)) (cn 44 (by decide) (by decide)) (fun g hg => by rw [c38, upd_n _ _ (by omega)]) rfl rfl rfl
    have c44 : grC cm s k 44 s n = 0 := M1.2.1.2 n (Nat.le_refl _)
    obtain ⟨h1, M3, e44, hl⟩ := mem_sp M1 (by rw [c34, nn_nI (by omega)]; omega) hp c44
    obtain ⟨h2, M2⟩ := mem_new M3 hp e44 (by rw [tkS_n (by decide) (by decide) (by decide) (by decide), c38, upd_s, ep]) hl
    have M2 : MmS (tk2 (grC cm s k) s n p) (scP V (400 + 20 * s) (mp k)) s h2 y (n + 1) := by
      rw [eP]; exact M2
    generalize grC cm s k = c1 at *
    generalize scP V (400 + 20 * s) (mp k) = W at *
    have t := fun k h1 h2 h3 h4 h5 => tk2_n (cm := c1) (s := s) (g := n) (p := p) (k := k) h1 h2 h3 h4 h5
    have tv := fun j h1 h2 h3 h4 h5 => tkV_nq (cm := tk2 c1 s n p) (s := s) (g := n) (v := v) (k := j) h1 h2 h3 h4 h5
    have t38 := t 38 (by decide) (by decide) (by decide) (by decide) (by decide)
    have t34 := t 34 (by decide) (by decide) (by decide) (by decide) (by decide)
    have t39 := (t 39 (by decide) (by decide) (by decide) (by decide) (by decide)).trans (cn 39 (by decide) (by decide))
    have t40 := (t 40 (by decide) (by decide) (by decide) (by decide) (by decide)).trans (cn 40 (by decide) (by decide))
    have t41 := (t 41 (by decide) (by decide) (by decide) (by decide) (by decide)).trans (cn 41 (by decide) (by decide))
    have t42 := (t 42 (by decide) (by decide) (by decide) (by decide) (by decide)).trans (cn 42 (by decide) (by decide))
    have t43 := (t 43 (by decide) (by decide) (by decide) (by decide) (by decide)).trans (cn 43 (by decide) (by decide))
    have eT : grT W (400 + 20 * s + 4) (mp k) (mp v) = grA (grI W (400 + 20 * s + 4) (atF (cm 38 s) k n) (mp k)) (400 + 20 * s + 4) (atF (cm 38 s) k n) (mp v) := by
      rw [grT, cH, if_neg (by decide), cX, eX]
    have hle := atF_le (cm 38 s) k n
    have wn : W (400 + 20 * s + 4) 1 = nI n := by rw [w4]; exact hV1
    obtain ⟨z1, z2, z3⟩ := hz n (Nat.le_refl _)
    have ern : ∀ w, w < 6 → rsF (tk2 c1 s n p) s n w = gNew (mp k) w := by
      intro w hw
      rw [rsF, t38, c38, upd_s, t39, t40, t41, z1, z2, z3, if_pos rfl, if_pos rfl, gNew]
      rcases (show w = 0 ∨ w = 1 ∨ w = 2 ∨ w = 3 ∨ w = 4 ∨ w = 5 by omega) with rfl | rfl | rfl | rfl | rfl | rfl <;> simp
    refine ⟨Nat.le_refl _, n + 1, h2, ⟨?_, ?_, ?_, by omega, fun q hq => ?_, fun q hq => ?_⟩, ?_⟩
    · rw [eT, tv 38 (by decide) (by decide) (by decide) (by decide) (by decide), t38, c38]
      refine hKr.ins (m := mp v) hk hno (fun j w hw hj => ?_) (fun w hw => ?_) fun q hq w hw => ?_
      · rw [grA_c hw]
        by_cases e : j = atF (cm 38 s) k n
        · rw [if_pos e, if_pos e]
          exact gA_cg (fun w hw => by rw [grI_c wn (by omega) hle hw hle, if_pos rfl]) hw
        · rw [if_neg e, if_neg e, grI_c wn (by omega) hle hw hj, if_neg e, w5]
      · rw [tkV_rs hv (a := 0) (by rw [t40]; exact z2) (by omega) w hw]
        exact gA_cg ern hw
      · have hne : q ≠ n := by omega
        refine rsF_cg ?_ ?_ ?_ ?_ ?_ ?_ w <;> rw [tkV_o hne]
        · rw [t38, c38, upd_n _ _ hne]
        · rw [t39]
        · rw [t40]
        · rw [t41]
        · rw [t42]
        · rw [t43]
    · rw [tv 34 (by decide) (by decide) (by decide) (by decide) (by decide), t34]; exact c34
    · rw [eT, grA_o (by omega), grI_s, upd_s, wn, show (1 : Int32) = nI 1 from rfl, nI_add]
    · by_cases e : q = n
      · subst e
        obtain ⟨b, hb, e⟩ := tkV_40 (g := q) (s := s) (v := v) (a := 0) (show tk2 c1 s q p 40 s q = nI 0 by rw [t40]; exact z2)
        exact ⟨b, by omega, e⟩
      · obtain ⟨b, hb, eb⟩ := hm q (by omega)
        exact ⟨b, by omega, by rw [tkV_o e, t40]; exact eb⟩
    · have hne : q ≠ n := by omega
      rw [tkV_o hne, tkV_o hne, tkV_o hne, t39, t40, t41]
      exact hz q (by omega)
    · refine M2.cg (tv 36 (by decide) (by decide) (by decide) (by decide) (by decide)) (tv 35 (by decide) (by decide) (by decide) (by decide) (by decide)) (tv 26 (by decide) (by decide) (by decide) (by decide) (by decide)) (tv 31 (by decide) (by decide) (by decide) (by decide) (by decide)) (tv 32 (by decide) (by decide) (by decide) (by decide) (by decide)) (tv 44 (by decide) (by decide) (by decide) (by decide) (by decide)) (fun q _ => by rw [tv 38 (by decide) (by decide) (by decide) (by decide) (by decide)]) ?_ ?_ ?_ <;> rw [eT, grA_o (by omega), grI_o (by omega) (by omega)]
theorem scR_n {V : CV} {o r i : Nat} (h4 : i ≠ o + 4) (h5 : i ≠ o + 5) (h6 : i ≠ o + 6) (h7 : i ≠ o + 7) (h8 : i ≠ o + 8) : scR V o r i = V i := by
  rw [scR, grT_n (by omega) h4, scP_n h6 h7 h8]


