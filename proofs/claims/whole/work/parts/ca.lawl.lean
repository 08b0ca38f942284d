-- deps: c9.lawk
theorem KA_skipped {g : GG} {x m ao aod n : Nat} {f : AH} (H : LQ g x m ao aod n f) (hn : n < 1000) (x9 : Int32) {Q : Option Value → AH → Prop} {X : String → AH → Prop} (h : ∀ (k : Int32) (f' : AH), hobj f' m 10 (fun _ => True) → (∀ (Q' : Option Value → AH → Prop) (X' : String → AH → Prop), (∀ (v : Int32) f'', PoR g x m ao aod (n + 1) k (fun wd _ => wd 0 = v.toInt64) f'' → Q' (some (.int v)) f'') → T_Mo_skipped [.ref m, .int x9] f' Q' X') → Q (some (.int k)) f') : T_La_skipped g [.ref x, .int x9, .ref ao] f Q X := by
  obtain ⟨O, ad, adm, sh, V, L, cm, cl, wd, we, M, rfl, rfl, W, hS, hM⟩ := H
  obtain ⟨⟨p1, p2⟩, ⟨p3, p4⟩, ⟨p5, p6, p7, p8⟩, ⟨p9, q1⟩, ⟨q2, q3, q4⟩, q5, ⟨q6, q7, q8, q9⟩, qa⟩ := hS.cp
  obtain ⟨⟨r1, r2, r3, r4⟩, r5, r6, r7, r8, r9, ra⟩ := hS.rp
  have hE : ∀ (k : Int32) (f' : AH), k ≠ 0 → thr cm (noScan cm x9) 1 49 0 0 = k → SR (thr cm (noScan cm x9) 1) (cl) sh V L M → CR g O f' ad sh V L → Q (some (.int k)) f' := by
    intro k f' hk0 hk hS' hC
    have W1 := W.same hC
    refine h k f' W1.hm fun Q' X' hq => i_Mo_skipped_ W1.mr (by first | assumption | exact hch.1 | exact hch.2 | exact Nb_le r2 (by omega) | omega | rfl) fun f'' hm => hq _ _ ?_
    obtain ⟨O', W2⟩ := W1.ref hm
    exact ⟨O', ad, adm, sh, V, L, _, _, wd, we, M, rfl, rfl, W2, hS', by omega, hk, fun e => absurd e hk0⟩
  refine i_La_skipped_ W.1 W.2.2.1 ⟨(by first | assumption | exact hch.1 | exact hch.2 | exact Nb_le r2 (by omega) | omega | rfl), (by first | assumption | exact hch.1 | exact hch.2 | exact Nb_le r2 (by omega) | omega | rfl)⟩ (Cls.monz ?_ (fun k hk0 hh f' hC => hE k f' hk0 hh.1 hh.2 hC) ⟨show (1 : Int32) ≠ 0 by decide, trivial⟩ (P_skipped hS x9))
  rintro ⟨h0, hR, hS'⟩ f' hC
  have W1 := W.out hC
  refine h 0 f' W1.hm fun Q' X' hq => i_Mo_skipped_ W1.mr (by first | assumption | exact hch.1 | exact hch.2 | exact Nb_le r2 (by omega) | omega | rfl) fun f'' hm => hq _ _ ?_
  obtain ⟨O', W2⟩ := W1.ref hm
  exact ⟨O', ad, adm, _, _, _, _, _, _, _, M, rfl, rfl, W2, hS', by omega, h0, fun _ => by rw [← hR]; rfl⟩
theorem KA_spilled {g : GG} {x m ao aod n : Nat} {f : AH} (H : LQ g x m ao aod n f) (hn : n < 1000) (x9 : Int32) {Q : Option Value → AH → Prop} {X : String → AH → Prop} (h : ∀ (k : Int32) (f' : AH), hobj f' m 10 (fun _ => True) → (∀ (Q' : Option Value → AH → Prop) (X' : String → AH → Prop), (∀ (v : Int32) f'', PoR g x m ao aod (n + 1) k (fun wd _ => wd 0 = v.toInt64) f'' → Q' (some (.int v)) f'') → T_Mo_spilled [.ref m, .int x9] f' Q' X') → Q (some (.int k)) f') : T_La_spilled g [.ref x, .int x9, .ref ao] f Q X := by
  obtain ⟨O, ad, adm, sh, V, L, cm, cl, wd, we, M, rfl, rfl, W, hS, hM⟩ := H
  obtain ⟨⟨p1, p2⟩, ⟨p3, p4⟩, ⟨p5, p6, p7, p8⟩, ⟨p9, q1⟩, ⟨q2, q3, q4⟩, q5, ⟨q6, q7, q8, q9⟩, qa⟩ := hS.cp
  obtain ⟨⟨r1, r2, r3, r4⟩, r5, r6, r7, r8, r9, ra⟩ := hS.rp
  have hE : ∀ (k : Int32) (f' : AH), k ≠ 0 → thr cm (noScan cm x9) 1 49 0 0 = k → SR (thr cm (noScan cm x9) 1) (cl) sh V L M → CR g O f' ad sh V L → Q (some (.int k)) f' := by
    intro k f' hk0 hk hS' hC
    have W1 := W.same hC
    refine h k f' W1.hm fun Q' X' hq => i_Mo_spilled_ W1.mr (by first | assumption | exact hch.1 | exact hch.2 | exact Nb_le r2 (by omega) | omega | rfl) fun f'' hm => hq _ _ ?_
    obtain ⟨O', W2⟩ := W1.ref hm
    exact ⟨O', ad, adm, sh, V, L, _, _, wd, we, M, rfl, rfl, W2, hS', by omega, hk, fun e => absurd e hk0⟩
  refine i_La_spilled_ W.1 W.2.2.1 ⟨(by first | assumption | exact hch.1 | exact hch.2 | exact Nb_le r2 (by omega) | omega | rfl), (by first | assumption | exact hch.1 | exact hch.2 | exact Nb_le r2 (by omega) | omega | rfl)⟩ (Cls.monz ?_ (fun k hk0 hh f' hC => hE k f' hk0 hh.1 hh.2 hC) ⟨show (1 : Int32) ≠ 0 by decide, trivial⟩ (P_spilled hS x9))
  rintro ⟨h0, hR, hS'⟩ f' hC
  have W1 := W.out hC
  refine h 0 f' W1.hm fun Q' X' hq => i_Mo_spilled_ W1.mr (by first | assumption | exact hch.1 | exact hch.2 | exact Nb_le r2 (by omega) | omega | rfl) fun f'' hm => hq _ _ ?_
  obtain ⟨O', W2⟩ := W1.ref hm
  exact ⟨O', ad, adm, _, _, _, _, _, _, _, M, rfl, rfl, W2, hS', by omega, h0, fun _ => by rw [← hR]; rfl⟩
theorem KA_aside {g : GG} {x m ao aod n : Nat} {f : AH} (H : LQ g x m ao aod n f) (hn : n < 1000) (x9 : Int32) {Q : Option Value → AH → Prop} {X : String → AH → Prop} (h : ∀ (k : Int32) (f' : AH), hobj f' m 10 (fun _ => True) → (∀ (Q' : Option Value → AH → Prop) (X' : String → AH → Prop), (∀ (v : Int32) f'', PoR g x m ao aod (n + 1) k (fun wd _ => wd 0 = v.toInt64) f'' → Q' (some (.int v)) f'') → T_Mo_aside [.ref m, .int x9] f' Q' X') → Q (some (.int k)) f') : T_La_aside g [.ref x, .int x9, .ref ao] f Q X := by
  obtain ⟨O, ad, adm, sh, V, L, cm, cl, wd, we, M, rfl, rfl, W, hS, hM⟩ := H
  obtain ⟨⟨p1, p2⟩, ⟨p3, p4⟩, ⟨p5, p6, p7, p8⟩, ⟨p9, q1⟩, ⟨q2, q3, q4⟩, q5, ⟨q6, q7, q8, q9⟩, qa⟩ := hS.cp
  obtain ⟨⟨r1, r2, r3, r4⟩, r5, r6, r7, r8, r9, ra⟩ := hS.rp
  have hE : ∀ (k : Int32) (f' : AH), k ≠ 0 → thr cm (noScan cm x9) 1 49 0 0 = k → SR (thr cm (noScan cm x9) 1) (cl) sh V L M → CR g O f' ad sh V L → Q (some (.int k)) f' := by
    intro k f' hk0 hk hS' hC
    have W1 := W.same hC
    refine h k f' W1.hm fun Q' X' hq => i_Mo_aside_ W1.mr (by first | assumption | exact hch.1 | exact hch.2 | exact Nb_le r2 (by omega) | omega | rfl) fun f'' hm => hq _ _ ?_
    obtain ⟨O', W2⟩ := W1.ref hm
    exact ⟨O', ad, adm, sh, V, L, _, _, wd, we, M, rfl, rfl, W2, hS', by omega, hk, fun e => absurd e hk0⟩
  refine i_La_aside_ W.1 W.2.2.1 ⟨(by first | assumption | exact hch.1 | exact hch.2 | exact Nb_le r2 (by omega) | omega | rfl), (by first | assumption | exact hch.1 | exact hch.2 | exact Nb_le r2 (by omega) | omega | rfl)⟩ (Cls.monz ?_ (fun k hk0 hh f' hC => hE k f' hk0 hh.1 hh.2 hC) ⟨show (1 : Int32) ≠ 0 by decide, trivial⟩ (P_aside hS x9))
  rintro ⟨h0, hR, hS'⟩ f' hC
  have W1 := W.out hC
  refine h 0 f' W1.hm fun Q' X' hq => i_Mo_aside_ W1.mr (by first | assumption | exact hch.1 | exact hch.2 | exact Nb_le r2 (by omega) | omega | rfl) fun f'' hm => hq _ _ ?_
  obtain ⟨O', W2⟩ := W1.ref hm
  exact ⟨O', ad, adm, _, _, _, _, _, _, _, M, rfl, rfl, W2, hS', by omega, h0, fun _ => by rw [← hR]; rfl⟩
theorem KA_groups {g : GG} {x m ao aod n : Nat} {f : AH} (H : LQ g x m ao aod n f) (hn : n < 1000) (x9 : Int32) {Q : Option Value → AH → Prop} {X : String → AH → Prop} (h : ∀ (k : Int32) (f' : AH), hobj f' m 10 (fun _ => True) → (∀ (Q' : Option Value → AH → Prop) (X' : String → AH → Prop), (∀ (v : Int32) f'', PoR g x m ao aod (n + 1) k (fun wd _ => wd 0 = v.toInt64) f'' → Q' (some (.int v)) f'') → T_Mo_groups [.ref m, .int x9] f' Q' X') → Q (some (.int k)) f') : T_La_groups g [.ref x, .int x9, .ref ao] f Q X := by
  obtain ⟨O, ad, adm, sh, V, L, cm, cl, wd, we, M, rfl, rfl, W, hS, hM⟩ := H
  obtain ⟨⟨p1, p2⟩, ⟨p3, p4⟩, ⟨p5, p6, p7, p8⟩, ⟨p9, q1⟩, ⟨q2, q3, q4⟩, q5, ⟨q6, q7, q8, q9⟩, qa⟩ := hS.cp
  obtain ⟨⟨r1, r2, r3, r4⟩, r5, r6, r7, r8, r9, ra⟩ := hS.rp
  have hE : ∀ (k : Int32) (f' : AH), k ≠ 0 → noResC cm x9 49 0 0 = k → SR (noResC cm x9) (cl) sh V L M → CR g O f' ad sh V L → Q (some (.int k)) f' := by
    intro k f' hk0 hk hS' hC
    have W1 := W.same hC
    refine h k f' W1.hm fun Q' X' hq => i_Mo_groups_ W1.mr (by first | assumption | exact hch.1 | exact hch.2 | exact Nb_le r2 (by omega) | omega | rfl) fun f'' hm => hq _ _ ?_
    obtain ⟨O', W2⟩ := W1.ref hm
    exact ⟨O', ad, adm, sh, V, L, _, _, wd, we, M, rfl, rfl, W2, hS', by omega, hk, fun e => absurd e hk0⟩
  refine i_La_groups_ W.1 W.2.2.1 ⟨(by first | assumption | exact hch.1 | exact hch.2 | exact Nb_le r2 (by omega) | omega | rfl), (by first | assumption | exact hch.1 | exact hch.2 | exact Nb_le r2 (by omega) | omega | rfl)⟩ (Cls.monz ?_ (fun k hk0 hh f' hC => hE k f' hk0 hh.1 hh.2 hC) ⟨show (1 : Int32) ≠ 0 by decide, show (2 : Int32) ≠ 0 by decide, trivial⟩ (P_groups hS x9))
  rintro ⟨h0, hR, hS'⟩ f' hC
  have W1 := W.out hC
  refine h 0 f' W1.hm fun Q' X' hq => i_Mo_groups_ W1.mr (by first | assumption | exact hch.1 | exact hch.2 | exact Nb_le r2 (by omega) | omega | rfl) fun f'' hm => hq _ _ ?_
  obtain ⟨O', W2⟩ := W1.ref hm
  exact ⟨O', ad, adm, _, _, _, _, _, _, _, M, rfl, rfl, W2, hS', by omega, h0, fun _ => by rw [← hR]; rfl⟩
theorem KA_keyAt {g : GG} {x m ao aod n : Nat} {f : AH} (H : LQ g x m ao aod n f) (hn : n < 1000) (x9 : Int32) (y9 : Int32) {Q : Option Value → AH → Prop} {X : String → AH → Prop} (h : ∀ (k : Int32) (f' : AH), hobj f' m 10 (fun _ => True) → (∀ (Q' : Option Value → AH → Prop) (X' : String → AH → Prop), (∀ (v : Int32) f'', PoR g x m ao aod (n + 1) k (fun wd _ => wd 0 = v.toInt64) f'' → Q' (some (.int v)) f'') → T_Mo_keyAt [.ref m, .int x9, .int y9] f' Q' X') → Q (some (.int k)) f') : T_La_keyAt g [.ref x, .int x9, .int y9, .ref ao] f Q X := by
  obtain ⟨O, ad, adm, sh, V, L, cm, cl, wd, we, M, rfl, rfl, W, hS, hM⟩ := H
  obtain ⟨⟨p1, p2⟩, ⟨p3, p4⟩, ⟨p5, p6, p7, p8⟩, ⟨p9, q1⟩, ⟨q2, q3, q4⟩, q5, ⟨q6, q7, q8, q9⟩, qa⟩ := hS.cp
  obtain ⟨⟨r1, r2, r3, r4⟩, r5, r6, r7, r8, r9, ra⟩ := hS.rp
  have hE : ∀ (k : Int32) (f' : AH), k ≠ 0 → noGrpC cm x9 y9 49 0 0 = k → SR (noGrpC cm x9 y9) (cl) sh V L M → CR g O f' ad sh V L → Q (some (.int k)) f' := by
    intro k f' hk0 hk hS' hC
    have W1 := W.same hC
    refine h k f' W1.hm fun Q' X' hq => i_Mo_keyAt_ W1.mr (by first | assumption | exact hch.1 | exact hch.2 | exact Nb_le r2 (by omega) | omega | rfl) fun f'' hm => hq _ _ ?_
    obtain ⟨O', W2⟩ := W1.ref hm
    exact ⟨O', ad, adm, sh, V, L, _, _, wd, we, M, rfl, rfl, W2, hS', by omega, hk, fun e => absurd e hk0⟩
  refine i_La_keyAt_ W.1 W.2.2.1 ⟨(by first | assumption | exact hch.1 | exact hch.2 | exact Nb_le r2 (by omega) | omega | rfl), (by first | assumption | exact hch.1 | exact hch.2 | exact Nb_le r2 (by omega) | omega | rfl), (by first | assumption | exact hch.1 | exact hch.2 | exact Nb_le r2 (by omega) | omega | rfl)⟩ (Cls.monz ?_ (fun k hk0 hh f' hC => hE k f' hk0 hh.1 hh.2 hC) ⟨show (1 : Int32) ≠ 0 by decide, show (2 : Int32) ≠ 0 by decide, show (3 : Int32) ≠ 0 by decide, trivial⟩ (P_keyAt hS x9 y9))
  rintro ⟨h0, hR, hS'⟩ f' hC
  have W1 := W.out hC
  refine h 0 f' W1.hm fun Q' X' hq => i_Mo_keyAt_ W1.mr (by first | assumption | exact hch.1 | exact hch.2 | exact Nb_le r2 (by omega) | omega | rfl) fun f'' hm => hq _ _ ?_
  obtain ⟨O', W2⟩ := W1.ref hm
  exact ⟨O', ad, adm, _, _, _, _, _, _, _, M, rfl, rfl, W2, hS', by omega, h0, fun _ => by rw [← hR]; rfl⟩
theorem KA_total {g : GG} {x m ao aod n : Nat} {f : AH} (H : LQ g x m ao aod n f) (hn : n < 1000) (x9 : Int32) (y9 : Int32) (w9 : Int32) {Q : Option Value → AH → Prop} {X : String → AH → Prop} (h : ∀ (k : Int32) (f' : AH), hobj f' m 10 (fun _ => True) → (∀ (Q' : Option Value → AH → Prop) (X' : String → AH → Prop), (∀ (v : Int32) f'', PoR g x m ao aod (n + 1) k (fun wd _ => wd 0 = v.toInt64) f'' → Q' (some (.int v)) f'') → T_Mo_total [.ref m, .int x9, .int y9, .int w9] f' Q' X') → Q (some (.int k)) f') : T_La_total g [.ref x, .int x9, .int y9, .int w9, .ref ao] f Q X := by
  obtain ⟨O, ad, adm, sh, V, L, cm, cl, wd, we, M, rfl, rfl, W, hS, hM⟩ := H
  obtain ⟨⟨p1, p2⟩, ⟨p3, p4⟩, ⟨p5, p6, p7, p8⟩, ⟨p9, q1⟩, ⟨q2, q3, q4⟩, q5, ⟨q6, q7, q8, q9⟩, qa⟩ := hS.cp
  obtain ⟨⟨r1, r2, r3, r4⟩, r5, r6, r7, r8, r9, ra⟩ := hS.rp
  have hE : ∀ (k : Int32) (f' : AH), k ≠ 0 → (totM cm x9 y9 w9).2 49 0 0 = k → SR ((totM cm x9 y9 w9).2) (cl) sh V L M → CR g O f' ad sh V L → Q (some (.int k)) f' := by
    intro k f' hk0 hk hS' hC
    have W1 := W.same hC
    refine h k f' W1.hm fun Q' X' hq => i_Mo_total_ W1.mr (by first | assumption | exact hch.1 | exact hch.2 | exact Nb_le r2 (by omega) | omega | rfl) fun f'' hm => hq _ _ ?_
    obtain ⟨O', W2⟩ := W1.ref hm
    exact ⟨O', ad, adm, sh, V, L, _, _, wd, we, M, rfl, rfl, W2, hS', by omega, hk, fun e => absurd e hk0⟩
  refine i_La_total_ W.1 W.2.2.1 ⟨(by first | assumption | exact hch.1 | exact hch.2 | exact Nb_le r2 (by omega) | omega | rfl), (by first | assumption | exact hch.1 | exact hch.2 | exact Nb_le r2 (by omega) | omega | rfl), (by first | assumption | exact hch.1 | exact hch.2 | exact Nb_le r2 (by omega) | omega | rfl)⟩ (Cls.monz ?_ (fun k hk0 hh f' hC => hE k f' hk0 hh.1 hh.2 hC) ⟨show (1 : Int32) ≠ 0 by decide, show (2 : Int32) ≠ 0 by decide, show (3 : Int32) ≠ 0 by decide, show (4 : Int32) ≠ 0 by decide, trivial⟩ (P_total hS x9 y9 w9))
  rintro ⟨h0, hR, hS'⟩ f' hC
  have W1 := W.out hC
  refine h 0 f' W1.hm fun Q' X' hq => i_Mo_total_ W1.mr (by first | assumption | exact hch.1 | exact hch.2 | exact Nb_le r2 (by omega) | omega | rfl) fun f'' hm => hq _ _ ?_
  obtain ⟨O', W2⟩ := W1.ref hm
  exact ⟨O', ad, adm, _, _, _, _, _, _, _, M, rfl, rfl, W2, hS', by omega, h0, fun _ => by rw [← hR]; rfl⟩
theorem KA_edge {g : GG} {x m ao aod n : Nat} {f : AH} (H : LQ g x m ao aod n f) (hn : n < 1000) (x9 : Int32) (y9 : Int32) (gr9 : Bool) {Q : Option Value → AH → Prop} {X : String → AH → Prop} (h : ∀ (k : Int32) (f' : AH), hobj f' m 10 (fun _ => True) → (∀ (Q' : Option Value → AH → Prop) (X' : String → AH → Prop), (∀ (v : Int32) f'', PoR g x m ao aod (n + 1) k (fun wd _ => wd 0 = v.toInt64) f'' → Q' (some (.int v)) f'') → T_Mo_edge [.ref m, .int x9, .int y9, .int (b2i gr9)] f' Q' X') → Q (some (.int k)) f') : T_La_edge g [.ref x, .int x9, .int y9, .int (b2i gr9), .ref ao] f Q X := by
  obtain ⟨O, ad, adm, sh, V, L, cm, cl, wd, we, M, rfl, rfl, W, hS, hM⟩ := H
  obtain ⟨⟨p1, p2⟩, ⟨p3, p4⟩, ⟨p5, p6, p7, p8⟩, ⟨p9, q1⟩, ⟨q2, q3, q4⟩, q5, ⟨q6, q7, q8, q9⟩, qa⟩ := hS.cp
  obtain ⟨⟨r1, r2, r3, r4⟩, r5, r6, r7, r8, r9, ra⟩ := hS.rp
  have hE : ∀ (k : Int32) (f' : AH), k ≠ 0 → (edgM cm x9 y9 gr9).2 49 0 0 = k → SR ((edgM cm x9 y9 gr9).2) (cl) sh V L M → CR g O f' ad sh V L → Q (some (.int k)) f' := by
    intro k f' hk0 hk hS' hC
    have W1 := W.same hC
    refine h k f' W1.hm fun Q' X' hq => i_Mo_edge_ W1.mr (by first | assumption | exact hch.1 | exact hch.2 | exact Nb_le r2 (by omega) | omega | rfl) fun f'' hm => hq _ _ ?_
    obtain ⟨O', W2⟩ := W1.ref hm
    exact ⟨O', ad, adm, sh, V, L, _, _, wd, we, M, rfl, rfl, W2, hS', by omega, hk, fun e => absurd e hk0⟩
  refine i_La_edge_ W.1 W.2.2.1 ⟨(by first | assumption | exact hch.1 | exact hch.2 | exact Nb_le r2 (by omega) | omega | rfl), (by first | assumption | exact hch.1 | exact hch.2 | exact Nb_le r2 (by omega) | omega | rfl), (by first | assumption | exact hch.1 | exact hch.2 | exact Nb_le r2 (by omega) | omega | rfl)⟩ (Cls.monz ?_ (fun k hk0 hh f' hC => hE k f' hk0 hh.1 hh.2 hC) ⟨show (1 : Int32) ≠ 0 by decide, show (2 : Int32) ≠ 0 by decide, show (3 : Int32) ≠ 0 by decide, show (4 : Int32) ≠ 0 by decide, trivial⟩ (P_edge hS x9 y9 gr9))
  rintro ⟨h0, hR, hS'⟩ f' hC
  have W1 := W.out hC
  refine h 0 f' W1.hm fun Q' X' hq => i_Mo_edge_ W1.mr (by first | assumption | exact hch.1 | exact hch.2 | exact Nb_le r2 (by omega) | omega | rfl) fun f'' hm => hq _ _ ?_
  obtain ⟨O', W2⟩ := W1.ref hm
  exact ⟨O', ad, adm, _, _, _, _, _, _, _, M, rfl, rfl, W2, hS', by omega, h0, fun _ => by rw [← hR]; rfl⟩
theorem KA_isKept {g : GG} {x m ao aod n : Nat} {f : AH} (H : LQ g x m ao aod n f) (hn : n < 1000) (x9 : Int32) {Q : Option Value → AH → Prop} {X : String → AH → Prop} (h : ∀ (k : Int32) (f' : AH), hobj f' m 10 (fun _ => True) → (∀ (Q' : Option Value → AH → Prop) (X' : String → AH → Prop), (∀ (bb : Bool) f'', PoR g x m ao aod (n + 1) k (fun wd _ => wd 0 = (b2i bb).toInt64) f'' → Q' (some (.int (b2i bb))) f'') → T_Mo_isKept [.ref m, .int x9] f' Q' X') → Q (some (.int k)) f') : T_La_isKept g [.ref x, .int x9, .ref ao] f Q X := by
  obtain ⟨O, ad, adm, sh, V, L, cm, cl, wd, we, M, rfl, rfl, W, hS, hM⟩ := H
  obtain ⟨⟨p1, p2⟩, ⟨p3, p4⟩, ⟨p5, p6, p7, p8⟩, ⟨p9, q1⟩, ⟨q2, q3, q4⟩, q5, ⟨q6, q7, q8, q9⟩, qa⟩ := hS.cp
  obtain ⟨⟨r1, r2, r3, r4⟩, r5, r6, r7, r8, r9, ra⟩ := hS.rp
  have hE : ∀ (k : Int32) (f' : AH), k ≠ 0 → thr cm (noScan cm x9) 1 49 0 0 = k → SR (thr cm (noScan cm x9) 1) (cl) sh V L M → CR g O f' ad sh V L → Q (some (.int k)) f' := by
    intro k f' hk0 hk hS' hC
    have W1 := W.same hC
    refine h k f' W1.hm fun Q' X' hq => i_Mo_isKept_ W1.mr (by first | assumption | exact hch.1 | exact hch.2 | exact Nb_le r2 (by omega) | omega | rfl) fun f'' hm => hq _ _ ?_
    obtain ⟨O', W2⟩ := W1.ref hm
    exact ⟨O', ad, adm, sh, V, L, _, _, wd, we, M, rfl, rfl, W2, hS', by omega, hk, fun e => absurd e hk0⟩
  refine i_La_isKept_ W.1 W.2.2.1 ⟨(by first | assumption | exact hch.1 | exact hch.2 | exact Nb_le r2 (by omega) | omega | rfl), (by first | assumption | exact hch.1 | exact hch.2 | exact Nb_le r2 (by omega) | omega | rfl), (by first | assumption | exact hch.1 | exact hch.2 | exact Nb_le r2 (by omega) | omega | rfl), (by first | assumption | exact hch.1 | exact hch.2 | exact Nb_le r2 (by omega) | omega | rfl), (by first | assumption | exact hch.1 | exact hch.2 | exact Nb_le r2 (by omega) | omega | rfl), (by first | assumption | exact hch.1 | exact hch.2 | exact Nb_le r2 (by omega) | omega | rfl)⟩ (Cls.monz ?_ (fun k hk0 hh f' hC => hE k f' hk0 hh.1 hh.2 hC) ⟨show (1 : Int32) ≠ 0 by decide, trivial⟩ (P_isKept hS x9))
  rintro ⟨h0, hR, hS'⟩ f' hC
  have W1 := W.out hC
  refine h 0 f' W1.hm fun Q' X' hq => i_Mo_isKept_ W1.mr (by first | assumption | exact hch.1 | exact hch.2 | exact Nb_le r2 (by omega) | omega | rfl) fun f'' hm => hq _ _ ?_
  obtain ⟨O', W2⟩ := W1.ref hm
  exact ⟨O', ad, adm, _, _, _, _, _, _, _, M, rfl, rfl, W2, hS', by omega, h0, fun _ => by show ite _ _ _ = _; rw [hR]; exact b2i_L _⟩
theorem KA_keptFor {g : GG} {x m ao aod n : Nat} {f : AH} (H : LQ g x m ao aod n f) (hn : n < 1000) (x9 : Int32) (y9 : Int32) (z9 : Int32) {Q : Option Value → AH → Prop} {X : String → AH → Prop} (h : ∀ (k : Int32) (f' : AH), hobj f' m 10 (fun _ => True) → (∀ (Q' : Option Value → AH → Prop) (X' : String → AH → Prop), (∀ (v : Int32) f'', PoR g x m ao aod (n + 1) k (fun wd _ => wd 0 = v.toInt64) f'' → Q' (some (.int v)) f'') → T_Mo_keptFor [.ref m, .int x9, .int y9, .int z9] f' Q' X') → Q (some (.int k)) f') : T_La_keptFor g [.ref x, .int x9, .int y9, .int z9, .ref ao] f Q X := by
  obtain ⟨O, ad, adm, sh, V, L, cm, cl, wd, we, M, rfl, rfl, W, hS, hM⟩ := H
  obtain ⟨⟨p1, p2⟩, ⟨p3, p4⟩, ⟨p5, p6, p7, p8⟩, ⟨p9, q1⟩, ⟨q2, q3, q4⟩, q5, ⟨q6, q7, q8, q9⟩, qa⟩ := hS.cp
  obtain ⟨⟨r1, r2, r3, r4⟩, r5, r6, r7, r8, r9, ra⟩ := hS.rp
  have hE : ∀ (k : Int32) (f' : AH), k ≠ 0 → thr cm (decide (keptF cm x9 y9 z9 (nn (cm 4 0 0)) < 0)) 1 49 0 0 = k → SR (thr cm (decide (keptF cm x9 y9 z9 (nn (cm 4 0 0)) < 0)) 1) (cl) sh V L M → CR g O f' ad sh V L → Q (some (.int k)) f' := by
    intro k f' hk0 hk hS' hC
    have W1 := W.same hC
    refine h k f' W1.hm fun Q' X' hq => i_Mo_keptFor_ W1.mr (by first | assumption | exact hch.1 | exact hch.2 | exact Nb_le r2 (by omega) | omega | rfl) fun f'' hm => hq _ _ ?_
    obtain ⟨O', W2⟩ := W1.ref hm
    exact ⟨O', ad, adm, sh, V, L, _, _, wd, we, M, rfl, rfl, W2, hS', by omega, hk, fun e => absurd e hk0⟩
  refine i_La_keptFor_ W.1 W.2.2.1 ⟨(by first | assumption | exact hch.1 | exact hch.2 | exact Nb_le r2 (by omega) | omega | rfl), (by first | assumption | exact hch.1 | exact hch.2 | exact Nb_le r2 (by omega) | omega | rfl), (by first | assumption | exact hch.1 | exact hch.2 | exact Nb_le r2 (by omega) | omega | rfl), (by first | assumption | exact hch.1 | exact hch.2 | exact Nb_le r2 (by omega) | omega | rfl), (by first | assumption | exact hch.1 | exact hch.2 | exact Nb_le r2 (by omega) | omega | rfl), (by first | assumption | exact hch.1 | exact hch.2 | exact Nb_le r2 (by omega) | omega | rfl)⟩ (Cls.monz ?_ (fun k hk0 hh f' hC => hE k f' hk0 hh.1 hh.2 hC) ⟨show (1 : Int32) ≠ 0 by decide, trivial⟩ (P_keptFor hS x9 y9 z9))
  rintro ⟨h0, hR, hS'⟩ f' hC
  have W1 := W.out hC
  refine h 0 f' W1.hm fun Q' X' hq => i_Mo_keptFor_ W1.mr (by first | assumption | exact hch.1 | exact hch.2 | exact Nb_le r2 (by omega) | omega | rfl) fun f'' hm => hq _ _ ?_
  obtain ⟨O', W2⟩ := W1.ref hm
  exact ⟨O', ad, adm, _, _, _, _, _, _, _, M, rfl, rfl, W2, hS', by omega, h0, fun _ => by rw [← hR]; rfl⟩
theorem KA_sum {g : GG} {x m ao aod n : Nat} {f : AH} (H : LQ g x m ao aod n f) (hn : n < 1000) (x9 : Int32) (y9 : Int32) {Q : Option Value → AH → Prop} {X : String → AH → Prop} (h : ∀ (k : Int32) (f' : AH), hobj f' m 10 (fun _ => True) → (∀ (Q' : Option Value → AH → Prop) (X' : String → AH → Prop), (∀ (v : Int32) f'', PoR g x m ao aod (n + 1) k (fun wd _ => wd 0 = v.toInt64) f'' → Q' (some (.int v)) f'') → T_Mo_sum [.ref m, .int x9, .int y9] f' Q' X') → Q (some (.int k)) f') : T_La_sum g [.ref x, .int x9, .int y9, .ref ao] f Q X := by
  obtain ⟨O, ad, adm, sh, V, L, cm, cl, wd, we, M, rfl, rfl, W, hS, hM⟩ := H
  obtain ⟨⟨p1, p2⟩, ⟨p3, p4⟩, ⟨p5, p6, p7, p8⟩, ⟨p9, q1⟩, ⟨q2, q3, q4⟩, q5, ⟨q6, q7, q8, q9⟩, qa⟩ := hS.cp
  obtain ⟨⟨r1, r2, r3, r4⟩, r5, r6, r7, r8, r9, ra⟩ := hS.rp
  have hE : ∀ (k : Int32) (f' : AH), k ≠ 0 → noSumC cm x9 y9 49 0 0 = k → SR (noSumC cm x9 y9) (cl) sh V L M → CR g O f' ad sh V L → Q (some (.int k)) f' := by
    intro k f' hk0 hk hS' hC
    have W1 := W.same hC
    refine h k f' W1.hm fun Q' X' hq => i_Mo_sum_ W1.mr ⟨(by first | assumption | exact hch.1 | exact hch.2 | exact Nb_le r2 (by omega) | omega | rfl), (by first | assumption | exact hch.1 | exact hch.2 | exact Nb_le r2 (by omega) | omega | rfl), (by first | assumption | exact hch.1 | exact hch.2 | exact Nb_le r2 (by omega) | omega | rfl)⟩ fun f'' hm => hq _ _ ?_
    obtain ⟨O', W2⟩ := W1.ref hm
    exact ⟨O', ad, adm, sh, V, L, _, _, wd, we, M, rfl, rfl, W2, hS', by omega, hk, fun e => absurd e hk0⟩
  refine i_La_sum_ W.1 W.2.2.1 ⟨(by first | assumption | exact hch.1 | exact hch.2 | exact Nb_le r2 (by omega) | omega | rfl), (by first | assumption | exact hch.1 | exact hch.2 | exact Nb_le r2 (by omega) | omega | rfl), (by first | assumption | exact hch.1 | exact hch.2 | exact Nb_le r2 (by omega) | omega | rfl)⟩ (Cls.monz ?_ (fun k hk0 hh f' hC => hE k f' hk0 hh.1 hh.2 hC) ⟨show (1 : Int32) ≠ 0 by decide, show (2 : Int32) ≠ 0 by decide, trivial⟩ (P_sum hS x9 y9))
  rintro ⟨h0, hR, hS'⟩ f' hC
  have W1 := W.out hC
  refine h 0 f' W1.hm fun Q' X' hq => i_Mo_sum_ W1.mr ⟨(by first | assumption | exact hch.1 | exact hch.2 | exact Nb_le r2 (by omega) | omega | rfl), (by first | assumption | exact hch.1 | exact hch.2 | exact Nb_le r2 (by omega) | omega | rfl), (by first | assumption | exact hch.1 | exact hch.2 | exact Nb_le r2 (by omega) | omega | rfl)⟩ fun f'' hm => hq _ _ ?_
  obtain ⟨O', W2⟩ := W1.ref hm
  exact ⟨O', ad, adm, _, _, _, _, _, _, _, M, rfl, rfl, W2, hS', by omega, h0, fun _ => by rw [← hR]; rfl⟩
theorem KA_bound {g : GG} {x m ao aod n : Nat} {f : AH} (H : LQ g x m ao aod n f) (hn : n < 1000) (x9 : Int32) (y9 : Int32) (ab9 : Bool) {Q : Option Value → AH → Prop} {X : String → AH → Prop} (h : ∀ (k : Int32) (f' : AH), hobj f' m 10 (fun _ => True) → (∀ (Q' : Option Value → AH → Prop) (X' : String → AH → Prop), (∀ (v : Int32) f'', PoR g x m ao aod (n + 1) k (fun wd _ => wd 0 = v.toInt64) f'' → Q' (some (.int v)) f'') → T_Mo_bound [.ref m, .int x9, .int y9, .int (b2i ab9)] f' Q' X') → Q (some (.int k)) f') : T_La_bound g [.ref x, .int x9, .int y9, .int (b2i ab9), .ref ao] f Q X := by
  obtain ⟨O, ad, adm, sh, V, L, cm, cl, wd, we, M, rfl, rfl, W, hS, hM⟩ := H
  obtain ⟨⟨p1, p2⟩, ⟨p3, p4⟩, ⟨p5, p6, p7, p8⟩, ⟨p9, q1⟩, ⟨q2, q3, q4⟩, q5, ⟨q6, q7, q8, q9⟩, qa⟩ := hS.cp
  obtain ⟨⟨r1, r2, r3, r4⟩, r5, r6, r7, r8, r9, ra⟩ := hS.rp
  have hE : ∀ (k : Int32) (f' : AH), k ≠ 0 → noSumC cm x9 y9 49 0 0 = k → SR (noSumC cm x9 y9) (cl) sh V L M → CR g O f' ad sh V L → Q (some (.int k)) f' := by
    intro k f' hk0 hk hS' hC
    have W1 := W.same hC
    refine h k f' W1.hm fun Q' X' hq => i_Mo_bound_ W1.mr ⟨(by first | assumption | exact hch.1 | exact hch.2 | exact Nb_le r2 (by omega) | omega | rfl), (by first | assumption | exact hch.1 | exact hch.2 | exact Nb_le r2 (by omega) | omega | rfl), (by first | assumption | exact hch.1 | exact hch.2 | exact Nb_le r2 (by omega) | omega | rfl)⟩ fun f'' hm => hq _ _ ?_
    obtain ⟨O', W2⟩ := W1.ref hm
    exact ⟨O', ad, adm, sh, V, L, _, _, wd, we, M, rfl, rfl, W2, hS', by omega, hk, fun e => absurd e hk0⟩
  refine i_La_bound_ W.1 W.2.2.1 ⟨(by first | assumption | exact hch.1 | exact hch.2 | exact Nb_le r2 (by omega) | omega | rfl), (by first | assumption | exact hch.1 | exact hch.2 | exact Nb_le r2 (by omega) | omega | rfl), (by first | assumption | exact hch.1 | exact hch.2 | exact Nb_le r2 (by omega) | omega | rfl), (by first | assumption | exact hch.1 | exact hch.2 | exact Nb_le r2 (by omega) | omega | rfl), (by first | assumption | exact hch.1 | exact hch.2 | exact Nb_le r2 (by omega) | omega | rfl), (by first | assumption | exact hch.1 | exact hch.2 | exact Nb_le r2 (by omega) | omega | rfl), (by first | assumption | exact hch.1 | exact hch.2 | exact Nb_le r2 (by omega) | omega | rfl)⟩ (Cls.monz ?_ (fun k hk0 hh f' hC => hE k f' hk0 hh.1 hh.2 hC) ⟨show (1 : Int32) ≠ 0 by decide, show (2 : Int32) ≠ 0 by decide, trivial⟩ (P_bound hS x9 y9 ab9))
  rintro ⟨h0, hR, hS'⟩ f' hC
  have W1 := W.out hC
  refine h 0 f' W1.hm fun Q' X' hq => i_Mo_bound_ W1.mr ⟨(by first | assumption | exact hch.1 | exact hch.2 | exact Nb_le r2 (by omega) | omega | rfl), (by first | assumption | exact hch.1 | exact hch.2 | exact Nb_le r2 (by omega) | omega | rfl), (by first | assumption | exact hch.1 | exact hch.2 | exact Nb_le r2 (by omega) | omega | rfl)⟩ fun f'' hm => hq _ _ ?_
  obtain ⟨O', W2⟩ := W1.ref hm
  exact ⟨O', ad, adm, _, _, _, _, _, _, _, M, rfl, rfl, W2, hS', by omega, h0, fun _ => by rw [← hR]; rfl⟩
theorem KA_meanBits {g : GG} {x m ao aod n : Nat} {f : AH} (H : LQ g x m ao aod n f) (hn : n < 1000) {Q : Option Value → AH → Prop} {X : String → AH → Prop} (h : ∀ (k : Int32) (f' : AH), hobj f' m 10 (fun _ => True) → (∀ (Q' : Option Value → AH → Prop) (X' : String → AH → Prop), (∀ (v : UInt64) f'', PoR g x m ao aod (n + 1) k (fun _ we => we 0 = v ∧ Jvm.FP.Core.dIsNaN v = false) f'' → Q' (some (.double v)) f'') → T_Mo_meanBits [.ref m] f' Q' X') → Q (some (.int k)) f') : T_La_meanBits g [.ref x, .ref aod] f Q X := by
  obtain ⟨O, ad, adm, sh, V, L, cm, cl, wd, we, M, rfl, rfl, W, hS, hM⟩ := H
  obtain ⟨⟨p1, p2⟩, ⟨p3, p4⟩, ⟨p5, p6, p7, p8⟩, ⟨p9, q1⟩, ⟨q2, q3, q4⟩, q5, ⟨q6, q7, q8, q9⟩, qa⟩ := hS.cp
  obtain ⟨⟨r1, r2, r3, r4⟩, r5, r6, r7, r8, r9, ra⟩ := hS.rp
  obtain ⟨z1, z2, z3, z4⟩ := P_meanBits hS
  have hE : ∀ (k : Int32) (f' : AH), k ≠ 0 → thr cm (decide (cm 0 0 0 = 0)) 1 49 0 0 = k → SR (thr cm (decide (cm 0 0 0 = 0)) 1) (cl) sh V L M → CR g O f' ad sh V L → Q (some (.int k)) f' := by
    intro k f' hk0 hk hS' hC
    have W1 := W.same hC
    refine h k f' W1.hm fun Q' X' hq => i_Mo_meanBits_ W1.mr ⟨r1, r9, fun q => by rw [z2]; exact n64_of (z1 (by rw [← z3]; exact q))⟩ fun f'' hm => hq _ _ ?_
    obtain ⟨O', W2⟩ := W1.ref hm
    exact ⟨O', ad, adm, sh, V, L, _, _, wd, we, M, rfl, rfl, W2, hS', by omega, hk, fun e => absurd e hk0⟩
  refine i_La_meanBits_ W.1 W.2.2.2.1 ⟨p1, p2, q3, fun q => n64_of (z1 q)⟩ (Cls.monz ?_ (fun k hk0 hh f' hC => hE k f' hk0 hh.1 hh.2 hC) ⟨show (1 : Int32) ≠ 0 by decide, trivial⟩ (z4))
  rintro ⟨h0, hR, hS'⟩ f' hC
  have W1 := W.outD hC
  refine h 0 f' W1.hm fun Q' X' hq => i_Mo_meanBits_ W1.mr ⟨r1, r9, fun q => by rw [z2]; exact n64_of (z1 (by rw [← z3]; exact q))⟩ fun f'' hm => hq _ _ ?_
  obtain ⟨O', W2⟩ := W1.ref hm
  have zn : ¬ V 1 2 = 0 := fun e => by rw [decide_eq_true (z3.trans e)] at h0; exact absurd (show (1 : Int32) = 0 from h0) (by decide)
  exact ⟨O', ad, adm, _, _, _, _, _, _, _, M, rfl, rfl, W2, hS', by omega, h0, fun _ => ⟨hR, by rw [← hR]; exact z1 zn⟩⟩
theorem KA_skippedShare {g : GG} {x m ao aod n : Nat} {f : AH} (H : LQ g x m ao aod n f) (hn : n < 1000) {Q : Option Value → AH → Prop} {X : String → AH → Prop} (h : ∀ (k : Int32) (f' : AH), hobj f' m 10 (fun _ => True) → (∀ (Q' : Option Value → AH → Prop) (X' : String → AH → Prop), (∀ (v : UInt32) f'', PoR g x m ao aod (n + 1) k (fun _ we => we 0 = FP.f2d v ∧ Jvm.FP.Core.dIsNaN (FP.f2d v) = false) f'' → Q' (some (.float v)) f'') → T_Mo_skippedShare [.ref m] f' Q' X') → Q (some (.int k)) f') : T_La_skippedShare g [.ref x, .ref aod] f Q X := by
  obtain ⟨O, ad, adm, sh, V, L, cm, cl, wd, we, M, rfl, rfl, W, hS, hM⟩ := H
  obtain ⟨⟨p1, p2⟩, ⟨p3, p4⟩, ⟨p5, p6, p7, p8⟩, ⟨p9, q1⟩, ⟨q2, q3, q4⟩, q5, ⟨q6, q7, q8, q9⟩, qa⟩ := hS.cp
  obtain ⟨⟨r1, r2, r3, r4⟩, r5, r6, r7, r8, r9, ra⟩ := hS.rp
  obtain ⟨z1, z2, z3, z4⟩ := P_skippedShare hS
  have z5 : ¬ sumI (shA V) sh.S = 0 → Jvm.FP.Core.dIsNaN (FP.f2d (shD sh V)) = false := fun q => by have hh := z1 q; first | exact Jvm.FP.Core.f2d_out hh | (rw [Jvm.FP.f2d_core hh]; exact Jvm.FP.Core.f2d_out hh) | (rw [Jvm.FP.f2d_nan]; exact hh)
  have hE : ∀ (k : Int32) (f' : AH), k ≠ 0 → thr cm (decide (cl 47 = 0)) 1 49 0 0 = k → SR (thr cm (decide (cl 47 = 0)) 1) (cl) sh V L M → CR g O f' ad sh V L → Q (some (.int k)) f' := by
    intro k f' hk0 hk hS' hC
    have W1 := W.same hC
    refine h k f' W1.hm fun Q' X' hq => i_Mo_skippedShare_ W1.mr (fun q => by rw [z2]; exact n32_of (z1 fun e => q (z3.mpr e))) fun f'' hm => hq _ _ ?_
    obtain ⟨O', W2⟩ := W1.ref hm
    exact ⟨O', ad, adm, sh, V, L, _, _, wd, we, M, rfl, rfl, W2, hS', by omega, hk, fun e => absurd e hk0⟩
  refine i_La_skippedShare_ W.1 W.2.2.2.1 ⟨⟨p3, p4, fun q => n32_of (z1 q)⟩, fun q => n64_of (z5 q)⟩ (Cls.monz ?_ (fun k hk0 hh f' hC => hE k f' hk0 hh.1 hh.2 hC) ⟨show (1 : Int32) ≠ 0 by decide, trivial⟩ (z4))
  rintro ⟨h0, hR, hS'⟩ f' hC
  have W1 := W.outD hC
  refine h 0 f' W1.hm fun Q' X' hq => i_Mo_skippedShare_ W1.mr (fun q => by rw [z2]; exact n32_of (z1 fun e => q (z3.mpr e))) fun f'' hm => hq _ _ ?_
  obtain ⟨O', W2⟩ := W1.ref hm
  have zn : ¬ sumI (shA V) sh.S = 0 := fun e => by rw [decide_eq_true (z3.mpr e)] at h0; exact absurd (show (1 : Int32) = 0 from h0) (by decide)
  exact ⟨O', ad, adm, _, _, _, _, _, _, _, M, rfl, rfl, W2, hS', by omega, h0, fun _ => ⟨by rw [← hR]; rfl, by rw [← hR]; exact z5 zn⟩⟩

