-- deps: c9.lawk
/-! ===== what is plainly told ===== -/
section
variable {g : GG} {x m ao aod n : Nat} {f : AH} {Q : Option Value → AH → Prop} {X : String → AH → Prop}
theorem KB_moment (H : LQ g x m ao aod n f) (h : ∀ (v : Int32) (f' : AH), hobj f' m 10 (fun _ => True) → (∀ (Q' : Option Value → AH → Prop) (X' : String → AH → Prop), (∀ f'', LQ g x m ao aod n f'' → Q' (some (.int v)) f'') → T_Mo_moment [.ref m] f' Q' X') → Q (some (.int v)) f') : T_GP_moment g [.ref x] f Q X := by
  obtain ⟨O, ad, adm, sh, V, L, cm, cl, wd, we, M, rfl, rfl, W, hS, hM⟩ := H
  refine i_GP_moment_ W.1 rfl fun f' hC => ?_
  have W1 := W.same hC
  refine h _ f' W1.hm fun Q' X' hq => ?_
  rw [hS.told.1] at hq
  refine i_Mo_moment_ W1.mr fun f'' hm => hq _ ?_
  obtain ⟨O', W2⟩ := W1.ref hm
  exact ⟨O', ad, adm, _, _, _, _, _, _, _, M, rfl, rfl, W2, hS.th _ _, hM⟩
theorem KB_position (H : LQ g x m ao aod n f) (h : ∀ (v : Int32) (f' : AH), hobj f' m 10 (fun _ => True) → (∀ (Q' : Option Value → AH → Prop) (X' : String → AH → Prop), (∀ f'', LQ g x m ao aod n f'' → Q' (some (.int v)) f'') → T_Mo_position [.ref m] f' Q' X') → Q (some (.int v)) f') : T_GP_position g [.ref x] f Q X := by
  obtain ⟨O, ad, adm, sh, V, L, cm, cl, wd, we, M, rfl, rfl, W, hS, hM⟩ := H
  refine i_GP_position_ W.1 rfl fun f' hC => ?_
  have W1 := W.same hC
  refine h _ f' W1.hm fun Q' X' hq => ?_
  rw [hS.told.2.1] at hq
  refine i_Mo_position_ W1.mr fun f'' hm => hq _ ?_
  obtain ⟨O', W2⟩ := W1.ref hm
  exact ⟨O', ad, adm, _, _, _, _, _, _, _, M, rfl, rfl, W2, hS.th _ _, hM⟩
theorem KB_chunks (H : LQ g x m ao aod n f) (h : ∀ (v : Int32) (f' : AH), hobj f' m 10 (fun _ => True) → (∀ (Q' : Option Value → AH → Prop) (X' : String → AH → Prop), (∀ f'', LQ g x m ao aod n f'' → Q' (some (.int v)) f'') → T_Mo_chunks [.ref m] f' Q' X') → Q (some (.int v)) f') : T_GP_chunks g [.ref x] f Q X := by
  obtain ⟨O, ad, adm, sh, V, L, cm, cl, wd, we, M, rfl, rfl, W, hS, hM⟩ := H
  refine i_GP_chunks_ W.1 rfl hS.cp.1.1 fun f' hC => ?_
  have W1 := W.same hC
  refine h _ f' W1.hm fun Q' X' hq => ?_
  rw [← hS.told.2.2.2] at hq
  refine i_Mo_chunks_ W1.mr fun f'' hm => hq _ ?_
  obtain ⟨O', W2⟩ := W1.ref hm
  exact ⟨O', ad, adm, _, _, _, _, _, _, _, M, rfl, rfl, W2, hS.th _ _, hM⟩
theorem KB_chunksRead (H : LQ g x m ao aod n f) (h : ∀ (v : Int64) (f' : AH), hobj f' m 10 (fun _ => True) → (∀ (Q' : Option Value → AH → Prop) (X' : String → AH → Prop), (∀ f'', LQ g x m ao aod n f'' → Q' (some (.long v)) f'') → T_Mo_chunksRead [.ref m] f' Q' X') → Q (some (.long v)) f') : T_GP_chunksRead g [.ref x] f Q X := by
  obtain ⟨O, ad, adm, sh, V, L, cm, cl, wd, we, M, rfl, rfl, W, hS, hM⟩ := H
  refine i_GP_chunksRead_ W.1 rfl fun f' hC => ?_
  have W1 := W.same hC
  refine h _ f' W1.hm fun Q' X' hq => ?_
  rw [← hS.told.2.2.1] at hq
  refine i_Mo_chunksRead_ W1.mr fun f'' hm => hq _ ?_
  obtain ⟨O', W2⟩ := W1.ref hm
  exact ⟨O', ad, adm, _, _, _, _, _, _, _, M, rfl, rfl, W2, hS.th _ _, hM⟩
theorem KB_isSound (H : LQ g x m ao aod n f) (h : ∀ (f' : AH), hobj f' m 10 (fun _ => True) → (∀ (Q' : Option Value → AH → Prop) (X' : String → AH → Prop), (∀ f'', LQ g x m ao aod n f'' → Q' (some (.int (b2i true))) f'') → T_Mo_isSound [.ref m] f' Q' X') → Q (some (.int (b2i true))) f') : T_GP_isSound g [.ref x] f Q X := by
  obtain ⟨O, ad, adm, sh, V, L, cm, cl, wd, we, M, rfl, rfl, W, hS, hM⟩ := H
  obtain ⟨s1, s2⟩ := snd_pre hS
  refine i_GP_isSound_ W.1 rfl ⟨rfl, s1⟩ fun f' hC => ?_
  have W1 := W.same hC
  refine h f' W1.hm fun Q' X' hq => i_Mo_isSound_ W1.mr fun f'' hm => hq _ ?_
  obtain ⟨O', W2⟩ := W1.ref hm
  exact ⟨O', ad, adm, _, _, _, _, _, _, _, M, rfl, rfl, W2, s2, hM⟩
end

