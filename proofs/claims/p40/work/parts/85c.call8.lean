-- deps: 58.list 81.inits
/-! ===== calls with more on the stack ===== -/
def vcat : Value → Nat
  | .long _ => 2
  | .double _ => 2
  | _ => 1
def csum : List Value → Nat
  | [] => 0
  | v :: r => vcat v + csum r
theorem csum_eq : ∀ l : List Value, csum l = (l.map fun v => v.category).sum
  | [] => rfl
  | v :: r => by
    rw [csum, List.map_cons, List.sum_cons, csum_eq r]
    cases v <;> rfl
theorem csum_n : csum [] = 0 := (rfl)
theorem csum_i (x : Int32) (r : List Value) : csum (.int x :: r) = 1 + csum r := (rfl)
theorem csum_r (x : Nat) (r : List Value) : csum (.ref x :: r) = 1 + csum r := (rfl)
def o_call8 (T : Spec2) (n mc ms : Nat) : Op := fun lv st f bc bs K _ _ X => n ≤ st.length ∧ csum (cdrop st n) ≤ 8 ∧ ∃ bc' bs', bc = bc' + mc ∧ bs = bs' + ms ∧ T (ctake st n).reverse f (fun v f' => K lv (v.toList ++ cdrop st n) f' bc' bs') X
def o_callV8 (T : Spec2) (ci n mc ms : Nat) : Op := fun lv st f bc bs K B Q X => (∃ a fs, (ctake st n).reverse.head? = some (.ref a) ∧ f a = some (.inr (ci, fs))) ∧ o_call8 T n mc ms lv st f bc bs K B Q X
def o_callF8 (T : Spec2) (ci n mc ms : Nat) : Op := fun lv st f bc bs K B Q X => (∃ b fs, (ctake st n).reverse.head? = some (.ref b) ∧ f b = some (.inr (ci, fs))) ∧ o_call8 T n mc ms lv st f bc bs K B Q (fun _ _ => False)
theorem ok_callV8 {M : MI} {pc i n k mc ms ci : Nat} {y : MethodName} {T : Spec2} {o2 : String} {cc2 : ByteArray} {nL2 : Nat} {ret2 : Option FieldType} {hh2 : List (Nat × Nat × Nat × Nat)} {ii2 : Bool} {lv2 : Nat} {r : vw_C} {ty : Nat → FieldType} (hc : ClsOk ci r ty) (hS2 : Snd y (o2, cc2, nL2, ret2, hh2, ii2, lv2, M.2.2.2.2.2.2.2) mc ms T) (hlv : lv2 < M.2.2.2.2.2.2.1) (hnl : nL2 ≤ 41) (hh : M.2.2.2.2.1 = []) (hk : n = k + 1)
    (h1 : Cond.methodLink M.1 i y ∈ lw_tbl) (h5 : Cond.instanceMethod y ∈ lw_tbl) (h2 : Cond.selects r.1 y y ∈ lw_tbl) (h3 : Cond.initialized y.cls ∈ lw_tbl) (h4 : Cond.code y cc2 nL2 ret2 ∈ lw_tbl)
    (hd : y.cls ≠ "java/lang/invoke/MethodHandle" ∧ y.cls ≠ "java/lang/invoke/VarHandle" ∧ (parseMethodDescriptor y.desc).map (fun d => d.parameters.length) = some k) (d : decode M.2.1 pc = .ok (.invokevirtual i, 3)) : OpOk M pc 3 (o_callV8 T ci n mc ms) := by
  intro C Q X hC K hK B' hB lv st f bc bs h
  obtain ⟨⟨g, MC, MS⟩, ⟨p, l, e, R⟩, ⟨s, m, args, below, meth, c⟩, Qf⟩ := C
  obtain ⟨hx, hb, hml, hown, hw, hlk, hE, hst, hR, hex, hin, hrt, hQ, hgl⟩ := hC
  intro ls H locs cells slots hl hrep hS hc1 hc2
  obtain ⟨⟨b, fs, hhd, hbf⟩, h⟩ := h
  obtain ⟨hn, hrl, bc', bs', rfl, rfl, hT⟩ := h
  subst hR hQ
  obtain ⟨hg, hl9⟩ := hgl
  subst hg hl9
  have hPc : ∀ U : State, U.heap = H → s.WarmedH U.vm → PcOf M.2.2.2.2.2.2.2.1 (ctake st n).reverse f (ctake st n).reverse.toArray U := fun U hU hW => ⟨rfl, by rw [hU]; exact hrep, by rw [hU]; exact hE.go hW hS.1 hS.2.1, hw.warm hW⟩
  have hex0 : c.exceptionTable.toList = [] := by rw [hex, hh]; rfl
  have kx : ∀ (E : String) (ce : Cell) (q9 : Addr) (f' : AH) (H1 : Heap) (locs1 : List Loc), X E f' → Rep M.2.2.2.2.2.2.2.1 f' H1 → va_S (Ag M.2.2.2.2.2.2.2.1) s.heap H1 locs1 → H1[q9]? = some ce → ce.vm = .none → s.vm.findClass E = some ce.cls → vx_W p M.2.2.2.2.2.2.2.2 e (lvlRoom M.2.2.2.2.2.2.1 MC MS) s m args below meth c H1 locs1 (cells + mc) (slots + ms) (vx_MQ below (QcOf M.2.2.2.2.2.2.2.1 Q) (XcOf M.2.2.2.2.2.2.2.1 X) args s MC MS (Ag M.2.2.2.2.2.2.2.1)) (F0 m pc ls (cdrop st n)) q9 := fun E ce q9 f' H1 locs1 hX hr1 hS1 h1 h2 h3 =>
    vx_out (fun x hx9 => by rw [hex0] at hx9; cases hx9) hlk h1 h2 h3 (fun t ht hal => ⟨f', hX, by rw [ht]; exact hr1, hS1.F ht⟩) hS1.2.2 (by omega) (by omega)
  have kk : ∀ (v : Option Value) (f' : AH) (H1 : Heap) (locs1 : List Loc), K lv (v.toList ++ cdrop st n) f' bc' bs' → Rep M.2.2.2.2.2.2.2.1 f' H1 → va_S (Ag M.2.2.2.2.2.2.2.1) s.heap H1 locs1 → W p M.2.2.2.2.2.2.2.2 e (lvlRoom M.2.2.2.2.2.2.1 MC MS) s m args below meth c H1 locs1 (cells + mc) (slots + ms) (vx_MQ below (QcOf M.2.2.2.2.2.2.2.1 Q) (XcOf M.2.2.2.2.2.2.2.1 X) args s MC MS (Ag M.2.2.2.2.2.2.2.1)) (F0 m (pc + 3) ls (v.toList ++ cdrop st n)) := fun v f' H1 locs1 hk hr1 hS1 => hK _ _ _ _ _ hk ls H1 locs1 _ _ hl hr1 hS1 (by omega) (by omega)
  have hstk := ctd st n
  have hcl := ctl st n hn
  have hv8 : ((cdrop st n).map fun v => v.category).sum ≤ 8 := by rw [← csum_eq]; exact hrl
  have hroom := room_le (MC := MC) (MS := MS) (mc := mc) (ms := ms) hlv hnl
  have hS3 := hS2 _ f _ X hT
  obtain ⟨As, eA, eB⟩ := head_split hhd
  have hrecv := va_recv (ci := ci) (q := r) (q0 := 0) hE.1 (hrep.one hbf) hc.1 rfl
  have hlA : As.length = k := by have h9 := congrArg List.length eA; rw [List.length_reverse, hcl] at h9; simp at h9; omega
  rw [eA] at hPc hS3
  refine call_row (rest := cdrop st n) (a := (Value.ref b :: As).toArray) (vx_runV (Ts := []) (own := M.1) (C := r.1) (nL := M.2.2.1) (As := As) (b := b) (n := k) ⟨hx, hb, hml, hown, fun w h9 => by cases h9⟩ hS3 ⟨⟨rfl, rfl, hroom.1, hroom.2, ws_one (hw _ h4 rfl) rfl, List.mem_cons_self, hw _ h4 rfl, hw _ h3 rfl, ⟨hd.1, hd.2.1⟩, fun sig q => by have h9 := hd.2.2; rw [q] at h9; exact (Option.some.inj h9).symm, hw _ h1 rfl⟩, hw _ h5 rfl, hw _ h2 rfl⟩ ⟨PcOf.blind _ _ _, hrecv, hPc⟩ rfl hlA hl.1 (by show st = _; rw [eB, List.append_assoc] at hstk; exact hstk) (lv_room hv8) d ⟨by show _ ≤ MC; omega, by show _ ≤ MS; omega⟩) hS kx kk
theorem ok_callF8 {M : MI} {pc i n k mc ms ci cnt : Nat} {x y : MethodName} {T : Spec2} {o2 : String} {cc2 : ByteArray} {nL2 : Nat} {ret2 : Option FieldType} {hh2 : List (Nat × Nat × Nat × Nat)} {ii2 : Bool} {lv2 : Nat} {r : vw_C} {ty : Nat → FieldType} (hc : ClsOk ci r ty) (hS2 : Snd y (o2, cc2, nL2, ret2, hh2, ii2, lv2, M.2.2.2.2.2.2.2) mc ms T) (hlv : lv2 < M.2.2.2.2.2.2.1) (hnl : nL2 ≤ 41) (hh : M.2.2.2.2.1 = []) (hk : n = k + 1)
    (h1 : Cond.methodLink M.1 i x ∈ lw_tbl) (h2 : Cond.declares x ∈ lw_tbl) (h3 : Cond.interfaceMethod x.cls x.cls x.name x.desc ∈ lw_tbl) (h4 : Cond.selects r.1 x y ∈ lw_tbl) (h5 : Cond.instanceMethod y ∈ lw_tbl) (h6 : Cond.publicMethod y ∈ lw_tbl) (h7 : Cond.unhidden r.1 x.name x.desc ∈ lw_tbl) (h8 : Cond.castable r.1 x.cls ∈ lw_tbl) (h9 : Cond.initialized y.cls ∈ lw_tbl) (ha : Cond.code y cc2 nL2 ret2 ∈ lw_tbl)
    (hkw : kw (Cond.declares x) = true ∧ kw (Cond.interfaceMethod x.cls x.cls x.name x.desc) = true ∧ kw (Cond.publicMethod y) = true ∧ kw (Cond.unhidden r.1 x.name x.desc) = true ∧ kw (Cond.castable r.1 x.cls) = true)
    (hd : x.cls ≠ "java/lang/invoke/MethodHandle" ∧ x.cls ≠ "java/lang/invoke/VarHandle" ∧ (parseMethodDescriptor x.desc).map (fun d => d.parameters.length) = some k) (d : decode M.2.1 pc = .ok (.invokeinterface i cnt, 5)) : OpOk M pc 5 (o_callF8 T ci n mc ms) := by
  intro C Q X hC K hK B' hB lv st f bc bs h
  obtain ⟨⟨g, MC, MS⟩, ⟨p, l, e, R⟩, ⟨s, m, args, below, meth, c⟩, Qf⟩ := C
  obtain ⟨hx, hb, hml, hown, hw, hlk, hE, hst, hR, hex, hin, hrt, hQ, hgl⟩ := hC
  intro ls H locs cells slots hl hrep hS hc1 hc2
  obtain ⟨⟨b, fs, hhd, hbf⟩, h⟩ := h
  obtain ⟨hn, hrl, bc', bs', rfl, rfl, hT⟩ := h
  subst hR hQ
  obtain ⟨hg, hl9⟩ := hgl
  subst hg hl9
  have hPc : ∀ U : State, U.heap = H → s.WarmedH U.vm → PcOf M.2.2.2.2.2.2.2.1 (ctake st n).reverse f (ctake st n).reverse.toArray U := fun U hU hW => ⟨rfl, by rw [hU]; exact hrep, by rw [hU]; exact hE.go hW hS.1 hS.2.1, hw.warm hW⟩
  have hex0 : c.exceptionTable.toList = [] := by rw [hex, hh]; rfl
  have hstk := ctd st n
  have hcl := ctl st n hn
  have hv8 : ((cdrop st n).map fun v => v.category).sum ≤ 8 := by rw [← csum_eq]; exact hrl
  have hroom := room_le (MC := MC) (MS := MS) (mc := mc) (ms := ms) hlv hnl
  have hS3 := hS2 _ f _ (fun _ _ => False) hT
  obtain ⟨As, eA, eB⟩ := head_split hhd
  have hlA : As.length = k := by have h9 := congrArg List.length eA; rw [List.length_reverse, hcl] at h9; simp at h9; omega
  have hrecv := va_recv (ci := ci) (q := r) (q0 := 0) hE.1 (hrep.one hbf) hc.1 rfl
  rw [eA] at hPc hS3
  have keep : ∀ {st₀ t T' : State} {L : List Loc}, st₀.heap = H → T'.heap = t.heap → (∀ z ∈ L, Ag M.2.2.2.2.2.2.2.1 z.base) → va_F (Ag M.2.2.2.2.2.2.2.1) st₀ t → va_S (Ag M.2.2.2.2.2.2.2.1) s.heap T'.heap (locs ++ L) := fun h0 e1 hL hF => (vx_keep h0 e1 hS (fun _ _ z => z) (fun _ z => z) hL hF).2.2
  intro T9 hT9 X9
  obtain ⟨v, st₀, t, T', L, h0, X', hL, e1, e2, ⟨r', f', hv, hq, hrep', hF⟩, st⟩ := va_runF (Ts := []) (own := M.1) (C := r.1) (nL := M.2.2.1) (rest := cdrop st n) (As := As) (b := b) (n := k) (hE.1.1 ci r hc.1).2 ⟨hx, hb, hml, hown, fun w h9 => by cases h9⟩ (met_of_vx hS3 (fun E a b q => by obtain ⟨f9, q9, -⟩ := q; exact q9)) ⟨⟨rfl, rfl, hroom.1, hroom.2, ws_one (hw _ ha rfl) rfl, List.mem_cons_self⟩, hw _ h1 rfl, hw _ h2 hkw.1, hw _ h3 hkw.2.1, hw _ h4 rfl, hw _ h5 rfl, hw _ h6 hkw.2.2.1, hw _ h7 hkw.2.2.2.1, hw _ h8 hkw.2.2.2.2, hw _ h9 rfl, hw _ ha rfl, ⟨hd.1, hd.2.1⟩, fun sig q => by have h9 := hd.2.2; rw [q] at h9; exact (Option.some.inj h9).symm⟩ ⟨PcOf.blind _ _ _, hrecv, hPc⟩ rfl hlA hl.1 (by show st = _; rw [eB, List.append_assoc] at hstk; exact hstk) (lv_room hv8) d ⟨by show _ ≤ MC; omega, by show _ ≤ MS; omega⟩ T9 hT9 X9
  cases hv
  obtain ⟨t2, a1, b1⟩ := hK _ _ _ _ _ hq ls T'.heap (locs ++ L) _ _ hl (by rw [e1]; exact hrep') (keep h0 e1 hL hF) (by omega) (by omega) T' rfl X'
  exact ⟨t2, st t2 a1, b1⟩
def o_callR8 (T : Spec2) (ci n : Nat) : Op := fun lv st f bc bs K _ _ X => match (ctake st n).reverse with | .ref a :: _ => hobj f a ci (fun _ => True) ∧ n ≤ st.length ∧ csum (cdrop st n) ≤ 8 ∧ T (ctake st n).reverse f (fun v f' => K lv (v.toList ++ cdrop st n) f' bc bs) X | _ => False
theorem callR8_of {T : Spec2} {ci n : Nat} : ∀ lv st f bc bs K B Q X, o_callR8 T ci n lv st f bc bs K B Q X → o_callV8 T ci n 0 0 lv st f bc bs K B Q X := fun lv st f bc bs K B Q X h => by
  simp only [o_callR8] at h
  split at h
  · next a r e =>
    obtain ⟨fs, hf, -⟩ := hobj_ex h.1
    exact ⟨⟨a, fs, by rw [e]; rfl, hf⟩, h.2.1, h.2.2.1, bc, bs, rfl, rfl, h.2.2.2⟩
  · exact h.elim
theorem e_callR8 (T : Spec2) (ci n : Nat) (lv : LV) (st : List Value) (f : AH) (bc bs : Nat) (K : Kx) (B : Bx) (Q : Option Value → AH → Prop) (X : String → AH → Prop) : o_callR8 T ci n lv st f bc bs K B Q X = (PHd (ctake st n).reverse (fun a => hobj f a ci (fun _ => True) ∧ n ≤ st.length ∧ csum (cdrop st n) ≤ 8 ∧ T (ctake st n).reverse f (fun v f' => K lv (v.toList ++ cdrop st n) f' bc bs) X) (0 : Nat)) := by
  simp only [o_callR8]
  generalize (ctake st n).reverse = z
  rcases z with _ | ⟨v, r⟩
  · rfl
  · cases v <;> rfl
def o_callG8 (T : Spec2) (ci n : Nat) : Op := fun lv st f bc bs K _ _ _ => match (ctake st n).reverse with | .ref a :: _ => hobj f a ci (fun _ => True) ∧ n ≤ st.length ∧ csum (cdrop st n) ≤ 8 ∧ T (ctake st n).reverse f (fun v f' => K lv (v.toList ++ cdrop st n) f' bc bs) (fun _ _ => False) | _ => False
theorem callG8_of {T : Spec2} {ci n : Nat} : ∀ lv st f bc bs K B Q X, o_callG8 T ci n lv st f bc bs K B Q X → o_callF8 T ci n 0 0 lv st f bc bs K B Q X := fun lv st f bc bs K B Q X h => by
  simp only [o_callG8] at h
  split at h
  · next a r e =>
    obtain ⟨fs, hf, -⟩ := hobj_ex h.1
    exact ⟨⟨a, fs, by rw [e]; rfl, hf⟩, h.2.1, h.2.2.1, bc, bs, rfl, rfl, h.2.2.2⟩
  · exact h.elim
theorem e_callG8 (T : Spec2) (ci n : Nat) (lv : LV) (st : List Value) (f : AH) (bc bs : Nat) (K : Kx) (B : Bx) (Q : Option Value → AH → Prop) (X : String → AH → Prop) : o_callG8 T ci n lv st f bc bs K B Q X = (PHd (ctake st n).reverse (fun a => hobj f a ci (fun _ => True) ∧ n ≤ st.length ∧ csum (cdrop st n) ≤ 8 ∧ T (ctake st n).reverse f (fun v f' => K lv (v.toList ++ cdrop st n) f' bc bs) (fun _ _ => False)) (0 : Nat)) := by
  simp only [o_callG8]
  generalize (ctake st n).reverse = z
  rcases z with _ | ⟨v, r⟩
  · rfl
  · cases v <;> rfl


