-- deps: 85c.call8
/-! ===== methods with handlers, called and calling ===== -/
abbrev HT : Type := (Nat × Nat × Nat × Nat) × String
def hEn (z : HT) : ExceptionTableEntry := ⟨z.1.1, z.1.2.1, z.1.2.2.1, z.1.2.2.2⟩
def hLk : List HT → String → Option Nat
  | [], _ => none
  | z :: r, E => if z.2 = E then some z.1.2.2.1 else hLk r E
theorem hLk_split : ∀ {hs : List HT} {E : String} {t : Nat}, hLk hs E = some t → ∃ pre x suf, hs = pre ++ x :: suf ∧ x.2 = E ∧ x.1.2.2.1 = t ∧ ∀ z ∈ pre, z.2 ≠ E
  | [], _, _, h => by cases h
  | z :: r, E, t, h => by
    rw [hLk] at h
    by_cases hz : z.2 = E
    · rw [if_pos hz] at h
      exact ⟨[], z, r, rfl, hz, Option.some.inj h, fun _ h => by cases h⟩
    · rw [if_neg hz] at h
      obtain ⟨pre, x, suf, e, h1, h2, h3⟩ := hLk_split h
      refine ⟨z :: pre, x, suf, by rw [e]; rfl, h1, h2, fun w hw => ?_⟩
      rcases List.mem_cons.mp hw with rfl | hw
      · exact hz
      · exact h3 w hw
def HsOk (M : MI) (pc : Nat) (hs : List HT) : Prop := M.2.2.2.2.1 = hs.map (·.1) ∧ ∀ z ∈ hs, covers (hEn z) pc = true ∧ z.1.2.2.2 ≠ 0 ∧ Cond.classLink M.1 z.1.2.2.2 z.2 ∈ lw_tbl ∧ Cond.castable z.2 z.2 ∈ lw_tbl ∧ ∀ w ∈ hs, w.2 ≠ z.2 → (z.2, w.2) ∈ g_ncs
/-- a call of an object of class ci, where handlers stand ready -/
def o_callVH (T : Spec2) (ci n mc ms : Nat) (hs : List HT) : Op := fun lv st f bc bs K B _ _ => (∃ a fs, (ctake st n).reverse.head? = some (.ref a) ∧ f a = some (.inr (ci, fs))) ∧ n ≤ st.length ∧ (cdrop st n).length ≤ 4 ∧ ∃ bc' bs', bc = bc' + mc ∧ bs = bs' + ms ∧ T (ctake st n).reverse f (fun v f' => K lv (v.toList ++ cdrop st n) f' bc' bs') (fun E f' => ∃ t, hLk hs E = some t ∧ ∀ q, B t lv [.ref q] f' bc' bs')
theorem ok_callVH {M : MI} {pc i n k mc ms ci : Nat} {y : MethodName} {T : Spec2} {o2 : String} {cc2 : ByteArray} {nL2 : Nat} {ret2 : Option FieldType} {hh2 : List (Nat × Nat × Nat × Nat)} {ii2 : Bool} {lv2 : Nat} {r : vw_C} {ty : Nat → FieldType} {hs : List HT} (hc : ClsOk ci r ty) (hS2 : Snd y (o2, cc2, nL2, ret2, hh2, ii2, lv2, M.2.2.2.2.2.2.2) mc ms T) (hlv : lv2 < M.2.2.2.2.2.2.1) (hnl : nL2 ≤ 41) (hh : HsOk M pc hs) (hk : n = k + 1)
    (h1 : Cond.methodLink M.1 i y ∈ lw_tbl) (h5 : Cond.instanceMethod y ∈ lw_tbl) (h2 : Cond.selects r.1 y y ∈ lw_tbl) (h3 : Cond.initialized y.cls ∈ lw_tbl) (h4 : Cond.code y cc2 nL2 ret2 ∈ lw_tbl)
    (hd : y.cls ≠ "java/lang/invoke/MethodHandle" ∧ y.cls ≠ "java/lang/invoke/VarHandle" ∧ (parseMethodDescriptor y.desc).map (fun d => d.parameters.length) = some k) (d : decode M.2.1 pc = .ok (.invokevirtual i, 3)) : OpOk M pc 3 (o_callVH T ci n mc ms hs) := by
  intro C Q X hC K hK B' hB lv st f bc bs h
  obtain ⟨⟨g, MC, MS⟩, ⟨p, l, e, R⟩, ⟨s, m, args, below, meth, c⟩, Qf⟩ := C
  obtain ⟨hx, hb, hml, hown, hw, hlk, hE, hst, hR, hex, hin, hrt, hQ, hgl⟩ := hC
  intro ls H locs cells slots hl hrep hS hc1 hc2
  obtain ⟨⟨b, fs, hhd, hbf⟩, h⟩ := h
  obtain ⟨hn, hrl, bc', bs', rfl, rfl, hT⟩ := h
  subst hR hQ
  obtain ⟨hg, hl9⟩ := hgl
  subst hg hl9
  have hPc : ∀ U : State, U.heap = H → s.WarmedH U.vm → PcOf M.2.2.2.2.2.2.2.1 (ctake st n).reverse f (ctake st n).reverse.toArray U := fun U hU hW => ⟨rfl, by rw [hU]; exact hrep, by rw [hU]; exact hE.go hW hS.1 hS.2.1, hw.warm hW⟩
  have kx : ∀ (E : String) (ce : Cell) (q9 : Addr) (f' : AH) (H1 : Heap) (locs1 : List Loc), (∃ t, hLk hs E = some t ∧ ∀ q, B' t lv [.ref q] f' bc' bs') → Rep M.2.2.2.2.2.2.2.1 f' H1 → va_S (Ag M.2.2.2.2.2.2.2.1) s.heap H1 locs1 → H1[q9]? = some ce → ce.vm = .none → s.vm.findClass E = some ce.cls → vx_W p M.2.2.2.2.2.2.2.2 e (lvlRoom M.2.2.2.2.2.2.1 MC MS) s m args below meth c H1 locs1 (cells + mc) (slots + ms) (vx_MQ below (QcOf M.2.2.2.2.2.2.2.1 Q) (XcOf M.2.2.2.2.2.2.2.1 X) args s MC MS (Ag M.2.2.2.2.2.2.2.1)) (F0 m pc ls (cdrop st n)) q9 := by
    intro E ce q9 f' H1 locs1 hX hr1 hS1 g1 g2 g3
    obtain ⟨t, ht, hq⟩ := hX
    obtain ⟨pre, x, suf, e1, e2, e3, e4⟩ := hLk_split ht
    obtain ⟨hh1, hh2⟩ := hh
    have hsplit : c.exceptionTable.toList = pre.map hEn ++ hEn x :: suf.map hEn := by
      rw [hex, hh1, e1, tableOf, List.map_map, List.map_append, List.map_cons]
      rfl
    have hxm : x ∈ hs := by rw [e1]; exact List.mem_append_right _ List.mem_cons_self
    obtain ⟨x1, x2, x3, x4, x5⟩ := hh2 x hxm
    have x3' : Cond.classLink M.1 x.1.2.2.2 E ∈ lw_tbl := by rw [← e2]; exact x3
    have x4' : Cond.castable E E ∈ lw_tbl := by rw [← e2]; exact x4
    refine vx_catch hown (pre.map hEn) (hEn x) (suf.map hEn) hsplit (fun z hz => ?_) x1 x2 (hw _ x3' rfl) (hw _ x4' rfl) g1 g2 g3 ?_
    · obtain ⟨w, hw1, rfl⟩ := List.mem_map.mp hz
      have hwm : w ∈ hs := by rw [e1]; exact List.mem_append_left _ hw1
      obtain ⟨w1, w2, w3, -⟩ := hh2 w hwm
      refine .inr ⟨w2, w.2, hw _ w3 rfl, ?_⟩
      have hn := x5 w hwm (by rw [e2]; exact e4 w hw1)
      have := hE.2.2.2.2.2.2.2.1 _ hn
      rw [e2] at this
      exact this
    · have := hB _ _ _ _ _ _ (hq q9) ls H1 locs1 (cells + mc) (slots + ms) hl hr1 hS1 (by omega) (by omega)
      rw [← e3] at this
      exact this
  have kk : ∀ (v : Option Value) (f' : AH) (H1 : Heap) (locs1 : List Loc), K lv (v.toList ++ cdrop st n) f' bc' bs' → Rep M.2.2.2.2.2.2.2.1 f' H1 → va_S (Ag M.2.2.2.2.2.2.2.1) s.heap H1 locs1 → W p M.2.2.2.2.2.2.2.2 e (lvlRoom M.2.2.2.2.2.2.1 MC MS) s m args below meth c H1 locs1 (cells + mc) (slots + ms) (vx_MQ below (QcOf M.2.2.2.2.2.2.2.1 Q) (XcOf M.2.2.2.2.2.2.2.1 X) args s MC MS (Ag M.2.2.2.2.2.2.2.1)) (F0 m (pc + 3) ls (v.toList ++ cdrop st n)) := fun v f' H1 locs1 hk hr1 hS1 => hK _ _ _ _ _ hk ls H1 locs1 _ _ hl hr1 hS1 (by omega) (by omega)
  have hstk := ctd st n
  have hcl := ctl st n hn
  have hv8 : ((cdrop st n).map fun v => v.category).sum ≤ 8 := by
    have : ∀ l : List Value, (l.map fun v => v.category).sum ≤ 2 * l.length := by
      intro l
      induction l with
      | nil => simp
      | cons v r ih =>
        have hv : v.category ≤ 2 := by rcases lv_cat v with h | h <;> omega
        simp only [List.map_cons, List.sum_cons, List.length_cons]
        omega
    have := this (cdrop st n)
    omega
  have hroom := room_le (MC := MC) (MS := MS) (mc := mc) (ms := ms) hlv hnl
  have hS3 := hS2 _ f _ _ hT
  obtain ⟨As, eA, eB⟩ := head_split hhd
  have hrecv := va_recv (ci := ci) (q := r) (q0 := 0) hE.1 (hrep.one hbf) hc.1 rfl
  have hlA : As.length = k := by have h9 := congrArg List.length eA; rw [List.length_reverse, hcl] at h9; simp at h9; omega
  rw [eA] at hPc hS3
  refine call_row (rest := cdrop st n) (a := (Value.ref b :: As).toArray) (vx_runV (Ts := []) (own := M.1) (C := r.1) (nL := M.2.2.1) (As := As) (b := b) (n := k) ⟨hx, hb, hml, hown, fun w h9 => by cases h9⟩ hS3 ⟨⟨rfl, rfl, hroom.1, hroom.2, ws_one (hw _ h4 rfl) rfl, List.mem_cons_self, hw _ h4 rfl, hw _ h3 rfl, ⟨hd.1, hd.2.1⟩, fun sig q => by have h9 := hd.2.2; rw [q] at h9; exact (Option.some.inj h9).symm, hw _ h1 rfl⟩, hw _ h5 rfl, hw _ h2 rfl⟩ ⟨PcOf.blind _ _ _, hrecv, hPc⟩ rfl hlA hl.1 (by show st = _; rw [eB, List.append_assoc] at hstk; exact hstk) (lv_room hv8) d ⟨by show _ ≤ MC; omega, by show _ ≤ MS; omega⟩) hS kx kk
/-- a method with handlers: what it throws, it catches -/
def SndH (y : MethodName) (M : MI) (mc ms : Nat) (T : Spec2) : Prop :=
  ∀ (as : List Value) (f : AH) (Q : Option Value → AH → Prop), T as f Q (fun _ _ => False) →
    vx_Met M.2.2.2.2.2.2.2.2 y [Cond.codeWith y M.2.1 M.2.2.1 M.2.2.2.1 M.2.2.2.2.1] (lvlRoom M.2.2.2.2.2.2.1 mc ms) (PcOf M.2.2.2.2.2.2.2.1 as f) (QcOf M.2.2.2.2.2.2.2.1 Q) (XcOf M.2.2.2.2.2.2.2.1 fun _ _ => False) mc ms (Ag M.2.2.2.2.2.2.2.1)
theorem vw_ofWH {l : Launch} {y : MethodName} {ws ws' : List Cond} {rm : Room} {Pc : Array Value → State → Prop} {Qc : Array Value → State → Outcome → State → Prop} {XC : String → State → State → Prop} {mc ms : Nat} {free : Addr → Prop} {cc : ByteArray} {maxL : Nat} {ret : Option FieldType} {hh : List (Nat × Nat × Nat × Nat)}
    (hy : plainFor y = true) (hw : ws = Cond.codeWith y cc maxL ret hh :: ws')
    (body : ∀ p e s m args below meth c s₁, BodyLoose p l y (headSpec ws rm) cc maxL ret e s m args below meth c s₁ → c.maxLocals = maxL → c.exceptionTable.toList = tableOf hh → Pc args s →
      W p l e (headSpec ws rm).room s m args below meth c s.heap [] 0 0 (vx_MQ below Qc XC args s mc ms free) (entryFrame m args maxL)) : vx_Met l y ws rm Pc Qc XC mc ms free := by
  refine MetFree.of_bodySF (code := cc) (maxLocals := maxL) (ret := ret) hy ?_ ?_
  · intro args s m h hn
    obtain ⟨m9, meth, c, hn9, h1, h2, h3, h4, -, h5, h6, -⟩ := Cond.codeWith_spec (atoms_spec (ws := ws) h _ (by rw [hw]; exact List.mem_cons_self))
    cases Option.some.inj (hn9.symm.trans hn)
    exact ⟨meth, c, h1, h2, h3, h4, h5, h6⟩
  · intro p e s m args below meth c s₁ B hml hP _
    have hh0 : s₁.heap = s.heap := by rw [B.state]; rfl
    have ht := vx_table (x := y) B (atoms_spec (ws := ws) B.pre _ (by rw [hw]; exact List.mem_cons_self))
    obtain ⟨t, a1, o, b1, b2, b3⟩ := body p e s m args below meth c s₁ B hml ht hP s₁ hh0 (Stand.of_body B)
    exact ⟨t, o, a1, b1, b2, b3⟩
theorem snd_ofH {y : MethodName} {M : MI} {mc ms : Nat} {T : Spec2} (hy : plainFor y = true) (hy1 : y.cls = M.1) (hni : M.2.2.2.2.2.1 = true → y.name = "<init>") (hst : M.2.2.2.2.2.2.2.2.stackTraces = false) (blks : List (Nat × Blk)) (ok : ∀ b ∈ blks, BlkOk M b.1 b.2)
    (h : ∀ as f Q X, T as f Q X → ∃ lv0 : LV, las 0 lv0 = lv_args 0 as ∧ (lg_sl as).length ≤ M.2.2.1 ∧ ∀ B : Bx, (∀ (pc : Nat) (b : Blk) (L : List (Nat × Blk)) (n : List Unit), blkAt blks pc = some b → (∀ x ∈ L, x ∈ blks) → ∀ lv st f bc bs, wpL b pc lv st f bc bs (wpF L n B Q X) Q X → B pc lv st f bc bs) → B 0 lv0 [] f mc ms) : SndH y M mc ms T := by
  intro as f Q hT
  obtain ⟨lv0, hl0, hlen, hB⟩ := h as f Q (fun _ _ => False) hT
  refine vw_ofWH (cc := M.2.1) (maxL := M.2.2.1) (ret := M.2.2.2.1) (hh := M.2.2.2.2.1) (ws' := []) hy rfl ?_
  intro p e s m args below meth c s₁ B hml hex hv
  obtain ⟨rfl, hrep, hE, hw⟩ := hv
  have hown : s.vm.findClass M.1 = some m.cls := by rw [← hy1]; exact findClass_of_methodNamed B.named
  have hCx : CxOk M ((M.2.2.2.2.2.2.2.1, mc, ms), (p, M.2.2.2.2.2.2.2.2, e, lvlRoom M.2.2.2.2.2.2.1 mc ms), (s, m, as.toArray, below, meth, c), vx_MQ below (QcOf M.2.2.2.2.2.2.2.1 Q) (XcOf M.2.2.2.2.2.2.2.1 fun _ _ => False) as.toArray s mc ms (Ag M.2.2.2.2.2.2.2.1)) Q (fun _ _ => False) := by
    refine ⟨B.exec, B.bytes, hml, hown, hw.warm (State.WarmedH.refl s), B.notSynchronized, hE, hst, rfl, hex, fun hi => ?_, B.returns, rfl, rfl, rfl⟩
    rw [(name_of_methodNamed B.named B.method).1]
    exact hni hi
  have key := hB (Blm ((M.2.2.2.2.2.2.2.1, mc, ms), (p, M.2.2.2.2.2.2.2.2, e, lvlRoom M.2.2.2.2.2.2.1 mc ms), (s, m, as.toArray, below, meth, c), vx_MQ below (QcOf M.2.2.2.2.2.2.2.1 Q) (XcOf M.2.2.2.2.2.2.2.1 fun _ _ => False) as.toArray s mc ms (Ag M.2.2.2.2.2.2.2.1)) M.2.2.1) (fun pc b L n hb hL lv st f bc bs hk => BlkOk.run hCx (wpF.run hCx L (fun b hb => ok b (hL b hb)) n) b pc (ok (pc, b) (blkAt_mem hb)) lv st f bc bs hk)
  have hl := lv_entry as (n := M.2.2.1) hlen
  rw [lg_entry_eq]
  exact key _ s.heap [] 0 0 (by rw [LH, hl0]; exact hl) hrep va_S.rf (by omega) (by omega)
/-- a static call of such a method -/
theorem ok_callSH {M : MI} {pc i n k mc ms : Nat} {y : MethodName} {T : Spec2} {o2 : String} {cc2 : ByteArray} {nL2 : Nat} {ret2 : Option FieldType} {hh2 : List (Nat × Nat × Nat × Nat)} {ii2 : Bool} {lv2 : Nat} (hS2 : SndH y (o2, cc2, nL2, ret2, hh2, ii2, lv2, M.2.2.2.2.2.2.2) mc ms T) (hlv : lv2 < M.2.2.2.2.2.2.1) (hnl : nL2 ≤ 41) (hk : n = k)
    (h1 : Cond.methodLink M.1 i y ∈ lw_tbl) (h2 : Cond.static y ∈ lw_tbl) (h3 : Cond.initialized y.cls ∈ lw_tbl) (h4 : Cond.codeWith y cc2 nL2 ret2 hh2 ∈ lw_tbl)
    (hd : y.cls ≠ "java/lang/invoke/MethodHandle" ∧ y.cls ≠ "java/lang/invoke/VarHandle" ∧ (parseMethodDescriptor y.desc).map (fun d => d.parameters.length) = some k) (d : decode M.2.1 pc = .ok (.invokestatic i, 3)) : OpOk M pc 3 (o_callX T n mc ms) := by
  intro C Q X hC K hK B' hB lv st f bc bs h
  obtain ⟨⟨g, MC, MS⟩, ⟨p, l, e, R⟩, ⟨s, m, args, below, meth, c⟩, Qf⟩ := C
  obtain ⟨hx, hb, hml, hown, hw, hlk, hE, hst, hR, hex, hin, hrt, hQ, hgl⟩ := hC
  intro ls H locs cells slots hl hrep hS hc1 hc2
  obtain ⟨hn, hrl, bc', bs', rfl, rfl, hT⟩ := h
  subst hR hQ
  obtain ⟨hg, hl9⟩ := hgl
  subst hg hl9
  have hPc : ∀ U : State, U.heap = H → s.WarmedH U.vm → PcOf M.2.2.2.2.2.2.2.1 (ctake st n).reverse f (ctake st n).reverse.toArray U := fun U hU hW => ⟨rfl, by rw [hU]; exact hrep, by rw [hU]; exact hE.go hW hS.1 hS.2.1, hw.warm hW⟩
  have kk : ∀ (v : Option Value) (f' : AH) (H1 : Heap) (locs1 : List Loc), K lv (v.toList ++ cdrop st n) f' bc' bs' → Rep M.2.2.2.2.2.2.2.1 f' H1 → va_S (Ag M.2.2.2.2.2.2.2.1) s.heap H1 locs1 → W p M.2.2.2.2.2.2.2.2 e (lvlRoom M.2.2.2.2.2.2.1 MC MS) s m args below meth c H1 locs1 (cells + mc) (slots + ms) (vx_MQ below (QcOf M.2.2.2.2.2.2.2.1 Q) (XcOf M.2.2.2.2.2.2.2.1 X) args s MC MS (Ag M.2.2.2.2.2.2.2.1)) (F0 m (pc + 3) ls (v.toList ++ cdrop st n)) := fun v f' H1 locs1 hk hr1 hS1 => hK _ _ _ _ _ hk ls H1 locs1 _ _ hl hr1 hS1 (by omega) (by omega)
  have hstk := ctd st n
  have hcl := ctl st n hn
  have hv8 : ((cdrop st n).map fun v => v.category).sum ≤ 8 := by
    have : ∀ l : List Value, (l.map fun v => v.category).sum ≤ 2 * l.length := by
      intro l
      induction l with
      | nil => simp
      | cons v r ih =>
        have hv : v.category ≤ 2 := by rcases lv_cat v with h | h <;> omega
        simp only [List.map_cons, List.sum_cons, List.length_cons]
        omega
    have := this (cdrop st n)
    omega
  have hroom := room_le (MC := MC) (MS := MS) (mc := mc) (ms := ms) hlv hnl
  have hS3 := met_of_vx (hS2 _ f _ hT) (fun E a b hX => by obtain ⟨f', hF, -⟩ := hX; exact hF)
  refine call_row (X1 := fun _ _ => False) (rest := cdrop st n) (a := (ctake st n).reverse.toArray) (run_of (vx_runSW (Ts := []) (own := M.1) (nL := M.2.2.1) (As := (ctake st n).reverse) (n := k) ⟨hx, hb, hml, hown, fun w h9 => by cases h9⟩ hS3 ⟨⟨rfl, rfl, hroom.1, hroom.2, ws_one (hw _ h4 rfl) rfl, List.mem_cons_self⟩, hw _ h4 rfl, hw _ h3 rfl, ⟨hd.1, hd.2.1⟩, fun sig q => by have h9 := hd.2.2; rw [q] at h9; exact (Option.some.inj h9).symm, hw _ h1 rfl, hw _ h2 rfl⟩ ⟨PcOf.blind _ _ _, hPc⟩ rfl (by rw [List.length_reverse, hcl, hk]) hl.1 (by rw [List.reverse_reverse]; exact hstk) (lv_room hv8) d ⟨by show _ ≤ MC; omega, by show _ ≤ MS; omega⟩)) hS (fun E ce q9 f' H1 locs1 hX => hX.elim) kk


