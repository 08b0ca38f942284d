-- deps: 23.mo3
/-! ===== the text that stands in the class: its letters ===== -/
def o_no : Op := fun _ _ _ _ _ _ _ _ _ => False
theorem ok_no {M : MI} {pc n : Nat} : OpOk M pc n o_no := by
  intro C Q X hC K hK B' hB lv st f bc bs h
  exact h.elim
theorem e_no (lv : LV) (st : List Value) (f : AH) (bc bs : Nat) (K : Kx) (B : Bx) (Q : Option Value → AH → Prop) (X : String → AH → Prop) : o_no lv st f bc bs K B Q X = False := (rfl)
theorem ok_ldcs {M : MI} {pc : Nat} (ho : M.1 = "GranaryPartitionModel") (d : decode M.2.1 pc = .ok (.ldc 201, 2)) : OpOk M pc 2 (o_push (.ref (M.2.2.2.2.2.2.2.1.2.2 3))) := by
  intro C Q X hC K hK B' hB lv st f bc bs h
  obtain ⟨⟨g, MC, MS⟩, ⟨p, l, e, R⟩, ⟨s, m, args, below, meth, c⟩, Qf⟩ := C
  obtain ⟨hx, hb, hml, hown, hw, hlk, hE, hst, hR, hex, hin, hrt, hQ, hgl⟩ := hC
  intro ls H locs cells slots hl hrep hS hc1 hc2
  rw [o_push, ← hgl.1] at h
  exact va_ldcS hx hb hown (by rw [ho]; exact hE.2.2.2.2.2.1.2.1) d (hK _ _ _ _ _ h ls H locs cells slots hl hrep hS hc1 hc2)
theorem ok_compact {M : MI} {pc i : Nat} (hm : Cond.fieldLink M.1 i "java/lang/String" "COMPACT_STRINGS" "Z" ∈ lw_tbl) (d : decode M.2.1 pc = .ok (.getstatic i, 3)) : OpOk M pc 3 (o_push (.int 1)) := by
  intro C Q X hC K hK B' hB lv st f bc bs h
  obtain ⟨⟨g, MC, MS⟩, ⟨p, l, e, R⟩, ⟨s, m, args, below, meth, c⟩, Qf⟩ := C
  obtain ⟨hx, hb, hml, hown, hw, hlk, hE, hst, hR, hex, hin, hrt, hQ, hgl⟩ := hC
  intro ls H locs cells slots hl hrep hS hc1 hc2
  rw [o_push] at h
  exact va_gets hx hb hE.2.2.2.2.2.1.2.2 hS hown (hw _ hm rfl) (fun _ q => q) d (hK _ _ _ _ _ h ls H locs cells slots hl hrep hS hc1 hc2)
/-- a value of which nothing is asked -/
def o_any : Op := fun lv st f bc bs K _ _ _ => K lv (.null :: st) f bc bs ∧ ∀ t : Nat, K lv (.ref t :: st) f bc bs
theorem e_any (lv : LV) (st : List Value) (f : AH) (bc bs : Nat) (K : Kx) (B : Bx) (Q : Option Value → AH → Prop) (X : String → AH → Prop) : o_any lv st f bc bs K B Q X = (K lv (.null :: st) f bc bs ∧ ∀ t : Nat, K lv (.ref t :: st) f bc bs) := (rfl)
theorem ok_sioobe {M : MI} {pc i : Nat} (hm : Cond.fieldLink M.1 i "jdk/internal/util/Preconditions" "SIOOBE_FORMATTER" "Ljava/util/function/BiFunction;" ∈ lw_tbl) (d : decode M.2.1 pc = .ok (.getstatic i, 3)) : OpOk M pc 3 o_any := by
  intro C Q X hC K hK B' hB lv st f bc bs h
  obtain ⟨⟨g, MC, MS⟩, ⟨p, l, e, R⟩, ⟨s, m, args, below, meth, c⟩, Qf⟩ := C
  obtain ⟨hx, hb, hml, hown, hw, hlk, hE, hst, hR, hex, hin, hrt, hQ, hgl⟩ := hC
  intro ls H locs cells slots hl hrep hS hc1 hc2
  rcases hE.2.2.2.2.2.2.1 with h9 | ⟨t, h9⟩
  · exact va_gets hx hb h9 hS hown (hw _ hm rfl) (fun _ q => q) d (hK _ _ _ _ _ h.1 ls H locs cells slots hl hrep hS hc1 hc2)
  · exact va_gets hx hb h9 hS hown (hw _ hm rfl) (fun _ q => q) d (hK _ _ _ _ _ (h.2 t) ls H locs cells slots hl hrep hS hc1 hc2)
def o_sfv (g : GG) : Op := fun lv st f bc bs K _ _ _ => match st with | .ref a :: r => a = g.2.2 3 ∧ K lv (.ref (g.2.2 4) :: r) f bc bs | _ => False
theorem e_sfv (g : GG) (lv : LV) (a : Nat) (r : List Value) (f : AH) (bc bs : Nat) (K : Kx) (B : Bx) (Q : Option Value → AH → Prop) (X : String → AH → Prop) : o_sfv g lv (.ref a :: r) f bc bs K B Q X = (a = g.2.2 3 ∧ K lv (.ref (g.2.2 4) :: r) f bc bs) := (rfl)
theorem ok_sfv {M : MI} {pc i : Nat} (hm : Cond.fieldLink M.1 i "java/lang/String" "value" "[B" ∈ lw_tbl) (d : decode M.2.1 pc = .ok (.getfield i, 3)) : OpOk M pc 3 (o_sfv M.2.2.2.2.2.2.2.1) := by
  intro C Q X hC K hK B' hB lv st f bc bs h
  obtain ⟨⟨g, MC, MS⟩, ⟨p, l, e, R⟩, ⟨s, m, args, below, meth, c⟩, Qf⟩ := C
  obtain ⟨hx, hb, hml, hown, hw, hlk, hE, hst, hR, hex, hin, hrt, hQ, hgl⟩ := hC
  intro ls H locs cells slots hl hrep hS hc1 hc2
  simp only [o_sfv] at h
  split at h
  · obtain ⟨rfl, h⟩ := h
    rw [← hgl.1] at h ⊢
    exact vk_getf hx hb (hE.2.2.2.2.2.1.1.1 0 (by decide)).2.2.1 hS hown (hw _ hm rfl) (fun _ q => q) d (hK _ _ _ _ _ h ls H locs cells slots hl hrep hS hc1 hc2)
  · exact h.elim
def o_sfc (g : GG) : Op := fun lv st f bc bs K _ _ _ => match st with | .ref a :: r => a = g.2.2 3 ∧ K lv (.int 0 :: r) f bc bs | _ => False
theorem e_sfc (g : GG) (lv : LV) (a : Nat) (r : List Value) (f : AH) (bc bs : Nat) (K : Kx) (B : Bx) (Q : Option Value → AH → Prop) (X : String → AH → Prop) : o_sfc g lv (.ref a :: r) f bc bs K B Q X = (a = g.2.2 3 ∧ K lv (.int 0 :: r) f bc bs) := (rfl)
theorem ok_sfc {M : MI} {pc i : Nat} (hm : Cond.fieldLink M.1 i "java/lang/String" "coder" "B" ∈ lw_tbl) (d : decode M.2.1 pc = .ok (.getfield i, 3)) : OpOk M pc 3 (o_sfc M.2.2.2.2.2.2.2.1) := by
  intro C Q X hC K hK B' hB lv st f bc bs h
  obtain ⟨⟨g, MC, MS⟩, ⟨p, l, e, R⟩, ⟨s, m, args, below, meth, c⟩, Qf⟩ := C
  obtain ⟨hx, hb, hml, hown, hw, hlk, hE, hst, hR, hex, hin, hrt, hQ, hgl⟩ := hC
  intro ls H locs cells slots hl hrep hS hc1 hc2
  simp only [o_sfc] at h
  split at h
  · obtain ⟨rfl, h⟩ := h
    rw [← hgl.1]
    exact vk_getf hx hb (hE.2.2.2.2.2.1.1.1 0 (by decide)).2.1 hS hown (hw _ hm rfl) (fun _ q => q) d (hK _ _ _ _ _ h ls H locs cells slots hl hrep hS hc1 hc2)
  · exact h.elim
def o_sbald (g : GG) : Op := fun lv st f bc bs K _ _ _ => match st with | .int i :: .ref a :: r => a = g.2.2 4 ∧ ∃ j : Nat, i = nI j ∧ j < 4 ∧ K lv (g_codes j :: r) f bc bs | _ => False
theorem e_sbald (g : GG) (lv : LV) (a : Nat) (i : Int32) (r : List Value) (f : AH) (bc bs : Nat) (K : Kx) (B : Bx) (Q : Option Value → AH → Prop) (X : String → AH → Prop) : o_sbald g lv (.int i :: .ref a :: r) f bc bs K B Q X = (a = g.2.2 4 ∧ ∃ j : Nat, i = nI j ∧ j < 4 ∧ K lv (g_codes j :: r) f bc bs) := (rfl)
theorem ok_sbald {M : MI} {pc : Nat} (d : decode M.2.1 pc = .ok (.baload, 1)) : OpOk M pc 1 (o_sbald M.2.2.2.2.2.2.2.1) := by
  intro C Q X hC K hK B' hB lv st f bc bs h
  obtain ⟨⟨g, MC, MS⟩, ⟨p, l, e, R⟩, ⟨s, m, args, below, meth, c⟩, Qf⟩ := C
  obtain ⟨hx, hb, hml, hown, hw, hlk, hE, hst, hR, hex, hin, hrt, hQ, hgl⟩ := hC
  intro ls H locs cells slots hl hrep hS hc1 hc2
  simp only [o_sbald] at h
  split at h
  · obtain ⟨rfl, j, rfl, hj, h⟩ := h
    rw [← hgl.1]
    exact va_tb hx hb (hE.2.2.2.2.2.1.1.1 0 (by decide)).2.2.2 hS (vin_nI hj (by omega)) (by rw [clampN (by omega)]; rfl) d (hK _ _ _ _ _ h ls H locs cells slots hl hrep hS hc1 hc2)
  · exact h.elim
def o_sblen (g : GG) : Op := fun lv st f bc bs K _ _ _ => match st with | .ref a :: r => a = g.2.2 4 ∧ K lv (.int (nI 4) :: r) f bc bs | _ => False
theorem e_sblen (g : GG) (lv : LV) (a : Nat) (r : List Value) (f : AH) (bc bs : Nat) (K : Kx) (B : Bx) (Q : Option Value → AH → Prop) (X : String → AH → Prop) : o_sblen g lv (.ref a :: r) f bc bs K B Q X = (a = g.2.2 4 ∧ K lv (.int (nI 4) :: r) f bc bs) := (rfl)
theorem ok_sblen {M : MI} {pc : Nat} (d : decode M.2.1 pc = .ok (.arraylength, 1)) : OpOk M pc 1 (o_sblen M.2.2.2.2.2.2.2.1) := by
  intro C Q X hC K hK B' hB lv st f bc bs h
  obtain ⟨⟨g, MC, MS⟩, ⟨p, l, e, R⟩, ⟨s, m, args, below, meth, c⟩, Qf⟩ := C
  obtain ⟨hx, hb, hml, hown, hw, hlk, hE, hst, hR, hex, hin, hrt, hQ, hgl⟩ := hC
  intro ls H locs cells slots hl hrep hS hc1 hc2
  simp only [o_sblen] at h
  split at h
  · obtain ⟨rfl, h⟩ := h
    rw [← hgl.1]
    exact va_tlen hx hb (hE.2.2.2.2.2.1.1.1 0 (by decide)).2.2.2 hS rfl d (hK _ _ _ _ _ h ls H locs cells slots hl hrep hS hc1 hc2)
  · exact h.elim
/-- a call upon the text -/
def o_callT (g : GG) (T : Spec2) (n : Nat) : Op := fun lv st f bc bs K _ _ X => (∃ As : List Value, (ctake st n).reverse = .ref (g.2.2 3) :: As) ∧ n ≤ st.length ∧ (cdrop st n).length ≤ 4 ∧ T (ctake st n).reverse f (fun v f' => K lv (v.toList ++ cdrop st n) f' bc bs) X
theorem e_callT (g : GG) (T : Spec2) (n : Nat) (lv : LV) (st : List Value) (f : AH) (bc bs : Nat) (K : Kx) (B : Bx) (Q : Option Value → AH → Prop) (X : String → AH → Prop) : o_callT g T n lv st f bc bs K B Q X = ((∃ As : List Value, (ctake st n).reverse = .ref (g.2.2 3) :: As) ∧ n ≤ st.length ∧ (cdrop st n).length ≤ 4 ∧ T (ctake st n).reverse f (fun v f' => K lv (v.toList ++ cdrop st n) f' bc bs) X) := (rfl)
theorem callT_h (g : GG) (l : List Value) : (∃ As : List Value, (.ref (g.2.2 3) :: l : List Value) = .ref (g.2.2 3) :: As) = True := eq_true ⟨_, rfl⟩
theorem ok_callT {M : MI} {pc i n k : Nat} {y : MethodName} {T : Spec2} {o2 : String} {cc2 : ByteArray} {nL2 : Nat} {ret2 : Option FieldType} {hh2 : List (Nat × Nat × Nat × Nat)} {ii2 : Bool} {lv2 : Nat} (hS2 : Snd y (o2, cc2, nL2, ret2, hh2, ii2, lv2, M.2.2.2.2.2.2.2) 0 0 T) (hlv : lv2 < M.2.2.2.2.2.2.1) (hnl : nL2 ≤ 41) (hh : M.2.2.2.2.1 = []) (hk : n = k + 1)
    (h1 : Cond.methodLink M.1 i y ∈ lw_tbl) (h5 : Cond.instanceMethod y ∈ lw_tbl) (h2 : Cond.selects "java/lang/String" y y ∈ lw_tbl) (h3 : Cond.initialized y.cls ∈ lw_tbl) (h4 : Cond.code y cc2 nL2 ret2 ∈ lw_tbl)
    (hd : y.cls ≠ "java/lang/invoke/MethodHandle" ∧ y.cls ≠ "java/lang/invoke/VarHandle" ∧ (parseMethodDescriptor y.desc).map (fun d => d.parameters.length) = some k) (d : decode M.2.1 pc = .ok (.invokevirtual i, 3)) : OpOk M pc 3 (o_callT M.2.2.2.2.2.2.2.1 T n) := by
  intro C Q X hC K hK B' hB lv st f bc bs h
  obtain ⟨⟨g, MC, MS⟩, ⟨p, l, e, R⟩, ⟨s, m, args, below, meth, c⟩, Qf⟩ := C
  obtain ⟨hx, hb, hml, hown, hw, hlk, hE, hst, hR, hex, hin, hrt, hQ, hgl⟩ := hC
  intro ls H locs cells slots hl hrep hS hc1 hc2
  obtain ⟨⟨As, eA⟩, h⟩ := h
  obtain ⟨hn, hrl, hT⟩ := h
  subst hR hQ
  obtain ⟨hg, hl9⟩ := hgl
  subst hg hl9
  have hPc : ∀ U : State, U.heap = H → s.WarmedH U.vm → PcOf M.2.2.2.2.2.2.2.1 (ctake st n).reverse f (ctake st n).reverse.toArray U := fun U hU hW => ⟨rfl, by rw [hU]; exact hrep, by rw [hU]; exact hE.go hW hS.1 hS.2.1, hw.warm hW⟩
  have hex0 : c.exceptionTable.toList = [] := by rw [hex, hh]; rfl
  have kx : ∀ (E : String) (ce : Cell) (q9 : Addr) (f' : AH) (H1 : Heap) (locs1 : List Loc), X E f' → Rep M.2.2.2.2.2.2.2.1 f' H1 → va_S (Ag M.2.2.2.2.2.2.2.1) s.heap H1 locs1 → H1[q9]? = some ce → ce.vm = .none → s.vm.findClass E = some ce.cls → vx_W p M.2.2.2.2.2.2.2.2 e (lvlRoom M.2.2.2.2.2.2.1 MC MS) s m args below meth c H1 locs1 (cells + 0) (slots + 0) (vx_MQ below (QcOf M.2.2.2.2.2.2.2.1 Q) (XcOf M.2.2.2.2.2.2.2.1 X) args s MC MS (Ag M.2.2.2.2.2.2.2.1)) (F0 m pc ls (cdrop st n)) q9 := fun E ce q9 f' H1 locs1 hX hr1 hS1 h1 h2 h3 =>
    vx_out (fun x hx9 => by rw [hex0] at hx9; cases hx9) hlk h1 h2 h3 (fun t ht hal => ⟨f', hX, by rw [ht]; exact hr1, hS1.F ht⟩) hS1.2.2 (by omega) (by omega)
  have kk : ∀ (v : Option Value) (f' : AH) (H1 : Heap) (locs1 : List Loc), K lv (v.toList ++ cdrop st n) f' bc bs → Rep M.2.2.2.2.2.2.2.1 f' H1 → va_S (Ag M.2.2.2.2.2.2.2.1) s.heap H1 locs1 → W p M.2.2.2.2.2.2.2.2 e (lvlRoom M.2.2.2.2.2.2.1 MC MS) s m args below meth c H1 locs1 (cells + 0) (slots + 0) (vx_MQ below (QcOf M.2.2.2.2.2.2.2.1 Q) (XcOf M.2.2.2.2.2.2.2.1 X) args s MC MS (Ag M.2.2.2.2.2.2.2.1)) (F0 m (pc + 3) ls (v.toList ++ cdrop st n)) := fun v f' H1 locs1 hk hr1 hS1 => hK _ _ _ _ _ hk ls H1 locs1 _ _ hl hr1 hS1 (by omega) (by omega)
  have hstk := ctd st n
  have hcl := ctl st n hn
  have hv8 : ((cdrop st n).map fun v => v.category).sum ≤ 8 := by
    have : ∀ l : List Value, (l.map fun v => v.category).sum ≤ 2 * l.length := by
      intro l
      induction l with
      | nil => simp
      | cons v r ih =>
        have hv : v.category ≤ 2 := by rcases lv_cat v with h | h <;> omega
        simp only [List.map_cons, List.sum_cons, List.length_cons]
        omega
    have := this (cdrop st n)
    omega
  have hroom := room_le (MC := MC) (MS := MS) (mc := 0) (ms := 0) hlv hnl
  have hS3 := hS2 _ f _ X hT
  have eB : ctake st n = As.reverse ++ [.ref (M.2.2.2.2.2.2.2.1.2.2 3)] := by
    have h9 := congrArg List.reverse eA
    simpa using h9
  have hrecv := vk_recv (i := 0) hE.2.2.2.2.2.1.1 (by decide) hS
  have hlA : As.length = k := by have h9 := congrArg List.length eA; rw [List.length_reverse, hcl] at h9; simp at h9; omega
  rw [eA] at hPc hS3
  refine call_row (rest := cdrop st n) (a := (Value.ref (M.2.2.2.2.2.2.2.1.2.2 3) :: As).toArray) (vx_runV (Ts := []) (own := M.1) (C := "java/lang/String") (nL := M.2.2.1) (As := As) (b := M.2.2.2.2.2.2.2.1.2.2 3) (n := k) ⟨hx, hb, hml, hown, fun w h9 => by cases h9⟩ hS3 ⟨⟨rfl, rfl, hroom.1, hroom.2, ws_one (hw _ h4 rfl) rfl, List.mem_cons_self, hw _ h4 rfl, hw _ h3 rfl, ⟨hd.1, hd.2.1⟩, fun sig q => by have h9 := hd.2.2; rw [q] at h9; exact (Option.some.inj h9).symm, hw _ h1 rfl⟩, hw _ h5 rfl, hw _ h2 rfl⟩ ⟨PcOf.blind _ _ _, hrecv, hPc⟩ rfl hlA hl.1 (by show st = _; rw [eB, List.append_assoc] at hstk; exact hstk) (lv_room hv8) d ⟨by show _ ≤ MC; omega, by show _ ≤ MS; omega⟩) hS kx kk
theorem gc0 : g_codes 0 = .int 112 := rfl
theorem gc1 : g_codes 1 = .int 114 := rfl
theorem gc2 : g_codes 2 = .int 100 := rfl
theorem gc3 : g_codes 3 = .int 111 := rfl
theorem g8 : (112 : Int32) &&& 255 = 112 ∧ (114 : Int32) &&& 255 = 114 ∧ (100 : Int32) &&& 255 = 100 ∧ (111 : Int32) &&& 255 = 111 := by decide
theorem g16 : ((112 : Int32).toUInt32 % 65536).toInt32 = 112 ∧ ((114 : Int32).toUInt32 % 65536).toInt32 = 114 ∧ ((100 : Int32).toUInt32 % 65536).toInt32 = 100 ∧ ((111 : Int32).toUInt32 % 65536).toInt32 = 111 := by decide
def T_St_isLatin1 (g : GG) : Spec2 := fun as f Q _ => ∃ (a : Nat), as = [.ref a] ∧ (a = g.2.2 3) ∧ Q (some (.int (b2i true))) f
theorem i_St_isLatin1_ {g : GG} {a : Nat} {f : AH} {Q : Option Value → AH → Prop} {X : String → AH → Prop} (hp : a = g.2.2 3) (h : Q (some (.int (b2i true))) f) : T_St_isLatin1 g [.ref a] f Q X := ⟨a, rfl, hp, h⟩
abbrev m_St_isLatin1 (g : GG) (l : Launch) : MI := (RJ0, cJ0_isLatin1_aae02, 1, (some .boolean), [], false, 1, g, l)
def b_St_isLatin1_0 (g : GG) : Blk := [(3, o_push (.int 1)), (3, o_ifeq 17), (1, o_aload 0), (3, o_sfc g), (3, o_ifne 17), (1, o_push (.int 1)), (3, o_goto 18)]
def b_St_isLatin1_17 (g : GG) : Blk := [(1, o_push (.int 0))]
def b_St_isLatin1_18 (g : GG) : Blk := [(1, o_zret)]
set_option maxRecDepth 8000 in
theorem okb_St_isLatin1_0 (g : GG) (l : Launch) (hst : l.stackTraces = false) : BlkOk (m_St_isLatin1 g l) 0 (b_St_isLatin1_0 g) := 
  ⟨ok_compact tw_1507 (by decide +kernel : decode cJ0_isLatin1_aae02 0 = .ok (.getstatic 38, 3)),
  ⟨ok_ifeq (by decide) (by decide +kernel : decode cJ0_isLatin1_aae02 3 = .ok (.ifCond .eq 14, 3)),
  ⟨ok_aload_n (by decide +kernel : decode cJ0_isLatin1_aae02 6 = .ok (.aload_n 0, 1)) rfl,
  ⟨ok_sfc tw_1796 (by decide +kernel : decode cJ0_isLatin1_aae02 7 = .ok (.getfield 15, 3)),
  ⟨ok_ifne (by decide) (by decide +kernel : decode cJ0_isLatin1_aae02 10 = .ok (.ifCond .ne 7, 3)),
  ⟨ok_iconst (by decide) (by decide +kernel : decode cJ0_isLatin1_aae02 13 = .ok (.iconst 1, 1)),
  ⟨ok_goto (by decide) (by decide +kernel : decode cJ0_isLatin1_aae02 14 = .ok (.goto 4, 3)), trivial⟩⟩⟩⟩⟩⟩⟩
set_option maxRecDepth 8000 in
theorem okb_St_isLatin1_17 (g : GG) (l : Launch) (hst : l.stackTraces = false) : BlkOk (m_St_isLatin1 g l) 17 (b_St_isLatin1_17 g) := 
  ⟨ok_iconst (by decide) (by decide +kernel : decode cJ0_isLatin1_aae02 17 = .ok (.iconst 0, 1)), trivial⟩
set_option maxRecDepth 8000 in
theorem okb_St_isLatin1_18 (g : GG) (l : Launch) (hst : l.stackTraces = false) : BlkOk (m_St_isLatin1 g l) 18 (b_St_isLatin1_18 g) := 
  ⟨ok_zret rfl (by decide +kernel : decode cJ0_isLatin1_aae02 18 = .ok (.ireturn, 1)), trivial⟩
def k_St_isLatin1 (g : GG) : List (Nat × Blk) := [(0, b_St_isLatin1_0 g), (17, b_St_isLatin1_17 g), (18, b_St_isLatin1_18 g)]
theorem ok_St_isLatin1 (g : GG) (l : Launch) (hst : l.stackTraces = false) : ∀ b ∈ k_St_isLatin1 g, BlkOk (m_St_isLatin1 g l) b.1 b.2 := List.forall_mem_cons.mpr ⟨okb_St_isLatin1_0 g l hst, List.forall_mem_cons.mpr ⟨okb_St_isLatin1_17 g l hst, List.forall_mem_cons.mpr ⟨okb_St_isLatin1_18 g l hst, fun _ h => by cases h⟩⟩⟩
def i_St_isLatin1 (g : GG) : List (Nat × Blk) := [(17, b_St_isLatin1_17 g), (18, b_St_isLatin1_18 g)]
theorem is_St_isLatin1 (g : GG) : ∀ x ∈ i_St_isLatin1 g, x ∈ k_St_isLatin1 g := sub_at [1, 2] rfl
theorem w_St_isLatin1_0 (g : GG) (u : Unit) (n : List Unit) (B : Bx) (Q : Option Value → AH → Prop) (X : String → AH → Prop) (lv : LV) (st : List Value) (f : AH) (bc bs : Nat) : wpF (i_St_isLatin1 g) (u :: n) B Q X 0 lv st f bc bs = B 0 lv st f bc bs := (rfl)
theorem w_St_isLatin1_17 (g : GG) (u : Unit) (n : List Unit) (B : Bx) (Q : Option Value → AH → Prop) (X : String → AH → Prop) (lv : LV) (st : List Value) (f : AH) (bc bs : Nat) : wpF (i_St_isLatin1 g) (u :: n) B Q X 17 lv st f bc bs = wpL (b_St_isLatin1_17 g) 17 lv st f bc bs (wpF (i_St_isLatin1 g) n B Q X) Q X := (rfl)
theorem w_St_isLatin1_18 (g : GG) (u : Unit) (n : List Unit) (B : Bx) (Q : Option Value → AH → Prop) (X : String → AH → Prop) (lv : LV) (st : List Value) (f : AH) (bc bs : Nat) : wpF (i_St_isLatin1 g) (u :: n) B Q X 18 lv st f bc bs = wpL (b_St_isLatin1_18 g) 18 lv st f bc bs (wpF (i_St_isLatin1 g) n B Q X) Q X := (rfl)
set_option maxRecDepth 4000 in
set_option maxHeartbeats 4000000 in
theorem s_St_isLatin1 (g : GG) (l : Launch) (hst : l.stackTraces = false) : Snd yJ0_isLatin1_aae02 (m_St_isLatin1 g l) 0 0 (T_St_isLatin1 g) := by
  refine snd_of (by decide +kernel) rfl (fun h => by first | rfl | cases h) rfl hst (k_St_isLatin1 g) (ok_St_isLatin1 g l hst) ?_
  rintro as f Q X ⟨a, rfl, hp, hq⟩
  refine ⟨[some (.ref a)], rfl, Nat.le_of_ble_eq_true rfl, fun B run => ?_⟩
  subst hp
  repeat (first | exact hq | (refine run _ _ (i_St_isLatin1 g) [(), (), ()] rfl (is_St_isLatin1 g) _ _ _ _ _ ?_; (try simp only [Option.toList_some, Option.toList_none, List.cons_append, List.nil_append, List.append_nil]); simp -dsimp (disch := omega) only [implies_true, forall_const, thr_n, wdC_n, wrC_n, tchC_n, wpF_0, ↓e_no, ↓e_any, ↓e_sfv, ↓e_sfc, ↓e_sbald, ↓e_sblen, ↓e_callT, callT_h, eq_self, nI_dec, ixE, nI_4m, nI_16m, nI_10m, nI_2m, nI_add, nI_1, nI_p2, nI_p3, nI_pred, c3_n, c3_s, c3_i, upd_s, upd_n, rowU_n, rowU_ge, true_imp_iff, false_imp_iff, not_true_eq_false, not_false_eq_true, b2i_t, b2i_f, i32_10, i32_00, i32_11, ite_true_I, false_and, and_false, true_and, and_true, or_true, true_or, false_or, or_false, w_St_isLatin1_0, w_St_isLatin1_17, w_St_isLatin1_18, ↓b_St_isLatin1_0, ↓b_St_isLatin1_17, ↓b_St_isLatin1_18, ↓wpL_n, ↓wpL_c, ↓e_iadd, ↓e_isub, ↓e_imul, ↓e_iand, ↓e_ior, ↓e_ixor, ↓e_ishl, ↓e_ishr, ↓e_iushr, ↓e_idiv, ↓e_irem, ↓e_ineg, ↓e_ladd, ↓e_lcmp, ↓e_i2l, ↓e_i2c, ↓e_i2d, ↓e_i2f, ↓e_l2f, ↓e_f2d, ↓e_fdiv, ↓e_ddiv, ↓e_dcmp_l, ↓e_fcmp_l, ↓e_dcmp_g, ↓e_fcmp_g, ↓e_push, ↓e_iload, ↓e_fload, ↓e_dload, ↓e_aload, ↓e_istore, ↓e_fstore, ↓e_astore, ↓e_iinc, ↓e_ifeq, ↓e_iceq, ↓e_ifne, ↓e_icne, ↓e_iflt, ↓e_iclt, ↓e_ifge, ↓e_icge, ↓e_ifgt, ↓e_icgt, ↓e_ifle, ↓e_icle, ↓e_goto, ↓e_dup, ↓e_pop, ↓e_dup_x1, ↓e_dup2, ↓e_getf, ↓e_putI, ↓e_putJ, ↓e_putC, ↓e_putR, ↓e_iald, ↓e_zald, ↓e_cald, ↓e_lald, ↓e_dald, ↓e_iast, ↓e_zast, ↓e_cast, ↓e_last, ↓e_dast, ↓e_aald, ↓e_alen, ↓e_throw, ↓e_iret, ↓e_zret, ↓e_cret, ↓e_aret, ↓e_lret, ↓e_fret, ↓e_dret, ↓e_vret, ↓e_new, ↓e_newarr, ↓e_pop1, ↓e_scald, ↓e_salen, ↓e_call, ↓e_callV, ↓e_callI, ↓e_call0, ↓e_callR, PI_e, PFl_e, PD_e, PR_e, PO_e, PHd_e, PA_e, PA_n, IX_e, IX_0, reduceIte, lget, lset, lclr, fget, ctake, cdrop, c1, Nat.reduceAdd, List.reverse_cons, List.reverse_nil, List.nil_append, List.cons_append, Option.toList_some, Option.toList_none, List.length_cons, List.length_nil, true_and, and_true, true_or, or_true, Nat.reduceLeDiff, Nat.reduceLT, Nat.zero_le, List.append_nil]) | refine ⟨_, rfl, by omega, by omega, ?_⟩ | (refine And.intro ?_ ?_; focus (first | exact b2i_01 _ | assumption | decide | (simp; done))))
def T_Pr_checkIndex : Spec2 := fun as f Q _ => ∃ (i : Nat) (n : Nat) (v : Value), as = [.int (nI i), .int (nI n), v] ∧ ((v = .null ∨ ∃ t : Nat, v = .ref t) ∧ i < n ∧ n < 2147483648) ∧ Q (some (.int (nI i))) f
theorem i_Pr_checkIndex_ {i : Nat} {n : Nat} {v : Value} {f : AH} {Q : Option Value → AH → Prop} {X : String → AH → Prop} (hp : (v = .null ∨ ∃ t : Nat, v = .ref t) ∧ i < n ∧ n < 2147483648) (h : Q (some (.int (nI i))) f) : T_Pr_checkIndex [.int (nI i), .int (nI n), v] f Q X := ⟨i, n, v, rfl, hp, h⟩
abbrev m_Pr_checkIndex (g : GG) (l : Launch) : MI := (RJ3, cJ3_checkIndex_8e157, 3, (some .int), [], false, 1, g, l)
def b_Pr_checkIndex_0 (g : GG) : Blk := [(1, o_iload 0), (3, o_iflt 9), (1, o_iload 0), (1, o_iload 1), (3, o_iclt 16)]
def b_Pr_checkIndex_9 (g : GG) : Blk := [(1, o_aload 2), (1, o_iload 0), (1, o_iload 1), (3, o_no), (1, o_no)]
def b_Pr_checkIndex_16 (g : GG) : Blk := [(1, o_iload 0), (1, o_iret)]
set_option maxRecDepth 8000 in
theorem okb_Pr_checkIndex_0 (g : GG) (l : Launch) (hst : l.stackTraces = false) : BlkOk (m_Pr_checkIndex g l) 0 (b_Pr_checkIndex_0 g) := 
  ⟨ok_iload_n (by decide +kernel : decode cJ3_checkIndex_8e157 0 = .ok (.iload_n 0, 1)) rfl,
  ⟨ok_iflt (by decide) (by decide +kernel : decode cJ3_checkIndex_8e157 1 = .ok (.ifCond .lt 8, 3)),
  ⟨ok_iload_n (by decide +kernel : decode cJ3_checkIndex_8e157 4 = .ok (.iload_n 0, 1)) rfl,
  ⟨ok_iload_n (by decide +kernel : decode cJ3_checkIndex_8e157 5 = .ok (.iload_n 1, 1)) rfl,
  ⟨ok_iclt (by decide) (by decide +kernel : decode cJ3_checkIndex_8e157 6 = .ok (.if_icmp .lt 10, 3)), trivial⟩⟩⟩⟩⟩
set_option maxRecDepth 8000 in
theorem okb_Pr_checkIndex_9 (g : GG) (l : Launch) (hst : l.stackTraces = false) : BlkOk (m_Pr_checkIndex g l) 9 (b_Pr_checkIndex_9 g) := 
  ⟨ok_aload_n (by decide +kernel : decode cJ3_checkIndex_8e157 9 = .ok (.aload_n 2, 1)) rfl,
  ⟨ok_iload_n (by decide +kernel : decode cJ3_checkIndex_8e157 10 = .ok (.iload_n 0, 1)) rfl,
  ⟨ok_iload_n (by decide +kernel : decode cJ3_checkIndex_8e157 11 = .ok (.iload_n 1, 1)) rfl,
  ⟨ok_no,
  ⟨ok_no, trivial⟩⟩⟩⟩⟩
set_option maxRecDepth 8000 in
theorem okb_Pr_checkIndex_16 (g : GG) (l : Launch) (hst : l.stackTraces = false) : BlkOk (m_Pr_checkIndex g l) 16 (b_Pr_checkIndex_16 g) := 
  ⟨ok_iload_n (by decide +kernel : decode cJ3_checkIndex_8e157 16 = .ok (.iload_n 0, 1)) rfl,
  ⟨ok_iret rfl (by decide +kernel : decode cJ3_checkIndex_8e157 17 = .ok (.ireturn, 1)), trivial⟩⟩
def k_Pr_checkIndex (g : GG) : List (Nat × Blk) := [(0, b_Pr_checkIndex_0 g), (9, b_Pr_checkIndex_9 g), (16, b_Pr_checkIndex_16 g)]
theorem ok_Pr_checkIndex (g : GG) (l : Launch) (hst : l.stackTraces = false) : ∀ b ∈ k_Pr_checkIndex g, BlkOk (m_Pr_checkIndex g l) b.1 b.2 := List.forall_mem_cons.mpr ⟨okb_Pr_checkIndex_0 g l hst, List.forall_mem_cons.mpr ⟨okb_Pr_checkIndex_9 g l hst, List.forall_mem_cons.mpr ⟨okb_Pr_checkIndex_16 g l hst, fun _ h => by cases h⟩⟩⟩
def i_Pr_checkIndex (g : GG) : List (Nat × Blk) := [(9, b_Pr_checkIndex_9 g), (16, b_Pr_checkIndex_16 g)]
theorem is_Pr_checkIndex (g : GG) : ∀ x ∈ i_Pr_checkIndex g, x ∈ k_Pr_checkIndex g := sub_at [1, 2] rfl
theorem w_Pr_checkIndex_0 (g : GG) (u : Unit) (n : List Unit) (B : Bx) (Q : Option Value → AH → Prop) (X : String → AH → Prop) (lv : LV) (st : List Value) (f : AH) (bc bs : Nat) : wpF (i_Pr_checkIndex g) (u :: n) B Q X 0 lv st f bc bs = B 0 lv st f bc bs := (rfl)
theorem w_Pr_checkIndex_9 (g : GG) (u : Unit) (n : List Unit) (B : Bx) (Q : Option Value → AH → Prop) (X : String → AH → Prop) (lv : LV) (st : List Value) (f : AH) (bc bs : Nat) : wpF (i_Pr_checkIndex g) (u :: n) B Q X 9 lv st f bc bs = wpL (b_Pr_checkIndex_9 g) 9 lv st f bc bs (wpF (i_Pr_checkIndex g) n B Q X) Q X := (rfl)
theorem w_Pr_checkIndex_16 (g : GG) (u : Unit) (n : List Unit) (B : Bx) (Q : Option Value → AH → Prop) (X : String → AH → Prop) (lv : LV) (st : List Value) (f : AH) (bc bs : Nat) : wpF (i_Pr_checkIndex g) (u :: n) B Q X 16 lv st f bc bs = wpL (b_Pr_checkIndex_16 g) 16 lv st f bc bs (wpF (i_Pr_checkIndex g) n B Q X) Q X := (rfl)
set_option maxRecDepth 4000 in
set_option maxHeartbeats 4000000 in
theorem s_Pr_checkIndex (g : GG) (l : Launch) (hst : l.stackTraces = false) : Snd yJ3_checkIndex_8e157 (m_Pr_checkIndex g l) 0 0 T_Pr_checkIndex := by
  refine snd_of (plainFor_of_name (by decide)) rfl (fun h => by first | rfl | cases h) rfl hst (k_Pr_checkIndex g) (ok_Pr_checkIndex g l hst) ?_
  rintro as f Q X ⟨i, n, v, rfl, hp, hq⟩
  refine ⟨[some (.int (nI i)), some (.int (nI n)), some (v)], rfl, (by rcases hp.1 with rfl | ⟨t, rfl⟩ <;> exact Nat.le_of_ble_eq_true rfl), fun B run => ?_⟩
  obtain ⟨-, h1, h2⟩ := hp
  have h3 : ¬ nI i < 0 := nI_pos (by omega)
  have h4 : nI i < nI n := nI_lt h1 h2
  repeat (first | exact hq | (refine run _ _ (i_Pr_checkIndex g) [(), (), ()] rfl (is_Pr_checkIndex g) _ _ _ _ _ ?_; (try simp only [Option.toList_some, Option.toList_none, List.cons_append, List.nil_append, List.append_nil]); simp -dsimp (disch := omega) only [h3, h4, thr_n, wdC_n, wrC_n, tchC_n, wpF_0, ↓e_no, ↓e_any, ↓e_sfv, ↓e_sfc, ↓e_sbald, ↓e_sblen, ↓e_callT, callT_h, eq_self, nI_dec, ixE, nI_4m, nI_16m, nI_10m, nI_2m, nI_add, nI_1, nI_p2, nI_p3, nI_pred, c3_n, c3_s, c3_i, upd_s, upd_n, rowU_n, rowU_ge, true_imp_iff, false_imp_iff, not_true_eq_false, not_false_eq_true, b2i_t, b2i_f, i32_10, i32_00, i32_11, ite_true_I, false_and, and_false, true_and, and_true, or_true, true_or, false_or, or_false, w_Pr_checkIndex_0, w_Pr_checkIndex_9, w_Pr_checkIndex_16, ↓b_Pr_checkIndex_0, ↓b_Pr_checkIndex_9, ↓b_Pr_checkIndex_16, ↓wpL_n, ↓wpL_c, ↓e_iadd, ↓e_isub, ↓e_imul, ↓e_iand, ↓e_ior, ↓e_ixor, ↓e_ishl, ↓e_ishr, ↓e_iushr, ↓e_idiv, ↓e_irem, ↓e_ineg, ↓e_ladd, ↓e_lcmp, ↓e_i2l, ↓e_i2c, ↓e_i2d, ↓e_i2f, ↓e_l2f, ↓e_f2d, ↓e_fdiv, ↓e_ddiv, ↓e_dcmp_l, ↓e_fcmp_l, ↓e_dcmp_g, ↓e_fcmp_g, ↓e_push, ↓e_iload, ↓e_fload, ↓e_dload, ↓e_aload, ↓e_istore, ↓e_fstore, ↓e_astore, ↓e_iinc, ↓e_ifeq, ↓e_iceq, ↓e_ifne, ↓e_icne, ↓e_iflt, ↓e_iclt, ↓e_ifge, ↓e_icge, ↓e_ifgt, ↓e_icgt, ↓e_ifle, ↓e_icle, ↓e_goto, ↓e_dup, ↓e_pop, ↓e_dup_x1, ↓e_dup2, ↓e_getf, ↓e_putI, ↓e_putJ, ↓e_putC, ↓e_putR, ↓e_iald, ↓e_zald, ↓e_cald, ↓e_lald, ↓e_dald, ↓e_iast, ↓e_zast, ↓e_cast, ↓e_last, ↓e_dast, ↓e_aald, ↓e_alen, ↓e_throw, ↓e_iret, ↓e_zret, ↓e_cret, ↓e_aret, ↓e_lret, ↓e_fret, ↓e_dret, ↓e_vret, ↓e_new, ↓e_newarr, ↓e_pop1, ↓e_scald, ↓e_salen, ↓e_call, ↓e_callV, ↓e_callI, ↓e_call0, ↓e_callR, PI_e, PFl_e, PD_e, PR_e, PO_e, PHd_e, PA_e, PA_n, IX_e, IX_0, reduceIte, lget, lset, lclr, fget, ctake, cdrop, c1, Nat.reduceAdd, List.reverse_cons, List.reverse_nil, List.nil_append, List.cons_append, Option.toList_some, Option.toList_none, List.length_cons, List.length_nil, true_and, and_true, true_or, or_true, Nat.reduceLeDiff, Nat.reduceLT, Nat.zero_le, List.append_nil]) | refine ⟨_, rfl, by omega, by omega, ?_⟩ | (refine And.intro ?_ ?_; focus (first | exact b2i_01 _ | assumption | decide | (simp; done))))
def T_St_checkIndex : Spec2 := fun as f Q _ => ∃ (i : Nat) (n : Nat), as = [.int (nI i), .int (nI n)] ∧ (i < n ∧ n < 2147483648) ∧ Q (none) f
theorem i_St_checkIndex_ {i : Nat} {n : Nat} {f : AH} {Q : Option Value → AH → Prop} {X : String → AH → Prop} (hp : i < n ∧ n < 2147483648) (h : Q (none) f) : T_St_checkIndex [.int (nI i), .int (nI n)] f Q X := ⟨i, n, rfl, hp, h⟩
abbrev m_St_checkIndex (g : GG) (l : Launch) : MI := (RJ0, cJ0_checkIndex_df160, 2, none, [], false, 2, g, l)
def b_St_checkIndex_0 (g : GG) : Blk := [(1, o_iload 0), (1, o_iload 1), (3, o_any), (3, o_call0 T_Pr_checkIndex 3)]
def b_St_checkIndex_8 (g : GG) : Blk := [(1, o_pop), (1, o_vret)]
set_option maxRecDepth 8000 in
theorem okb_St_checkIndex_0 (g : GG) (l : Launch) (hst : l.stackTraces = false) : BlkOk (m_St_checkIndex g l) 0 (b_St_checkIndex_0 g) := 
  ⟨ok_iload_n (by decide +kernel : decode cJ0_checkIndex_df160 0 = .ok (.iload_n 0, 1)) rfl,
  ⟨ok_iload_n (by decide +kernel : decode cJ0_checkIndex_df160 1 = .ok (.iload_n 1, 1)) rfl,
  ⟨ok_sioobe tw_1515 (by decide +kernel : decode cJ0_checkIndex_df160 2 = .ok (.getstatic 1053, 3)),
  ⟨(ok_callS (k := 3) (s_Pr_checkIndex g l hst) (show 1 < 2 from by decide) (Nat.le_of_ble_eq_true rfl) rfl rfl tw_1517 tw_229 tw_21 tw_230 ⟨by decide, by decide, by decide⟩ (by decide +kernel : decode cJ0_checkIndex_df160 5 = .ok (.invokestatic 1059, 3))).mono call0_of, trivial⟩⟩⟩⟩
set_option maxRecDepth 8000 in
theorem okb_St_checkIndex_8 (g : GG) (l : Launch) (hst : l.stackTraces = false) : BlkOk (m_St_checkIndex g l) 8 (b_St_checkIndex_8 g) := 
  ⟨ok_pop (by decide +kernel : decode cJ0_checkIndex_df160 8 = .ok (.pop, 1)),
  ⟨ok_vret rfl (by decide +kernel : decode cJ0_checkIndex_df160 9 = .ok (.return_, 1)), trivial⟩⟩
def k_St_checkIndex (g : GG) : List (Nat × Blk) := [(0, b_St_checkIndex_0 g), (8, b_St_checkIndex_8 g)]
theorem ok_St_checkIndex (g : GG) (l : Launch) (hst : l.stackTraces = false) : ∀ b ∈ k_St_checkIndex g, BlkOk (m_St_checkIndex g l) b.1 b.2 := List.forall_mem_cons.mpr ⟨okb_St_checkIndex_0 g l hst, List.forall_mem_cons.mpr ⟨okb_St_checkIndex_8 g l hst, fun _ h => by cases h⟩⟩
def i_St_checkIndex (g : GG) : List (Nat × Blk) := []
theorem is_St_checkIndex (g : GG) : ∀ x ∈ i_St_checkIndex g, x ∈ k_St_checkIndex g := sub_at [] rfl
theorem w_St_checkIndex_0 (g : GG) (u : Unit) (n : List Unit) (B : Bx) (Q : Option Value → AH → Prop) (X : String → AH → Prop) (lv : LV) (st : List Value) (f : AH) (bc bs : Nat) : wpF (i_St_checkIndex g) (u :: n) B Q X 0 lv st f bc bs = B 0 lv st f bc bs := (rfl)
theorem w_St_checkIndex_8 (g : GG) (u : Unit) (n : List Unit) (B : Bx) (Q : Option Value → AH → Prop) (X : String → AH → Prop) (lv : LV) (st : List Value) (f : AH) (bc bs : Nat) : wpF (i_St_checkIndex g) (u :: n) B Q X 8 lv st f bc bs = B 8 lv st f bc bs := (rfl)
set_option maxRecDepth 4000 in
set_option maxHeartbeats 4000000 in
theorem s_St_checkIndex (g : GG) (l : Launch) (hst : l.stackTraces = false) : Snd yJ0_checkIndex_df160 (m_St_checkIndex g l) 0 0 T_St_checkIndex := by
  refine snd_of (by decide +kernel) rfl (fun h => by first | rfl | cases h) rfl hst (k_St_checkIndex g) (ok_St_checkIndex g l hst) ?_
  rintro as f Q X ⟨i, n, rfl, hp, hq⟩
  refine ⟨[some (.int (nI i)), some (.int (nI n))], rfl, Nat.le_of_ble_eq_true rfl, fun B run => ?_⟩
  repeat (first | exact hq | refine ⟨?_, fun t => ?_⟩ | (refine i_Pr_checkIndex_ ⟨Or.inl rfl, hp⟩ ?_) | (refine i_Pr_checkIndex_ ⟨Or.inr ⟨_, rfl⟩, hp⟩ ?_) | (refine i_Pr_checkIndex_ ?_ ?_; (focus ((repeat' (first | assumption | omega | apply And.intro | rfl)); done))) | (refine run _ _ (i_St_checkIndex g) [()] rfl (is_St_checkIndex g) _ _ _ _ _ ?_; (try simp only [Option.toList_some, Option.toList_none, List.cons_append, List.nil_append, List.append_nil]); simp -dsimp (disch := omega) only [thr_n, wdC_n, wrC_n, tchC_n, wpF_0, ↓e_no, ↓e_any, ↓e_sfv, ↓e_sfc, ↓e_sbald, ↓e_sblen, ↓e_callT, callT_h, eq_self, nI_dec, ixE, nI_4m, nI_16m, nI_10m, nI_2m, nI_add, nI_1, nI_p2, nI_p3, nI_pred, c3_n, c3_s, c3_i, upd_s, upd_n, rowU_n, rowU_ge, true_imp_iff, false_imp_iff, not_true_eq_false, not_false_eq_true, b2i_t, b2i_f, i32_10, i32_00, i32_11, ite_true_I, false_and, and_false, true_and, and_true, or_true, true_or, false_or, or_false, w_St_checkIndex_0, w_St_checkIndex_8, ↓b_St_checkIndex_0, ↓b_St_checkIndex_8, ↓wpL_n, ↓wpL_c, ↓e_iadd, ↓e_isub, ↓e_imul, ↓e_iand, ↓e_ior, ↓e_ixor, ↓e_ishl, ↓e_ishr, ↓e_iushr, ↓e_idiv, ↓e_irem, ↓e_ineg, ↓e_ladd, ↓e_lcmp, ↓e_i2l, ↓e_i2c, ↓e_i2d, ↓e_i2f, ↓e_l2f, ↓e_f2d, ↓e_fdiv, ↓e_ddiv, ↓e_dcmp_l, ↓e_fcmp_l, ↓e_dcmp_g, ↓e_fcmp_g, ↓e_push, ↓e_iload, ↓e_fload, ↓e_dload, ↓e_aload, ↓e_istore, ↓e_fstore, ↓e_astore, ↓e_iinc, ↓e_ifeq, ↓e_iceq, ↓e_ifne, ↓e_icne, ↓e_iflt, ↓e_iclt, ↓e_ifge, ↓e_icge, ↓e_ifgt, ↓e_icgt, ↓e_ifle, ↓e_icle, ↓e_goto, ↓e_dup, ↓e_pop, ↓e_dup_x1, ↓e_dup2, ↓e_getf, ↓e_putI, ↓e_putJ, ↓e_putC, ↓e_putR, ↓e_iald, ↓e_zald, ↓e_cald, ↓e_lald, ↓e_dald, ↓e_iast, ↓e_zast, ↓e_cast, ↓e_last, ↓e_dast, ↓e_aald, ↓e_alen, ↓e_throw, ↓e_iret, ↓e_zret, ↓e_cret, ↓e_aret, ↓e_lret, ↓e_fret, ↓e_dret, ↓e_vret, ↓e_new, ↓e_newarr, ↓e_pop1, ↓e_scald, ↓e_salen, ↓e_call, ↓e_callV, ↓e_callI, ↓e_call0, ↓e_callR, PI_e, PFl_e, PD_e, PR_e, PO_e, PHd_e, PA_e, PA_n, IX_e, IX_0, reduceIte, lget, lset, lclr, fget, ctake, cdrop, c1, Nat.reduceAdd, List.reverse_cons, List.reverse_nil, List.nil_append, List.cons_append, Option.toList_some, Option.toList_none, List.length_cons, List.length_nil, true_and, and_true, true_or, or_true, Nat.reduceLeDiff, Nat.reduceLT, Nat.zero_le, List.append_nil]) | refine ⟨_, rfl, by omega, by omega, ?_⟩ | (refine And.intro ?_ ?_; focus (first | exact b2i_01 _ | assumption | decide | (simp; done))))
def T_SL_charAt (g : GG) : Spec2 := fun as f Q _ => ∃ (a : Nat) (i : Nat), as = [.ref a, .int (nI i)] ∧ (a = g.2.2 4 ∧ i < 4) ∧ Q (some (g_codes i)) f
theorem i_SL_charAt_ {g : GG} {a : Nat} {i : Nat} {f : AH} {Q : Option Value → AH → Prop} {X : String → AH → Prop} (hp : a = g.2.2 4 ∧ i < 4) (h : Q (some (g_codes i)) f) : T_SL_charAt g [.ref a, .int (nI i)] f Q X := ⟨a, i, rfl, hp, h⟩
abbrev m_SL_charAt (g : GG) (l : Launch) : MI := (RJ1, cJ1_charAt_3b067, 2, (some .char), [], false, 3, g, l)
def b_SL_charAt_0 (g : GG) : Blk := [(1, o_iload 1), (1, o_aload 0), (1, o_sblen g), (3, o_call0 T_St_checkIndex 2)]
def b_SL_charAt_6 (g : GG) : Blk := [(1, o_aload 0), (1, o_iload 1), (1, o_sbald g), (3, o_push (.int 255)), (1, o_iand), (1, o_i2c), (1, o_cret)]
set_option maxRecDepth 8000 in
theorem okb_SL_charAt_0 (g : GG) (l : Launch) (hst : l.stackTraces = false) : BlkOk (m_SL_charAt g l) 0 (b_SL_charAt_0 g) := 
  ⟨ok_iload_n (by decide +kernel : decode cJ1_charAt_3b067 0 = .ok (.iload_n 1, 1)) rfl,
  ⟨ok_aload_n (by decide +kernel : decode cJ1_charAt_3b067 1 = .ok (.aload_n 0, 1)) rfl,
  ⟨ok_sblen (by decide +kernel : decode cJ1_charAt_3b067 2 = .ok (.arraylength, 1)),
  ⟨(ok_callS (k := 2) (s_St_checkIndex g l hst) (show 2 < 3 from by decide) (Nat.le_of_ble_eq_true rfl) rfl rfl tw_1512 tw_1513 tw_24 tw_1514 ⟨by decide, by decide, by decide⟩ (by decide +kernel : decode cJ1_charAt_3b067 3 = .ok (.invokestatic 9, 3))).mono call0_of, trivial⟩⟩⟩⟩
set_option maxRecDepth 8000 in
theorem okb_SL_charAt_6 (g : GG) (l : Launch) (hst : l.stackTraces = false) : BlkOk (m_SL_charAt g l) 6 (b_SL_charAt_6 g) := 
  ⟨ok_aload_n (by decide +kernel : decode cJ1_charAt_3b067 6 = .ok (.aload_n 0, 1)) rfl,
  ⟨ok_iload_n (by decide +kernel : decode cJ1_charAt_3b067 7 = .ok (.iload_n 1, 1)) rfl,
  ⟨ok_sbald (by decide +kernel : decode cJ1_charAt_3b067 8 = .ok (.baload, 1)),
  ⟨ok_sipush (by decide) (by decide +kernel : decode cJ1_charAt_3b067 9 = .ok (.sipush 255, 3)),
  ⟨ok_iand (by decide +kernel : decode cJ1_charAt_3b067 12 = .ok (.iand, 1)),
  ⟨ok_i2c (by decide +kernel : decode cJ1_charAt_3b067 13 = .ok (.i2c, 1)),
  ⟨ok_cret rfl (by decide +kernel : decode cJ1_charAt_3b067 14 = .ok (.ireturn, 1)), trivial⟩⟩⟩⟩⟩⟩⟩
def k_SL_charAt (g : GG) : List (Nat × Blk) := [(0, b_SL_charAt_0 g), (6, b_SL_charAt_6 g)]
theorem ok_SL_charAt (g : GG) (l : Launch) (hst : l.stackTraces = false) : ∀ b ∈ k_SL_charAt g, BlkOk (m_SL_charAt g l) b.1 b.2 := List.forall_mem_cons.mpr ⟨okb_SL_charAt_0 g l hst, List.forall_mem_cons.mpr ⟨okb_SL_charAt_6 g l hst, fun _ h => by cases h⟩⟩
def i_SL_charAt (g : GG) : List (Nat × Blk) := []
theorem is_SL_charAt (g : GG) : ∀ x ∈ i_SL_charAt g, x ∈ k_SL_charAt g := sub_at [] rfl
theorem w_SL_charAt_0 (g : GG) (u : Unit) (n : List Unit) (B : Bx) (Q : Option Value → AH → Prop) (X : String → AH → Prop) (lv : LV) (st : List Value) (f : AH) (bc bs : Nat) : wpF (i_SL_charAt g) (u :: n) B Q X 0 lv st f bc bs = B 0 lv st f bc bs := (rfl)
theorem w_SL_charAt_6 (g : GG) (u : Unit) (n : List Unit) (B : Bx) (Q : Option Value → AH → Prop) (X : String → AH → Prop) (lv : LV) (st : List Value) (f : AH) (bc bs : Nat) : wpF (i_SL_charAt g) (u :: n) B Q X 6 lv st f bc bs = B 6 lv st f bc bs := (rfl)
set_option maxRecDepth 4000 in
set_option maxHeartbeats 4000000 in
theorem s_SL_charAt (g : GG) (l : Launch) (hst : l.stackTraces = false) : Snd yJ1_charAt_3b067 (m_SL_charAt g l) 0 0 (T_SL_charAt g) := by
  refine snd_of (by decide +kernel) rfl (fun h => by first | rfl | cases h) rfl hst (k_SL_charAt g) (ok_SL_charAt g l hst) ?_
  rintro as f Q X ⟨a, i, rfl, hp, hq⟩
  refine ⟨[some (.ref a), some (.int (nI i))], rfl, Nat.le_of_ble_eq_true rfl, fun B run => ?_⟩
  obtain ⟨rfl, hi⟩ := hp
  have h4 : i < 4 ∧ 4 < 2147483648 := ⟨hi, by omega⟩
  rcases (by omega : i = 0 ∨ i = 1 ∨ i = 2 ∨ i = 3) with rfl | rfl | rfl | rfl
  all_goals repeat (first | exact hq | (refine i_St_checkIndex_ h4 ?_) | (refine ⟨_, rfl, by omega, ?_⟩; simp -dsimp (disch := omega) only [gc0, gc1, gc2, gc3, g8, g16, thr_n, wdC_n, wrC_n, tchC_n, wpF_0, ↓e_no, ↓e_any, ↓e_sfv, ↓e_sfc, ↓e_sbald, ↓e_sblen, ↓e_callT, callT_h, eq_self, nI_dec, ixE, nI_4m, nI_16m, nI_10m, nI_2m, nI_add, nI_1, nI_p2, nI_p3, nI_pred, c3_n, c3_s, c3_i, upd_s, upd_n, rowU_n, rowU_ge, true_imp_iff, false_imp_iff, not_true_eq_false, not_false_eq_true, b2i_t, b2i_f, i32_10, i32_00, i32_11, ite_true_I, false_and, and_false, true_and, and_true, or_true, true_or, false_or, or_false, w_SL_charAt_0, w_SL_charAt_6, ↓b_SL_charAt_0, ↓b_SL_charAt_6, ↓wpL_n, ↓wpL_c, ↓e_iadd, ↓e_isub, ↓e_imul, ↓e_iand, ↓e_ior, ↓e_ixor, ↓e_ishl, ↓e_ishr, ↓e_iushr, ↓e_idiv, ↓e_irem, ↓e_ineg, ↓e_ladd, ↓e_lcmp, ↓e_i2l, ↓e_i2c, ↓e_i2d, ↓e_i2f, ↓e_l2f, ↓e_f2d, ↓e_fdiv, ↓e_ddiv, ↓e_dcmp_l, ↓e_fcmp_l, ↓e_dcmp_g, ↓e_fcmp_g, ↓e_push, ↓e_iload, ↓e_fload, ↓e_dload, ↓e_aload, ↓e_istore, ↓e_fstore, ↓e_astore, ↓e_iinc, ↓e_ifeq, ↓e_iceq, ↓e_ifne, ↓e_icne, ↓e_iflt, ↓e_iclt, ↓e_ifge, ↓e_icge, ↓e_ifgt, ↓e_icgt, ↓e_ifle, ↓e_icle, ↓e_goto, ↓e_dup, ↓e_pop, ↓e_dup_x1, ↓e_dup2, ↓e_getf, ↓e_putI, ↓e_putJ, ↓e_putC, ↓e_putR, ↓e_iald, ↓e_zald, ↓e_cald, ↓e_lald, ↓e_dald, ↓e_iast, ↓e_zast, ↓e_cast, ↓e_last, ↓e_dast, ↓e_aald, ↓e_alen, ↓e_throw, ↓e_iret, ↓e_zret, ↓e_cret, ↓e_aret, ↓e_lret, ↓e_fret, ↓e_dret, ↓e_vret, ↓e_new, ↓e_newarr, ↓e_pop1, ↓e_scald, ↓e_salen, ↓e_call, ↓e_callV, ↓e_callI, ↓e_call0, ↓e_callR, PI_e, PFl_e, PD_e, PR_e, PO_e, PHd_e, PA_e, PA_n, IX_e, IX_0, reduceIte, lget, lset, lclr, fget, ctake, cdrop, c1, Nat.reduceAdd, List.reverse_cons, List.reverse_nil, List.nil_append, List.cons_append, Option.toList_some, Option.toList_none, List.length_cons, List.length_nil, true_and, and_true, true_or, or_true, Nat.reduceLeDiff, Nat.reduceLT, Nat.zero_le, List.append_nil]) | (refine And.intro ⟨_, (by omega : 112 < 65536), rfl⟩ ?_) | (refine And.intro ⟨_, (by omega : 114 < 65536), rfl⟩ ?_) | (refine And.intro ⟨_, (by omega : 100 < 65536), rfl⟩ ?_) | (refine And.intro ⟨_, (by omega : 111 < 65536), rfl⟩ ?_) | (refine i_St_checkIndex_ ?_ ?_; (focus ((repeat' (first | assumption | omega | apply And.intro | rfl)); done))) | (refine run _ _ (i_SL_charAt g) [()] rfl (is_SL_charAt g) _ _ _ _ _ ?_; (try simp only [Option.toList_some, Option.toList_none, List.cons_append, List.nil_append, List.append_nil]); simp -dsimp (disch := omega) only [gc0, gc1, gc2, gc3, g8, g16, thr_n, wdC_n, wrC_n, tchC_n, wpF_0, ↓e_no, ↓e_any, ↓e_sfv, ↓e_sfc, ↓e_sbald, ↓e_sblen, ↓e_callT, callT_h, eq_self, nI_dec, ixE, nI_4m, nI_16m, nI_10m, nI_2m, nI_add, nI_1, nI_p2, nI_p3, nI_pred, c3_n, c3_s, c3_i, upd_s, upd_n, rowU_n, rowU_ge, true_imp_iff, false_imp_iff, not_true_eq_false, not_false_eq_true, b2i_t, b2i_f, i32_10, i32_00, i32_11, ite_true_I, false_and, and_false, true_and, and_true, or_true, true_or, false_or, or_false, w_SL_charAt_0, w_SL_charAt_6, ↓b_SL_charAt_0, ↓b_SL_charAt_6, ↓wpL_n, ↓wpL_c, ↓e_iadd, ↓e_isub, ↓e_imul, ↓e_iand, ↓e_ior, ↓e_ixor, ↓e_ishl, ↓e_ishr, ↓e_iushr, ↓e_idiv, ↓e_irem, ↓e_ineg, ↓e_ladd, ↓e_lcmp, ↓e_i2l, ↓e_i2c, ↓e_i2d, ↓e_i2f, ↓e_l2f, ↓e_f2d, ↓e_fdiv, ↓e_ddiv, ↓e_dcmp_l, ↓e_fcmp_l, ↓e_dcmp_g, ↓e_fcmp_g, ↓e_push, ↓e_iload, ↓e_fload, ↓e_dload, ↓e_aload, ↓e_istore, ↓e_fstore, ↓e_astore, ↓e_iinc, ↓e_ifeq, ↓e_iceq, ↓e_ifne, ↓e_icne, ↓e_iflt, ↓e_iclt, ↓e_ifge, ↓e_icge, ↓e_ifgt, ↓e_icgt, ↓e_ifle, ↓e_icle, ↓e_goto, ↓e_dup, ↓e_pop, ↓e_dup_x1, ↓e_dup2, ↓e_getf, ↓e_putI, ↓e_putJ, ↓e_putC, ↓e_putR, ↓e_iald, ↓e_zald, ↓e_cald, ↓e_lald, ↓e_dald, ↓e_iast, ↓e_zast, ↓e_cast, ↓e_last, ↓e_dast, ↓e_aald, ↓e_alen, ↓e_throw, ↓e_iret, ↓e_zret, ↓e_cret, ↓e_aret, ↓e_lret, ↓e_fret, ↓e_dret, ↓e_vret, ↓e_new, ↓e_newarr, ↓e_pop1, ↓e_scald, ↓e_salen, ↓e_call, ↓e_callV, ↓e_callI, ↓e_call0, ↓e_callR, PI_e, PFl_e, PD_e, PR_e, PO_e, PHd_e, PA_e, PA_n, IX_e, IX_0, reduceIte, lget, lset, lclr, fget, ctake, cdrop, c1, Nat.reduceAdd, List.reverse_cons, List.reverse_nil, List.nil_append, List.cons_append, Option.toList_some, Option.toList_none, List.length_cons, List.length_nil, true_and, and_true, true_or, or_true, Nat.reduceLeDiff, Nat.reduceLT, Nat.zero_le, List.append_nil]) | refine ⟨_, rfl, by omega, by omega, ?_⟩ | (refine And.intro ?_ ?_; focus (first | exact b2i_01 _ | assumption | decide | (simp; done))))
def T_St_charAt (g : GG) : Spec2 := fun as f Q _ => ∃ (a : Nat) (i : Nat), as = [.ref a, .int (nI i)] ∧ (a = g.2.2 3 ∧ i < 4) ∧ Q (some (g_codes i)) f
theorem i_St_charAt_ {g : GG} {a : Nat} {i : Nat} {f : AH} {Q : Option Value → AH → Prop} {X : String → AH → Prop} (hp : a = g.2.2 3 ∧ i < 4) (h : Q (some (g_codes i)) f) : T_St_charAt g [.ref a, .int (nI i)] f Q X := ⟨a, i, rfl, hp, h⟩
abbrev m_St_charAt (g : GG) (l : Launch) : MI := (RJ0, cJ0_charAt_5068e, 2, (some .char), [], false, 4, g, l)
def b_St_charAt_0 (g : GG) : Blk := [(1, o_aload 0), (3, o_callT g (T_St_isLatin1 g) 1)]
def b_St_charAt_4 (g : GG) : Blk := [(3, o_ifeq 16), (1, o_aload 0), (3, o_sfv g), (1, o_iload 1), (3, o_call0 (T_SL_charAt g) 2)]
def b_St_charAt_15 (g : GG) : Blk := [(1, o_cret)]
def b_St_charAt_16 (g : GG) : Blk := [(1, o_aload 0), (3, o_sfv g), (1, o_iload 1), (3, o_no), (1, o_cret)]
set_option maxRecDepth 8000 in
theorem okb_St_charAt_0 (g : GG) (l : Launch) (hst : l.stackTraces = false) : BlkOk (m_St_charAt g l) 0 (b_St_charAt_0 g) := 
  ⟨ok_aload_n (by decide +kernel : decode cJ0_charAt_5068e 0 = .ok (.aload_n 0, 1)) rfl,
  ⟨ok_callT (k := 0) (s_St_isLatin1 g l hst) (show 1 < 4 from by decide) (Nat.le_of_ble_eq_true rfl) rfl rfl tw_1503 tw_1504 tw_1505 tw_24 tw_1506 ⟨by decide, by decide, by decide⟩ (by decide +kernel : decode cJ0_charAt_5068e 1 = .ok (.invokevirtual 492, 3)), trivial⟩⟩
set_option maxRecDepth 8000 in
theorem okb_St_charAt_4 (g : GG) (l : Launch) (hst : l.stackTraces = false) : BlkOk (m_St_charAt g l) 4 (b_St_charAt_4 g) := 
  ⟨ok_ifeq (by decide) (by decide +kernel : decode cJ0_charAt_5068e 4 = .ok (.ifCond .eq 12, 3)),
  ⟨ok_aload_n (by decide +kernel : decode cJ0_charAt_5068e 7 = .ok (.aload_n 0, 1)) rfl,
  ⟨ok_sfv tw_1797 (by decide +kernel : decode cJ0_charAt_5068e 8 = .ok (.getfield 9, 3)),
  ⟨ok_iload_n (by decide +kernel : decode cJ0_charAt_5068e 11 = .ok (.iload_n 1, 1)) rfl,
  ⟨(ok_callS (k := 2) (s_SL_charAt g l hst) (show 3 < 4 from by decide) (Nat.le_of_ble_eq_true rfl) rfl rfl tw_1509 tw_1510 tw_26 tw_1511 ⟨by decide, by decide, by decide⟩ (by decide +kernel : decode cJ0_charAt_5068e 12 = .ok (.invokestatic 495, 3))).mono call0_of, trivial⟩⟩⟩⟩⟩
set_option maxRecDepth 8000 in
theorem okb_St_charAt_15 (g : GG) (l : Launch) (hst : l.stackTraces = false) : BlkOk (m_St_charAt g l) 15 (b_St_charAt_15 g) := 
  ⟨ok_cret rfl (by decide +kernel : decode cJ0_charAt_5068e 15 = .ok (.ireturn, 1)), trivial⟩
set_option maxRecDepth 8000 in
theorem okb_St_charAt_16 (g : GG) (l : Launch) (hst : l.stackTraces = false) : BlkOk (m_St_charAt g l) 16 (b_St_charAt_16 g) := 
  ⟨ok_aload_n (by decide +kernel : decode cJ0_charAt_5068e 16 = .ok (.aload_n 0, 1)) rfl,
  ⟨ok_sfv tw_1797 (by decide +kernel : decode cJ0_charAt_5068e 17 = .ok (.getfield 9, 3)),
  ⟨ok_iload_n (by decide +kernel : decode cJ0_charAt_5068e 20 = .ok (.iload_n 1, 1)) rfl,
  ⟨ok_no,
  ⟨ok_cret rfl (by decide +kernel : decode cJ0_charAt_5068e 24 = .ok (.ireturn, 1)), trivial⟩⟩⟩⟩⟩
def k_St_charAt (g : GG) : List (Nat × Blk) := [(0, b_St_charAt_0 g), (4, b_St_charAt_4 g), (15, b_St_charAt_15 g), (16, b_St_charAt_16 g)]
theorem ok_St_charAt (g : GG) (l : Launch) (hst : l.stackTraces = false) : ∀ b ∈ k_St_charAt g, BlkOk (m_St_charAt g l) b.1 b.2 := List.forall_mem_cons.mpr ⟨okb_St_charAt_0 g l hst, List.forall_mem_cons.mpr ⟨okb_St_charAt_4 g l hst, List.forall_mem_cons.mpr ⟨okb_St_charAt_15 g l hst, List.forall_mem_cons.mpr ⟨okb_St_charAt_16 g l hst, fun _ h => by cases h⟩⟩⟩⟩
def i_St_charAt (g : GG) : List (Nat × Blk) := [(16, b_St_charAt_16 g)]
theorem is_St_charAt (g : GG) : ∀ x ∈ i_St_charAt g, x ∈ k_St_charAt g := sub_at [3] rfl
theorem w_St_charAt_0 (g : GG) (u : Unit) (n : List Unit) (B : Bx) (Q : Option Value → AH → Prop) (X : String → AH → Prop) (lv : LV) (st : List Value) (f : AH) (bc bs : Nat) : wpF (i_St_charAt g) (u :: n) B Q X 0 lv st f bc bs = B 0 lv st f bc bs := (rfl)
theorem w_St_charAt_4 (g : GG) (u : Unit) (n : List Unit) (B : Bx) (Q : Option Value → AH → Prop) (X : String → AH → Prop) (lv : LV) (st : List Value) (f : AH) (bc bs : Nat) : wpF (i_St_charAt g) (u :: n) B Q X 4 lv st f bc bs = B 4 lv st f bc bs := (rfl)
theorem w_St_charAt_15 (g : GG) (u : Unit) (n : List Unit) (B : Bx) (Q : Option Value → AH → Prop) (X : String → AH → Prop) (lv : LV) (st : List Value) (f : AH) (bc bs : Nat) : wpF (i_St_charAt g) (u :: n) B Q X 15 lv st f bc bs = B 15 lv st f bc bs := (rfl)
theorem w_St_charAt_16 (g : GG) (u : Unit) (n : List Unit) (B : Bx) (Q : Option Value → AH → Prop) (X : String → AH → Prop) (lv : LV) (st : List Value) (f : AH) (bc bs : Nat) : wpF (i_St_charAt g) (u :: n) B Q X 16 lv st f bc bs = wpL (b_St_charAt_16 g) 16 lv st f bc bs (wpF (i_St_charAt g) n B Q X) Q X := (rfl)
set_option maxRecDepth 4000 in
set_option maxHeartbeats 4000000 in
theorem s_St_charAt (g : GG) (l : Launch) (hst : l.stackTraces = false) : Snd yJ0_charAt_5068e (m_St_charAt g l) 0 0 (T_St_charAt g) := by
  refine snd_of (by decide +kernel) rfl (fun h => by first | rfl | cases h) rfl hst (k_St_charAt g) (ok_St_charAt g l hst) ?_
  rintro as f Q X ⟨a, i, rfl, hp, hq⟩
  refine ⟨[some (.ref a), some (.int (nI i))], rfl, Nat.le_of_ble_eq_true rfl, fun B run => ?_⟩
  obtain ⟨rfl, hi⟩ := hp
  rcases (by omega : i = 0 ∨ i = 1 ∨ i = 2 ∨ i = 3) with rfl | rfl | rfl | rfl
  all_goals repeat (first | exact hq | (refine And.intro ⟨_, (by omega : 112 < 65536), rfl⟩ ?_) | (refine And.intro ⟨_, (by omega : 114 < 65536), rfl⟩ ?_) | (refine And.intro ⟨_, (by omega : 100 < 65536), rfl⟩ ?_) | (refine And.intro ⟨_, (by omega : 111 < 65536), rfl⟩ ?_) | (refine i_St_isLatin1_ rfl ?_) | (refine i_SL_charAt_ ⟨rfl, hi⟩ ?_) | (refine i_St_isLatin1_ ?_ ?_; (focus ((repeat' (first | assumption | omega | apply And.intro | rfl)); done))) | (refine i_SL_charAt_ ?_ ?_; (focus ((repeat' (first | assumption | omega | apply And.intro | rfl)); done))) | (refine run _ _ (i_St_charAt g) [(), ()] rfl (is_St_charAt g) _ _ _ _ _ ?_; (try simp only [Option.toList_some, Option.toList_none, List.cons_append, List.nil_append, List.append_nil]); simp -dsimp (disch := omega) only [gc0, gc1, gc2, gc3, thr_n, wdC_n, wrC_n, tchC_n, wpF_0, ↓e_no, ↓e_any, ↓e_sfv, ↓e_sfc, ↓e_sbald, ↓e_sblen, ↓e_callT, callT_h, eq_self, nI_dec, ixE, nI_4m, nI_16m, nI_10m, nI_2m, nI_add, nI_1, nI_p2, nI_p3, nI_pred, c3_n, c3_s, c3_i, upd_s, upd_n, rowU_n, rowU_ge, true_imp_iff, false_imp_iff, not_true_eq_false, not_false_eq_true, b2i_t, b2i_f, i32_10, i32_00, i32_11, ite_true_I, false_and, and_false, true_and, and_true, or_true, true_or, false_or, or_false, w_St_charAt_0, w_St_charAt_4, w_St_charAt_15, w_St_charAt_16, ↓b_St_charAt_0, ↓b_St_charAt_4, ↓b_St_charAt_15, ↓b_St_charAt_16, ↓wpL_n, ↓wpL_c, ↓e_iadd, ↓e_isub, ↓e_imul, ↓e_iand, ↓e_ior, ↓e_ixor, ↓e_ishl, ↓e_ishr, ↓e_iushr, ↓e_idiv, ↓e_irem, ↓e_ineg, ↓e_ladd, ↓e_lcmp, ↓e_i2l, ↓e_i2c, ↓e_i2d, ↓e_i2f, ↓e_l2f, ↓e_f2d, ↓e_fdiv, ↓e_ddiv, ↓e_dcmp_l, ↓e_fcmp_l, ↓e_dcmp_g, ↓e_fcmp_g, ↓e_push, ↓e_iload, ↓e_fload, ↓e_dload, ↓e_aload, ↓e_istore, ↓e_fstore, ↓e_astore, ↓e_iinc, ↓e_ifeq, ↓e_iceq, ↓e_ifne, ↓e_icne, ↓e_iflt, ↓e_iclt, ↓e_ifge, ↓e_icge, ↓e_ifgt, ↓e_icgt, ↓e_ifle, ↓e_icle, ↓e_goto, ↓e_dup, ↓e_pop, ↓e_dup_x1, ↓e_dup2, ↓e_getf, ↓e_putI, ↓e_putJ, ↓e_putC, ↓e_putR, ↓e_iald, ↓e_zald, ↓e_cald, ↓e_lald, ↓e_dald, ↓e_iast, ↓e_zast, ↓e_cast, ↓e_last, ↓e_dast, ↓e_aald, ↓e_alen, ↓e_throw, ↓e_iret, ↓e_zret, ↓e_cret, ↓e_aret, ↓e_lret, ↓e_fret, ↓e_dret, ↓e_vret, ↓e_new, ↓e_newarr, ↓e_pop1, ↓e_scald, ↓e_salen, ↓e_call, ↓e_callV, ↓e_callI, ↓e_call0, ↓e_callR, PI_e, PFl_e, PD_e, PR_e, PO_e, PHd_e, PA_e, PA_n, IX_e, IX_0, reduceIte, lget, lset, lclr, fget, ctake, cdrop, c1, Nat.reduceAdd, List.reverse_cons, List.reverse_nil, List.nil_append, List.cons_append, Option.toList_some, Option.toList_none, List.length_cons, List.length_nil, true_and, and_true, true_or, or_true, Nat.reduceLeDiff, Nat.reduceLT, Nat.zero_le, List.append_nil]) | refine ⟨_, rfl, by omega, by omega, ?_⟩ | (refine And.intro ?_ ?_; focus (first | exact b2i_01 _ | assumption | decide | (simp; done))))

