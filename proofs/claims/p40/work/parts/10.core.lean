/-! ===== the abstract heap, and what a state holds of it ===== -/
abbrev AC : Type := (Nat × vp_A) ⊕ (Nat × List Value)
abbrev AH : Type := Nat → Option AC
/-- the classes and slots; the array classes by their kinds; addresses of what stands below: 0 the border, 1 CODES, 2 the empty list's array, 3 "prdo", 4 its bytes, 5 the class object of Object[] -/
abbrev GG : Type := va_G × (Nat → ClassId) × (Nat → Nat)
abbrev LV : Type := List (Option Value)
abbrev gcl : List vw_C := [(RJx4a65c, TJx4a65c, 3), (RX0, TX0, 3), (RX1, TX1, 5), (RX2, TX2, 8), (RX3, TX3, 3), (RX4, TX4, 2), (RX5, TX5, 5), (RX6, TX6, 4), (RX7, TX7, 11), (RX8, TX8, 11)]
/-- kinds of arrays: 0 int, 1 boolean, 2 char, 3 long, 4 double, 5 int[], 6 boolean[], 7 Object -/
abbrev gtys (aC : Nat → ClassId) : List (ClassId × FieldType) := [(aC 0, .int), (aC 1, .boolean), (aC 2, .int), (aC 3, .int), (aC 4, .int), (aC 5, .array .int), (aC 6, .int), (aC 7, .object "java/lang/Object")]
def aev (g : GG) : AC → va_E
  | .inl x => .inl (g.2.1 x.1, x.2)
  | .inr o => .inr o
def aup (f : AH) (a : Nat) (c : AC) : AH := fun q => if q = a then some c else f q
theorem aup_s (f : AH) (a : Nat) (c : AC) : aup f a c a = some c := if_pos rfl
theorem aup_n (f : AH) {a q : Nat} (c : AC) (h : q ≠ a) : aup f a c q = f q := if_neg h
def Ag (g : GG) : Nat → Prop := fun q => g.2.2 0 ≤ q
def Rep (g : GG) (f : AH) (H : Heap) : Prop := ∀ (a : Nat) (c : AC), f a = some c → va_at g.1 gcl (a, aev g c) H ∧ g.2.2 0 ≤ a
theorem Rep.one {g : GG} {f : AH} {H : Heap} (h : Rep g f H) {a : Nat} {c : AC} (hc : f a = some c) : va_P g.1 gcl [(a, aev g c)] H := by
  intro k q hk
  match k, hk with
  | 0, hk => cases hk; exact (h a c hc).1
  | k + 1, hk => simp at hk
theorem Rep.up {g : GG} {f : AH} {H H1 : Heap} (h : Rep g f H) {a : Nat} {c : AC} (ha : g.2.2 0 ≤ a) (h1 : va_at g.1 gcl (a, aev g c) H1) (oq : ∀ q : Nat, q ≠ a → H1[q]? = H[q]?) : Rep g (aup f a c) H1 := by
  intro q c' hq
  by_cases e : q = a
  · subst e
    rw [aup_s] at hq
    cases hq
    exact ⟨h1, ha⟩
  · rw [aup_n f c e] at hq
    exact ⟨(h q c' hq).1.kept (oq q e), (h q c' hq).2⟩
theorem Rep.new {g : GG} {f : AH} {H : Heap} (h : Rep g f H) : f H.size = none := by
  cases e : f H.size with
  | none => rfl
  | some c => exact absurd (h _ c e).1.lt (Nat.lt_irrefl _)
theorem Rep.upN {g : GG} {f : AH} {H H1 : Heap} (h : Rep g f H) {c : AC} (ha : g.2.2 0 ≤ H.size) (h1 : va_at g.1 gcl (H.size, aev g c) H1) (oq : ∀ q : Nat, q < H.size → H1[q]? = H[q]?) : Rep g (aup f H.size c) H1 := by
  intro q c' hq
  by_cases e : q = H.size
  · subst e
    rw [aup_s] at hq
    cases hq
    exact ⟨h1, ha⟩
  · rw [aup_n f c e] at hq
    exact ⟨(h q c' hq).1.kept (oq q (h q c' hq).1.lt), (h q c' hq).2⟩
/-! words that ride along -/
def kw (w : Cond) : Bool := goodWord w || (w.onTables && (w.keepsH || w.keepsFace))
theorem kw_warm {s U : State} (hW : s.WarmedH U.vm) {w : Cond} (hk : kw w = true) {A A' : Array Value} (h : w.before A s = true) : w.before A' U = true := by
  simp only [kw, Bool.or_eq_true, Bool.and_eq_true] at hk
  rcases hk with hk | ⟨ht, hk | hk⟩
  · exact word_at hW (good_of_word hk) h
  · have h1 := Cond.onTables_warmH (T := U) (args' := A') hW ht hk h
    rwa [State.setVm_self] at h1
  · have h1 : w.before A (s.setVm U.vm) = true := Cond.before_shiftedFace (State.Shifted.of_warmed hW) w hk h
    exact va_tabs (u := s.setVm U.vm) (U := U) ht rfl h1
def Wds (A : Array Value) (s : State) : Prop := ∀ w ∈ lw_tbl, kw w = true → w.before A s = true
theorem Wds.warm {s U : State} (hW : s.WarmedH U.vm) {A A' : Array Value} (h : Wds A s) : Wds A' U := fun w hw hk => kw_warm hW hk (h w hw hk)
/-! what a state holds that nobody writes -/
/-- the law's script: its place, how long it is, what stands in it -/
def zL (g : GG) : Nat := g.2.2 6
def zX (g : GG) (j : Nat) : Int32 := (UInt32.ofNat (g.2.2 (7 + j))).toInt32
def g_ncs : List (String × String) := [("java/util/NoSuchElementException", "java/lang/IllegalArgumentException"), ("java/lang/IllegalStateException", "java/lang/IllegalArgumentException"), ("java/lang/IndexOutOfBoundsException", "java/lang/IllegalArgumentException"), ("java/lang/UnsupportedOperationException", "java/lang/IllegalArgumentException"), ("java/lang/IllegalArgumentException", "java/lang/IllegalStateException"), ("java/util/NoSuchElementException", "java/lang/IllegalStateException"), ("java/lang/IndexOutOfBoundsException", "java/lang/IllegalStateException"), ("java/lang/UnsupportedOperationException", "java/lang/IllegalStateException"), ("java/lang/IllegalArgumentException", "java/lang/IndexOutOfBoundsException"), ("java/util/NoSuchElementException", "java/lang/IndexOutOfBoundsException"), ("java/lang/IllegalStateException", "java/lang/IndexOutOfBoundsException"), ("java/lang/UnsupportedOperationException", "java/lang/IndexOutOfBoundsException"), ("java/lang/IllegalArgumentException", "java/util/NoSuchElementException"), ("java/lang/IllegalStateException", "java/util/NoSuchElementException"), ("java/lang/IndexOutOfBoundsException", "java/util/NoSuchElementException"), ("java/lang/UnsupportedOperationException", "java/util/NoSuchElementException"), ("java/lang/IllegalArgumentException", "java/lang/UnsupportedOperationException"), ("java/util/NoSuchElementException", "java/lang/UnsupportedOperationException"), ("java/lang/IllegalStateException", "java/lang/UnsupportedOperationException"), ("java/lang/IndexOutOfBoundsException", "java/lang/UnsupportedOperationException")]
def GEnv (g : GG) (U : State) (H : Heap) : Prop :=
  va_K g.1 gcl (gtys g.2.1) U ∧ vx_Zq Bundle.tN "UNASSIGNED_STACK" Bundle.steD (Ag g) U H ∧ vx_Zq Bundle.tN "SUPPRESSED_SENTINEL" Bundle.listD (Ag g) U H ∧
  (zL g ≤ 260 ∧ va_T .int (g.2.2 1) (zL g) (fun j => .int (zX g j)) (Ag g) U H) ∧
  (va_Z "java/util/ArrayList" "DEFAULTCAPACITY_EMPTY_ELEMENTDATA" "[Ljava/lang/Object;" (.ref (g.2.2 2)) (Ag g) U H ∧ va_T (.object "java/lang/Object") (g.2.2 2) 0 (fun _ => .null) (Ag g) U H) ∧
  (True ∧ True ∧ True) ∧
  True ∧
  (∀ q ∈ g_ncs, va_Nc q.1 q.2 U) ∧ va_Mi "[Ljava/lang/Object;" (g.2.2 5) U ∧ va_AO "java/lang/Object" U ∧ (va_AOA .int U ∧ True) ∧ g.2.2 0 ≤ H.size
theorem va_AOA.spec {A : Array Value} {s : State} {t : FieldType} (h : (Cond.arrayOver (.array t)).before A s = true) :
    ∃ comp c k, s.vm.findClass (FieldType.array t).toString = some comp ∧ (s.vm.classes.findIdx? fun x => match x.kind with | .array component _ => component == comp | _ => false) = some c ∧ s.vm.classes[c]? = some k ∧ k.kind = .array comp (.array t) ∧ s.vm.findClass ("[" ++ (FieldType.array t).toString) = some c := by
  simp only [Cond.before, Cond.holds, Cond.value, beq_iff_eq] at h
  cases hc : s.vm.findClass (FieldType.array t).toString with
  | none => simp [hc] at h
  | some comp =>
    simp only [hc, Option.bind_some, Option.bind_eq_some_iff, Option.map_eq_some_iff] at h
    obtain ⟨c, hi, k, hk, hb⟩ := h
    obtain ⟨hlt, hp, -⟩ := Array.findIdx?_eq_some_iff_getElem.mp hi
    have hkk : s.vm.classes[c] = k := (Array.getElem?_eq_some_iff.mp hk).2
    rw [hkk] at hp
    cases hkind : k.kind with
    | array component ty =>
      rw [hkind] at hb hp
      simp at hb hp
      exact ⟨comp, c, k, rfl, hi, hk, by rw [hkind, hp, hb.1], hb.2⟩
    | _ => rw [hkind] at hb; simp at hb
theorem va_AOA.moved {t : FieldType} {u U : State} (hvm : u.vm.Alike U.vm) (h : va_AOA t u) : va_AOA t U := by
  obtain ⟨comp, c, k, h1, h2, h3, h4, h5⟩ := va_AOA.spec h
  obtain ⟨k', hk', he⟩ := hvm.2.2 _ _ h3
  have hkind : k'.kind = .array comp (.array t) := by rw [he]; exact h4
  have hi : (U.vm.classes.findIdx? fun (x : Class) => match x.kind with | .array component _ => component == comp | _ => false) = some c := by
    exact (hvm.findIdx?_eqK _ (fun _ => rfl)).trans h2
  have f1 : U.vm.findClass (FieldType.array t).toString = some comp := by rw [hvm.findClass]; exact h1
  have f2 : U.vm.findClass ("[" ++ (FieldType.array t).toString) = some c := by rw [hvm.findClass]; exact h5
  show (Cond.arrayOver (.array t)).holds #[] U none U [] = true
  simp only [Cond.holds, Cond.value, f1, Option.bind_some, beq_iff_eq]
  rw [Option.bind_eq_some_iff]
  refine ⟨c, hi, ?_⟩
  simp [hk', hkind, f2]
theorem GEnv.go {g : GG} {s U : State} {H H1 : Heap} (hW : s.WarmedH U.vm) (hz : H.size ≤ H1.size) (hq : ∀ a : Nat, a < H.size → ¬ Ag g a → H1[a]? = H[a]?) (h : GEnv g s H) : GEnv g U H1 := by
  obtain ⟨h1, h2, h3, ⟨h4, h5⟩, ⟨h6, h7⟩, ⟨h8, h9, h10⟩, h11, h12, h13, h14, ⟨h15, h16⟩, h17⟩ := h
  have m := hW.alike
  exact ⟨va_K.moved m h1, (vx_Zq.moved m h2).kept hq, (vx_Zq.moved m h3).kept hq, ⟨h4, (va_T.moved m h5).kept hq⟩, ⟨(va_Z.moved m h6).kept hq, (va_T.moved m h7).kept hq⟩,
    ⟨h8, h9, h10⟩, h11, fun q hm => va_Nc.moved m (h12 q hm), va_Mi.moved m h13, va_AO.moved m h14, ⟨va_AOA.moved m h15, h16⟩, Nat.le_trans h17 hz⟩
/-! ===== contracts ===== -/
abbrev Spec2 : Type := List Value → AH → (Option Value → AH → Prop) → (String → AH → Prop) → Prop
/-- a method: its class, bytes, locals, what it answers, handlers, whether it is a constructor, its level -/
abbrev MI : Type := String × ByteArray × Nat × Option FieldType × List (Nat × Nat × Nat × Nat) × Bool × Nat × GG × Launch
def lvlRoom (lvl mc ms : Nat) : Room := { frames := 10 + lvl, cells := mc, slots := ms, locals := 200 + 60 * lvl }
def PcOf (g : GG) (as : List Value) (f : AH) : Array Value → State → Prop := fun v U => v = as.toArray ∧ Rep g f U.heap ∧ GEnv g U U.heap ∧ Wds #[] U
def QcOf (g : GG) (Q : Option Value → AH → Prop) : Array Value → State → Outcome → State → Prop := fun _ st o t => ∃ (r : Option Value) (f' : AH), o = .returned r ∧ Q r f' ∧ Rep g f' t.heap ∧ va_F (Ag g) st t
def XcOf (g : GG) (X : String → AH → Prop) : String → State → State → Prop := fun E st t => ∃ f' : AH, X E f' ∧ Rep g f' t.heap ∧ va_F (Ag g) st t
def Snd (y : MethodName) (M : MI) (mc ms : Nat) (T : Spec2) : Prop :=
  ∀ (as : List Value) (f : AH) (Q : Option Value → AH → Prop) (X : String → AH → Prop), T as f Q X →
    vx_Met M.2.2.2.2.2.2.2.2 y [Cond.code y M.2.1 M.2.2.1 M.2.2.2.1] (lvlRoom M.2.2.2.2.2.2.1 mc ms) (PcOf M.2.2.2.2.2.2.2.1 as f) (QcOf M.2.2.2.2.2.2.2.1 Q) (XcOf M.2.2.2.2.2.2.2.1 X) mc ms (Ag M.2.2.2.2.2.2.2.1)
theorem PcOf.blind (g : GG) (as : List Value) (f : AH) : FrameBlind (PcOf g as f) := by
  intro a U fr mk ⟨h1, h2, h3, h4⟩
  have hW : U.WarmedH (U.calling fr mk a).vm := State.WarmedH.refl U
  exact ⟨h1, h2, h3.go hW (Nat.le_refl _) (fun _ _ _ => rfl), h4.warm hW⟩
/-! ===== locals ===== -/
def lget : LV → Nat → Option Value
  | [], _ => none
  | x :: _, 0 => x
  | _ :: r, n + 1 => lget r n
def lclr : Option Value → Option Value
  | some (.long _) => none
  | some (.double _) => none
  | x => x
def lset : LV → Nat → Value → LV
  | [], _, _ => []
  | _ :: r, 0, v => some v :: r
  | x :: r, 1, v => lclr x :: lset r 0 v
  | x :: r, n + 2, v => x :: lset r (n + 1) v
def las : Nat → LV → List (Nat × Value)
  | _, [] => []
  | k, none :: r => las (k + 1) r
  | k, some v :: r => (k, v) :: las (k + 1) r
def LH (nL : Nat) (ls : Array Slot) (lv : LV) : Prop := lv_has ls nL (las 0 lv)
theorem las_mem : ∀ (lv : LV) (k j : Nat) (w : Value), (j, w) ∈ las k lv ↔ k ≤ j ∧ lget lv (j - k) = some w
  | [], k, j, w => by simp [las, lget]
  | none :: r, k, j, w => by
    rw [las, las_mem r (k + 1) j w]
    constructor
    · intro ⟨h1, h2⟩
      refine ⟨by omega, ?_⟩
      rw [show j - k = (j - (k + 1)) + 1 by omega]
      exact h2
    · intro ⟨h1, h2⟩
      rcases Nat.lt_or_ge k j with h | h
      · refine ⟨h, ?_⟩
        rw [show j - k = (j - (k + 1)) + 1 by omega] at h2
        exact h2
      · rw [show j - k = 0 by omega] at h2
        cases h2
  | some v :: r, k, j, w => by
    rw [las, List.mem_cons, las_mem r (k + 1) j w]
    constructor
    · intro h
      rcases h with h | ⟨h1, h2⟩
      · cases h
        exact ⟨Nat.le_refl _, by rw [Nat.sub_self]; rfl⟩
      · refine ⟨by omega, ?_⟩
        rw [show j - k = (j - (k + 1)) + 1 by omega]
        exact h2
    · intro ⟨h1, h2⟩
      rcases Nat.lt_or_ge k j with h | h
      · right
        refine ⟨h, ?_⟩
        rw [show j - k = (j - (k + 1)) + 1 by omega] at h2
        exact h2
      · left
        rw [show j - k = 0 by omega] at h2
        have h2 : some v = some w := h2
        cases h2
        rw [show j = k by omega]
theorem LH.at {nL : Nat} {ls : Array Slot} {lv : LV} (h : LH nL ls lv) {i : Nat} {v : Value} (hv : lget lv i = some v) : ls[i]? = some (.val v) :=
  h.2.2 (i, v) ((las_mem lv 0 i v).mpr ⟨Nat.zero_le _, hv⟩)
theorem lset_get : ∀ (lv : LV) (i j : Nat) (v w : Value), lget (lset lv i v) j = some w → (j = i ∧ w = v) ∨ (j ≠ i ∧ lget lv j = some w ∧ (j + 1 = i → lclr (some w) = some w))
  | [], i, j, v, w, h => by simp [lset, lget] at h
  | x :: r, 0, 0, v, w, h => by
    have h : some v = some w := h
    cases h
    exact Or.inl ⟨rfl, rfl⟩
  | x :: r, 0, j + 1, v, w, h => Or.inr ⟨by omega, h, by omega⟩
  | x :: r, 1, 0, v, w, h => by
    have h : lclr x = some w := h
    cases x with
    | none => cases h
    | some u =>
      have e : u = w := by
        cases u <;> first | (cases h; done) | (cases h; rfl)
      subst e
      exact Or.inr ⟨by omega, rfl, fun _ => h⟩
  | x :: r, 1, j + 1, v, w, h => by
    rcases lset_get r 0 j v w h with ⟨h1, h2⟩ | ⟨h1, h2, h3⟩
    · exact Or.inl ⟨by omega, h2⟩
    · exact Or.inr ⟨by omega, h2, by omega⟩
  | x :: r, i + 2, 0, v, w, h => Or.inr ⟨by omega, h, by omega⟩
  | x :: r, i + 2, j + 1, v, w, h => by
    rcases lset_get r (i + 1) j v w h with ⟨h1, h2⟩ | ⟨h1, h2, h3⟩
    · exact Or.inl ⟨by omega, h2⟩
    · exact Or.inr ⟨by omega, h2, fun q => h3 (by omega)⟩
theorem lclr_cat {w : Value} (h : lclr (some w) = some w) : ¬ w.category = 2 := by
  cases w <;> first | (cases h; done) | simp [Value.category]
theorem LH.set {nL : Nat} {ls' : Array Slot} {lv : LV} {i : Nat} {v : Value} (h : lv_has ls' nL ((i, v) :: (las 0 lv).filter (fun q => !(q.1 == i) && !(q.1 + 1 == i && q.2.category == 2)))) : LH nL ls' (lset lv i v) := by
  refine ⟨h.1, h.2.1, fun q hq => h.2.2 q ?_⟩
  obtain ⟨j, w⟩ := q
  obtain ⟨-, hg⟩ := (las_mem _ 0 j w).mp hq
  rcases lset_get lv i j v w hg with ⟨rfl, rfl⟩ | ⟨h1, h2, h3⟩
  · exact List.mem_cons_self
  · refine List.mem_cons_of_mem _ (List.mem_filter.mpr ⟨(las_mem lv 0 j w).mpr ⟨Nat.zero_le _, h2⟩, ?_⟩)
    by_cases e : j + 1 = i
    · have := lclr_cat (h3 e)
      simp [h1, this]
    · simp [h1, e]
/-! ===== blocks ===== -/
abbrev Bx : Type := Nat → LV → List Value → AH → Nat → Nat → Prop
abbrev Kx : Type := LV → List Value → AH → Nat → Nat → Prop
abbrev Op : Type := LV → List Value → AH → Nat → Nat → Kx → Bx → (Option Value → AH → Prop) → (String → AH → Prop) → Prop
abbrev Blk : Type := List (Nat × Op)
def wpL : Blk → Nat → LV → List Value → AH → Nat → Nat → Bx → (Option Value → AH → Prop) → (String → AH → Prop) → Prop
  | [], pc, lv, st, f, bc, bs, B, _, _ => B pc lv st f bc bs
  | (n, o) :: r, pc, lv, st, f, bc, bs, B, Q, X => o lv st f bc bs (fun lv st f bc bs => wpL r (pc + n) lv st f bc bs B Q X) B Q X
abbrev Cx : Type := (GG × Nat × Nat) × (Program × Launch × Env × Room) × (State × MethodId × Array Value × List Frame × Method × Code) × (State → Prop)
def Blm (C : Cx) (nL : Nat) : Bx := fun pc lv st f bc bs => match C with
  | ((g, MC, MS), (p, l, e, R), (s, m, args, below, meth, c), Qf) => ∀ (ls : Array Slot) (H : Heap) (locs : List Loc) (cells slots : Nat), LH nL ls lv → Rep g f H → va_S (Ag g) s.heap H locs → cells + bc ≤ MC → slots + bs ≤ MS → W p l e R s m args below meth c H locs cells slots Qf (F0 m pc ls st)
def CxOk (M : MI) (C : Cx) (Q : Option Value → AH → Prop) (X : String → AH → Prop) : Prop := match C with
  | ((g, MC, MS), (p, l, e, R), (s, m, args, below, meth, c), Qf) => p.tables.exec = Jvm.exec ∧ c.code = M.2.1 ∧ c.maxLocals = M.2.2.1 ∧ s.vm.findClass M.1 = some m.cls ∧ Wds args s ∧ meth.locks = false ∧ GEnv g s s.heap ∧ l.stackTraces = false ∧
    R = lvlRoom M.2.2.2.2.2.2.1 MC MS ∧ c.exceptionTable.toList = tableOf M.2.2.2.2.1 ∧ (M.2.2.2.2.2.1 = true → meth.name = "<init>") ∧ meth.sig.returnType = M.2.2.2.1 ∧ Qf = vx_MQ below (QcOf g Q) (XcOf g X) args s MC MS (Ag g) ∧ g = M.2.2.2.2.2.2.2.1 ∧ l = M.2.2.2.2.2.2.2.2
def OpOk (M : MI) (pc n : Nat) (o : Op) : Prop := ∀ (C : Cx) (Q : Option Value → AH → Prop) (X : String → AH → Prop), CxOk M C Q X → ∀ (K : Kx), (∀ lv st f bc bs, K lv st f bc bs → Blm C M.2.2.1 (pc + n) lv st f bc bs) → ∀ (B' : Bx), (∀ pc lv st f bc bs, B' pc lv st f bc bs → Blm C M.2.2.1 pc lv st f bc bs) → ∀ lv st f bc bs, o lv st f bc bs K B' Q X → Blm C M.2.2.1 pc lv st f bc bs
def BlkOk (M : MI) : Nat → Blk → Prop
  | _, [] => True
  | pc, (n, o) :: r => OpOk M pc n o ∧ BlkOk M (pc + n) r
theorem BlkOk.run {M : MI} {C : Cx} {Q : Option Value → AH → Prop} {X : String → AH → Prop} (hC : CxOk M C Q X) {B' : Bx} (hB : ∀ pc lv st f bc bs, B' pc lv st f bc bs → Blm C M.2.2.1 pc lv st f bc bs) : ∀ (b : Blk) (pc : Nat), BlkOk M pc b → ∀ lv st f bc bs, wpL b pc lv st f bc bs B' Q X → Blm C M.2.2.1 pc lv st f bc bs
  | [], _, _, _, _, _, _, _, h => hB _ _ _ _ _ _ h
  | (n, o) :: r, pc, hb, lv, st, f, bc, bs, h => hb.1 C Q X hC _ (fun lv st f bc bs hk => BlkOk.run hC hB r (pc + n) hb.2 lv st f bc bs hk) B' hB lv st f bc bs h
def blkAt : List (Nat × Blk) → Nat → Option Blk
  | [], _ => none
  | (p, b) :: r, pc => bif p == pc then some b else blkAt r pc
theorem blkAt_mem : ∀ {L : List (Nat × Blk)} {pc : Nat} {b : Blk}, blkAt L pc = some b → (pc, b) ∈ L
  | [], _, _, h => by cases h
  | (x, y) :: r, pc, b, h => by
    rw [blkAt] at h
    by_cases e : x = pc
    · subst e
      rw [show (x == x) = true from beq_self_eq_true _, cond_true] at h
      cases h
      exact List.mem_cons_self
    · rw [show (x == pc) = false from beq_eq_false_iff_ne.mpr e, cond_false] at h
      exact List.mem_cons_of_mem _ (blkAt_mem h)
/-- the blocks of a list are gone through where a jump comes to them, so many times -/
def wpF (L : List (Nat × Blk)) : List Unit → Bx → (Option Value → AH → Prop) → (String → AH → Prop) → Bx
  | [], B, _, _ => B
  | _ :: n, B, Q, X => fun pc lv st f bc bs => match blkAt L pc with
    | some b => wpL b pc lv st f bc bs (wpF L n B Q X) Q X
    | none => B pc lv st f bc bs
theorem wpF.run {M : MI} {C : Cx} {Q : Option Value → AH → Prop} {X : String → AH → Prop} (hC : CxOk M C Q X) (L : List (Nat × Blk)) (hL : ∀ b ∈ L, BlkOk M b.1 b.2) : ∀ n pc lv st f bc bs, wpF L n (Blm C M.2.2.1) Q X pc lv st f bc bs → Blm C M.2.2.1 pc lv st f bc bs
  | [], _, _, _, _, _, _, h => h
  | _ :: n, pc, lv, st, f, bc, bs, h => by
    rw [wpF] at h
    split at h
    · next b e => exact BlkOk.run hC (wpF.run hC L hL n) b pc (hL (pc, b) (blkAt_mem e)) lv st f bc bs h
    · exact h
