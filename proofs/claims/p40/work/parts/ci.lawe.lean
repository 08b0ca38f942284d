-- deps: cf.lawb
/-! ===== what the start holds ===== -/
theorem arK {s : State} {A : Array Value} {t : FieldType} (h : (Cond.arrayClass t).before A s = true) : ∃ cA, ArrOfT s cA t ∧ s.vm.findClass ("[" ++ t.toString) = some cA := by
  obtain ⟨c, k, comp, h1, h2, h3⟩ := Cond.arrayClass_spec (args := A) (first := s) (o := none) (s := s) (idx := []) h
  exact ⟨c, fun n z => ⟨(fun k h => by cases h), k, h2, comp, h3⟩, h1⟩
theorem arKA {s : State} {A : Array Value} {t : FieldType} (h : (Cond.arrayOver (.array t)).before A s = true) : ∃ cA, ArrOfT s cA (.array t) ∧ s.vm.findClass ("[" ++ (FieldType.array t).toString) = some cA := by
  obtain ⟨comp, c, k, h1, h2, h3, h4, h5⟩ := va_AOA.spec (A := A) h
  exact ⟨c, fun n z => ⟨(fun k h => by cases h), k, h3, comp, h4⟩, h5⟩
theorem arKO {s : State} {A : Array Value} {n : String} (h : (Cond.arrayOver (.object n)).before A s = true) : ∃ cA, ArrOfT s cA (.object n) ∧ va_RA s cA (.object n) := by
  obtain ⟨comp, c, k, h1, h2, h3, h4, h5⟩ := Cond.arrayOver_spec (args := A) (first := s) (o := none) (s := s) (idx := []) h
  exact ⟨c, fun n z => ⟨(fun k h => by cases h), k, h3, comp, h4⟩, k, comp, h3, h4, h1, h5⟩
/-- addresses of what stands below, and the script -/
def g_adr (z b q m L : Nat) (xs : Nat → Int32) : Nat → Nat
  | 0 => z
  | 1 => b
  | 2 => q
  | 3 => 0
  | 4 => 0
  | 5 => m
  | 6 => L
  | j + 7 => (xs j).toUInt32.toNat
theorem g_adr_x {z b q m L : Nat} {xs : Nat → Int32} {c : va_G} {a : Nat → ClassId} {j : Nat} : ((c, a, g_adr z b q m L xs) : GG).2.2 (7 + j) = (xs j).toUInt32.toNat := by
  rw [Nat.add_comm]
  rfl
theorem zX_adr {z b q m L : Nat} {xs : Nat → Int32} {c : va_G} {a : Nat → ClassId} {j : Nat} : zX ((c, a, g_adr z b q m L xs) : GG) j = xs j := by
  rw [zX, g_adr_x, UInt32.ofNat_toNat]
  rfl
set_option maxHeartbeats 4000000 in
theorem law_env {s : State} {A : Array Value} (hts : ∀ w ∈ lw_tbl, w.before A s = true) (hgv : (Jvm.Cond.and given_1 narrow_1).before A s = true) {b L : Nat} {xs : Nat → Int32} (hL : L ≤ 260) (hX : va_X b L xs s s.heap) (hbl : b < s.heap.size) : ∃ g : GG, g.2.2 0 = s.heap.size ∧ g.2.2 1 = b ∧ GEnv g s s.heap := by
  have hf := flat_of_before _ hgv
  have hA : ∀ a : Nat, a < s.heap.size → ¬ (fun q : Nat => s.heap.size ≤ q) a := fun a h h2 => absurd h (Nat.not_lt.mpr h2)
  have hcl : ∀ k : Nat, ∃ p : ClassId × (Nat → Nat), ∀ q : vw_C, gcl[k]? = some q → u_Kn s q.1 q.2.1 q.2.2 p.1 p.2 := fun k => by
    have one : ∀ (ci n : Nat) (r : vw_C) (ty : Nat → FieldType), ClsOk ci r ty → Cond.instantiable r.1 n ∈ lw_tbl → ∃ p : ClassId × (Nat → Nat), ∀ q : vw_C, gcl[ci]? = some q → u_Kn s q.1 q.2.1 q.2.2 p.1 p.2 := fun ci n r ty hc hi => by
      obtain ⟨c, iS, h⟩ := u_known (C := r.1) (T := r.2.1) (N := r.2.2) (n := n) hts (fun w hw => (hc.2.1 w hw).1) (hts _ hi)
      exact ⟨(c, iS), fun q hq => by rw [hc.1] at hq; cases hq; exact h⟩
    match k with
    | 0 => exact one 0 _ _ _ cls_0 tw_63
    | 1 => exact one 1 _ _ _ cls_1 tw_97
    | 2 => exact one 2 _ _ _ cls_2 tw_489
    | 3 => exact one 3 _ _ _ cls_3 tw_336
    | 4 => exact one 4 _ _ _ cls_4 tw_89
    | 5 => exact one 5 _ _ _ cls_5 tw_131
    | 6 => exact one 6 _ _ _ cls_6 tw_718
    | 7 => exact one 7 _ _ _ cls_7 tw_39
    | 8 => exact one 8 _ _ _ cls_8 tw_704
    | 9 => exact one 9 _ _ _ cls_9 tw_31
    | k + 10 => exact ⟨(0, fun _ => 0), fun q hq => by simp at hq⟩
  obtain ⟨D, hD⟩ := Classical.axiomOfChoice hcl
  obtain ⟨a0, x0, y0⟩ := arK (hts _ tw_60)
  obtain ⟨a1, x1, y1⟩ := arK (hts _ tw_61)
  obtain ⟨a5, x5, y5⟩ := arKA (hts _ tw_1093)
  obtain ⟨a7, x7, y7⟩ := arKO (hts _ tw_572)
  have hK : va_K (fun k => (D k).1, fun k => (D k).2) gcl (gtys fun k => match k with | 0 => a0 | 1 => a1 | 2 => a0 | 3 => a0 | 4 => a0 | 5 => a5 | 6 => a0 | _ => a7) s := by
    refine ⟨fun k q hq => hD k q hq, fun k q hq => ?_⟩
    match k, hq with
    | 0, hq => cases hq; exact ⟨x0, y0⟩
    | 1, hq => cases hq; exact ⟨x1, y1⟩
    | 2, hq => cases hq; exact ⟨x0, y0⟩
    | 3, hq => cases hq; exact ⟨x0, y0⟩
    | 4, hq => cases hq; exact ⟨x0, y0⟩
    | 5, hq => cases hq; exact ⟨x5, y5⟩
    | 6, hq => cases hq; exact ⟨x0, y0⟩
    | 7, hq => cases hq; exact ⟨x7, y7⟩
    | k + 8, hq => simp at hq
  have z1 := vx_Zqof (C := Bundle.tN) (n := "UNASSIGNED_STACK") (d := Bundle.steD) (hts _ tw_419) (hts _ tw_9) (hf _ (by decide +kernel)) hA
  have z2 := vx_Zqof (C := Bundle.tN) (n := "SUPPRESSED_SENTINEL") (d := Bundle.listD) (hts _ tw_421) (hts _ tw_9) (hf _ (by decide +kernel)) hA
  obtain ⟨q2, v2, hT2⟩ := va_Tof (tm := (.static "java/util/ArrayList" "DEFAULTCAPACITY_EMPTY_ELEMENTDATA" "[Ljava/lang/Object;")) (ty := .object "java/lang/Object") (N := 0) (f := fun _ => .null) (by decide) (hf (Cond.arrayOf (.static "java/util/ArrayList" "DEFAULTCAPACITY_EMPTY_ELEMENTDATA" "[Ljava/lang/Object;") (.object "java/lang/Object")) (by decide +kernel)) (va_eqt (hf (Cond.eq (.length (.static "java/util/ArrayList" "DEFAULTCAPACITY_EMPTY_ELEMENTDATA" "[Ljava/lang/Object;")) (.int 0)) (by decide +kernel))) (fun j hj => absurd hj (Nat.not_lt_zero _)) hA
  have z6 := va_Zof (C := "java/util/ArrayList") (n := "DEFAULTCAPACITY_EMPTY_ELEMENTDATA") (d := "[Ljava/lang/Object;") (hts _ tw_75) (hts _ tw_5) v2 hA
  have z12 : ∀ q ∈ g_ncs, va_Nc q.1 q.2 s := List.forall_mem_cons.mpr ⟨va_Nc.of (hf (Cond.not (Cond.castable "java/util/NoSuchElementException" "java/lang/IllegalArgumentException")) (by decide +kernel)), List.forall_mem_cons.mpr ⟨va_Nc.of (hf (Cond.not (Cond.castable "java/lang/IllegalStateException" "java/lang/IllegalArgumentException")) (by decide +kernel)), List.forall_mem_cons.mpr ⟨va_Nc.of (hf (Cond.not (Cond.castable "java/lang/IndexOutOfBoundsException" "java/lang/IllegalArgumentException")) (by decide +kernel)), List.forall_mem_cons.mpr ⟨va_Nc.of (hf (Cond.not (Cond.castable "java/lang/UnsupportedOperationException" "java/lang/IllegalArgumentException")) (by decide +kernel)), List.forall_mem_cons.mpr ⟨va_Nc.of (hf (Cond.not (Cond.castable "java/lang/IllegalArgumentException" "java/lang/IllegalStateException")) (by decide +kernel)), List.forall_mem_cons.mpr ⟨va_Nc.of (hf (Cond.not (Cond.castable "java/util/NoSuchElementException" "java/lang/IllegalStateException")) (by decide +kernel)), List.forall_mem_cons.mpr ⟨va_Nc.of (hf (Cond.not (Cond.castable "java/lang/IndexOutOfBoundsException" "java/lang/IllegalStateException")) (by decide +kernel)), List.forall_mem_cons.mpr ⟨va_Nc.of (hf (Cond.not (Cond.castable "java/lang/UnsupportedOperationException" "java/lang/IllegalStateException")) (by decide +kernel)), List.forall_mem_cons.mpr ⟨va_Nc.of (hf (Cond.not (Cond.castable "java/lang/IllegalArgumentException" "java/lang/IndexOutOfBoundsException")) (by decide +kernel)), List.forall_mem_cons.mpr ⟨va_Nc.of (hf (Cond.not (Cond.castable "java/util/NoSuchElementException" "java/lang/IndexOutOfBoundsException")) (by decide +kernel)), List.forall_mem_cons.mpr ⟨va_Nc.of (hf (Cond.not (Cond.castable "java/lang/IllegalStateException" "java/lang/IndexOutOfBoundsException")) (by decide +kernel)), List.forall_mem_cons.mpr ⟨va_Nc.of (hf (Cond.not (Cond.castable "java/lang/UnsupportedOperationException" "java/lang/IndexOutOfBoundsException")) (by decide +kernel)), List.forall_mem_cons.mpr ⟨va_Nc.of (hf (Cond.not (Cond.castable "java/lang/IllegalArgumentException" "java/util/NoSuchElementException")) (by decide +kernel)), List.forall_mem_cons.mpr ⟨va_Nc.of (hf (Cond.not (Cond.castable "java/lang/IllegalStateException" "java/util/NoSuchElementException")) (by decide +kernel)), List.forall_mem_cons.mpr ⟨va_Nc.of (hf (Cond.not (Cond.castable "java/lang/IndexOutOfBoundsException" "java/util/NoSuchElementException")) (by decide +kernel)), List.forall_mem_cons.mpr ⟨va_Nc.of (hf (Cond.not (Cond.castable "java/lang/UnsupportedOperationException" "java/util/NoSuchElementException")) (by decide +kernel)), List.forall_mem_cons.mpr ⟨va_Nc.of (hf (Cond.not (Cond.castable "java/lang/IllegalArgumentException" "java/lang/UnsupportedOperationException")) (by decide +kernel)), List.forall_mem_cons.mpr ⟨va_Nc.of (hf (Cond.not (Cond.castable "java/util/NoSuchElementException" "java/lang/UnsupportedOperationException")) (by decide +kernel)), List.forall_mem_cons.mpr ⟨va_Nc.of (hf (Cond.not (Cond.castable "java/lang/IllegalStateException" "java/lang/UnsupportedOperationException")) (by decide +kernel)), List.forall_mem_cons.mpr ⟨va_Nc.of (hf (Cond.not (Cond.castable "java/lang/IndexOutOfBoundsException" "java/lang/UnsupportedOperationException")) (by decide +kernel)), fun _ h => absurd h List.not_mem_nil⟩⟩⟩⟩⟩⟩⟩⟩⟩⟩⟩⟩⟩⟩⟩⟩⟩⟩⟩⟩
  obtain ⟨mi, z13⟩ := va_Mi.of (C := "[Ljava/lang/Object;") (hf _ (by decide +kernel))
  obtain ⟨scr, c1, c2, c3, c4, c5⟩ := hX
  have hT1 : va_T .int b L (fun j => .int (zX ((fun k => (D k).1, fun k => (D k).2), (fun k => match k with | 0 => a0 | 1 => a1 | 2 => a0 | 3 => a0 | 4 => a0 | 5 => a5 | 6 => a0 | _ => a7), g_adr s.heap.size b q2 mi L xs) j)) (fun q : Nat => s.heap.size ≤ q) s s.heap := by
    refine ⟨scr, c1, c2, c3, Nat.le_of_eq c4.symm, by rw [c4], fun j hj => ?_, Nat.not_le.mpr hbl⟩
    rw [c5 j hj]
    exact congrArg (fun v => some (Value.int v)) (zX_adr (xs := xs) (j := j)).symm
  exact ⟨((fun k => (D k).1, fun k => (D k).2), (fun k => match k with | 0 => a0 | 1 => a1 | 2 => a0 | 3 => a0 | 4 => a0 | 5 => a5 | 6 => a0 | _ => a7), g_adr s.heap.size b q2 mi L xs), rfl, rfl, hK, z1, z2, ⟨hL, hT1⟩, ⟨z6, hT2⟩, ⟨trivial, trivial, trivial⟩, trivial, z12, z13, va_AO.of (hts _ tw_572), ⟨hts _ tw_1093, trivial⟩, Nat.le_refl _⟩

