-- deps: ch.lawg
/-! ===== what the start holds ===== -/
theorem arK {s : State} {A : Array Value} {t : FieldType} (h : (Cond.arrayClass t).before A s = true) : ∃ cA, ArrOfT s cA t ∧ s.vm.findClass ("[" ++ t.toString) = some cA := by
  obtain ⟨c, k, comp, h1, h2, h3⟩ := Cond.arrayClass_spec (args := A) (first := s) (o := none) (s := s) (idx := []) h
  exact ⟨c, fun n z => ⟨(fun k h => by cases h), k, h2, comp, h3⟩, h1⟩
theorem arKA {s : State} {A : Array Value} {t : FieldType} (h : (Cond.arrayOver (.array t)).before A s = true) : ∃ cA, ArrOfT s cA (.array t) ∧ s.vm.findClass ("[" ++ (FieldType.array t).toString) = some cA := by
  obtain ⟨comp, c, k, h1, h2, h3, h4, h5⟩ := va_AOA.spec (A := A) h
  exact ⟨c, fun n z => ⟨(fun k h => by cases h), k, h3, comp, h4⟩, h5⟩
theorem arKO {s : State} {A : Array Value} {n : String} (h : (Cond.arrayOver (.object n)).before A s = true) : ∃ cA, ArrOfT s cA (.object n) ∧ va_RA s cA (.object n) := by
  obtain ⟨comp, c, k, h1, h2, h3, h4, h5⟩ := Cond.arrayOver_spec (args := A) (first := s) (o := none) (s := s) (idx := []) h
  exact ⟨c, fun n z => ⟨(fun k h => by cases h), k, h3, comp, h4⟩, k, comp, h3, h4, h1, h5⟩
set_option maxHeartbeats 4000000 in
theorem law_env {s : State} {A : Array Value} (hts : ∀ w ∈ lw_tbl, w.before A s = true) (hgv : (Jvm.Cond.and given_1 narrow_1).before A s = true) : ∃ g : GG, g.2.2 0 = s.heap.size ∧ GEnv g s s.heap := by
  have hf := flat_of_before _ hgv
  have hA : ∀ a : Nat, a < s.heap.size → ¬ (fun q : Nat => s.heap.size ≤ q) a := fun a h h2 => absurd h (Nat.not_lt.mpr h2)
  have hcl : ∀ k : Nat, ∃ p : ClassId × (Nat → Nat), ∀ q : vw_C, gcl[k]? = some q → u_Kn s q.1 q.2.1 q.2.2 p.1 p.2 := fun k => by
    have one : ∀ (ci n : Nat) (r : vw_C) (ty : Nat → FieldType), ClsOk ci r ty → Cond.instantiable r.1 n ∈ lw_tbl → ∃ p : ClassId × (Nat → Nat), ∀ q : vw_C, gcl[ci]? = some q → u_Kn s q.1 q.2.1 q.2.2 p.1 p.2 := fun ci n r ty hc hi => by
      obtain ⟨c, iS, h⟩ := u_known (C := r.1) (T := r.2.1) (N := r.2.2) (n := n) hts (fun w hw => (hc.2.1 w hw).1) (hts _ hi)
      exact ⟨(c, iS), fun q hq => by rw [hc.1] at hq; cases hq; exact h⟩
    match k with
    | 0 => exact one 0 _ _ _ cls_0 tw_67
    | 1 => exact one 1 _ _ _ cls_1 tw_101
    | 2 => exact one 2 _ _ _ cls_2 tw_506
    | 3 => exact one 3 _ _ _ cls_3 tw_352
    | 4 => exact one 4 _ _ _ cls_4 tw_93
    | 5 => exact one 5 _ _ _ cls_5 tw_135
    | 6 => exact one 6 _ _ _ cls_6 tw_939
    | 7 => exact one 7 _ _ _ cls_7 tw_43
    | 8 => exact one 8 _ _ _ cls_8 tw_925
    | 9 => exact one 9 _ _ _ cls_9 tw_35
    | 10 => exact one 10 _ _ _ cls_10 tw_1249
    | k + 11 => exact ⟨(0, fun _ => 0), fun q hq => by simp at hq⟩
  obtain ⟨D, hD⟩ := Classical.axiomOfChoice hcl
  obtain ⟨a0, x0, y0⟩ := arK (hts _ tw_64)
  obtain ⟨a1, x1, y1⟩ := arK (hts _ tw_65)
  obtain ⟨a2, x2, y2⟩ := arK (hts _ tw_1415)
  obtain ⟨a3, x3, y3⟩ := arK (hts _ tw_1760)
  obtain ⟨a4, x4, y4⟩ := arK (hts _ tw_1761)
  obtain ⟨a5, x5, y5⟩ := arKA (hts _ tw_1255)
  obtain ⟨a6, x6, y6⟩ := arKA (hts _ tw_1257)
  obtain ⟨a7, x7, y7⟩ := arKO (hts _ tw_592)
  have hK : va_K (fun k => (D k).1, fun k => (D k).2) gcl (gtys fun k => match k with | 0 => a0 | 1 => a1 | 2 => a2 | 3 => a3 | 4 => a4 | 5 => a5 | 6 => a6 | _ => a7) s := by
    refine ⟨fun k q hq => hD k q hq, fun k q hq => ?_⟩
    match k, hq with
    | 0, hq => cases hq; exact ⟨x0, y0⟩
    | 1, hq => cases hq; exact ⟨x1, y1⟩
    | 2, hq => cases hq; exact ⟨x2, y2⟩
    | 3, hq => cases hq; exact ⟨x3, y3⟩
    | 4, hq => cases hq; exact ⟨x4, y4⟩
    | 5, hq => cases hq; exact ⟨x5, y5⟩
    | 6, hq => cases hq; exact ⟨x6, y6⟩
    | 7, hq => cases hq; exact ⟨x7, y7⟩
    | k + 8, hq => simp at hq
  have z1 := vx_Zqof (C := Bundle.tN) (n := "UNASSIGNED_STACK") (d := Bundle.steD) (hts _ tw_435) (hts _ tw_10) (hf _ (by decide +kernel)) hA
  have z2 := vx_Zqof (C := Bundle.tN) (n := "SUPPRESSED_SENTINEL") (d := Bundle.listD) (hts _ tw_437) (hts _ tw_10) (hf _ (by decide +kernel)) hA
  obtain ⟨q1, v1, hT1⟩ := va_Tof (tm := (.static "GranaryPartition$Chunk" "CODES" "[C")) (ty := .char) (N := 4) (f := g_codes) (by decide) (hf (Cond.arrayOf (.static "GranaryPartition$Chunk" "CODES" "[C") .char) (by decide +kernel)) (va_eqt (hf (Cond.eq (.length (.static "GranaryPartition$Chunk" "CODES" "[C")) (.int 4)) (by decide +kernel))) (fun j hj => by
    match j, hj with
    | 0, _ => exact va_eqt (hf (Cond.eq (.elem (.static "GranaryPartition$Chunk" "CODES" "[C") (.int 0)) (.int 112)) (by decide +kernel))
    | 1, _ => exact va_eqt (hf (Cond.eq (.elem (.static "GranaryPartition$Chunk" "CODES" "[C") (.int 1)) (.int 114)) (by decide +kernel))
    | 2, _ => exact va_eqt (hf (Cond.eq (.elem (.static "GranaryPartition$Chunk" "CODES" "[C") (.int 2)) (.int 100)) (by decide +kernel))
    | 3, _ => exact va_eqt (hf (Cond.eq (.elem (.static "GranaryPartition$Chunk" "CODES" "[C") (.int 3)) (.int 111)) (by decide +kernel))
    | j + 4, hj => exact absurd hj (by omega)) hA
  have z4 := va_Zof (C := "GranaryPartition$Chunk") (n := "CODES") (d := "[C") (hts _ tw_772) (hts _ tw_16) v1 hA
  obtain ⟨q2, v2, hT2⟩ := va_Tof (tm := (.static "java/util/ArrayList" "DEFAULTCAPACITY_EMPTY_ELEMENTDATA" "[Ljava/lang/Object;")) (ty := .object "java/lang/Object") (N := 0) (f := fun _ => .null) (by decide) (hf (Cond.arrayOf (.static "java/util/ArrayList" "DEFAULTCAPACITY_EMPTY_ELEMENTDATA" "[Ljava/lang/Object;") (.object "java/lang/Object")) (by decide +kernel)) (va_eqt (hf (Cond.eq (.length (.static "java/util/ArrayList" "DEFAULTCAPACITY_EMPTY_ELEMENTDATA" "[Ljava/lang/Object;")) (.int 0)) (by decide +kernel))) (fun j hj => absurd hj (Nat.not_lt_zero _)) hA
  have z6 := va_Zof (C := "java/util/ArrayList") (n := "DEFAULTCAPACITY_EMPTY_ELEMENTDATA") (d := "[Ljava/lang/Object;") (hts _ tw_79) (hts _ tw_5) v2 hA
  obtain ⟨kK, kV, hS, hSe⟩ := vk_Sof (N := 1) (tm := fun _ => (.string "GranaryPartitionModel" 201)) (len := [4]) (byt := [[112, 114, 100, 111]]) (A := fun q : Nat => s.heap.size ≤ q) (args := A) (s := s) (fun i hi => by rcases (show i = 0 by omega) with rfl; decide) (fun i _ => hf (Cond.exactly (.string "GranaryPartitionModel" 201) "java/lang/String") (by decide +kernel)) (fun i _ => hf (Cond.eq (.field (.string "GranaryPartitionModel" 201) "java/lang/String" "coder" "B") (.int 0)) (by decide +kernel)) (fun i _ => hf (Cond.arrayOf (.field (.string "GranaryPartitionModel" 201) "java/lang/String" "value" "[B") .byte) (by decide +kernel)) (fun i hi => by rcases (show i = 0 by omega) with rfl; exact hf (Cond.eq (.length (.field (.string "GranaryPartitionModel" 201) "java/lang/String" "value" "[B")) (.int 4)) (by decide +kernel)) (fun i hi j hj => by
    rcases (show i = 0 by omega) with rfl
    replace hj : j < 4 := hj
    match j, hj with
    | 0, _ => exact hf (Cond.eq (.elem (.field (.string "GranaryPartitionModel" 201) "java/lang/String" "value" "[B") (.int 0)) (.int 112)) (by decide +kernel)
    | 1, _ => exact hf (Cond.eq (.elem (.field (.string "GranaryPartitionModel" 201) "java/lang/String" "value" "[B") (.int 1)) (.int 114)) (by decide +kernel)
    | 2, _ => exact hf (Cond.eq (.elem (.field (.string "GranaryPartitionModel" 201) "java/lang/String" "value" "[B") (.int 2)) (.int 100)) (by decide +kernel)
    | 3, _ => exact hf (Cond.eq (.elem (.field (.string "GranaryPartitionModel" 201) "java/lang/String" "value" "[B") (.int 3)) (.int 111)) (by decide +kernel)
    | j + 4, hj => exact absurd hj (by omega)) (fun i j hi hj h => absurd (show i = j by omega) h) hA
  have hS' : vk_S 1 [4] [[112, 114, 100, 111]] (fun _ => kK 0) (fun _ => kV 0) (fun q : Nat => s.heap.size ≤ q) s s.heap := ⟨fun i hi => by rcases (show i = 0 by omega) with rfl; exact hS.1 0 hi, fun i j hi hj _ => by omega⟩
  have z9 : vk_R "GranaryPartitionModel" 201 "prdo" (kK 0) s := vk_R.of (hts _ tw_1498) (hSe 0 (by decide))
  have z10 := va_Zof (C := "java/lang/String") (n := "COMPACT_STRINGS") (d := "Z") (hts _ tw_1508) (hts _ tw_24) (va_eqt (hf (Cond.eq (.static "java/lang/String" "COMPACT_STRINGS" "Z") (.int 1)) (by decide +kernel))) hA
  have z11 := va_Zqof (C := "jdk/internal/util/Preconditions") (n := "SIOOBE_FORMATTER") (d := "Ljava/util/function/BiFunction;") (hts _ tw_1516) (hts _ tw_21) (hf _ (by decide +kernel)) hA
  have z12 : ∀ q ∈ g_ncs, va_Nc q.1 q.2 s := List.forall_mem_cons.mpr ⟨va_Nc.of (hf (Cond.not (Cond.castable "java/lang/IllegalStateException" "java/lang/IllegalArgumentException")) (by decide +kernel)), List.forall_mem_cons.mpr ⟨va_Nc.of (hf (Cond.not (Cond.castable "java/lang/IndexOutOfBoundsException" "java/lang/IllegalArgumentException")) (by decide +kernel)), List.forall_mem_cons.mpr ⟨va_Nc.of (hf (Cond.not (Cond.castable "java/util/NoSuchElementException" "java/lang/IllegalArgumentException")) (by decide +kernel)), List.forall_mem_cons.mpr ⟨va_Nc.of (hf (Cond.not (Cond.castable "java/lang/UnsupportedOperationException" "java/lang/IllegalArgumentException")) (by decide +kernel)), List.forall_mem_cons.mpr ⟨va_Nc.of (hf (Cond.not (Cond.castable "java/lang/ArithmeticException" "java/lang/IllegalArgumentException")) (by decide +kernel)), List.forall_mem_cons.mpr ⟨va_Nc.of (hf (Cond.not (Cond.castable "java/lang/IllegalArgumentException" "java/lang/IllegalStateException")) (by decide +kernel)), List.forall_mem_cons.mpr ⟨va_Nc.of (hf (Cond.not (Cond.castable "java/lang/IndexOutOfBoundsException" "java/lang/IllegalStateException")) (by decide +kernel)), List.forall_mem_cons.mpr ⟨va_Nc.of (hf (Cond.not (Cond.castable "java/util/NoSuchElementException" "java/lang/IllegalStateException")) (by decide +kernel)), List.forall_mem_cons.mpr ⟨va_Nc.of (hf (Cond.not (Cond.castable "java/lang/UnsupportedOperationException" "java/lang/IllegalStateException")) (by decide +kernel)), List.forall_mem_cons.mpr ⟨va_Nc.of (hf (Cond.not (Cond.castable "java/lang/ArithmeticException" "java/lang/IllegalStateException")) (by decide +kernel)), List.forall_mem_cons.mpr ⟨va_Nc.of (hf (Cond.not (Cond.castable "java/lang/IllegalArgumentException" "java/lang/IndexOutOfBoundsException")) (by decide +kernel)), List.forall_mem_cons.mpr ⟨va_Nc.of (hf (Cond.not (Cond.castable "java/lang/IllegalStateException" "java/lang/IndexOutOfBoundsException")) (by decide +kernel)), List.forall_mem_cons.mpr ⟨va_Nc.of (hf (Cond.not (Cond.castable "java/util/NoSuchElementException" "java/lang/IndexOutOfBoundsException")) (by decide +kernel)), List.forall_mem_cons.mpr ⟨va_Nc.of (hf (Cond.not (Cond.castable "java/lang/UnsupportedOperationException" "java/lang/IndexOutOfBoundsException")) (by decide +kernel)), List.forall_mem_cons.mpr ⟨va_Nc.of (hf (Cond.not (Cond.castable "java/lang/ArithmeticException" "java/lang/IndexOutOfBoundsException")) (by decide +kernel)), List.forall_mem_cons.mpr ⟨va_Nc.of (hf (Cond.not (Cond.castable "java/lang/IllegalArgumentException" "java/util/NoSuchElementException")) (by decide +kernel)), List.forall_mem_cons.mpr ⟨va_Nc.of (hf (Cond.not (Cond.castable "java/lang/IllegalStateException" "java/util/NoSuchElementException")) (by decide +kernel)), List.forall_mem_cons.mpr ⟨va_Nc.of (hf (Cond.not (Cond.castable "java/lang/IndexOutOfBoundsException" "java/util/NoSuchElementException")) (by decide +kernel)), List.forall_mem_cons.mpr ⟨va_Nc.of (hf (Cond.not (Cond.castable "java/lang/UnsupportedOperationException" "java/util/NoSuchElementException")) (by decide +kernel)), List.forall_mem_cons.mpr ⟨va_Nc.of (hf (Cond.not (Cond.castable "java/lang/ArithmeticException" "java/util/NoSuchElementException")) (by decide +kernel)), List.forall_mem_cons.mpr ⟨va_Nc.of (hf (Cond.not (Cond.castable "java/lang/IllegalArgumentException" "java/lang/UnsupportedOperationException")) (by decide +kernel)), List.forall_mem_cons.mpr ⟨va_Nc.of (hf (Cond.not (Cond.castable "java/lang/IllegalStateException" "java/lang/UnsupportedOperationException")) (by decide +kernel)), List.forall_mem_cons.mpr ⟨va_Nc.of (hf (Cond.not (Cond.castable "java/lang/IndexOutOfBoundsException" "java/lang/UnsupportedOperationException")) (by decide +kernel)), List.forall_mem_cons.mpr ⟨va_Nc.of (hf (Cond.not (Cond.castable "java/util/NoSuchElementException" "java/lang/UnsupportedOperationException")) (by decide +kernel)), List.forall_mem_cons.mpr ⟨va_Nc.of (hf (Cond.not (Cond.castable "java/lang/ArithmeticException" "java/lang/UnsupportedOperationException")) (by decide +kernel)), List.forall_mem_cons.mpr ⟨va_Nc.of (hf (Cond.not (Cond.castable "java/lang/IllegalArgumentException" "java/lang/ArithmeticException")) (by decide +kernel)), List.forall_mem_cons.mpr ⟨va_Nc.of (hf (Cond.not (Cond.castable "java/lang/IllegalStateException" "java/lang/ArithmeticException")) (by decide +kernel)), List.forall_mem_cons.mpr ⟨va_Nc.of (hf (Cond.not (Cond.castable "java/lang/IndexOutOfBoundsException" "java/lang/ArithmeticException")) (by decide +kernel)), List.forall_mem_cons.mpr ⟨va_Nc.of (hf (Cond.not (Cond.castable "java/util/NoSuchElementException" "java/lang/ArithmeticException")) (by decide +kernel)), List.forall_mem_cons.mpr ⟨va_Nc.of (hf (Cond.not (Cond.castable "java/lang/UnsupportedOperationException" "java/lang/ArithmeticException")) (by decide +kernel)), fun _ h => absurd h List.not_mem_nil⟩⟩⟩⟩⟩⟩⟩⟩⟩⟩⟩⟩⟩⟩⟩⟩⟩⟩⟩⟩⟩⟩⟩⟩⟩⟩⟩⟩⟩⟩
  obtain ⟨mi, z13⟩ := va_Mi.of (C := "[Ljava/lang/Object;") (hf _ (by decide +kernel))
  exact ⟨((fun k => (D k).1, fun k => (D k).2), (fun k => match k with | 0 => a0 | 1 => a1 | 2 => a2 | 3 => a3 | 4 => a4 | 5 => a5 | 6 => a6 | _ => a7), fun k => match k with | 0 => s.heap.size | 1 => q1 | 2 => q2 | 3 => kK 0 | 4 => kV 0 | _ => mi), rfl, hK, z1, z2, ⟨z4, hT1⟩, ⟨z6, hT2⟩, ⟨hS', z9, z10⟩, z11, z12, z13, va_AO.of (hts _ tw_592), ⟨hts _ tw_1255, hts _ tw_1257⟩, Nat.le_refl _⟩

