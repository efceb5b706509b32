/-! what is given of the start -/
theorem zs_l {args : Array Value} {s : State} {a b : Cond} (h : (Cond.and a b).before args s = true) : a.before args s = true := by rw [Cond.before_and, Bool.and_eq_true] at h; exact h.1
theorem zs_r {args : Array Value} {s : State} {a b : Cond} (h : (Cond.and a b).before args s = true) : b.before args s = true := by rw [Cond.before_and, Bool.and_eq_true] at h; exact h.2
theorem zs_str {args : Array Value} {s : State} {own tx : String} {k : Nat} (h1 : (Cond.stringRef own k tx).before args s = true) (h2 : (Cond.exactly (.string own k) "java/lang/String").before args s = true) : ∃ sa, vk_R own k tx sa s := by
  obtain ⟨a, c, cA, kA, q1, -⟩ := Cond.exactly_spec (args := args) (first := s) (o := none) (s := s) (idx := []) (t := .string own k) (cls := "java/lang/String") h2
  exact ⟨a, vk_R.of h1 q1⟩
theorem zs_arr {args : Array Value} {s : State} {ty : FieldType} (h : (Cond.arrayClass ty).before args s = true) : ∃ cA, ArrOfT s cA ty ∧ s.vm.findClass ("[" ++ ty.toString) = some cA := by
  obtain ⟨cA, kA, comp, h1, h2, h3⟩ := Cond.arrayClass_spec (args := args) (first := s) (o := none) (s := s) (idx := []) h
  exact ⟨cA, fun n z => ⟨fun k h => (by cases h), kA, h2, comp, h3⟩, h1⟩
theorem zs_ovr {args : Array Value} {s : State} {C : String} (h : (Cond.arrayOver (.object C)).before args s = true) : ∃ cA, ArrOfT s cA (.object C) ∧ va_RA s cA (.object C) := by
  obtain ⟨comp, cA, kA, h1, h2, h3, h4, h5⟩ := Cond.arrayOver_spec (args := args) (first := s) (o := none) (s := s) (idx := []) h
  exact ⟨cA, fun n z => ⟨fun k h => (by cases h), kA, h3, comp, h4⟩, kA, comp, h3, h4, h1, h5⟩
theorem zs_A {sz : Nat} : ∀ a : Nat, a < sz → ¬ va_A [] sz a := fun a h x => by
  rcases x with ⟨k, e, x⟩ | x
  · simp at x
  · omega
theorem zg_s0 {args : Array Value} {s : State} (h : narrow_1.before args s = true) : ((Jvm.Cond.exactly (Jvm.Term.string "PathDecoder" (349 : Nat)) "java/lang/String") : Cond).before args s = true := zs_l (zs_l (zs_r (zs_r (zs_r (zs_r (zs_l (zs_l (zs_l (zs_l (h))))))))))
theorem zg_s1 {args : Array Value} {s : State} (h : narrow_1.before args s = true) : ((Jvm.Cond.exactly (Jvm.Term.string "PathDecoder" (105 : Nat)) "java/lang/String") : Cond).before args s = true := zs_l (zs_l (zs_r (zs_r (zs_l (zs_r (zs_l (zs_l (zs_l (h)))))))))
theorem zg_s2 {args : Array Value} {s : State} (h : narrow_1.before args s = true) : ((Jvm.Cond.exactly (Jvm.Term.string "PathDecoder" (118 : Nat)) "java/lang/String") : Cond).before args s = true := zs_l (zs_l (zs_r (zs_r (zs_r (zs_r (zs_r (zs_l (zs_l (zs_l (h))))))))))
theorem zg_s3 {args : Array Value} {s : State} (h : narrow_1.before args s = true) : ((Jvm.Cond.exactly (Jvm.Term.string "PathDecoder" (352 : Nat)) "java/lang/String") : Cond).before args s = true := zs_r (zs_r (zs_l (zs_r (zs_r (zs_l (zs_l (zs_r (zs_l (zs_l (h))))))))))
theorem zg_s4 {args : Array Value} {s : State} (h : narrow_1.before args s = true) : ((Jvm.Cond.exactly (Jvm.Term.string "PathDecoder" (357 : Nat)) "java/lang/String") : Cond).before args s = true := zs_r (zs_l (zs_r (zs_l (zs_r (zs_r (zs_l (zs_r (zs_l (zs_l (h))))))))))
theorem zg_s5 {args : Array Value} {s : State} (h : narrow_1.before args s = true) : ((Jvm.Cond.exactly (Jvm.Term.string "PathDecoder" (146 : Nat)) "java/lang/String") : Cond).before args s = true := zs_l (zs_l (zs_r (zs_r (zs_l (zs_r (zs_r (zs_l (zs_l (h)))))))))
theorem zg_s6 {args : Array Value} {s : State} (h : narrow_1.before args s = true) : ((Jvm.Cond.exactly (Jvm.Term.string "PathDecoder" (151 : Nat)) "java/lang/String") : Cond).before args s = true := zs_l (zs_l (zs_r (zs_l (zs_r (zs_r (zs_r (zs_r (zs_l (zs_l (h))))))))))
theorem zg_s7 {args : Array Value} {s : State} (h : narrow_1.before args s = true) : ((Jvm.Cond.exactly (Jvm.Term.string "PathDecoder" (153 : Nat)) "java/lang/String") : Cond).before args s = true := zs_l (zs_l (zs_r (zs_r (zs_l (zs_l (zs_l (zs_l (zs_r (zs_l (h))))))))))
theorem zg_s8 {args : Array Value} {s : State} (h : narrow_1.before args s = true) : ((Jvm.Cond.exactly (Jvm.Term.string "PathDecoder" (155 : Nat)) "java/lang/String") : Cond).before args s = true := zs_r (zs_l (zs_r (zs_r (zs_l (zs_r (zs_l (zs_l (zs_r (zs_l (h))))))))))
theorem zg_s9 {args : Array Value} {s : State} (h : narrow_1.before args s = true) : ((Jvm.Cond.exactly (Jvm.Term.string "PathDecoder" (359 : Nat)) "java/lang/String") : Cond).before args s = true := zs_l (zs_l (zs_r (zs_r (zs_l (zs_l (zs_r (zs_l (zs_r (zs_l (h))))))))))
theorem zg_s10 {args : Array Value} {s : State} (h : narrow_1.before args s = true) : ((Jvm.Cond.exactly (Jvm.Term.string "PathDecoder" (169 : Nat)) "java/lang/String") : Cond).before args s = true := zs_l (zs_r (zs_l (zs_r (zs_l (zs_r (zs_r (zs_l (zs_r (zs_l (h))))))))))
theorem zg_s11 {args : Array Value} {s : State} (h : narrow_1.before args s = true) : ((Jvm.Cond.exactly (Jvm.Term.string "PathDecoder" (175 : Nat)) "java/lang/String") : Cond).before args s = true := zs_l (zs_r (zs_r (zs_l (zs_l (zs_l (zs_l (zs_r (zs_r (zs_l (h))))))))))
theorem zg_s12 {args : Array Value} {s : State} (h : narrow_1.before args s = true) : ((Jvm.Cond.exactly (Jvm.Term.string "PathDecoder" (369 : Nat)) "java/lang/String") : Cond).before args s = true := zs_l (zs_l (zs_r (zs_l (zs_r (zs_l (zs_r (zs_r (zs_l (h)))))))))
theorem zg_s13 {args : Array Value} {s : State} (h : narrow_1.before args s = true) : ((Jvm.Cond.exactly (Jvm.Term.string "PathDecoder" (192 : Nat)) "java/lang/String") : Cond).before args s = true := zs_l (zs_l (zs_r (zs_r (zs_l (zs_l (zs_r (zs_r (zs_r (zs_l (h))))))))))
theorem zg_s14 {args : Array Value} {s : State} (h : narrow_1.before args s = true) : ((Jvm.Cond.exactly (Jvm.Term.string "PathDecoder" (194 : Nat)) "java/lang/String") : Cond).before args s = true := zs_r (zs_r (zs_r (zs_l (zs_l (zs_r (zs_r (zs_r (zs_r (zs_l (h))))))))))
theorem zg_s15 {args : Array Value} {s : State} (h : narrow_1.before args s = true) : ((Jvm.Cond.exactly (Jvm.Term.string "PathDecoder" (196 : Nat)) "java/lang/String") : Cond).before args s = true := zs_l (zs_l (zs_l (zs_l (zs_l (zs_l (zs_l (zs_l (zs_r (h)))))))))
theorem zg_s16 {args : Array Value} {s : State} (h : narrow_1.before args s = true) : ((Jvm.Cond.exactly (Jvm.Term.string "PathDecoder" (210 : Nat)) "java/lang/String") : Cond).before args s = true := zs_l (zs_l (zs_l (zs_r (zs_r (zs_l (zs_l (zs_l (zs_r (h)))))))))
theorem zg_s17 {args : Array Value} {s : State} (h : narrow_1.before args s = true) : ((Jvm.Cond.exactly (Jvm.Term.string "PathDecoder" (212 : Nat)) "java/lang/String") : Cond).before args s = true := zs_l (zs_l (zs_r (zs_r (zs_l (zs_l (zs_r (zs_l (zs_l (zs_r (h))))))))))
theorem zg_s18 {args : Array Value} {s : State} (h : narrow_1.before args s = true) : ((Jvm.Cond.exactly (Jvm.Term.string "PathDecoder" (367 : Nat)) "java/lang/String") : Cond).before args s = true := zs_l (zs_l (zs_r (zs_l (zs_r (zs_r (zs_l (zs_l (zs_r (h)))))))))
theorem zg_s19 {args : Array Value} {s : State} (h : narrow_1.before args s = true) : ((Jvm.Cond.exactly (Jvm.Term.string "PathDecoder" (365 : Nat)) "java/lang/String") : Cond).before args s = true := zs_r (zs_l (zs_r (zs_r (zs_l (zs_l (zs_l (zs_r (zs_l (zs_r (h))))))))))
theorem zg_s20 {args : Array Value} {s : State} (h : narrow_1.before args s = true) : ((Jvm.Cond.exactly (Jvm.Term.string "PathDecoder" (262 : Nat)) "java/lang/String") : Cond).before args s = true := zs_l (zs_l (zs_r (zs_l (zs_r (zs_l (zs_r (zs_l (zs_r (h)))))))))
theorem zg_s21 {args : Array Value} {s : State} (h : narrow_1.before args s = true) : ((Jvm.Cond.exactly (Jvm.Term.string "PathDecoder" (264 : Nat)) "java/lang/String") : Cond).before args s = true := zs_r (zs_r (zs_r (zs_l (zs_l (zs_l (zs_r (zs_r (zs_l (zs_r (h))))))))))
theorem zg_s22 {args : Array Value} {s : State} (h : narrow_1.before args s = true) : ((Jvm.Cond.exactly (Jvm.Term.string "PathDecoder" (266 : Nat)) "java/lang/String") : Cond).before args s = true := zs_r (zs_l (zs_r (zs_r (zs_l (zs_r (zs_r (zs_r (zs_l (zs_r (h))))))))))
theorem zg_s23 {args : Array Value} {s : State} (h : narrow_1.before args s = true) : ((Jvm.Cond.exactly (Jvm.Term.string "PathDecoder" (275 : Nat)) "java/lang/String") : Cond).before args s = true := zs_r (zs_l (zs_r (zs_r (zs_l (zs_l (zs_l (zs_l (zs_r (zs_r (h))))))))))
theorem zg_s24 {args : Array Value} {s : State} (h : narrow_1.before args s = true) : ((Jvm.Cond.exactly (Jvm.Term.string "PathDecoder" (310 : Nat)) "java/lang/String") : Cond).before args s = true := zs_l (zs_r (zs_r (zs_r (zs_l (zs_r (zs_l (zs_l (zs_r (zs_r (h))))))))))
theorem zg_s25 {args : Array Value} {s : State} (h : narrow_1.before args s = true) : ((Jvm.Cond.exactly (Jvm.Term.string "PathDecoder" (363 : Nat)) "java/lang/String") : Cond).before args s = true := zs_l (zs_l (zs_r (zs_l (zs_r (zs_l (zs_r (zs_l (zs_r (zs_r (h))))))))))
theorem zg_s26 {args : Array Value} {s : State} (h : narrow_1.before args s = true) : ((Jvm.Cond.exactly (Jvm.Term.string "PathDecoder" (317 : Nat)) "java/lang/String") : Cond).before args s = true := zs_l (zs_l (zs_l (zs_r (zs_r (zs_r (zs_l (zs_r (zs_r (h)))))))))
theorem zg_s27 {args : Array Value} {s : State} (h : narrow_1.before args s = true) : ((Jvm.Cond.exactly (Jvm.Term.string "PathDecoder" (361 : Nat)) "java/lang/String") : Cond).before args s = true := zs_l (zs_l (zs_l (zs_r (zs_l (zs_l (zs_r (zs_r (zs_r (h)))))))))
theorem zg_s28 {args : Array Value} {s : State} (h : narrow_1.before args s = true) : ((Jvm.Cond.exactly (Jvm.Term.string "PathDecoder" (333 : Nat)) "java/lang/String") : Cond).before args s = true := zs_r (zs_l (zs_r (zs_r (zs_r (zs_r (zs_l (zs_r (zs_r (zs_r (h))))))))))
theorem zg_s29 {args : Array Value} {s : State} (h : narrow_1.before args s = true) : ((Jvm.Cond.exactly (Jvm.Term.string "PathDecoder$Code" (73 : Nat)) "java/lang/String") : Cond).before args s = true := zs_l (zs_l (zs_r (zs_r (zs_l (zs_r (zs_r (zs_r (zs_r (h)))))))))
theorem zg_n0 {args : Array Value} {s : State} (h : narrow_1.before args s = true) : ((Jvm.Cond.not (Jvm.Cond.castable "java/lang/IndexOutOfBoundsException" "java/lang/IllegalArgumentException")) : Cond).before args s = true := zs_r (zs_r (zs_r (zs_l (zs_l (zs_r (zs_l (zs_l (zs_l (zs_l (h))))))))))
theorem zg_n1 {args : Array Value} {s : State} (h : narrow_1.before args s = true) : ((Jvm.Cond.not (Jvm.Cond.castable "java/lang/IndexOutOfBoundsException" "java/util/NoSuchElementException")) : Cond).before args s = true := zs_l (zs_l (zs_r (zs_r (zs_r (zs_l (zs_l (zs_l (zs_l (h)))))))))
theorem zg_n2 {args : Array Value} {s : State} (h : narrow_1.before args s = true) : ((Jvm.Cond.not (Jvm.Cond.castable "java/lang/IllegalArgumentException" "java/lang/IndexOutOfBoundsException")) : Cond).before args s = true := zs_l (zs_r (zs_l (zs_r (zs_l (zs_l (zs_l (zs_l (zs_l (h)))))))))
theorem zg_n3 {args : Array Value} {s : State} (h : narrow_1.before args s = true) : ((Jvm.Cond.not (Jvm.Cond.castable "java/lang/IllegalArgumentException" "java/util/NoSuchElementException")) : Cond).before args s = true := zs_l (zs_r (zs_l (zs_r (zs_r (zs_r (zs_l (zs_l (zs_l (zs_l (h))))))))))
theorem zg_n4 {args : Array Value} {s : State} (h : narrow_1.before args s = true) : ((Jvm.Cond.not (Jvm.Cond.castable "java/util/NoSuchElementException" "java/lang/IndexOutOfBoundsException")) : Cond).before args s = true := zs_l (zs_r (zs_r (zs_l (zs_r (zs_l (zs_l (zs_l (zs_l (zs_l (h))))))))))
theorem zg_n5 {args : Array Value} {s : State} (h : narrow_1.before args s = true) : ((Jvm.Cond.not (Jvm.Cond.castable "java/util/NoSuchElementException" "java/lang/IllegalArgumentException")) : Cond).before args s = true := zs_l (zs_l (zs_r (zs_l (zs_r (zs_l (zs_l (zs_l (zs_l (h)))))))))
theorem zg_t0 {args : Array Value} {s : State} (h : narrow_1.before args s = true) : ((Jvm.Cond.isRef (Jvm.Term.static "java/lang/Throwable" "UNASSIGNED_STACK" "[Ljava/lang/StackTraceElement;")) : Cond).before args s = true := zs_r (zs_r (zs_l (zs_l (zs_l (zs_l (zs_l (zs_l (zs_l (zs_l (h))))))))))
theorem zg_t1 {args : Array Value} {s : State} (h : narrow_1.before args s = true) : ((Jvm.Cond.isRef (Jvm.Term.static "java/lang/Throwable" "SUPPRESSED_SENTINEL" "Ljava/util/List;")) : Cond).before args s = true := zs_l (zs_r (zs_l (zs_l (zs_l (zs_l (zs_l (zs_l (zs_l (h)))))))))
theorem zs_strs {b : Nat} {s : State} (hts : ∀ w ∈ lw_tbl, w.before #[Value.ref b] s = true) (h : narrow_1.before #[Value.ref b] s = true) : ∀ q ∈ pd_strs, ∃ sa, vk_R q.1 q.2.1 q.2.2 sa s := List.forall_mem_cons.mpr ⟨zs_str (hts _ (tb_2 _ (List.mem_of_getElem? (i := 133) rfl))) (zg_s0 h), List.forall_mem_cons.mpr ⟨zs_str (hts _ (tb_2 _ (List.mem_of_getElem? (i := 168) rfl))) (zg_s1 h), List.forall_mem_cons.mpr ⟨zs_str (hts _ (tb_2 _ (List.mem_of_getElem? (i := 200) rfl))) (zg_s2 h), List.forall_mem_cons.mpr ⟨zs_str (hts _ (tb_2 _ (List.mem_of_getElem? (i := 218) rfl))) (zg_s3 h), List.forall_mem_cons.mpr ⟨zs_str (hts _ (tb_2 _ (List.mem_of_getElem? (i := 229) rfl))) (zg_s4 h), List.forall_mem_cons.mpr ⟨zs_str (hts _ (tb_3 _ (List.mem_of_getElem? (i := 36) rfl))) (zg_s5 h), List.forall_mem_cons.mpr ⟨zs_str (hts _ (tb_3 _ (List.mem_of_getElem? (i := 48) rfl))) (zg_s6 h), List.forall_mem_cons.mpr ⟨zs_str (hts _ (tb_3 _ (List.mem_of_getElem? (i := 49) rfl))) (zg_s7 h), List.forall_mem_cons.mpr ⟨zs_str (hts _ (tb_3 _ (List.mem_of_getElem? (i := 50) rfl))) (zg_s8 h), List.forall_mem_cons.mpr ⟨zs_str (hts _ (tb_3 _ (List.mem_of_getElem? (i := 104) rfl))) (zg_s9 h), List.forall_mem_cons.mpr ⟨zs_str (hts _ (tb_3 _ (List.mem_of_getElem? (i := 109) rfl))) (zg_s10 h), List.forall_mem_cons.mpr ⟨zs_str (hts _ (tb_3 _ (List.mem_of_getElem? (i := 110) rfl))) (zg_s11 h), List.forall_mem_cons.mpr ⟨zs_str (hts _ (tb_3 _ (List.mem_of_getElem? (i := 114) rfl))) (zg_s12 h), List.forall_mem_cons.mpr ⟨zs_str (hts _ (tb_3 _ (List.mem_of_getElem? (i := 126) rfl))) (zg_s13 h), List.forall_mem_cons.mpr ⟨zs_str (hts _ (tb_3 _ (List.mem_of_getElem? (i := 127) rfl))) (zg_s14 h), List.forall_mem_cons.mpr ⟨zs_str (hts _ (tb_3 _ (List.mem_of_getElem? (i := 128) rfl))) (zg_s15 h), List.forall_mem_cons.mpr ⟨zs_str (hts _ (tb_3 _ (List.mem_of_getElem? (i := 145) rfl))) (zg_s16 h), List.forall_mem_cons.mpr ⟨zs_str (hts _ (tb_3 _ (List.mem_of_getElem? (i := 146) rfl))) (zg_s17 h), List.forall_mem_cons.mpr ⟨zs_str (hts _ (tb_3 _ (List.mem_of_getElem? (i := 157) rfl))) (zg_s18 h), List.forall_mem_cons.mpr ⟨zs_str (hts _ (tb_4 _ (List.mem_of_getElem? (i := 34) rfl))) (zg_s19 h), List.forall_mem_cons.mpr ⟨zs_str (hts _ (tb_4 _ (List.mem_of_getElem? (i := 142) rfl))) (zg_s20 h), List.forall_mem_cons.mpr ⟨zs_str (hts _ (tb_4 _ (List.mem_of_getElem? (i := 150) rfl))) (zg_s21 h), List.forall_mem_cons.mpr ⟨zs_str (hts _ (tb_4 _ (List.mem_of_getElem? (i := 151) rfl))) (zg_s22 h), List.forall_mem_cons.mpr ⟨zs_str (hts _ (tb_4 _ (List.mem_of_getElem? (i := 211) rfl))) (zg_s23 h), List.forall_mem_cons.mpr ⟨zs_str (hts _ (tb_5 _ (List.mem_of_getElem? (i := 18) rfl))) (zg_s24 h), List.forall_mem_cons.mpr ⟨zs_str (hts _ (tb_5 _ (List.mem_of_getElem? (i := 30) rfl))) (zg_s25 h), List.forall_mem_cons.mpr ⟨zs_str (hts _ (tb_5 _ (List.mem_of_getElem? (i := 31) rfl))) (zg_s26 h), List.forall_mem_cons.mpr ⟨zs_str (hts _ (tb_5 _ (List.mem_of_getElem? (i := 50) rfl))) (zg_s27 h), List.forall_mem_cons.mpr ⟨zs_str (hts _ (tb_5 _ (List.mem_of_getElem? (i := 93) rfl))) (zg_s28 h), List.forall_mem_cons.mpr ⟨zs_str (hts _ (tb_5 _ (List.mem_of_getElem? (i := 116) rfl))) (zg_s29 h), fun _ h => absurd h List.not_mem_nil⟩⟩⟩⟩⟩⟩⟩⟩⟩⟩⟩⟩⟩⟩⟩⟩⟩⟩⟩⟩⟩⟩⟩⟩⟩⟩⟩⟩⟩⟩
theorem zs_nest {b : Nat} {s : State} (hts : ∀ w ∈ lw_tbl, w.before #[Value.ref b] s = true) : ∀ q ∈ pd_nest, va_Nw (.methodLinkNest q.1 q.2.1 q.2.2.1 q.2.2.2) s := List.forall_mem_cons.mpr ⟨va_Nw.of rfl (hts _ (tb_1 _ (List.mem_of_getElem? (i := 36) rfl))), List.forall_mem_cons.mpr ⟨va_Nw.of rfl (hts _ (tb_1 _ (List.mem_of_getElem? (i := 74) rfl))), List.forall_mem_cons.mpr ⟨va_Nw.of rfl (hts _ (tb_1 _ (List.mem_of_getElem? (i := 112) rfl))), List.forall_mem_cons.mpr ⟨va_Nw.of rfl (hts _ (tb_2 _ (List.mem_of_getElem? (i := 20) rfl))), List.forall_mem_cons.mpr ⟨va_Nw.of rfl (hts _ (tb_2 _ (List.mem_of_getElem? (i := 183) rfl))), List.forall_mem_cons.mpr ⟨va_Nw.of rfl (hts _ (tb_3 _ (List.mem_of_getElem? (i := 183) rfl))), List.forall_mem_cons.mpr ⟨va_Nw.of rfl (hts _ (tb_4 _ (List.mem_of_getElem? (i := 234) rfl))), fun _ h => absurd h List.not_mem_nil⟩⟩⟩⟩⟩⟩⟩
theorem zs_over {b : Nat} {s : State} (hts : ∀ w ∈ lw_tbl, w.before #[Value.ref b] s = true) : ∀ C ∈ pd_over, va_AO C s := List.forall_mem_cons.mpr ⟨va_AO.of (hts _ (tb_1 _ (List.mem_of_getElem? (i := 31) rfl))), List.forall_mem_cons.mpr ⟨va_AO.of (hts _ (tb_1 _ (List.mem_of_getElem? (i := 33) rfl))), List.forall_mem_cons.mpr ⟨va_AO.of (hts _ (tb_1 _ (List.mem_of_getElem? (i := 110) rfl))), fun _ h => absurd h List.not_mem_nil⟩⟩⟩
theorem zs_cast {b : Nat} {s : State} (hts : ∀ w ∈ lw_tbl, w.before #[Value.ref b] s = true) : ∀ w ∈ pd_cast.map (fun C => Cond.castable C C) ++ pd_decl.map Cond.declares, va_Nw w s := by
  refine List.forall_mem_append.mpr ⟨?_, ?_⟩
  · show ∀ w ∈ [Cond.castable "java/lang/IndexOutOfBoundsException" "java/lang/IndexOutOfBoundsException", Cond.castable "java/lang/IllegalArgumentException" "java/lang/IllegalArgumentException", Cond.castable "java/util/NoSuchElementException" "java/util/NoSuchElementException"], va_Nw w s
    exact List.forall_mem_cons.mpr ⟨va_Nw.of rfl (hts _ (tb_2 _ (List.mem_of_getElem? (i := 94) rfl))), List.forall_mem_cons.mpr ⟨va_Nw.of rfl (hts _ (tb_2 _ (List.mem_of_getElem? (i := 161) rfl))), List.forall_mem_cons.mpr ⟨va_Nw.of rfl (hts _ (tb_2 _ (List.mem_of_getElem? (i := 211) rfl))), fun _ h => absurd h List.not_mem_nil⟩⟩⟩
  · show ∀ w ∈ [Cond.declares ⟨"java/lang/RuntimeException", "<init>", "(Ljava/lang/String;)V"⟩, Cond.declares ⟨"java/lang/Exception", "<init>", "(Ljava/lang/String;)V"⟩, Cond.declares ⟨"java/lang/Throwable", "<init>", "(Ljava/lang/String;)V"⟩], va_Nw w s
    exact List.forall_mem_cons.mpr ⟨va_Nw.of rfl (hts _ (tb_2 _ (List.mem_of_getElem? (i := 96) rfl))), List.forall_mem_cons.mpr ⟨va_Nw.of rfl (hts _ (tb_2 _ (List.mem_of_getElem? (i := 98) rfl))), List.forall_mem_cons.mpr ⟨va_Nw.of rfl (hts _ (tb_2 _ (List.mem_of_getElem? (i := 100) rfl))), fun _ h => absurd h List.not_mem_nil⟩⟩⟩
theorem zs_ncs {b : Nat} {s : State} (h : narrow_1.before #[Value.ref b] s = true) : ∀ q ∈ pd_ncs, va_Nc q.1 q.2 s := List.forall_mem_cons.mpr ⟨va_Nc.of (zg_n0 h), List.forall_mem_cons.mpr ⟨va_Nc.of (zg_n1 h), List.forall_mem_cons.mpr ⟨va_Nc.of (zg_n2 h), List.forall_mem_cons.mpr ⟨va_Nc.of (zg_n3 h), List.forall_mem_cons.mpr ⟨va_Nc.of (zg_n4 h), List.forall_mem_cons.mpr ⟨va_Nc.of (zg_n5 h), fun _ h => absurd h List.not_mem_nil⟩⟩⟩⟩⟩⟩
theorem zs_G {b : Nat} {s : State} (hts : ∀ w ∈ lw_tbl, w.before #[Value.ref b] s = true) (h : narrow_1.before #[Value.ref b] s = true) : pd_G (va_A [] s.heap.size) s s.heap :=
  ⟨zs_strs hts h, zs_nest hts, zs_over hts, zs_cast hts, zs_ncs h, vx_Zqof (hts _ (tb_2 _ (List.mem_of_getElem? (i := 119) rfl))) (hts _ (tb_1 _ (List.mem_of_getElem? (i := 13) rfl))) (zg_t0 h) zs_A, vx_Zqof (hts _ (tb_2 _ (List.mem_of_getElem? (i := 121) rfl))) (hts _ (tb_1 _ (List.mem_of_getElem? (i := 13) rfl))) (zg_t1 h) zs_A⟩
theorem zs_D {b : Nat} {s : State} (hts : ∀ w ∈ lw_tbl, w.before #[Value.ref b] s = true) : ∃ D : va_G, ∀ (k : Nat) (q : vw_C), vwCl[k]? = some q → u_Kn s q.1 q.2.1 q.2.2 (D.1 k) (D.2 k) := by
  have hB : ∀ w ∈ pd_B, w.before #[Value.ref b] s = true := fun w hw => hts w (List.mem_filter.mp hw).1
  obtain ⟨c0, i0, h0⟩ := u_known (C := RX0) (T := TX0) (N := 8) (n := 8) hB fw_0 (hts _ (tb_3 _ (List.mem_of_getElem? (i := 51) rfl)))
  obtain ⟨c1, i1, h1⟩ := u_known (C := RX1) (T := TX1) (N := 5) (n := 5) hB fw_1 (hts _ (tb_1 _ (List.mem_of_getElem? (i := 73) rfl)))
  obtain ⟨c2, i2, h2⟩ := u_known (C := RX2) (T := TX2) (N := 2) (n := 2) hB fw_2 (hts _ (tb_1 _ (List.mem_of_getElem? (i := 35) rfl)))
  obtain ⟨c3, i3, h3⟩ := u_known (C := RX3) (T := TX3) (N := 4) (n := 4) hB fw_3 (hts _ (tb_1 _ (List.mem_of_getElem? (i := 50) rfl)))
  obtain ⟨c4, i4, h4⟩ := u_known (C := RX4) (T := TX4) (N := 2) (n := 2) hB fw_4 (hts _ (tb_2 _ (List.mem_of_getElem? (i := 19) rfl)))
  obtain ⟨c5, i5, h5⟩ := u_known (C := RX5) (T := TX5) (N := 8) (n := 8) hB fw_5 (hts _ (tb_1 _ (List.mem_of_getElem? (i := 146) rfl)))
  obtain ⟨c6, i6, h6⟩ := u_known (C := RX6) (T := TX6) (N := 6) (n := 6) hB fw_6 (hts _ (tb_1 _ (List.mem_of_getElem? (i := 178) rfl)))
  obtain ⟨c7, i7, h7⟩ := u_known (C := RX7) (T := TX7) (N := 6) (n := 6) hB fw_7 (hts _ (tb_1 _ (List.mem_of_getElem? (i := 234) rfl)))
  obtain ⟨c8, i8, h8⟩ := u_known (C := RX8) (T := TX8) (N := 8) (n := 8) hB fw_8 (hts _ (tb_1 _ (List.mem_of_getElem? (i := 203) rfl)))
  obtain ⟨c9, i9, h9⟩ := u_known (C := RX9) (T := TX9) (N := 4) (n := 4) hB fw_9 (hts _ (tb_1 _ (List.mem_of_getElem? (i := 111) rfl)))
  obtain ⟨c10, i10, h10⟩ := u_known (C := RX10) (T := TX10) (N := 3) (n := 3) hB fw_10 (hts _ (tb_1 _ (List.mem_of_getElem? (i := 104) rfl)))
  obtain ⟨c11, i11, h11⟩ := u_known (C := RX11) (T := TX11) (N := 14) (n := 14) hB fw_11 (hts _ (tb_1 _ (List.mem_of_getElem? (i := 23) rfl)))
  obtain ⟨c12, i12, h12⟩ := u_known (C := RX12) (T := TX12) (N := 44) (n := 44) hB fw_12 (hts _ (tb_5 _ (List.mem_of_getElem? (i := 119) rfl)))
  refine ⟨(fun k => [c0, c1, c2, c3, c4, c5, c6, c7, c8, c9, c10, c11, c12].getD k c0, fun k => [i0, i1, i2, i3, i4, i5, i6, i7, i8, i9, i10, i11, i12].getD k i0), ?_⟩
  intro k q hq
  match k, hq with
  | 0, hq => cases hq; exact h0
  | 1, hq => cases hq; exact h1
  | 2, hq => cases hq; exact h2
  | 3, hq => cases hq; exact h3
  | 4, hq => cases hq; exact h4
  | 5, hq => cases hq; exact h5
  | 6, hq => cases hq; exact h6
  | 7, hq => cases hq; exact h7
  | 8, hq => cases hq; exact h8
  | 9, hq => cases hq; exact h9
  | 10, hq => cases hq; exact h10
  | 11, hq => cases hq; exact h11
  | 12, hq => cases hq; exact h12
  | k + 13, hq => simp [vwCl] at hq
theorem zs_T {b : Nat} {s : State} (hts : ∀ w ∈ lw_tbl, w.before #[Value.ref b] s = true) : ∃ tc : Nat → ClassId, ∀ (k : Nat) (q : ClassId × FieldType), (pd_tys tc)[k]? = some q → ArrOfT s q.1 q.2 ∧ va_RA s q.1 q.2 := by
  obtain ⟨c0, a0, r0⟩ := zs_arr (ty := .int) (hts _ (tb_1 _ (List.mem_of_getElem? (i := 48) rfl)))
  obtain ⟨c1, a1, r1⟩ := zs_arr (ty := .byte) (hts _ (tb_1 _ (List.mem_of_getElem? (i := 134) rfl)))
  obtain ⟨c2, a2, r2⟩ := zs_arr (ty := .short) (hts _ (tb_2 _ (List.mem_of_getElem? (i := 31) rfl)))
  obtain ⟨c3, a3, r3⟩ := zs_arr (ty := .long) (hts _ (tb_2 _ (List.mem_of_getElem? (i := 18) rfl)))
  obtain ⟨c4, a4, r4⟩ := zs_ovr (C := "PathDecoder$Row") (hts _ (tb_1 _ (List.mem_of_getElem? (i := 31) rfl)))
  obtain ⟨c5, a5, r5⟩ := zs_ovr (C := "PathDecoder$Code") (hts _ (tb_1 _ (List.mem_of_getElem? (i := 33) rfl)))
  obtain ⟨c6, a6, r6⟩ := zs_ovr (C := "PathDecoder$Way") (hts _ (tb_1 _ (List.mem_of_getElem? (i := 110) rfl)))
  refine ⟨fun k => [c0, c1, c2, c3, c4, c5, c6].getD k c0, ?_⟩
  intro k q hq
  match k, hq with
  | 0, hq => cases hq; exact ⟨a0, r0⟩
  | 1, hq => cases hq; exact ⟨a1, r1⟩
  | 2, hq => cases hq; exact ⟨a2, r2⟩
  | 3, hq => cases hq; exact ⟨a3, r3⟩
  | 4, hq => cases hq; exact ⟨a4, r4⟩
  | 5, hq => cases hq; exact ⟨a5, r5⟩
  | 6, hq => cases hq; exact ⟨a6, r6⟩
  | k + 7, hq => simp [pd_tys] at hq
