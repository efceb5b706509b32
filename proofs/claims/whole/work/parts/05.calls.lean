section PDI
variable {cx : pd_X} {own : String} {cc : ByteArray} {rm : Room} {kc ks pc : Nat} {ls : List (Option Value)} {st : List Value} {I : pd_I} {J : pd_J} {F : pd_R} {n : Nat}
/-! ends, throws, catches, calls, new objects -/
/-- a text of Throwable's family: its row -/
theorem pd_text {A : Nat → Prop} {U : State} {H : Heap} (h : pd_G A U H) {own tx : String} {k : Nat} (hm : (own, k, tx) ∈ pd_strs) : ∃ sa, vk_R own k tx sa U := h.1 _ hm
theorem pd_iret (C : pd_C cx own cc rm) {ret : Option FieldType} {o : Except String (Option Value)} {x : Int32} {ty : FieldType} (hE : pd_E cx ret rm o I J F n) (ho : o = .ok (some (.int x))) (hr : ret = some ty) (hnr : narrow ty (.int x) = .int x) (hk : kc ≤ rm.cells ∧ ks ≤ rm.slots) (d : decode cc pc = .ok (.ireturn, 1)) : pd_V cx kc ks pc ls [.int x] I J F n := by
  obtain ⟨p, l, e, R, s, m, args, below, meth, c, D, tc, A, Q, n0, ad0, nL⟩ := cx
  intro ad H locs lsA hag hn hP hD hS hl hz
  obtain ⟨rfl, hret⟩ := hE
  refine vx_ret (W.widen (k := rm.cells) (n := rm.slots) hk.1 hk.2 ?_)
  exact W.zret C.1 C.2.1 (hret.trans hr) hnr (fun t ht hW => ⟨⟨_, ad, ho, rfl, hag, hn, by rw [ht]; exact hP, hD⟩, hS.F ht⟩) hS.2.2 d C.2.2.2.2.2.2.2.1
theorem pd_vret (C : pd_C cx own cc rm) {o : Except String (Option Value)} (hE : pd_E cx none rm o I J F n) (ho : o = .ok none) (hk : kc ≤ rm.cells ∧ ks ≤ rm.slots) (d : decode cc pc = .ok (.return_, 1)) : pd_V cx kc ks pc ls [] I J F n := by
  obtain ⟨p, l, e, R, s, m, args, below, meth, c, D, tc, A, Q, n0, ad0, nL⟩ := cx
  intro ad H locs lsA hag hn hP hD hS hl hz
  obtain ⟨rfl, hret⟩ := hE
  refine vx_ret (W.widen (k := rm.cells) (n := rm.slots) hk.1 hk.2 ?_)
  exact W.vret C.1 C.2.1 hret (fun t ht hW => ⟨⟨none, ad, ho, rfl, hag, hn, by rw [ht]; exact hP, hD⟩, hS.F ht⟩) hS.2.2 d C.2.2.2.2.2.2.2.1
theorem pd_lret (C : pd_C cx own cc rm) {o : Except String (Option Value)} {x : Int64} (hE : pd_E cx (some .long) rm o I J F n) (ho : o = .ok (some (.long x))) (hk : kc ≤ rm.cells ∧ ks ≤ rm.slots) (d : decode cc pc = .ok (.lreturn, 1)) : pd_V cx kc ks pc ls [.long x] I J F n := by
  obtain ⟨p, l, e, R, s, m, args, below, meth, c, D, tc, A, Q, n0, ad0, nL⟩ := cx
  intro ad H locs lsA hag hn hP hD hS hl hz
  obtain ⟨rfl, hret⟩ := hE
  refine vx_ret (W.widen (k := rm.cells) (n := rm.slots) hk.1 hk.2 ?_)
  exact W.lret C.1 C.2.1 hret (fun t ht hW => ⟨⟨_, ad, ho, rfl, hag, hn, by rw [ht]; exact hP, hD⟩, hS.F ht⟩) hS.2.2 d C.2.2.2.2.2.2.2.1
theorem pd_aret (C : pd_C cx own cc rm) {Cn : String} {o : Except String (Option Value)} {b : Nat} (hE : pd_E cx (some (.object Cn)) rm o I J F n) (ho : o = .ok (some (.ref b))) (hk : kc ≤ rm.cells ∧ ks ≤ rm.slots) (d : decode cc pc = .ok (.areturn, 1)) : pd_V cx kc ks pc ls [.ref b] I J F n := by
  obtain ⟨p, l, e, R, s, m, args, below, meth, c, D, tc, A, Q, n0, ad0, nL⟩ := cx
  intro ad H locs lsA hag hn hP hD hS hl hz
  obtain ⟨rfl, hret⟩ := hE
  refine vx_ret (W.widen (k := rm.cells) (n := rm.slots) hk.1 hk.2 ?_)
  exact W.aret C.1 C.2.1 hret (Or.inl ⟨_, rfl⟩) (Or.inr ⟨_, rfl⟩) (fun t ht hW => ⟨⟨_, ad, ho, rfl, hag, hn, by rw [ht]; exact hP, hD⟩, hS.F ht⟩) hS.2.2 d C.2.2.2.2.2.2.2.1
theorem pd_cats {ad : Nat → Nat} {st : List Value} : (st.map (pd_v ad)).map (fun v => v.category) = st.map (fun v => v.category) := by rw [List.map_map]; exact List.map_congr_left fun v _ => pd_v_cat ad v
theorem pd_oldL_dummy : True := trivial
def pd_exn : List String := ["java/lang/RuntimeException", "java/lang/Exception"]
theorem pd_throw0 (C : pd_C cx own cc rm) {ret : Option FieldType} {o : Except String (Option Value)} {cls text : String} {ik is ic : Nat} (hE : pd_E cx ret rm o I J F n) (ho : o = .error cls) (htab : ∀ x ∈ (cx.2.2.2.2.2.2.2.2.2.1).exceptionTable.toList, False)
    (hcls : Bundle.fit cls = true) (hk : Cond.classLink own ik cls ∈ pd_B) (hini : Cond.initialized cls ∈ pd_B) (hstr : (own, is, text) ∈ pd_strs) (hat : ∀ w ∈ (vx_atS own ic cls pd_exn).filter goodWord, w ∈ pd_B) (hnot : ∀ w ∈ (vx_atS own ic cls pd_exn).filter (fun w => !goodWord w), w ∈ pd_cast.map (fun C => Cond.castable C C) ++ pd_decl.map Cond.declares) (hot : (vx_atS own ic cls pd_exn).all vx_ot = true)
    (d0 : decode cc pc = .ok (.new ik, 3)) (d3 : decode cc (pc + 3) = .ok (.dup, 1)) (d4 : decode cc (pc + 4) = .ok (.ldc is, 2)) (d6 : decode cc (pc + 6) = .ok (.invokespecial ic, 3)) (d9 : decode cc (pc + 9) = .ok (.athrow, 1))
    (hR : 5 < rm.frames ∧ (st.map fun v => v.category).sum + 82 ≤ rm.locals ∧ kc + 1 ≤ rm.cells ∧ ks + 6 ≤ rm.slots) : pd_V cx kc ks pc ls st I J F n := by
  obtain ⟨p, l, e, R, s, m, args, below, meth, c, D, tc, A, Q, n0, ad0, nL⟩ := cx
  intro ad H locs lsA hag hn hP hD hS hl hz
  obtain ⟨hx, hb, hml, hown, hts, hK, hA, hlocks, rfl, hG, hst⟩ := C
  obtain ⟨rfl, hret⟩ := hE
  obtain ⟨sa, hsa⟩ := pd_text hG hstr
  have hcat : (st.map (pd_v ad)).map (fun v => v.category) = st.map (fun v => v.category) := by rw [List.map_map]; exact List.map_congr_left fun v _ => pd_v_cat ad v
  refine vx_throwS (names := pd_exn) (A := A) hx hb hst hown hcls (by decide) (hts _ hk) (hts _ hini) hsa ?_ ?_ hG.2.2.2.2.2.1 hG.2.2.2.2.2.2 hS (by rw [hml]; exact hl.1) d0 d3 d4 d6 d9 (fun x hx => (htab x hx).elim) hR.1 (by rw [hcat]; exact hR.2.1) hR.2.2.1 hR.2.2.2 hlocks (fun t hvm hsz hq => ?_) hS.2.2 hR.2.2.1 hR.2.2.2
  · refine vx_hat (fun w hw => hts w (hat w hw)) hnot (fun w hw => ?_)
    exact va_Nw.use (pd_onB hw) (hG.2.2.2.1 w hw)
  · intro w hw
    rcases List.mem_cons.mp hw with rfl | hw
    · have := (List.mem_filter.mp hk).2
      simp only [vx_ot, this, Bool.or_true]
    · rcases List.mem_cons.mp hw with rfl | hw
      · have := (List.mem_filter.mp hini).2
        simp only [vx_ot, this, Bool.or_true]
      · exact List.all_eq_true.mp hot w hw
  · refine ⟨⟨ad, ho, hag, hn, hP.kept (fun k q hk => hq q.1 ((hP k q hk).lt)), hD⟩, Nat.le_trans hS.1 hsz, fun q h1 h2 => (hq q (Nat.lt_of_lt_of_le h1 hS.1)).trans (hS.2.1 q h1 h2)⟩
theorem pd_throw0W (C : pd_C cx own cc rm) {ret : Option FieldType} {o : Except String (Option Value)} {cls text : String} {ik is ic : Nat} (hE : pd_E cx ret rm o I J F n) (ho : o = .error cls) (htab : ∀ x ∈ (cx.2.2.2.2.2.2.2.2.2.1).exceptionTable.toList, False)
    (hcls : Bundle.fit cls = true) (hk : Cond.classLink own ik cls ∈ pd_B) (hini : Cond.initialized cls ∈ pd_B) (hstr : (own, is, text) ∈ pd_strs) (hat : ∀ w ∈ (vx_atS own ic cls pd_exn).filter goodWord, w ∈ pd_B) (hnot : ∀ w ∈ (vx_atS own ic cls pd_exn).filter (fun w => !goodWord w), w ∈ pd_cast.map (fun C => Cond.castable C C) ++ pd_decl.map Cond.declares) (hot : (vx_atS own ic cls pd_exn).all vx_ot = true)
    (d0 : decode cc pc = .ok (.new ik, 3)) (d3 : decode cc (pc + 3) = .ok (.dup, 1)) (d4 : decode cc (pc + 4) = .ok (.ldc_w is, 3)) (d6 : decode cc (pc + 7) = .ok (.invokespecial ic, 3)) (d9 : decode cc (pc + 10) = .ok (.athrow, 1))
    (hR : 5 < rm.frames ∧ (st.map fun v => v.category).sum + 82 ≤ rm.locals ∧ kc + 1 ≤ rm.cells ∧ ks + 6 ≤ rm.slots) : pd_V cx kc ks pc ls st I J F n := by
  obtain ⟨p, l, e, R, s, m, args, below, meth, c, D, tc, A, Q, n0, ad0, nL⟩ := cx
  intro ad H locs lsA hag hn hP hD hS hl hz
  obtain ⟨hx, hb, hml, hown, hts, hK, hA, hlocks, rfl, hG, hst⟩ := C
  obtain ⟨rfl, hret⟩ := hE
  obtain ⟨sa, hsa⟩ := pd_text hG hstr
  have hcat : (st.map (pd_v ad)).map (fun v => v.category) = st.map (fun v => v.category) := by rw [List.map_map]; exact List.map_congr_left fun v _ => pd_v_cat ad v
  refine vx_throwSW (names := pd_exn) (A := A) hx hb hst hown hcls (by decide) (hts _ hk) (hts _ hini) hsa ?_ ?_ hG.2.2.2.2.2.1 hG.2.2.2.2.2.2 hS (by rw [hml]; exact hl.1) d0 d3 d4 d6 d9 (fun x hx => (htab x hx).elim) hR.1 (by rw [hcat]; exact hR.2.1) hR.2.2.1 hR.2.2.2 hlocks (fun t hvm hsz hq => ?_) hS.2.2 hR.2.2.1 hR.2.2.2
  · refine vx_hat (fun w hw => hts w (hat w hw)) hnot (fun w hw => ?_)
    exact va_Nw.use (pd_onB hw) (hG.2.2.2.1 w hw)
  · intro w hw
    rcases List.mem_cons.mp hw with rfl | hw
    · have := (List.mem_filter.mp hk).2
      simp only [vx_ot, this, Bool.or_true]
    · rcases List.mem_cons.mp hw with rfl | hw
      · have := (List.mem_filter.mp hini).2
        simp only [vx_ot, this, Bool.or_true]
      · exact List.all_eq_true.mp hot w hw
  · refine ⟨⟨ad, ho, hag, hn, hP.kept (fun k q hk => hq q.1 ((hP k q hk).lt)), hD⟩, Nat.le_trans hS.1 hsz, fun q h1 h2 => (hq q (Nat.lt_of_lt_of_le h1 hS.1)).trans (hS.2.1 q h1 h2)⟩
theorem pd_prop (C : pd_C cx own cc rm) {ret : Option FieldType} {o : Except String (Option Value)} {E : String} (hE : pd_E cx ret rm o I J F n) (ho : o = .error E) (htab : ∀ x ∈ (cx.2.2.2.2.2.2.2.2.2.1).exceptionTable.toList, False) (hk : kc ≤ rm.cells ∧ ks ≤ rm.slots) : pd_VX cx kc ks pc ls E I J F n := by
  obtain ⟨p, l, e, R, s, m, args, below, meth, c, D, tc, A, Q, n0, ad0, nL⟩ := cx
  intro ad H locs lsA rest q ce hag hn hP hD hS hl hz hce hv hcl
  obtain ⟨rfl, hret⟩ := hE
  exact vx_out (fun x hx => (htab x hx).elim) C.2.2.2.2.2.2.2.1 hce hv hcl (fun t ht hvm => ⟨⟨ad, ho, hag, hn, by rw [ht]; exact hP, hD⟩, hS.F ht⟩) hS.2.2 hk.1 hk.2
/-- a method's words, told once -/
def pd_mv (y : MethodName) (bytes : ByteArray) (maxL : Nat) (ret : Option FieldType) (k : Nat) : Prop :=
  Cond.instanceMethod y ∈ pd_B ∧ Cond.selects y.cls y y ∈ pd_B ∧ Cond.initialized y.cls ∈ pd_B ∧ Cond.code y bytes maxL ret ∈ pd_B ∧ (y.cls ≠ "java/lang/invoke/MethodHandle" ∧ y.cls ≠ "java/lang/invoke/VarHandle" ∧ (parseMethodDescriptor y.desc).map (fun d => d.parameters.length) = some k)
def pd_ms (y : MethodName) (bytes : ByteArray) (maxL : Nat) (ret : Option FieldType) (k : Nat) : Prop :=
  Cond.static y ∈ pd_B ∧ Cond.initialized y.cls ∈ pd_B ∧ Cond.code y bytes maxL ret ∈ pd_B ∧ (y.cls ≠ "java/lang/invoke/MethodHandle" ∧ y.cls ≠ "java/lang/invoke/VarHandle" ∧ (parseMethodDescriptor y.desc).map (fun d => d.parameters.length) = some k)
def pd_mw (y : MethodName) (bytes : ByteArray) (maxL : Nat) (ret : Option FieldType) (hh : List (Nat × Nat × Nat × Nat)) (k : Nat) : Prop :=
  Cond.static y ∈ pd_B ∧ Cond.initialized y.cls ∈ pd_B ∧ Cond.codeWith y bytes maxL ret hh ∈ pd_B ∧ (y.cls ≠ "java/lang/invoke/MethodHandle" ∧ y.cls ≠ "java/lang/invoke/VarHandle" ∧ (parseMethodDescriptor y.desc).map (fun d => d.parameters.length) = some k)
def pd_mi (y : MethodName) (bytes : ByteArray) (maxL : Nat) (k : Nat) : Prop :=
  Cond.instanceMethod y ∈ pd_B ∧ Cond.initialized y.cls ∈ pd_B ∧ Cond.code y bytes maxL none ∈ pd_B ∧ y.name = "<init>" ∧ (y.cls ≠ "java/lang/invoke/MethodHandle" ∧ y.cls ≠ "java/lang/invoke/VarHandle" ∧ (parseMethodDescriptor y.desc).map (fun d => d.parameters.length) = some k)
/-- frames and locals of a callee fit -/
abbrev pd_fit (rmY : Room) (maxL : Nat) (rm : Room) (kc ks : Nat) : Prop := rmY.frames + 1 ≤ rm.frames ∧ 8 + (maxL + 11) + rmY.locals ≤ rm.locals ∧ kc + rmY.cells ≤ rm.cells ∧ ks + rmY.slots ≤ rm.slots
theorem pd_goodIn {c : Cond} {Ts : List Cond} (hB : ∀ w ∈ pd_B, w ∈ Ts) (hc : c ∈ pd_B) : GoodIn Ts (c :: pd_B) := fun w hw => by
  have h : w ∈ pd_B := by rcases List.mem_cons.mp hw with rfl | h; exact hc; exact h
  exact ⟨hB w h, good_of_word (List.mem_filter.mp h).2⟩
/-- refs of these values are of objects made before n, or beyond n' -/
def pd_old (n n' : Nat) (v : Value) : Prop := ∀ k, v = .ref k → k < n ∨ n' ≤ k
theorem pd_old_v {n n' : Nat} {ad ad' : Nat → Nat} (h : pd_ag n n' ad' ad) {v : Value} (hv : pd_old n n' v) : pd_v ad' v = pd_v ad v := by
  cases v with
  | ref k => simp only [pd_v]; rw [h k (hv k rfl)]
  | _ => rfl
def pd_oldL (n n' : Nat) (ls : List (Option Value)) : Prop := ∀ v, some v ∈ ls → pd_old n n' v
theorem pd_old_ls {n n' : Nat} {ad ad' : Nat → Nat} (h : pd_ag n n' ad' ad) {ls : List (Option Value)} (hv : pd_oldL n n' ls) (j : Nat) : pd_lv ad' j ls = pd_lv ad j ls := by
  induction ls generalizing j with
  | nil => rfl
  | cons x r ih =>
    have ih := fun j => ih (fun v hv' => hv v (List.mem_cons_of_mem _ hv')) j
    cases x with
    | none => simp only [pd_lv]; exact ih (j + 1)
    | some v => simp only [pd_lv]; rw [ih (j + 1), pd_old_v h (hv v List.mem_cons_self)]
theorem pd_old_st {n n' : Nat} {ad ad' : Nat → Nat} (h : pd_ag n n' ad' ad) {st : List Value} (hv : ∀ v ∈ st, pd_old n n' v) : st.map (pd_v ad') = st.map (pd_v ad) := List.map_congr_left fun v hv' => pd_old_v h (hv v hv')
theorem pd_old_same {n : Nat} (v : Value) : pd_old n n v := fun k _ => Nat.lt_or_ge k n
theorem pd_pre {D : va_G} {tc : Nat → ClassId} {s : State} {A : Nat → Prop} {H : Heap} {locs : List Loc} {ad : Nat → Nat} {As : List Value} (hK : va_K D vwCl (pd_tys tc) s) (hG : pd_G A s s.heap) (hA : ∀ q, s.heap.size ≤ q → A q) (hP : va_P D vwCl (pd_w ad tc I J F n) H) (hD : va_D A (pd_w ad tc I J F n)) (hS : va_S A s.heap H locs) :
    PreS s H (pd_P D tc As I J F n ad H.size) (As.map (pd_v ad)) ∧ (∀ q, va_A (pd_w ad tc I J F n) H.size q → A q) := by
  have hAA : ∀ q, va_A (pd_w ad tc I J F n) H.size q → A q := fun q h => by
    rcases h with ⟨k, e, h⟩ | h
    · exact hD.2 k (q, e) h
    · exact hA q (Nat.le_trans hS.1 h)
  refine ⟨⟨pd_P_blind, fun U hU hW => ⟨rfl, by rw [hU], by rw [hU]; exact hP, va_K.moved hW.alike hK, hD.weaken (fun _ _ _ _ => trivial), ?_⟩⟩, hAA⟩
  rw [hU]
  exact ((hG.kept hS.2.1).warm hW).narrow hAA
theorem pd_after {p : Program} {l : Launch} {e : Env} {R : Room} {s : State} {m : MethodId} {args : Array Value} {below : List Frame} {meth : Method} {c : Code} {D : va_G} {tc : Nat → ClassId} {A : Nat → Prop} {Q : State → Prop} {n0 : Nat} {ad0 : Nat → Nat} {nL : Nat} {H : Heap} {locs : List Loc} {lsA : Array Slot} {ad : Nat → Nat} {st0 rest : List Value} {a : Array Value} {mc ms : Nat} {v : Option Value} {I' : pd_I} {J' : pd_J} {F' : pd_R} {n' : Nat}
    (hr : vx_Run p l e R s m args below meth c H locs kc ks mc ms (F0 m pc lsA st0) (rest.map (pd_v ad)) (pd_Qc D tc n ad (va_A (pd_w ad tc I J F n) H.size) (.ok v) I' J' F' n' a) (pd_Xc D tc n ad (va_A (pd_w ad tc I J F n) H.size) (.ok v) I' J' F' n') (va_A (pd_w ad tc I J F n) H.size))
    (hag : pd_ag n0 n ad ad0) (hn : n0 ≤ n) (hS : va_S A s.heap H locs) (hAA : ∀ q, va_A (pd_w ad tc I J F n) H.size q → A q) (hl : lv_has lsA nL (pd_lv ad 0 ls)) (hz : ls.length = nL) (hls : pd_oldL n n' ls) (hrs : ∀ w ∈ rest, pd_old n n' w)
    (k : pd_V (p, l, e, R, s, m, args, below, meth, c, D, tc, A, Q, n0, ad0, nL) (kc + mc) (ks + ms) (pc + 3) ls (v.toList ++ rest) I' J' F' n') : W p l e R s m args below meth c H locs kc ks Q (F0 m pc lsA st0) := by
  intro T hT X
  rcases hr T hT X with ⟨v0, st₀, t, T', L, h0, X', hL, e1, e2, ⟨⟨v1, ad', hv, hoc, hag', hnn, hP1, hD1⟩, hF⟩, stp⟩ | ⟨q, st₀, t, T', L, E, ce, h0, X', hL, e1, e2, ⟨⟨ad', hE, -⟩, -⟩, -⟩
  · cases hv
    cases hoc
    obtain ⟨z, hk, hS'⟩ := vx_keep h0 e1 hS (fun q _ h => hAA q h) hAA hL hF
    obtain ⟨tt, a1, b1⟩ := k ad' T'.heap (locs ++ L) lsA (hag'.trans hag hnn hn) (Nat.le_trans hn hnn) (by rw [e1]; exact hP1) (hD1.weaken (fun _ q _ h => hAA q.1 h)) hS' (by rw [pd_old_ls hag' hls]; exact hl) hz T' rfl X'
    refine ⟨tt, stp tt ?_, b1⟩
    rw [List.map_append, pd_old_st hag' hrs] at a1
    cases v with
    | none => exact a1
    | some w => exact a1
  · cases hE
theorem pd_afterX {p : Program} {l : Launch} {e : Env} {R : Room} {s : State} {m : MethodId} {args : Array Value} {below : List Frame} {meth : Method} {c : Code} {D : va_G} {tc : Nat → ClassId} {A : Nat → Prop} {Q : State → Prop} {n0 : Nat} {ad0 : Nat → Nat} {nL : Nat} {H : Heap} {locs : List Loc} {lsA : Array Slot} {ad : Nat → Nat} {st0 rest : List Value} {a : Array Value} {mc ms : Nat} {E : String} {I' : pd_I} {J' : pd_J} {F' : pd_R}
    (hr : vx_Run p l e R s m args below meth c H locs kc ks mc ms (F0 m pc lsA st0) (rest.map (pd_v ad)) (pd_Qc D tc n ad (va_A (pd_w ad tc I J F n) H.size) (.error E) I' J' F' n a) (pd_Xc D tc n ad (va_A (pd_w ad tc I J F n) H.size) (.error E) I' J' F' n) (va_A (pd_w ad tc I J F n) H.size))
    (hag : pd_ag n0 n ad ad0) (hn : n0 ≤ n) (hS : va_S A s.heap H locs) (hAA : ∀ q, va_A (pd_w ad tc I J F n) H.size q → A q) (hl : lv_has lsA nL (pd_lv ad 0 ls)) (hz : ls.length = nL)
    (k : pd_VX (p, l, e, R, s, m, args, below, meth, c, D, tc, A, Q, n0, ad0, nL) (kc + mc) (ks + ms) pc ls E I' J' F' n) : W p l e R s m args below meth c H locs kc ks Q (F0 m pc lsA st0) := by
  intro T hT X
  rcases hr T hT X with ⟨v0, st₀, t, T', L, h0, X', hL, e1, e2, ⟨⟨v1, ad', hv, -⟩, -⟩, -⟩ | ⟨q, st₀, t, T', L, E1, ce, h0, X', hL, e1, e2, ⟨⟨ad', hE, hag', hnn, hP1, hD1⟩, hF⟩, hce, hcv, hcl, stp⟩
  · cases hv
  · cases hE
    obtain ⟨z, hk, hS'⟩ := vx_keep h0 e1 hS (fun q _ h => hAA q h) hAA hL hF
    have he := hag'.same
    subst he
    obtain ⟨tt, a1, b1⟩ := k ad' T'.heap (locs ++ L) lsA (rest.map (pd_v ad')) q ce hag hn (by rw [e1]; exact hP1) (hD1.weaken (fun _ q _ h => hAA q.1 h)) hS' hl hz (by rw [e1]; exact hce) hcv hcl T' rfl X'
    exact ⟨tt, stp.trans a1, b1⟩
/-! A throw of an exception whose constructor `<init>(String)` passes its message on by a link other than 7 (NoSuchElementException: 13). The library's constructors of this shape ask for link 7, or for stack traces that are on; this is the case wanting here. -/
section PDN0
/-- the words of such a throw: cls's own constructor (bytes rx, link ix) to up, and from there the chain of the library -/
def pd_exX (cls up : String) (ix : Nat) (rx : ByteArray) (names : List String) : List Cond := Bundle.passSAtoms cls up ix rx ++ Bundle.chainSAtoms up names
def pd_owX (own : String) (ic : Nat) (cls up : String) (ix : Nat) (rx : ByteArray) (names : List String) : List Cond :=
  Bundle.throwableAtoms ++ Bundle.throwableSAtoms ++ pd_exX cls up ix rx names ++
  ([.methodLink own ic (Bundle.initS cls), .instantiable cls 6, .castable cls cls, .selects cls Bundle.tFill0 Bundle.tFill0, .selects cls Bundle.tFill Bundle.tFill] ++
   [.lays cls Bundle.tN "cause" "Ljava/lang/Throwable;", .lays cls Bundle.tN "stackTrace" Bundle.steD, .lays cls Bundle.tN "suppressedExceptions" Bundle.listD, .lays cls Bundle.tN "detailMessage" "Ljava/lang/String;"] ++
   [.isRef (.static Bundle.tN "UNASSIGNED_STACK" Bundle.steD), .isRef (.static Bundle.tN "SUPPRESSED_SENTINEL" Bundle.listD)] ++
   [.fieldLink Bundle.tN 198 Bundle.tN "backtrace" "Ljava/lang/Object;", .lays Bundle.tN Bundle.tN "backtrace" "Ljava/lang/Object;", .lays cls Bundle.tN "backtrace" "Ljava/lang/Object;"])
def pd_atX (own : String) (ic : Nat) (cls up : String) (ix : Nat) (rx : ByteArray) (names : List String) : List Cond := (pd_owX own ic cls up ix rx names).filter vx_no
theorem pd_mem4 {w : Cond} {a b c d : List Cond} (h : w ∈ d) : w ∈ a ++ b ++ c ++ d := List.mem_append_right _ h
section
variable {p : Program} {l : Launch} {e : Env} {R : Room} {s : State} {m₀ : MethodId} {args : Array Value} {below : List Frame} {meth : Method} {c : Code} {W : State} {locs : List Loc} {cells slots : Nat}
set_option maxHeartbeats 1000000 in
theorem pd_ctorX (X : Stand p l e R s m₀ args below meth c W locs cells slots) (hexec : p.tables.exec = Jvm.exec) (htr : e.platform.stackTraces = false) {own cls up : String} {names : List String} {ic ix : Nat} {rx : ByteArray}
    (x0 : decode rx 0 = .ok (.aload_n 0, 1)) (x1 : decode rx 1 = .ok (.aload_n 1, 1)) (x2 : decode rx 2 = .ok (.invokespecial ix, 3)) (x5 : decode rx 5 = .ok (.return_, 1))
    (hown : s.vm.findClass own = some m₀.cls) (hcls : Bundle.fit cls = true) (hup : Bundle.fit up = true) (hnames : ∀ n ∈ names, Bundle.fit n = true)
    (h : ∀ a ∈ pd_owX own ic cls up ix rx names, a.before args s = true)
    (hlocs : ∀ x ∈ locs, ∀ cell, s.heap[x.base]? = some cell → cell.vm.isStatics = false)
    {a : Addr} {cX : ClassId} {kX : Class} (hfoundX : s.vm.findClass cls = some cX) (hkX : s.vm.classes[cX]? = some kX) (hcell : W.heap[a]? = some (freshCell cX kX)) (hnew : s.heap.size ≤ a)
    {msg : Value} (hmsg : msg.isRef = true)
    {g : JFrame} (hg : g.method = m₀) (hsize : g.locals.size = c.maxLocals) (hlocked : g.locked = none) (hentered : g.entered = []) {rest : List Value} (hstack : g.stack = msg :: .ref a :: .ref a :: rest)
    (hd6 : decode c.code g.pc = .ok (.invokespecial ic, 3)) (hd9 : decode c.code (g.pc + 3) = .ok (.athrow, 1)) (hout : ∀ x ∈ c.exceptionTable.toList, covers x (g.pc + 3) = false)
    (hRframes : names.length + 4 < R.frames) (hRlocals : 2 * g.monitorRoom + ((Value.ref a :: rest).map fun v => v.category).sum + (13 * (names.length + 2) + 42) ≤ R.locals) (hlocks : meth.locks = false) :
    ∃ U : State, Steps p.tables e below (W.setTop g) U ∧ U.status = .running ∧ Ended U below (.threw a) ∧ s.WarmedH U.vm ∧ s.sameButNew ({ U with vm := s.vm } : State) locs cells slots ∧
      ∃ ce, U.heap[a]? = some ce ∧ s.vm.findClass cls = some ce.cls ∧ ce.vm = .none := by
  have plat := X.admits.platform
  have howns : e.platform.frameOwnsMonitors = true := by rw [plat]
  have hfin : e.platform.finalization = false := by rw [plat]
  have hpl : e.platform.magicAccessors = ({} : Platform).magicAccessors := by rw [plat]
  have a' : ∀ x, x ∈ pd_owX own ic cls up ix rx names → x.holds args s none s [] = true := fun x hx => h x hx
  have t1 : ∀ x, x ∈ Bundle.throwableAtoms → x ∈ pd_owX own ic cls up ix rx names := fun x hx => by simp [pd_owX, hx]
  have t2 : ∀ x, x ∈ Bundle.throwableSAtoms → x ∈ pd_owX own ic cls up ix rx names := fun x hx => by simp [pd_owX, hx]
  have t3 : ∀ x, x ∈ Bundle.passSAtoms cls up ix rx → x ∈ pd_owX own ic cls up ix rx names := fun x hx => by simp [pd_owX, pd_exX, hx]
  have t4 : ∀ x, x ∈ Bundle.chainSAtoms up names → x ∈ pd_owX own ic cls up ix rx names := fun x hx => by simp [pd_owX, pd_exX, hx]
  obtain ⟨T, Z0, L, -, Y⟩ := ThrowableC.of_atoms (args := args) howns hfin hpl (fun x hx => h x (t1 x hx))
  obtain ⟨Z, M, LZ, LM, hnZ⟩ := Init0T.ofS_atoms (args := args) hpl L Y (fun x hx => h x (t2 x hx))
  obtain ⟨P1, L1, hP1m, hsup1⟩ := PassC.ofS_atoms (args := args) (s := s) hpl (X := cls) (Y := up) (Bundle.fit_spec hcls).1 (Bundle.fit_spec hup).2 x0 x1 x2 x5 (fun x hx => h x (t3 x hx))
  obtain ⟨P2, Ps, hlen, L2, hL, hP2m, hlink2, hlink⟩ := Bundle.chainS (args := args) hpl hnZ names up hup hnames (fun x hx => h x (t4 x hx))
  have hlink1 : P1.sup = P2.m := Option.some.inj (hsup1.symm.trans hP2m)
  have hfound : s.vm.findClass cls = some P1.m.cls := findClass_of_methodNamed hP1m
  cases Option.some.inj (hfoundX.symm.trans hfound)
  obtain ⟨c1, kX', hc1, hk, hord, -, -, hn6⟩ := Cond.instantiable_spec (a' (.instantiable cls 6) (by simp [pd_owX]))
  cases Option.some.inj (hc1.symm.trans hfound)
  cases Option.some.inj (hkX.symm.trans hk)
  have hsel0 : selectMethod e.platform s.vm P1.m.cls T.fill0 = .method T.fill0 := by
    obtain ⟨c2, r2, m2, q1, q2, q3, q4, -⟩ := Cond.selects_spec (a' (.selects cls Bundle.tFill0 Bundle.tFill0) (by simp [pd_owX]))
    cases Option.some.inj (q1.symm.trans hfound)
    cases Option.some.inj (q2.symm.trans (State.methodFound?_of_named Y.fill0 (by decide)))
    cases Option.some.inj (q3.symm.trans Y.fill0)
    rw [Launch.admits_selectMethod X.admits]; exact q4
  have hselF : selectMethod e.platform s.vm P1.m.cls T.fill = .method T.fill := by
    obtain ⟨c2, r2, m2, q1, q2, q3, q4, -⟩ := Cond.selects_spec (a' (.selects cls Bundle.tFill Bundle.tFill) (by simp [pd_owX]))
    cases Option.some.inj (q1.symm.trans hfound)
    cases Option.some.inj (q2.symm.trans (State.methodFound?_of_named Y.fill (by decide)))
    cases Option.some.inj (q3.symm.trans Y.fill)
    rw [Launch.admits_selectMethod X.admits]; exact q4
  obtain ⟨cellS0, hcS0, hiss⟩ := Y.statics
  obtain ⟨u0, hu0⟩ := Cond.staticRefV Y.unassigned L.unassignedStatic L.statics hcS0 hiss (a' (.isRef (.static Bundle.tN "UNASSIGNED_STACK" Bundle.steD)) (by simp [pd_owX]))
  obtain ⟨sen, hsen⟩ := Cond.staticRefV Y.sentinel L.sentinelStatic L.statics hcS0 hiss (a' (.isRef (.static Bundle.tN "SUPPRESSED_SENTINEL" Bundle.listD)) (by simp [pd_owX]))
  obtain ⟨ci, i, fB, hkB, hgB, haB, hsB, -, hnB, htB, hffB⟩ := Cond.ownField (t := .object "java/lang/Object") Y.found L.cls (by decide +kernel) (a' (.fieldLink Bundle.tN 198 Bundle.tN "backtrace" "Ljava/lang/Object;") (by simp [pd_owX])) (a' (.lays Bundle.tN Bundle.tN "backtrace" "Ljava/lang/Object;") (by simp [pd_owX])) e.platform hpl
  obtain ⟨cellS, hcS', heS, -, hkeep⟩ := X.same.2.2.2.2.2 T.aS cellS0 hcS0
  have hout' : ∀ i, (⟨T.aS, i⟩ : Loc) ∉ locs := fun i hmem => by
    have := hlocs _ hmem cellS0 hcS0
    rw [hiss] at this; cases this
  have hknownS : cellS.vm ≠ .unknown := by
    rw [heS]; intro hu
    rw [show cellS0.vm = .unknown from hu] at hiss
    cases hiss
  have hneS : T.aS ≠ a := Nat.ne_of_lt (Nat.lt_of_lt_of_le (Array.getElem?_eq_some_iff.mp hcS0).1 hnew)
  obtain ⟨iM, hffM⟩ := Y.msg
  obtain ⟨tyC, dC, hdC, hdnC⟩ := Cond.laysAt hfound hk Y.cause (a' (.lays cls Bundle.tN "cause" "Ljava/lang/Throwable;") (by simp [pd_owX]))
  obtain ⟨tyS, dS, hdS, hdnS⟩ := Cond.laysAt hfound hk Y.stack (a' (.lays cls Bundle.tN "stackTrace" Bundle.steD) (by simp [pd_owX]))
  obtain ⟨tyP, dP, hdP, hdnP⟩ := Cond.laysAt hfound hk Y.supp (a' (.lays cls Bundle.tN "suppressedExceptions" Bundle.listD) (by simp [pd_owX]))
  obtain ⟨tyM, -, -, -⟩ := Cond.laysAt hfound hk hffM (a' (.lays cls Bundle.tN "detailMessage" "Ljava/lang/String;") (by simp [pd_owX]))
  obtain ⟨tyB, dB, hdB, hdnB⟩ := Cond.laysAt hfound hk hffB (a' (.lays cls Bundle.tN "backtrace" "Ljava/lang/Object;") (by simp [pd_owX]))
  have bC := Cond.laysApart hdB hdC hdnB hdnC (by rw [hnB, Y.causeName]; decide)
  have bS := Cond.laysApart hdB hdS hdnB hdnS (by rw [hnB, Y.stackName]; decide)
  have bP := Cond.laysApart hdB hdP hdnB hdnP (by rw [hnB, Y.suppName]; decide)
  have hskip : SkipFacts T e.platform s (fun u => u) u0 ((preparedCellV T.toThrowableT (freshCell P1.m.cls kX) a u0 sen).withEntry W.cur) := by
    refine ⟨{ ci198 := ci, i198 := i, fBack := fB }, ⟨hkB, hgB, haB, hsB⟩, ?_, fun _ _ => rfl⟩
    have := fresh_default (c := P1.m.cls) tyB
    rw [htB] at this
    simpa [preparedCellV, Cell.setSlot, Cell.withEntry, Array.getElem?_setIfInBounds, bC, bS, bP, bC.symm, bS.symm, bP.symm, defaultValue] using this
  obtain ⟨tm, methC, cdC, kC, vm₁, hnC, -, -, -, -, -, -, -, hW₁, st1⟩ := Steps.initColdS (tb := p.tables) (e := e) (below := below) (s := s) (U := W) X.here hexec X.warmed hpl hown (t := Bundle.initS cls) rfl rfl (Bundle.fit_spec hcls).2
    (a' (.methodLink own ic (Bundle.initS cls)) (by simp [pd_owX])) (h (.instanceMethod (Bundle.initS cls)) (t3 _ (by simp [Bundle.passSAtoms]))) (bytes := rx) (maxL := 2) (h (.code (Bundle.initS cls) rx 2 none) (t3 _ (by simp [Bundle.passSAtoms])))
    (f := g) hg (a := a) (msg := msg) (rest := .ref a :: rest) hstack hd6
  cases Option.some.inj (hnC.symm.trans hP1m)
  have X₁ := X.noted hW₁
  obtain ⟨vm₂, X₂, st2⟩ := X₁.ctorMessageOffV hexec (g := { g with stack := .ref a :: rest }) hg hsize T L Z LZ M LM (P1 :: P2 :: Ps)
    (fun P hP => by
      rcases List.mem_cons.mp hP with rfl | hP
      · exact L1
      · rcases List.mem_cons.mp hP with rfl | hP
        · exact L2
        · exact hL P hP) ⟨hlink1, hlink2, hlink⟩ (u0 := u0) (sen := sen) (self := a) hmsg (cell := freshCell P1.m.cls kX) (cellS := cellS)
    hcell (fun _ => by simp) (by simp) rfl rfl hsel0 hselF hcS' hneS hknownS (by rw [hkeep _ (hout' _)]; exact hu0) (by rw [hkeep _ (hout' _)]; exact hsen)
    (Takes.of_laid hk hord tyC (by rw [Y.causeType]; rfl)) (Takes.of_laid hk hord tyS (by rw [Y.stackType]; exact fits_refV_array _ u0)) (Takes.of_laid hk hord tyP (by rw [Y.suppType]; exact fits_refV_object _ sen))
    (Takes.of_laid hk hord tyM (by rw [Y.msgType]; exact fits_refV_object _ ⟨msg, hmsg⟩)) Y.objLocals hskip htr [] hd6
    (by simp only [List.length_cons, hlen]; omega) (by simp only [List.length_cons, hlen]; exact hRlocals)
  obtain ⟨hwalk, hrun, hended, hWU, hsame⟩ := X₂.athrowLeaves hexec (g := { g with stack := .ref a :: rest, pc := g.pc + 3 }) hg hlocked hentered hout (a := a) (rest := rest) rfl hd9
  have hlt : a < ((W.setVm vm₁).setVm vm₂).heap.size := (Array.getElem?_eq_some_iff.mp hcell).1
  have hU := heapAt_setCell_self (s := (W.setVm vm₁).setVm vm₂) (plainBareV T.toThrowableT (freshCell P1.m.cls kX) a u0 sen msg) hlt
  refine ⟨_, st1 _ (fun acts => ?_), hrun, hended, hWU, hsame.weaken (fun y hy hlt' => ?_) (Nat.le_refl _) (Nat.le_refl _), _, hU, hfound, rfl⟩
  · rw [doInvoke_state]
    exact st2 _ hwalk
  · rcases List.mem_append.mp hy with h1 | h1
    · exact h1
    · exfalso
      have hb : y.base = a := by
        simp only [List.mem_cons, List.not_mem_nil, or_false] at h1
        rcases h1 with rfl | rfl | rfl | rfl | rfl <;> rfl
      rw [hb] at hlt'
      exact Nat.not_lt.mpr hnew hlt'
end
section
variable {p : Program} {l : Launch} {e : Env} {R : Room} {s : State} {m : MethodId} {args : Array Value} {below : List Frame} {meth : Method} {c : Code} {H : Heap} {locs : List Loc} {cells slots : Nat}
variable {free : Addr → Prop} {ls : Array Slot} {rest : List Value}
variable {Qc : Array Value → State → Outcome → State → Prop} {XC : String → State → State → Prop}
/-- 'throw new E("text")' for such an E; the text's load is w bytes long -/
theorem pd_newThrowX {cc : ByteArray} {pc pi : Nat} (hexec : p.tables.exec = Jvm.exec) (hb : c.code = cc) (hl : l.stackTraces = false) {own cls up text : String} {names : List String} {ik is ic mc ms sa ix : Nat} {rx : ByteArray} {A : Nat → Prop}
    (x0 : decode rx 0 = .ok (.aload_n 0, 1)) (x1 : decode rx 1 = .ok (.aload_n 1, 1)) (x2 : decode rx 2 = .ok (.invokespecial ix, 3)) (x5 : decode rx 5 = .ok (.return_, 1))
    (hown : s.vm.findClass own = some m.cls) (hcls : Bundle.fit cls = true) (hup : Bundle.fit up = true) (hnames : ∀ n ∈ names, Bundle.fit n = true)
    (hk : (Cond.classLink own ik cls).before args s = true) (hini : (Cond.initialized cls).before args s = true) (hstr : vk_R own is text sa s) (hat : ∀ w ∈ pd_atX own ic cls up ix rx names, w.before args s = true)
    (hgood : ∀ w ∈ Cond.classLink own ik cls :: Cond.initialized cls :: pd_atX own ic cls up ix rx names, vx_ot w = true)
    (hU : vx_Zq Bundle.tN "UNASSIGNED_STACK" Bundle.steD A s s.heap) (hN : vx_Zq Bundle.tN "SUPPRESSED_SENTINEL" Bundle.listD A s s.heap) (hS : va_S A s.heap H locs) (hsize : ls.size = c.maxLocals)
    (d0 : decode cc pc = .ok (.new ik, 3)) (d3 : decode cc (pc + 3) = .ok (.dup, 1)) (d4 : (decode cc (pc + 4) = .ok (.ldc is, 2) ∧ pi = pc + 6) ∨ (decode cc (pc + 4) = .ok (.ldc_w is, 3) ∧ pi = pc + 7)) (d6 : decode cc pi = .ok (.invokespecial ic, 3)) (d9 : decode cc (pi + 3) = .ok (.athrow, 1))
    (hout : ∀ x ∈ c.exceptionTable.toList, covers x (pi + 3) = false)
    (hRframes : names.length + 4 < R.frames) (hRlocals : (rest.map fun v => v.category).sum + (13 * (names.length + 2) + 43) ≤ R.locals) (hRcells : cells + 1 ≤ R.cells) (hRslots : slots + 6 ≤ R.slots) (hlocks : meth.locks = false)
    (hx : ∀ t : State, s.vm.Alike t.vm → H.size ≤ t.heap.size → (∀ q : Nat, q < H.size → t.heap[q]? = H[q]?) → XC cls s t)
    (hf : ∀ z ∈ locs, free z.base) (hc : cells + 1 ≤ mc) (hs : slots + 6 ≤ ms) :
    W p l e R s m args below meth c H locs cells slots (vx_MQ below Qc XC args s mc ms free) (F0 m pc ls rest) := by
  intro T hT X
  have htr : e.platform.stackTraces = false := (show e.platform.stackTraces = l.stackTraces by rw [X.admits.platform]).trans hl
  have Y := vx_rebase X (R' := { frames := R.frames, locals := R.locals, cells := 1, slots := 6 }) (Nat.le_refl _) (Nat.le_refl _) hRcells hRslots
  obtain ⟨s', hA⟩ : ∃ z, z = (T.setVm s.vm).setFrames (.invoking m args :: below) := ⟨_, rfl⟩
  rw [← hA] at Y
  have hvm : s'.vm = s.vm := by rw [hA]; rfl
  have hhp : s'.heap = H := by rw [hA]; exact hT
  have hW0 : s.WarmedH s'.vm := by rw [hvm]; exact State.WarmedH.refl s
  have go : ∀ w ∈ Cond.classLink own ik cls :: Cond.initialized cls :: pd_atX own ic cls up ix rx names, w.before args s = true → w.before args s' = true := fun w hw h1 => vx_ot_at hW0 hvm.symm (hgood w hw) h1
  have hk' := go _ List.mem_cons_self hk
  have hini' := go _ (List.mem_cons_of_mem _ List.mem_cons_self) hini
  have hat' : ∀ w ∈ pd_atX own ic cls up ix rx names, w.before args s' = true := fun w hw => go w (List.mem_cons_of_mem _ (List.mem_cons_of_mem _ hw)) (hat w hw)
  have hU' : vx_Zq Bundle.tN "UNASSIGNED_STACK" Bundle.steD A s' s'.heap := by rw [hhp]; exact vx_Zq.moved hW0.alike (hU.kept hS.2.1)
  have hN' : vx_Zq Bundle.tN "SUPPRESSED_SENTINEL" Bundle.listD A s' s'.heap := by rw [hhp]; exact vx_Zq.moved hW0.alike (hN.kept hS.2.1)
  have h : ∀ w ∈ pd_owX own ic cls up ix rx names, w.before args s' = true := vx_own hat' (vx_isRefq hU'.1) (vx_isRefq hN'.1) hU'.2.word hN'.2.word
  have hown' : s'.vm.findClass own = some m.cls := by rw [hvm]; exact hown
  have hins : (Cond.instantiable cls 6).before args s' = true := h _ (by simp [pd_owX])
  obtain ⟨vm₁, cX, kX, hfX, hkX, -, -, X₁, st1⟩ := Y.newCold hexec (own := own) (C := cls) (index := ik) (n := 6) hown' hk' hins hini'
    (g := F0 m pc ls rest) rfl (by rw [hb]; exact d0) (Nat.le_refl _) (Nat.le_refl _)
  generalize hT1 : (T.setVm vm₁).pushCell { cls := cX, slots := kX.instanceTypes.map defaultValue, vm := .none } = T1 at X₁ st1
  have hcat : (Value.ref T.heap.size).category = 1 := rfl
  have hcellA : T1.heap[T.heap.size]? = some (freshCell cX kX) := by rw [← hT1]; exact State.heap_pushCell_size _ _
  have d3' : decode c.code (pc + 3) = .ok (.dup, 1) := by rw [hb]; exact d3
  have hstr' : vk_R own is text sa s' := vk_R.warm hW0 hstr
  obtain ⟨U, hsteps, hrun, hend, hW, hsame, ce, hce, hO, hOv⟩ := pd_ctorX X₁ hexec htr x0 x1 x2 x5 (own := own) (cls := cls) (up := up) (names := names) (ic := ic) hown' hcls hup hnames h (fun x hx => nomatch hx) hfX hkX hcellA (by rw [hhp, hT]; exact Nat.le_refl _) (msg := .ref sa) rfl
    (g := { method := m, pc := pi, locals := ls, stack := .ref sa :: .ref T.heap.size :: .ref T.heap.size :: rest, locked := none }) rfl hsize rfl rfl (rest := rest) rfl
    (by rw [hb]; exact d6) (by rw [hb]; exact d9) hout hRframes (by simp only [List.map_cons, List.sum_cons, hcat]; omega) hlocks
  obtain ⟨f1, f2⟩ := vx_frame hsame
  rw [hhp] at f1 f2
  have hWs : s.WarmedH U.vm := State.WarmedH.trans hW0 hW
  have hcl : s.vm.findClass cls = some ce.cls := by rw [← hvm]; exact hO
  have hall : s.sameButNew ({ U with vm := s.vm } : State) locs mc ms := by
    subst hA
    obtain ⟨e1, e2⟩ := hsame
    rw [State.setFrames_setFrames] at e1
    have h2 : (T.setVm s.vm).sameButNew ({ U with vm := s.vm } : State) [] (0 + 1) (0 + 6) := ⟨e1, e2⟩
    have h3 := X.same.trans h2
    rw [List.append_nil] at h3
    exact h3.mono hc hs
  refine ⟨U, ?_, .threw T.heap.size, hrun, hend, Or.inr ⟨T.heap.size, rfl, cls, ce, locs, hx U hWs.alike f1 (fun q hq => f2 q hq (fun z hz => nomatch hz)), hce, hOv, hcl, hWs, hall, hf⟩⟩
  refine st1 _ ?_
  show Steps p.tables e below (T1.setTop { method := m, pc := pc + 3, locals := ls, stack := .ref T.heap.size :: rest, locked := none }) _
  jvm_step X₁.here [X₁.here.top, hexec, d3', Value.category]
  rcases d4 with ⟨d4, rfl⟩ | ⟨d4, rfl⟩
  · exact X₁.ldcString hexec (own := own) (text := text) (index := is) (a := sa) hown' hstr'.1 hstr'.2
      (g := { method := m, pc := pc + 4, locals := ls, stack := .ref T.heap.size :: .ref T.heap.size :: rest, locked := none }) rfl (by rw [hb]; exact d4) _ hsteps
  · exact X₁.ldcStringW hexec (own := own) (text := text) (index := is) (a := sa) hown' hstr'.1 hstr'.2
      (g := { method := m, pc := pc + 4, locals := ls, stack := .ref T.heap.size :: .ref T.heap.size :: rest, locked := none }) rfl (by rw [hb]; exact d4) _ hsteps
end
theorem pd_throwX (C : pd_C cx own cc rm) {ret : Option FieldType} {o : Except String (Option Value)} {cls up text : String} {names : List String} {ik is ic ix pi : Nat} {rx : ByteArray}
    (x0 : decode rx 0 = .ok (.aload_n 0, 1)) (x1 : decode rx 1 = .ok (.aload_n 1, 1)) (x2 : decode rx 2 = .ok (.invokespecial ix, 3)) (x5 : decode rx 5 = .ok (.return_, 1))
    (hE : pd_E cx ret rm o I J F n) (ho : o = .error cls) (htab : ∀ x ∈ (cx.2.2.2.2.2.2.2.2.2.1).exceptionTable.toList, False)
    (hcls : Bundle.fit cls = true) (hup : Bundle.fit up = true) (hnames : ∀ n ∈ names, Bundle.fit n = true) (hk : Cond.classLink own ik cls ∈ pd_B) (hini : Cond.initialized cls ∈ pd_B) (hstr : (own, is, text) ∈ pd_strs) (hat : ∀ w ∈ (pd_atX own ic cls up ix rx names).filter goodWord, w ∈ pd_B) (hnot : ∀ w ∈ (pd_atX own ic cls up ix rx names).filter (fun w => !goodWord w), w ∈ pd_cast.map (fun C => Cond.castable C C) ++ pd_decl.map Cond.declares) (hot : (pd_atX own ic cls up ix rx names).all vx_ot = true)
    (d0 : decode cc pc = .ok (.new ik, 3)) (d3 : decode cc (pc + 3) = .ok (.dup, 1)) (d4 : (decode cc (pc + 4) = .ok (.ldc is, 2) ∧ pi = pc + 6) ∨ (decode cc (pc + 4) = .ok (.ldc_w is, 3) ∧ pi = pc + 7)) (d6 : decode cc pi = .ok (.invokespecial ic, 3)) (d9 : decode cc (pi + 3) = .ok (.athrow, 1))
    (hR : names.length + 4 < rm.frames ∧ (st.map fun v => v.category).sum + (13 * (names.length + 2) + 43) ≤ rm.locals ∧ kc + 1 ≤ rm.cells ∧ ks + 6 ≤ rm.slots) : pd_V cx kc ks pc ls st I J F n := by
  obtain ⟨p, l, e, R, s, m, args, below, meth, c, D, tc, A, Q, n0, ad0, nL⟩ := cx
  intro ad H locs lsA hag hn hP hD hS hl hz
  obtain ⟨hx, hb, hml, hown, hts, hK, hA, hlocks, rfl, hG, hst⟩ := C
  obtain ⟨rfl, hret⟩ := hE
  obtain ⟨sa, hsa⟩ := pd_text hG hstr
  have hcat : (st.map (pd_v ad)).map (fun v => v.category) = st.map (fun v => v.category) := pd_cats
  refine pd_newThrowX (names := names) (A := A) hx hb hst x0 x1 x2 x5 hown hcls hup hnames (hts _ hk) (hts _ hini) hsa ?_ ?_ hG.2.2.2.2.2.1 hG.2.2.2.2.2.2 hS (by rw [hml]; exact hl.1) d0 d3 d4 d6 d9 (fun x hx => (htab x hx).elim) hR.1 (by rw [hcat]; exact hR.2.1) hR.2.2.1 hR.2.2.2 hlocks (fun t hvm hsz hq => ?_) hS.2.2 hR.2.2.1 hR.2.2.2
  · exact vx_hat (fun w hw => hts w (hat w hw)) hnot (fun w hw => va_Nw.use (pd_onB hw) (hG.2.2.2.1 w hw))
  · intro w hw
    rcases List.mem_cons.mp hw with rfl | hw
    · have := (List.mem_filter.mp hk).2
      simp only [vx_ot, this, Bool.or_true]
    · rcases List.mem_cons.mp hw with rfl | hw
      · have := (List.mem_filter.mp hini).2
        simp only [vx_ot, this, Bool.or_true]
      · exact List.all_eq_true.mp hot w hw
  · exact ⟨⟨ad, ho, hag, hn, hP.kept (fun k q hk => hq q.1 ((hP k q hk).lt)), hD⟩, Nat.le_trans hS.1 hsz, fun q h1 h2 => (hq q (Nat.lt_of_lt_of_le h1 hS.1)).trans (hS.2.1 q h1 h2)⟩
end PDN0
end PDI
