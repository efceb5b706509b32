section PDI
variable {cx : pd_X} {own : String} {cc : ByteArray} {rm : Room} {kc ks pc : Nat} {ls : List (Option Value)} {st : List Value} {I : pd_I} {J : pd_J} {F : pd_R} {n : Nat}
/-! ends, throws, catches, calls, new objects -/
/-- a text of Throwable's family: its row -/
theorem pd_text {A : Nat → Prop} {U : State} {H : Heap} (h : pd_G A U H) {own tx : String} {k : Nat} (hm : (own, k, tx) ∈ pd_strs) : ∃ sa, vk_R own k tx sa U := h.1 _ hm
theorem pd_iret (C : pd_C cx own cc rm) {ret : Option FieldType} {o : Except String (Option Value)} {x : Int32} {ty : FieldType} (hE : pd_E cx ret rm o I J F n) (ho : o = .ok (some (.int x))) (hr : ret = some ty) (hnr : narrow ty (.int x) = .int x) (hk : kc ≤ rm.cells ∧ ks ≤ rm.slots) (d : decode cc pc = .ok (.ireturn, 1)) : pd_V cx kc ks pc ls [.int x] I J F n := by
  obtain ⟨p, l, e, R, s, m, args, below, meth, c, D, tc, A, Q, n0, ad0, nL⟩ := cx
  intro ad H locs lsA hag hn hP hD hS hl hz
  obtain ⟨rfl, hret⟩ := hE
  refine vx_ret (W.widen (k := rm.cells) (n := rm.slots) hk.1 hk.2 ?_)
  exact W.zret C.1 C.2.1 (hret.trans hr) hnr (fun t ht hW => ⟨⟨_, ad, ho, rfl, hag, hn, by rw [ht]; exact hP, hD⟩, hS.F ht⟩) hS.2.2 d C.2.2.2.2.2.2.2.1
theorem pd_vret (C : pd_C cx own cc rm) {o : Except String (Option Value)} (hE : pd_E cx none rm o I J F n) (ho : o = .ok none) (hk : kc ≤ rm.cells ∧ ks ≤ rm.slots) (d : decode cc pc = .ok (.return_, 1)) : pd_V cx kc ks pc ls [] I J F n := by
  obtain ⟨p, l, e, R, s, m, args, below, meth, c, D, tc, A, Q, n0, ad0, nL⟩ := cx
  intro ad H locs lsA hag hn hP hD hS hl hz
  obtain ⟨rfl, hret⟩ := hE
  refine vx_ret (W.widen (k := rm.cells) (n := rm.slots) hk.1 hk.2 ?_)
  exact W.vret C.1 C.2.1 hret (fun t ht hW => ⟨⟨none, ad, ho, rfl, hag, hn, by rw [ht]; exact hP, hD⟩, hS.F ht⟩) hS.2.2 d C.2.2.2.2.2.2.2.1
theorem pd_lret (C : pd_C cx own cc rm) {o : Except String (Option Value)} {x : Int64} (hE : pd_E cx (some .long) rm o I J F n) (ho : o = .ok (some (.long x))) (hk : kc ≤ rm.cells ∧ ks ≤ rm.slots) (d : decode cc pc = .ok (.lreturn, 1)) : pd_V cx kc ks pc ls [.long x] I J F n := by
  obtain ⟨p, l, e, R, s, m, args, below, meth, c, D, tc, A, Q, n0, ad0, nL⟩ := cx
  intro ad H locs lsA hag hn hP hD hS hl hz
  obtain ⟨rfl, hret⟩ := hE
  refine vx_ret (W.widen (k := rm.cells) (n := rm.slots) hk.1 hk.2 ?_)
  exact W.lret C.1 C.2.1 hret (fun t ht hW => ⟨⟨_, ad, ho, rfl, hag, hn, by rw [ht]; exact hP, hD⟩, hS.F ht⟩) hS.2.2 d C.2.2.2.2.2.2.2.1
theorem pd_aret (C : pd_C cx own cc rm) {Cn : String} {o : Except String (Option Value)} {b : Nat} (hE : pd_E cx (some (.object Cn)) rm o I J F n) (ho : o = .ok (some (.ref b))) (hk : kc ≤ rm.cells ∧ ks ≤ rm.slots) (d : decode cc pc = .ok (.areturn, 1)) : pd_V cx kc ks pc ls [.ref b] I J F n := by
  obtain ⟨p, l, e, R, s, m, args, below, meth, c, D, tc, A, Q, n0, ad0, nL⟩ := cx
  intro ad H locs lsA hag hn hP hD hS hl hz
  obtain ⟨rfl, hret⟩ := hE
  refine vx_ret (W.widen (k := rm.cells) (n := rm.slots) hk.1 hk.2 ?_)
  exact W.aret C.1 C.2.1 hret (Or.inl ⟨_, rfl⟩) (Or.inr ⟨_, rfl⟩) (fun t ht hW => ⟨⟨_, ad, ho, rfl, hag, hn, by rw [ht]; exact hP, hD⟩, hS.F ht⟩) hS.2.2 d C.2.2.2.2.2.2.2.1
theorem pd_cats {ad : Nat → Nat} {st : List Value} : (st.map (pd_v ad)).map (fun v => v.category) = st.map (fun v => v.category) := by rw [List.map_map]; exact List.map_congr_left fun v _ => pd_v_cat ad v
theorem pd_oldL_dummy : True := trivial
def pd_exn : List String := ["java/lang/RuntimeException", "java/lang/Exception"]
theorem pd_throw0 (C : pd_C cx own cc rm) {ret : Option FieldType} {o : Except String (Option Value)} {cls text : String} {ik is ic : Nat} (hE : pd_E cx ret rm o I J F n) (ho : o = .error cls) (htab : ∀ x ∈ (cx.2.2.2.2.2.2.2.2.2.1).exceptionTable.toList, False)
    (hcls : Bundle.fit cls = true) (hk : Cond.classLink own ik cls ∈ pd_B) (hini : Cond.initialized cls ∈ pd_B) (hstr : (own, is, text) ∈ pd_strs) (hat : ∀ w ∈ (vx_atS own ic cls pd_exn).filter goodWord, w ∈ pd_B) (hnot : ∀ w ∈ (vx_atS own ic cls pd_exn).filter (fun w => !goodWord w), w ∈ pd_cast.map (fun C => Cond.castable C C) ++ pd_decl.map Cond.declares) (hot : (vx_atS own ic cls pd_exn).all vx_ot = true)
    (d0 : decode cc pc = .ok (.new ik, 3)) (d3 : decode cc (pc + 3) = .ok (.dup, 1)) (d4 : decode cc (pc + 4) = .ok (.ldc is, 2)) (d6 : decode cc (pc + 6) = .ok (.invokespecial ic, 3)) (d9 : decode cc (pc + 9) = .ok (.athrow, 1))
    (hR : 5 < rm.frames ∧ (st.map fun v => v.category).sum + 82 ≤ rm.locals ∧ kc + 1 ≤ rm.cells ∧ ks + 6 ≤ rm.slots) : pd_V cx kc ks pc ls st I J F n := by
  obtain ⟨p, l, e, R, s, m, args, below, meth, c, D, tc, A, Q, n0, ad0, nL⟩ := cx
  intro ad H locs lsA hag hn hP hD hS hl hz
  obtain ⟨hx, hb, hml, hown, hts, hK, hA, hlocks, rfl, hG, hst⟩ := C
  obtain ⟨rfl, hret⟩ := hE
  obtain ⟨sa, hsa⟩ := pd_text hG hstr
  have hcat : (st.map (pd_v ad)).map (fun v => v.category) = st.map (fun v => v.category) := by rw [List.map_map]; exact List.map_congr_left fun v _ => pd_v_cat ad v
  refine vx_throwS (names := pd_exn) (A := A) hx hb hst hown hcls (by decide) (hts _ hk) (hts _ hini) hsa ?_ ?_ hG.2.2.2.2.2.1 hG.2.2.2.2.2.2 hS (by rw [hml]; exact hl.1) d0 d3 d4 d6 d9 (fun x hx => (htab x hx).elim) hR.1 (by rw [hcat]; exact hR.2.1) hR.2.2.1 hR.2.2.2 hlocks (fun t hvm hsz hq => ?_) hS.2.2 hR.2.2.1 hR.2.2.2
  · refine vx_hat (fun w hw => hts w (hat w hw)) hnot (fun w hw => ?_)
    exact va_Nw.use (pd_onB hw) (hG.2.2.2.1 w hw)
  · intro w hw
    rcases List.mem_cons.mp hw with rfl | hw
    · have := (List.mem_filter.mp hk).2
      simp only [vx_ot, this, Bool.or_true]
    · rcases List.mem_cons.mp hw with rfl | hw
      · have := (List.mem_filter.mp hini).2
        simp only [vx_ot, this, Bool.or_true]
      · exact List.all_eq_true.mp hot w hw
  · refine ⟨⟨ad, ho, hag, hn, hP.kept (fun k q hk => hq q.1 ((hP k q hk).lt)), hD⟩, Nat.le_trans hS.1 hsz, fun q h1 h2 => (hq q (Nat.lt_of_lt_of_le h1 hS.1)).trans (hS.2.1 q h1 h2)⟩
theorem pd_throw0W (C : pd_C cx own cc rm) {ret : Option FieldType} {o : Except String (Option Value)} {cls text : String} {ik is ic : Nat} (hE : pd_E cx ret rm o I J F n) (ho : o = .error cls) (htab : ∀ x ∈ (cx.2.2.2.2.2.2.2.2.2.1).exceptionTable.toList, False)
    (hcls : Bundle.fit cls = true) (hk : Cond.classLink own ik cls ∈ pd_B) (hini : Cond.initialized cls ∈ pd_B) (hstr : (own, is, text) ∈ pd_strs) (hat : ∀ w ∈ (vx_atS own ic cls pd_exn).filter goodWord, w ∈ pd_B) (hnot : ∀ w ∈ (vx_atS own ic cls pd_exn).filter (fun w => !goodWord w), w ∈ pd_cast.map (fun C => Cond.castable C C) ++ pd_decl.map Cond.declares) (hot : (vx_atS own ic cls pd_exn).all vx_ot = true)
    (d0 : decode cc pc = .ok (.new ik, 3)) (d3 : decode cc (pc + 3) = .ok (.dup, 1)) (d4 : decode cc (pc + 4) = .ok (.ldc_w is, 3)) (d6 : decode cc (pc + 7) = .ok (.invokespecial ic, 3)) (d9 : decode cc (pc + 10) = .ok (.athrow, 1))
    (hR : 5 < rm.frames ∧ (st.map fun v => v.category).sum + 82 ≤ rm.locals ∧ kc + 1 ≤ rm.cells ∧ ks + 6 ≤ rm.slots) : pd_V cx kc ks pc ls st I J F n := by
  obtain ⟨p, l, e, R, s, m, args, below, meth, c, D, tc, A, Q, n0, ad0, nL⟩ := cx
  intro ad H locs lsA hag hn hP hD hS hl hz
  obtain ⟨hx, hb, hml, hown, hts, hK, hA, hlocks, rfl, hG, hst⟩ := C
  obtain ⟨rfl, hret⟩ := hE
  obtain ⟨sa, hsa⟩ := pd_text hG hstr
  have hcat : (st.map (pd_v ad)).map (fun v => v.category) = st.map (fun v => v.category) := by rw [List.map_map]; exact List.map_congr_left fun v _ => pd_v_cat ad v
  refine vx_throwSW (names := pd_exn) (A := A) hx hb hst hown hcls (by decide) (hts _ hk) (hts _ hini) hsa ?_ ?_ hG.2.2.2.2.2.1 hG.2.2.2.2.2.2 hS (by rw [hml]; exact hl.1) d0 d3 d4 d6 d9 (fun x hx => (htab x hx).elim) hR.1 (by rw [hcat]; exact hR.2.1) hR.2.2.1 hR.2.2.2 hlocks (fun t hvm hsz hq => ?_) hS.2.2 hR.2.2.1 hR.2.2.2
  · refine vx_hat (fun w hw => hts w (hat w hw)) hnot (fun w hw => ?_)
    exact va_Nw.use (pd_onB hw) (hG.2.2.2.1 w hw)
  · intro w hw
    rcases List.mem_cons.mp hw with rfl | hw
    · have := (List.mem_filter.mp hk).2
      simp only [vx_ot, this, Bool.or_true]
    · rcases List.mem_cons.mp hw with rfl | hw
      · have := (List.mem_filter.mp hini).2
        simp only [vx_ot, this, Bool.or_true]
      · exact List.all_eq_true.mp hot w hw
  · refine ⟨⟨ad, ho, hag, hn, hP.kept (fun k q hk => hq q.1 ((hP k q hk).lt)), hD⟩, Nat.le_trans hS.1 hsz, fun q h1 h2 => (hq q (Nat.lt_of_lt_of_le h1 hS.1)).trans (hS.2.1 q h1 h2)⟩
theorem pd_prop (C : pd_C cx own cc rm) {ret : Option FieldType} {o : Except String (Option Value)} {E : String} (hE : pd_E cx ret rm o I J F n) (ho : o = .error E) (htab : ∀ x ∈ (cx.2.2.2.2.2.2.2.2.2.1).exceptionTable.toList, False) (hk : kc ≤ rm.cells ∧ ks ≤ rm.slots) : pd_VX cx kc ks pc ls E I J F n := by
  obtain ⟨p, l, e, R, s, m, args, below, meth, c, D, tc, A, Q, n0, ad0, nL⟩ := cx
  intro ad H locs lsA rest q ce hag hn hP hD hS hl hz hce hv hcl
  obtain ⟨rfl, hret⟩ := hE
  exact vx_out (fun x hx => (htab x hx).elim) C.2.2.2.2.2.2.2.1 hce hv hcl (fun t ht hvm => ⟨⟨ad, ho, hag, hn, by rw [ht]; exact hP, hD⟩, hS.F ht⟩) hS.2.2 hk.1 hk.2
/-- a method's words, told once -/
def pd_mv (y : MethodName) (bytes : ByteArray) (maxL : Nat) (ret : Option FieldType) (k : Nat) : Prop :=
  Cond.instanceMethod y ∈ pd_B ∧ Cond.selects y.cls y y ∈ pd_B ∧ Cond.initialized y.cls ∈ pd_B ∧ Cond.code y bytes maxL ret ∈ pd_B ∧ (y.cls ≠ "java/lang/invoke/MethodHandle" ∧ y.cls ≠ "java/lang/invoke/VarHandle" ∧ (parseMethodDescriptor y.desc).map (fun d => d.parameters.length) = some k)
def pd_ms (y : MethodName) (bytes : ByteArray) (maxL : Nat) (ret : Option FieldType) (k : Nat) : Prop :=
  Cond.static y ∈ pd_B ∧ Cond.initialized y.cls ∈ pd_B ∧ Cond.code y bytes maxL ret ∈ pd_B ∧ (y.cls ≠ "java/lang/invoke/MethodHandle" ∧ y.cls ≠ "java/lang/invoke/VarHandle" ∧ (parseMethodDescriptor y.desc).map (fun d => d.parameters.length) = some k)
def pd_mw (y : MethodName) (bytes : ByteArray) (maxL : Nat) (ret : Option FieldType) (hh : List (Nat × Nat × Nat × Nat)) (k : Nat) : Prop :=
  Cond.static y ∈ pd_B ∧ Cond.initialized y.cls ∈ pd_B ∧ Cond.codeWith y bytes maxL ret hh ∈ pd_B ∧ (y.cls ≠ "java/lang/invoke/MethodHandle" ∧ y.cls ≠ "java/lang/invoke/VarHandle" ∧ (parseMethodDescriptor y.desc).map (fun d => d.parameters.length) = some k)
def pd_mi (y : MethodName) (bytes : ByteArray) (maxL : Nat) (k : Nat) : Prop :=
  Cond.instanceMethod y ∈ pd_B ∧ Cond.initialized y.cls ∈ pd_B ∧ Cond.code y bytes maxL none ∈ pd_B ∧ y.name = "<init>" ∧ (y.cls ≠ "java/lang/invoke/MethodHandle" ∧ y.cls ≠ "java/lang/invoke/VarHandle" ∧ (parseMethodDescriptor y.desc).map (fun d => d.parameters.length) = some k)
/-- frames and locals of a callee fit -/
abbrev pd_fit (rmY : Room) (maxL : Nat) (rm : Room) (kc ks : Nat) : Prop := rmY.frames + 1 ≤ rm.frames ∧ 8 + (maxL + 11) + rmY.locals ≤ rm.locals ∧ kc + rmY.cells ≤ rm.cells ∧ ks + rmY.slots ≤ rm.slots
theorem pd_goodIn {c : Cond} {Ts : List Cond} (hB : ∀ w ∈ pd_B, w ∈ Ts) (hc : c ∈ pd_B) : GoodIn Ts (c :: pd_B) := fun w hw => by
  have h : w ∈ pd_B := by rcases List.mem_cons.mp hw with rfl | h; exact hc; exact h
  exact ⟨hB w h, good_of_word (List.mem_filter.mp h).2⟩
/-- refs of these values are of objects made before n, or beyond n' -/
def pd_old (n n' : Nat) (v : Value) : Prop := ∀ k, v = .ref k → k < n ∨ n' ≤ k
theorem pd_old_v {n n' : Nat} {ad ad' : Nat → Nat} (h : pd_ag n n' ad' ad) {v : Value} (hv : pd_old n n' v) : pd_v ad' v = pd_v ad v := by
  cases v with
  | ref k => simp only [pd_v]; rw [h k (hv k rfl)]
  | _ => rfl
def pd_oldL (n n' : Nat) (ls : List (Option Value)) : Prop := ∀ v, some v ∈ ls → pd_old n n' v
theorem pd_old_ls {n n' : Nat} {ad ad' : Nat → Nat} (h : pd_ag n n' ad' ad) {ls : List (Option Value)} (hv : pd_oldL n n' ls) (j : Nat) : pd_lv ad' j ls = pd_lv ad j ls := by
  induction ls generalizing j with
  | nil => rfl
  | cons x r ih =>
    have ih := fun j => ih (fun v hv' => hv v (List.mem_cons_of_mem _ hv')) j
    cases x with
    | none => simp only [pd_lv]; exact ih (j + 1)
    | some v => simp only [pd_lv]; rw [ih (j + 1), pd_old_v h (hv v List.mem_cons_self)]
theorem pd_old_st {n n' : Nat} {ad ad' : Nat → Nat} (h : pd_ag n n' ad' ad) {st : List Value} (hv : ∀ v ∈ st, pd_old n n' v) : st.map (pd_v ad') = st.map (pd_v ad) := List.map_congr_left fun v hv' => pd_old_v h (hv v hv')
theorem pd_old_same {n : Nat} (v : Value) : pd_old n n v := fun k _ => Nat.lt_or_ge k n
theorem pd_pre {D : va_G} {tc : Nat → ClassId} {s : State} {A : Nat → Prop} {H : Heap} {locs : List Loc} {ad : Nat → Nat} {As : List Value} (hK : va_K D vwCl (pd_tys tc) s) (hG : pd_G A s s.heap) (hA : ∀ q, s.heap.size ≤ q → A q) (hP : va_P D vwCl (pd_w ad tc I J F n) H) (hD : va_D A (pd_w ad tc I J F n)) (hS : va_S A s.heap H locs) :
    PreS s H (pd_P D tc As I J F n ad H.size) (As.map (pd_v ad)) ∧ (∀ q, va_A (pd_w ad tc I J F n) H.size q → A q) := by
  have hAA : ∀ q, va_A (pd_w ad tc I J F n) H.size q → A q := fun q h => by
    rcases h with ⟨k, e, h⟩ | h
    · exact hD.2 k (q, e) h
    · exact hA q (Nat.le_trans hS.1 h)
  refine ⟨⟨pd_P_blind, fun U hU hW => ⟨rfl, by rw [hU], by rw [hU]; exact hP, va_K.moved hW.alike hK, hD.weaken (fun _ _ _ _ => trivial), ?_⟩⟩, hAA⟩
  rw [hU]
  exact ((hG.kept hS.2.1).warm hW).narrow hAA
theorem pd_after {p : Program} {l : Launch} {e : Env} {R : Room} {s : State} {m : MethodId} {args : Array Value} {below : List Frame} {meth : Method} {c : Code} {D : va_G} {tc : Nat → ClassId} {A : Nat → Prop} {Q : State → Prop} {n0 : Nat} {ad0 : Nat → Nat} {nL : Nat} {H : Heap} {locs : List Loc} {lsA : Array Slot} {ad : Nat → Nat} {st0 rest : List Value} {a : Array Value} {mc ms : Nat} {v : Option Value} {I' : pd_I} {J' : pd_J} {F' : pd_R} {n' : Nat}
    (hr : vx_Run p l e R s m args below meth c H locs kc ks mc ms (F0 m pc lsA st0) (rest.map (pd_v ad)) (pd_Qc D tc n ad (va_A (pd_w ad tc I J F n) H.size) (.ok v) I' J' F' n' a) (pd_Xc D tc n ad (va_A (pd_w ad tc I J F n) H.size) (.ok v) I' J' F' n') (va_A (pd_w ad tc I J F n) H.size))
    (hag : pd_ag n0 n ad ad0) (hn : n0 ≤ n) (hS : va_S A s.heap H locs) (hAA : ∀ q, va_A (pd_w ad tc I J F n) H.size q → A q) (hl : lv_has lsA nL (pd_lv ad 0 ls)) (hz : ls.length = nL) (hls : pd_oldL n n' ls) (hrs : ∀ w ∈ rest, pd_old n n' w)
    (k : pd_V (p, l, e, R, s, m, args, below, meth, c, D, tc, A, Q, n0, ad0, nL) (kc + mc) (ks + ms) (pc + 3) ls (v.toList ++ rest) I' J' F' n') : W p l e R s m args below meth c H locs kc ks Q (F0 m pc lsA st0) := by
  intro T hT X
  rcases hr T hT X with ⟨v0, st₀, t, T', L, h0, X', hL, e1, e2, ⟨⟨v1, ad', hv, hoc, hag', hnn, hP1, hD1⟩, hF⟩, stp⟩ | ⟨q, st₀, t, T', L, E, ce, h0, X', hL, e1, e2, ⟨⟨ad', hE, -⟩, -⟩, -⟩
  · cases hv
    cases hoc
    obtain ⟨z, hk, hS'⟩ := vx_keep h0 e1 hS (fun q _ h => hAA q h) hAA hL hF
    obtain ⟨tt, a1, b1⟩ := k ad' T'.heap (locs ++ L) lsA (hag'.trans hag hnn hn) (Nat.le_trans hn hnn) (by rw [e1]; exact hP1) (hD1.weaken (fun _ q _ h => hAA q.1 h)) hS' (by rw [pd_old_ls hag' hls]; exact hl) hz T' rfl X'
    refine ⟨tt, stp tt ?_, b1⟩
    rw [List.map_append, pd_old_st hag' hrs] at a1
    cases v with
    | none => exact a1
    | some w => exact a1
  · cases hE
theorem pd_afterX {p : Program} {l : Launch} {e : Env} {R : Room} {s : State} {m : MethodId} {args : Array Value} {below : List Frame} {meth : Method} {c : Code} {D : va_G} {tc : Nat → ClassId} {A : Nat → Prop} {Q : State → Prop} {n0 : Nat} {ad0 : Nat → Nat} {nL : Nat} {H : Heap} {locs : List Loc} {lsA : Array Slot} {ad : Nat → Nat} {st0 rest : List Value} {a : Array Value} {mc ms : Nat} {E : String} {I' : pd_I} {J' : pd_J} {F' : pd_R}
    (hr : vx_Run p l e R s m args below meth c H locs kc ks mc ms (F0 m pc lsA st0) (rest.map (pd_v ad)) (pd_Qc D tc n ad (va_A (pd_w ad tc I J F n) H.size) (.error E) I' J' F' n a) (pd_Xc D tc n ad (va_A (pd_w ad tc I J F n) H.size) (.error E) I' J' F' n) (va_A (pd_w ad tc I J F n) H.size))
    (hag : pd_ag n0 n ad ad0) (hn : n0 ≤ n) (hS : va_S A s.heap H locs) (hAA : ∀ q, va_A (pd_w ad tc I J F n) H.size q → A q) (hl : lv_has lsA nL (pd_lv ad 0 ls)) (hz : ls.length = nL)
    (k : pd_VX (p, l, e, R, s, m, args, below, meth, c, D, tc, A, Q, n0, ad0, nL) (kc + mc) (ks + ms) pc ls E I' J' F' n) : W p l e R s m args below meth c H locs kc ks Q (F0 m pc lsA st0) := by
  intro T hT X
  rcases hr T hT X with ⟨v0, st₀, t, T', L, h0, X', hL, e1, e2, ⟨⟨v1, ad', hv, -⟩, -⟩, -⟩ | ⟨q, st₀, t, T', L, E1, ce, h0, X', hL, e1, e2, ⟨⟨ad', hE, hag', hnn, hP1, hD1⟩, hF⟩, hce, hcv, hcl, stp⟩
  · cases hv
  · cases hE
    obtain ⟨z, hk, hS'⟩ := vx_keep h0 e1 hS (fun q _ h => hAA q h) hAA hL hF
    have he := hag'.same
    subst he
    obtain ⟨tt, a1, b1⟩ := k ad' T'.heap (locs ++ L) lsA (rest.map (pd_v ad')) q ce hag hn (by rw [e1]; exact hP1) (hD1.weaken (fun _ q _ h => hAA q.1 h)) hS' hl hz (by rw [e1]; exact hce) hcv hcl T' rfl X'
    exact ⟨tt, stp.trans a1, b1⟩
end PDI
