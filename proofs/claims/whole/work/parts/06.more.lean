section PDK
variable {cx : pd_X} {own : String} {cc : ByteArray} {rm : Room} {kc ks pc : Nat} {ls : List (Option Value)} {st : List Value} {I : pd_I} {J : pd_J} {F : pd_R} {n : Nat}
theorem pd_callV (C : pd_C cx own cc rm) {y : MethodName} {bytes : ByteArray} {maxL index : Nat} {ret : Option FieldType} {rmY : Room} {b : Nat} (As rest : List Value) {stk : List Value} {v : Option Value} {I' : pd_I} {J' : pd_J} {F' : pd_R} {n' : Nat} (hM : pd_M (pd_l cx) (pd_D cx) (pd_tc cx) y (.code y bytes maxL ret) rmY (.ref b :: As) I J F n (.ok v) I' J' F' n') (hw : pd_mv y bytes maxL ret As.length) (hlk : Cond.methodLink own index y ∈ pd_B) {t N : Nat} {T : u_T} (hc : vwCl[t]? = some (y.cls, T, N)) (ht : t < 13) (hbn : b < n) (hsb : pd_SH b = (t, N)) (hf : pd_fit rmY maxL rm kc ks) (hstk : stk = As.reverse ++ .ref b :: rest) (h8 : (rest.map fun v => v.category).sum ≤ 8) (hls : pd_oldL n n' ls) (hrs : ∀ w ∈ rest, pd_old n n' w) (d : decode cc pc = .ok (.invokevirtual index, 3)) {stk' : List Value} (hs' : v.toList ++ rest = stk') (k : pd_V cx (kc + rmY.cells) (ks + rmY.slots) (pc + 3) ls stk' I' J' F' n') : pd_V cx kc ks pc ls stk I J F n := by
  subst hstk
  subst hs'
  obtain ⟨p, l, e, R, s, m, args, below, meth, c, D, tc, A, Q, n0, ad0, nL⟩ := cx
  intro ad H locs lsA hag hn hP hD hS hl hz
  obtain ⟨hx, hb, hml, hown, hts, hK, hA, hlocks, rfl, hG, hst⟩ := C
  obtain ⟨hp, hAA⟩ := pd_pre (As := (.ref b :: As)) hK hG hA hP hD hS
  have hcat : ((rest.map (pd_v ad)).map fun v => v.category).sum ≤ 8 := by rw [pd_cats]; exact h8
  obtain ⟨w1, w2, w3, w4, w5⟩ := hw
  have cw : CallW R s args own y.cls index y bytes maxL ret (.code y bytes maxL ret :: pd_B) rmY rmY.cells rmY.slots As.length := ⟨callB_of As.length hts (pd_goodIn (fun w h => h) w4) rfl rfl rfl (hts _ w3) (hts _ hlk) w5 ⟨hf.1, hf.2.1⟩, hts _ w1, hts _ w2⟩
  have hrv := va_recv hK hP hc ((pd_w_get hbn).trans (by rw [pd_c_obj hsb ht]))
  exact pd_after (vx_runV (As := As.map (pd_v ad)) (rest := rest.map (pd_v ad)) ⟨hx, hb, hml, hown, hts⟩ (hM ad H.size) cw ⟨hp.1, hrv, hp.2⟩ (g := F0 m pc lsA ((As.reverse ++ .ref b :: rest).map (pd_v ad))) rfl (by simp) hl.1 (by simp [List.map_reverse, pd_v]) (lv_room hcat) d ⟨hf.2.2.1, hf.2.2.2⟩) hag hn hS hAA hl hz hls hrs k
theorem pd_callS (C : pd_C cx own cc rm) {y : MethodName} {bytes : ByteArray} {maxL index : Nat} {ret : Option FieldType} {rmY : Room} (As rest : List Value) {stk : List Value} {v : Option Value} {I' : pd_I} {J' : pd_J} {F' : pd_R} {n' : Nat} (hM : pd_M (pd_l cx) (pd_D cx) (pd_tc cx) y (.code y bytes maxL ret) rmY As I J F n (.ok v) I' J' F' n') (hw : pd_ms y bytes maxL ret As.length) (hlk : Cond.methodLink own index y ∈ pd_B) (hf : pd_fit rmY maxL rm kc ks) (hstk : stk = As.reverse ++ rest) (h8 : (rest.map fun v => v.category).sum ≤ 8) (hls : pd_oldL n n' ls) (hrs : ∀ w ∈ rest, pd_old n n' w) (d : decode cc pc = .ok (.invokestatic index, 3)) {stk' : List Value} (hs' : v.toList ++ rest = stk') (k : pd_V cx (kc + rmY.cells) (ks + rmY.slots) (pc + 3) ls stk' I' J' F' n') : pd_V cx kc ks pc ls stk I J F n := by
  subst hstk
  subst hs'
  obtain ⟨p, l, e, R, s, m, args, below, meth, c, D, tc, A, Q, n0, ad0, nL⟩ := cx
  intro ad H locs lsA hag hn hP hD hS hl hz
  obtain ⟨hx, hb, hml, hown, hts, hK, hA, hlocks, rfl, hG, hst⟩ := C
  obtain ⟨hp, hAA⟩ := pd_pre (As := As) hK hG hA hP hD hS
  have hcat : ((rest.map (pd_v ad)).map fun v => v.category).sum ≤ 8 := by rw [pd_cats]; exact h8
  obtain ⟨w1, w3, w4, w5⟩ := hw
  have cw := (⟨callB_of As.length hts (pd_goodIn (fun w h => h) w4) rfl rfl rfl (hts _ w3) (hts _ hlk) w5 ⟨hf.1, hf.2.1⟩, hts _ w1⟩ : CallB R s args own index y bytes maxL ret (.code y bytes maxL ret :: pd_B) rmY rmY.cells rmY.slots As.length ∧ (Cond.static y).before args s = true)
  exact pd_after (vx_runS (As := As.map (pd_v ad)) (rest := rest.map (pd_v ad)) ⟨hx, hb, hml, hown, hts⟩ (hM ad H.size) cw hp (g := F0 m pc lsA ((As.reverse ++ rest).map (pd_v ad))) rfl (by simp) hl.1 (by simp [List.map_reverse, pd_v]) (lv_room hcat) d ⟨hf.2.2.1, hf.2.2.2⟩) hag hn hS hAA hl hz hls hrs k
theorem pd_callI (C : pd_C cx own cc rm) {y : MethodName} {bytes : ByteArray} {maxL index : Nat} {rmY : Room} {b : Nat} (As rest : List Value) {stk : List Value} {v : Option Value} {I' : pd_I} {J' : pd_J} {F' : pd_R} {n' : Nat} (hM : pd_M (pd_l cx) (pd_D cx) (pd_tc cx) y (.code y bytes maxL none) rmY (.ref b :: As) I J F n (.ok v) I' J' F' n') (hw : pd_mi y bytes maxL As.length) (hlk : Cond.methodLink own index y ∈ pd_B) (hf : pd_fit rmY maxL rm kc ks) (hstk : stk = As.reverse ++ .ref b :: rest) (h8 : (rest.map fun v => v.category).sum ≤ 8) (hls : pd_oldL n n' ls) (hrs : ∀ w ∈ rest, pd_old n n' w) (d : decode cc pc = .ok (.invokespecial index, 3)) {stk' : List Value} (hs' : v.toList ++ rest = stk') (k : pd_V cx (kc + rmY.cells) (ks + rmY.slots) (pc + 3) ls stk' I' J' F' n') : pd_V cx kc ks pc ls stk I J F n := by
  subst hstk
  subst hs'
  obtain ⟨p, l, e, R, s, m, args, below, meth, c, D, tc, A, Q, n0, ad0, nL⟩ := cx
  intro ad H locs lsA hag hn hP hD hS hl hz
  obtain ⟨hx, hb, hml, hown, hts, hK, hA, hlocks, rfl, hG, hst⟩ := C
  obtain ⟨hp, hAA⟩ := pd_pre (As := (.ref b :: As)) hK hG hA hP hD hS
  have hcat : ((rest.map (pd_v ad)).map fun v => v.category).sum ≤ 8 := by rw [pd_cats]; exact h8
  obtain ⟨w1, w3, w4, w6, w5⟩ := hw
  have cw := (⟨callB_of As.length hts (pd_goodIn (fun w h => h) w4) rfl rfl rfl (hts _ w3) (hts _ hlk) w5 ⟨hf.1, hf.2.1⟩, w6, hts _ w1⟩ : CallB R s args own index y bytes maxL none (.code y bytes maxL none :: pd_B) rmY rmY.cells rmY.slots As.length ∧ y.name = "<init>" ∧ (Cond.instanceMethod y).before args s = true)
  exact pd_after (vx_runI (As := As.map (pd_v ad)) (rest := rest.map (pd_v ad)) ⟨hx, hb, hml, hown, hts⟩ (hM ad H.size) cw hp (g := F0 m pc lsA ((As.reverse ++ .ref b :: rest).map (pd_v ad))) rfl (by simp) hl.1 (by simp [List.map_reverse, pd_v]) (lv_room hcat) d ⟨hf.2.2.1, hf.2.2.2⟩) hag hn hS hAA hl hz hls hrs k
theorem pd_callN (C : pd_C cx own cc rm) {y : MethodName} {bytes : ByteArray} {maxL index : Nat} {host : String} {rmY : Room} {b : Nat} (As rest : List Value) {stk : List Value} {v : Option Value} {I' : pd_I} {J' : pd_J} {F' : pd_R} {n' : Nat} (hM : pd_M (pd_l cx) (pd_D cx) (pd_tc cx) y (.code y bytes maxL none) rmY (.ref b :: As) I J F n (.ok v) I' J' F' n') (hw : pd_mi y bytes maxL As.length) (hlk : (own, index, y, host) ∈ pd_nest) (hf : pd_fit rmY maxL rm kc ks) (hstk : stk = As.reverse ++ .ref b :: rest) (h8 : (rest.map fun v => v.category).sum ≤ 8) (hls : pd_oldL n n' ls) (hrs : ∀ w ∈ rest, pd_old n n' w) (d : decode cc pc = .ok (.invokespecial index, 3)) {stk' : List Value} (hs' : v.toList ++ rest = stk') (k : pd_V cx (kc + rmY.cells) (ks + rmY.slots) (pc + 3) ls stk' I' J' F' n') : pd_V cx kc ks pc ls stk I J F n := by
  subst hstk
  subst hs'
  obtain ⟨p, l, e, R, s, m, args, below, meth, c, D, tc, A, Q, n0, ad0, nL⟩ := cx
  intro ad H locs lsA hag hn hP hD hS hl hz
  obtain ⟨hx, hb, hml, hown, hts, hK, hA, hlocks, rfl, hG, hst⟩ := C
  obtain ⟨hp, hAA⟩ := pd_pre (As := (.ref b :: As)) hK hG hA hP hD hS
  have hcat : ((rest.map (pd_v ad)).map fun v => v.category).sum ≤ 8 := by rw [pd_cats]; exact h8
  obtain ⟨w1, w3, w4, w6, w5⟩ := hw
  have cw := (⟨va_cnB As.length hts (pd_goodIn (fun w h => h) w4) rfl rfl rfl (hG.2.1 _ hlk) (hts _ w3) w5 ⟨hf.1, hf.2.1⟩, w6, hts _ w1⟩ : va_CN R s args own index y host bytes maxL none (.code y bytes maxL none :: pd_B) rmY rmY.cells rmY.slots As.length ∧ y.name = "<init>" ∧ (Cond.instanceMethod y).before args s = true)
  exact pd_after (vx_runIN (As := As.map (pd_v ad)) (rest := rest.map (pd_v ad)) ⟨hx, hb, hml, hown, hts⟩ (hM ad H.size) cw hp (g := F0 m pc lsA ((As.reverse ++ .ref b :: rest).map (pd_v ad))) rfl (by simp) hl.1 (by simp [List.map_reverse, pd_v]) (lv_room hcat) d ⟨hf.2.2.1, hf.2.2.2⟩) hag hn hS hAA hl hz hls hrs k
theorem pd_callW (C : pd_C cx own cc rm) {y : MethodName} {bytes : ByteArray} {maxL index : Nat} {ret : Option FieldType} {hh : List (Nat × Nat × Nat × Nat)} {rmY : Room} (As rest : List Value) {stk : List Value} {v : Option Value} {I' : pd_I} {J' : pd_J} {F' : pd_R} {n' : Nat} (hM : pd_M (pd_l cx) (pd_D cx) (pd_tc cx) y (.codeWith y bytes maxL ret hh) rmY As I J F n (.ok v) I' J' F' n') (hw : pd_mw y bytes maxL ret hh As.length) (hlk : Cond.methodLink own index y ∈ pd_B) (hf : pd_fit rmY maxL rm kc ks) (hstk : stk = As.reverse ++ rest) (h8 : (rest.map fun v => v.category).sum ≤ 8) (hls : pd_oldL n n' ls) (hrs : ∀ w ∈ rest, pd_old n n' w) (d : decode cc pc = .ok (.invokestatic index, 3)) {stk' : List Value} (hs' : v.toList ++ rest = stk') (k : pd_V cx (kc + rmY.cells) (ks + rmY.slots) (pc + 3) ls stk' I' J' F' n') : pd_V cx kc ks pc ls stk I J F n := by
  subst hstk
  subst hs'
  obtain ⟨p, l, e, R, s, m, args, below, meth, c, D, tc, A, Q, n0, ad0, nL⟩ := cx
  intro ad H locs lsA hag hn hP hD hS hl hz
  obtain ⟨hx, hb, hml, hown, hts, hK, hA, hlocks, rfl, hG, hst⟩ := C
  obtain ⟨hp, hAA⟩ := pd_pre (As := As) hK hG hA hP hD hS
  have hcat : ((rest.map (pd_v ad)).map fun v => v.category).sum ≤ 8 := by rw [pd_cats]; exact h8
  obtain ⟨w1, w3, w4, w5⟩ := hw
  have cw : vx_CSW R s args own index y bytes maxL ret hh (.codeWith y bytes maxL ret hh :: pd_B) rmY rmY.cells rmY.slots As.length := ⟨⟨rfl, rfl, hf.1, hf.2.1, pay_in hts (pd_goodIn (fun w h => h) w4), List.mem_cons_self⟩, hts _ w4, hts _ w3, ⟨w5.1, w5.2.1⟩, fun sig h => by have h2 := w5.2.2; rw [h] at h2; exact (Option.some.inj h2).symm, hts _ hlk, hts _ w1⟩
  exact pd_after (vx_runSX (As := As.map (pd_v ad)) (rest := rest.map (pd_v ad)) ⟨hx, hb, hml, hown, hts⟩ (hM ad H.size) cw hp (g := F0 m pc lsA ((As.reverse ++ rest).map (pd_v ad))) rfl (by simp) hl.1 (by simp [List.map_reverse, pd_v]) (lv_room hcat) d ⟨hf.2.2.1, hf.2.2.2⟩) hag hn hS hAA hl hz hls hrs k
theorem pd_callM (C : pd_C cx own cc rm) {y : MethodName} {bytes : ByteArray} {maxL index : Nat} {ret : Option FieldType} {host : String} {rmY : Room} (As rest : List Value) {stk : List Value} {v : Option Value} {I' : pd_I} {J' : pd_J} {F' : pd_R} {n' : Nat} (hM : pd_M (pd_l cx) (pd_D cx) (pd_tc cx) y (.code y bytes maxL ret) rmY As I J F n (.ok v) I' J' F' n') (hw : pd_ms y bytes maxL ret As.length) (hlk : (own, index, y, host) ∈ pd_nest) (hf : pd_fit rmY maxL rm kc ks) (hstk : stk = As.reverse ++ rest) (h8 : (rest.map fun v => v.category).sum ≤ 8) (hls : pd_oldL n n' ls) (hrs : ∀ w ∈ rest, pd_old n n' w) (d : decode cc pc = .ok (.invokestatic index, 3)) {stk' : List Value} (hs' : v.toList ++ rest = stk') (k : pd_V cx (kc + rmY.cells) (ks + rmY.slots) (pc + 3) ls stk' I' J' F' n') : pd_V cx kc ks pc ls stk I J F n := by
  subst hstk
  subst hs'
  obtain ⟨p, l, e, R, s, m, args, below, meth, c, D, tc, A, Q, n0, ad0, nL⟩ := cx
  intro ad H locs lsA hag hn hP hD hS hl hz
  obtain ⟨hx, hb, hml, hown, hts, hK, hA, hlocks, rfl, hG, hst⟩ := C
  obtain ⟨hp, hAA⟩ := pd_pre (As := As) hK hG hA hP hD hS
  have hcat : ((rest.map (pd_v ad)).map fun v => v.category).sum ≤ 8 := by rw [pd_cats]; exact h8
  obtain ⟨w1, w3, w4, w5⟩ := hw
  have cw := (⟨va_cnB As.length hts (pd_goodIn (fun w h => h) w4) rfl rfl rfl (hG.2.1 _ hlk) (hts _ w3) w5 ⟨hf.1, hf.2.1⟩, hts _ w1, trivial⟩ : va_CN R s args own index y host bytes maxL ret (.code y bytes maxL ret :: pd_B) rmY rmY.cells rmY.slots As.length ∧ (Cond.static y).before args s = true ∧ True)
  exact pd_after (vx_runSN (As := As.map (pd_v ad)) (rest := rest.map (pd_v ad)) ⟨hx, hb, hml, hown, hts⟩ (hM ad H.size) cw hp (g := F0 m pc lsA ((As.reverse ++ rest).map (pd_v ad))) rfl (by simp) hl.1 (by simp [List.map_reverse, pd_v]) (lv_room hcat) d ⟨hf.2.2.1, hf.2.2.2⟩) hag hn hS hAA hl hz hls hrs k
theorem pd_callVX (C : pd_C cx own cc rm) {y : MethodName} {bytes : ByteArray} {maxL index : Nat} {ret : Option FieldType} {rmY : Room} {b : Nat} (As rest : List Value) {stk : List Value} {E : String} {I' : pd_I} {J' : pd_J} {F' : pd_R} (hM : pd_M (pd_l cx) (pd_D cx) (pd_tc cx) y (.code y bytes maxL ret) rmY (.ref b :: As) I J F n (.error E) I' J' F' n) (hw : pd_mv y bytes maxL ret As.length) (hlk : Cond.methodLink own index y ∈ pd_B) {t N : Nat} {T : u_T} (hc : vwCl[t]? = some (y.cls, T, N)) (ht : t < 13) (hbn : b < n) (hsb : pd_SH b = (t, N)) (hf : pd_fit rmY maxL rm kc ks) (hstk : stk = As.reverse ++ .ref b :: rest) (h8 : (rest.map fun v => v.category).sum ≤ 8) (d : decode cc pc = .ok (.invokevirtual index, 3)) (k : pd_VX cx (kc + rmY.cells) (ks + rmY.slots) pc ls E I' J' F' n) : pd_V cx kc ks pc ls stk I J F n := by
  subst hstk
  obtain ⟨p, l, e, R, s, m, args, below, meth, c, D, tc, A, Q, n0, ad0, nL⟩ := cx
  intro ad H locs lsA hag hn hP hD hS hl hz
  obtain ⟨hx, hb, hml, hown, hts, hK, hA, hlocks, rfl, hG, hst⟩ := C
  obtain ⟨hp, hAA⟩ := pd_pre (As := (.ref b :: As)) hK hG hA hP hD hS
  have hcat : ((rest.map (pd_v ad)).map fun v => v.category).sum ≤ 8 := by rw [pd_cats]; exact h8
  obtain ⟨w1, w2, w3, w4, w5⟩ := hw
  have cw : CallW R s args own y.cls index y bytes maxL ret (.code y bytes maxL ret :: pd_B) rmY rmY.cells rmY.slots As.length := ⟨callB_of As.length hts (pd_goodIn (fun w h => h) w4) rfl rfl rfl (hts _ w3) (hts _ hlk) w5 ⟨hf.1, hf.2.1⟩, hts _ w1, hts _ w2⟩
  have hrv := va_recv hK hP hc ((pd_w_get hbn).trans (by rw [pd_c_obj hsb ht]))
  exact pd_afterX (vx_runV (As := As.map (pd_v ad)) (rest := rest.map (pd_v ad)) ⟨hx, hb, hml, hown, hts⟩ (hM ad H.size) cw ⟨hp.1, hrv, hp.2⟩ (g := F0 m pc lsA ((As.reverse ++ .ref b :: rest).map (pd_v ad))) rfl (by simp) hl.1 (by simp [List.map_reverse, pd_v]) (lv_room hcat) d ⟨hf.2.2.1, hf.2.2.2⟩) hag hn hS hAA hl hz k
theorem pd_callSX (C : pd_C cx own cc rm) {y : MethodName} {bytes : ByteArray} {maxL index : Nat} {ret : Option FieldType} {rmY : Room} (As rest : List Value) {stk : List Value} {E : String} {I' : pd_I} {J' : pd_J} {F' : pd_R} (hM : pd_M (pd_l cx) (pd_D cx) (pd_tc cx) y (.code y bytes maxL ret) rmY As I J F n (.error E) I' J' F' n) (hw : pd_ms y bytes maxL ret As.length) (hlk : Cond.methodLink own index y ∈ pd_B) (hf : pd_fit rmY maxL rm kc ks) (hstk : stk = As.reverse ++ rest) (h8 : (rest.map fun v => v.category).sum ≤ 8) (d : decode cc pc = .ok (.invokestatic index, 3)) (k : pd_VX cx (kc + rmY.cells) (ks + rmY.slots) pc ls E I' J' F' n) : pd_V cx kc ks pc ls stk I J F n := by
  subst hstk
  obtain ⟨p, l, e, R, s, m, args, below, meth, c, D, tc, A, Q, n0, ad0, nL⟩ := cx
  intro ad H locs lsA hag hn hP hD hS hl hz
  obtain ⟨hx, hb, hml, hown, hts, hK, hA, hlocks, rfl, hG, hst⟩ := C
  obtain ⟨hp, hAA⟩ := pd_pre (As := As) hK hG hA hP hD hS
  have hcat : ((rest.map (pd_v ad)).map fun v => v.category).sum ≤ 8 := by rw [pd_cats]; exact h8
  obtain ⟨w1, w3, w4, w5⟩ := hw
  have cw := (⟨callB_of As.length hts (pd_goodIn (fun w h => h) w4) rfl rfl rfl (hts _ w3) (hts _ hlk) w5 ⟨hf.1, hf.2.1⟩, hts _ w1⟩ : CallB R s args own index y bytes maxL ret (.code y bytes maxL ret :: pd_B) rmY rmY.cells rmY.slots As.length ∧ (Cond.static y).before args s = true)
  exact pd_afterX (vx_runS (As := As.map (pd_v ad)) (rest := rest.map (pd_v ad)) ⟨hx, hb, hml, hown, hts⟩ (hM ad H.size) cw hp (g := F0 m pc lsA ((As.reverse ++ rest).map (pd_v ad))) rfl (by simp) hl.1 (by simp [List.map_reverse, pd_v]) (lv_room hcat) d ⟨hf.2.2.1, hf.2.2.2⟩) hag hn hS hAA hl hz k
/-! new objects and arrays; max, min; catching -/
def pd_zi (I : pd_I) (n : Nat) : pd_I := fun b => if b = n then fun _ => 0 else I b
def pd_zj (J : pd_J) (n : Nat) : pd_J := fun b => if b = n then fun _ => 0 else J b
def pd_zf (F : pd_R) (n : Nat) : pd_R := fun b => if b = n then fun _ => none else F b
theorem pd_ag_new {n0 n : Nat} {ad ad0 : Nat → Nat} (h : pd_ag n0 n ad ad0) (hn : n0 ≤ n) (q : Nat) : pd_ag n0 (n + 1) (fun k => if k = n then q else ad k) ad0 := fun k hk => by
  have : ¬ k = n := by omega
  simp only [if_neg this]
  exact h k (by omega)
theorem pd_ag_up {n : Nat} {ad : Nat → Nat} (q : Nat) : pd_ag n (n + 1) (fun k => if k = n then q else ad k) ad := fun k hk => by
  have : ¬ k = n := by omega
  simp only [if_neg this]
theorem pd_w_push {ad : Nat → Nat} {tc : Nat → ClassId} {q : Nat} {e : va_E} (hF : ∀ b : Nat, b < n → ∀ j, F b j ≠ some n) (he : pd_c (fun k => if k = n then q else ad k) tc (pd_zi I n) (pd_zj J n) (pd_zf F n) n = e) :
    pd_w ad tc I J F n ++ [(q, e)] = pd_w (fun k => if k = n then q else ad k) tc (pd_zi I n) (pd_zj J n) (pd_zf F n) (n + 1) := by
  unfold pd_w
  rw [List.range_succ, List.map_append]
  congr 1
  · apply List.map_congr_left
    intro b hb
    have hb := List.mem_range.mp hb
    have hbn : ¬ b = n := by omega
    have hm : ∀ j, (F b j).map (fun k => if k = n then q else ad k) = (F b j).map ad := by
      intro j
      cases hj : F b j with
      | none => rfl
      | some k =>
        have : ¬ k = n := fun h => hF b hb j (by rw [hj, h])
        simp [this]
    have h1 : pd_zi I n b = I b := by simp [pd_zi, hbn]
    have h2 : pd_zj J n b = J b := by simp [pd_zj, hbn]
    have h3 : pd_zf F n b = F b := by simp [pd_zf, hbn]
    simp only [if_neg hbn, pd_c, h1, h2, h3, pd_fv, hm]
  · simp [he]
theorem pd_alloc {p : Program} {l : Launch} {e : Env} {R : Room} {s : State} {m : MethodId} {args : Array Value} {below : List Frame} {meth : Method} {c : Code} {D : va_G} {tc : Nat → ClassId} {A : Nat → Prop} {Q : State → Prop} {n0 : Nat} {ad0 : Nat → Nat} {nL : Nat} {H1 : Heap} {locs : List Loc} {lsA : Array Slot} {ad : Nat → Nat} {q : Nat} {w1 : va_E} {pc' kc' ks' : Nat}
    (hF : ∀ b : Nat, b < n → ∀ j, F b j ≠ some n) (he : pd_c (fun k => if k = n then q else ad k) tc (pd_zi I n) (pd_zj J n) (pd_zf F n) n = w1) (hag : pd_ag n0 n ad ad0) (hn : n0 ≤ n) (hP : va_P D vwCl (pd_w ad tc I J F n ++ [(q, w1)]) H1) (hD : va_D A (pd_w ad tc I J F n ++ [(q, w1)])) (hS : va_S A s.heap H1 locs) (hl : lv_has lsA nL (pd_lv ad 0 ls)) (hz : ls.length = nL) (hls : pd_oldL n (n + 1) ls) (hrs : ∀ w ∈ st, pd_old n (n + 1) w)
    (k : pd_V (p, l, e, R, s, m, args, below, meth, c, D, tc, A, Q, n0, ad0, nL) kc' ks' pc' ls (.ref n :: st) (pd_zi I n) (pd_zj J n) (pd_zf F n) (n + 1)) : W p l e R s m args below meth c H1 locs kc' ks' Q (F0 m pc' lsA (.ref q :: st.map (pd_v ad))) := by
  rw [pd_w_push hF he] at hP hD
  have h9 := k (fun k => if k = n then q else ad k) H1 locs lsA (pd_ag_new hag hn q) (by omega) hP hD hS (by rw [pd_old_ls (pd_ag_up q) hls]; exact hl) hz
  rw [List.map_cons, pd_old_st (pd_ag_up q) hrs] at h9
  simpa [pd_v] using h9
theorem pd_newO (C : pd_C cx own cc rm) {t N : Nat} {T : u_T} {Cn : String} {index : Nat} {ty0 : Nat → FieldType} (hc : vwCl[t]? = some (Cn, T, N)) (hin : ∀ w ∈ u_ws Cn T N, w ∈ pd_B) (hty : ∀ k, k < N → parseFieldDescriptor (T k).2.2.1 = some (ty0 k)) (ht : t < 13) (hft : ∀ k, k < N → defaultValue (ty0 k) = if pd_FT t k = true then .null else .int 0)
    (hw : Cond.classLink own index Cn ∈ pd_B) (hi : Cond.instantiable Cn N ∈ pd_B) (hini : Cond.initialized Cn ∈ pd_B) (hs : pd_SH n = (t, N)) (hF : ∀ b : Nat, b < n → ∀ j, F b j ≠ some n) (hls : pd_oldL n (n + 1) ls) (hrs : ∀ w ∈ st, pd_old n (n + 1) w) (hk : kc + 1 ≤ rm.cells ∧ ks + N ≤ rm.slots)
    (d : decode cc pc = .ok (.new index, 3)) (k : pd_V cx (kc + 1) (ks + N) (pc + 3) ls (.ref n :: st) (pd_zi I n) (pd_zj J n) (pd_zf F n) (n + 1)) : pd_V cx kc ks pc ls st I J F n := by
  obtain ⟨p, l, e, R, s, m, args, below, meth, c, D, tc, A, Q, n0, ad0, nL⟩ := cx
  intro ad H locs lsA hag hn hP hD hS hl hz
  obtain ⟨hx, hb, hml, hown, hts, hK, hA, hlocks, rfl, hG, hst⟩ := C
  refine va_new hx hb hts hin ty0 hty hown (hts _ hw) (hts _ hi) (hts _ hini) hK hP hD hS hA hc (fs := (List.range N).map (fun j => if pd_FT t j = true then .null else .int 0)) (fun j hj => by rw [hft j hj]; simp [vp_V, hj]) hk.1 hk.2 d (fun q H1 hP1 hD1 hS1 => ?_)
  refine pd_alloc hF ?_ hag hn hP1 hD1 hS1 hl hz hls hrs k
  rw [pd_c_obj hs ht]
  congr 2
  apply List.map_congr_left
  intro j _
  simp [pd_fv, pd_zf, pd_zi, va_rf]
theorem pd_cls_same {D : va_G} {tys : List (ClassId × FieldType)} {s : State} {cA cB : ClassId} {ty : FieldType} {i j : Nat} (hK : va_K D vwCl tys s) (h1 : tys[i]? = some (cA, ty)) (h2 : tys[j]? = some (cB, ty)) : cA = cB := by
  have a := (hK.2 i _ h1).2
  have b := (hK.2 j _ h2).2
  cases ty with
  | object C =>
    obtain ⟨_, _, _, _, _, h⟩ := a
    obtain ⟨_, _, _, _, _, h'⟩ := b
    exact Option.some.inj (h.symm.trans h')
  | _ => exact Option.some.inj (a.symm.trans b)
def pd_max (x y : Int32) : Int32 := if x < y then y else x
def pd_min (x y : Int32) : Int32 := if y < x then y else x
theorem pd_newAI (C : pd_C cx own cc rm) {N : Nat} {x : Int32} (hw : Cond.arrayClass .int ∈ pd_B) (hs : pd_SH n = (13, N)) (hx0 : ¬ x < 0) (hN : x.toNatClampNeg = N) (hby : N * componentBytes .int ≤ 536870912) (hF : ∀ b : Nat, b < n → ∀ j, F b j ≠ some n) (hls : pd_oldL n (n + 1) ls) (hrs : ∀ w ∈ st, pd_old n (n + 1) w) (hk : kc + 1 ≤ rm.cells ∧ ks + N ≤ rm.slots)
    (d : decode cc pc = .ok (.newarray .int, 2)) (k : pd_V cx (kc + 1) (ks + N) (pc + 2) ls (.ref n :: st) (pd_zi I n) (pd_zj J n) (pd_zf F n) (n + 1)) : pd_V cx kc ks pc ls (.int x :: st) I J F n := by
  obtain ⟨p, l, e, R, s, m, args, below, meth, c, D, tc, A, Q, n0, ad0, nL⟩ := cx
  intro ad H locs lsA hag hn hP hD hS hl hz
  obtain ⟨hx, hb, hml, hown, hts, hK, hA, hlocks, rfl, hG, hst⟩ := C
  refine va_newa (atype := .int) (ty := .int) hx hb (hts _ hw) rfl hK hP hD hS hA (a0 := (N, .inl (fun _ => 0))) (fun cA => rfl) hx0 hN hby hk.1 hk.2 d (fun q cA H1 hK1 hP1 hD1 hS1 => ?_)
  have hcA : cA = tc 0 := pd_cls_same (i := 7) (j := 0) hK1 rfl rfl
  subst hcA
  refine pd_alloc hF ?_ hag hn hP1 hD1 hS1 hl hz hls hrs k
  rw [pd_c_int hs (by decide) (by decide)]
  simp [pd_zi, pd_zj]
theorem pd_newAB (C : pd_C cx own cc rm) {N : Nat} {x : Int32} (hw : Cond.arrayClass .byte ∈ pd_B) (hs : pd_SH n = (14, N)) (hx0 : ¬ x < 0) (hN : x.toNatClampNeg = N) (hby : N * componentBytes .byte ≤ 536870912) (hF : ∀ b : Nat, b < n → ∀ j, F b j ≠ some n) (hls : pd_oldL n (n + 1) ls) (hrs : ∀ w ∈ st, pd_old n (n + 1) w) (hk : kc + 1 ≤ rm.cells ∧ ks + N ≤ rm.slots)
    (d : decode cc pc = .ok (.newarray .byte, 2)) (k : pd_V cx (kc + 1) (ks + N) (pc + 2) ls (.ref n :: st) (pd_zi I n) (pd_zj J n) (pd_zf F n) (n + 1)) : pd_V cx kc ks pc ls (.int x :: st) I J F n := by
  obtain ⟨p, l, e, R, s, m, args, below, meth, c, D, tc, A, Q, n0, ad0, nL⟩ := cx
  intro ad H locs lsA hag hn hP hD hS hl hz
  obtain ⟨hx, hb, hml, hown, hts, hK, hA, hlocks, rfl, hG, hst⟩ := C
  refine va_newa (atype := .byte) (ty := .byte) hx hb (hts _ hw) rfl hK hP hD hS hA (a0 := (N, .inl (fun _ => 0))) (fun cA => rfl) hx0 hN hby hk.1 hk.2 d (fun q cA H1 hK1 hP1 hD1 hS1 => ?_)
  have hcA : cA = tc 1 := pd_cls_same (i := 7) (j := 1) hK1 rfl rfl
  subst hcA
  refine pd_alloc hF ?_ hag hn hP1 hD1 hS1 hl hz hls hrs k
  rw [pd_c_int hs (by decide) (by decide)]
  simp [pd_zi, pd_zj]
theorem pd_newAS (C : pd_C cx own cc rm) {N : Nat} {x : Int32} (hw : Cond.arrayClass .short ∈ pd_B) (hs : pd_SH n = (15, N)) (hx0 : ¬ x < 0) (hN : x.toNatClampNeg = N) (hby : N * componentBytes .short ≤ 536870912) (hF : ∀ b : Nat, b < n → ∀ j, F b j ≠ some n) (hls : pd_oldL n (n + 1) ls) (hrs : ∀ w ∈ st, pd_old n (n + 1) w) (hk : kc + 1 ≤ rm.cells ∧ ks + N ≤ rm.slots)
    (d : decode cc pc = .ok (.newarray .short, 2)) (k : pd_V cx (kc + 1) (ks + N) (pc + 2) ls (.ref n :: st) (pd_zi I n) (pd_zj J n) (pd_zf F n) (n + 1)) : pd_V cx kc ks pc ls (.int x :: st) I J F n := by
  obtain ⟨p, l, e, R, s, m, args, below, meth, c, D, tc, A, Q, n0, ad0, nL⟩ := cx
  intro ad H locs lsA hag hn hP hD hS hl hz
  obtain ⟨hx, hb, hml, hown, hts, hK, hA, hlocks, rfl, hG, hst⟩ := C
  refine va_newa (atype := .short) (ty := .short) hx hb (hts _ hw) rfl hK hP hD hS hA (a0 := (N, .inl (fun _ => 0))) (fun cA => rfl) hx0 hN hby hk.1 hk.2 d (fun q cA H1 hK1 hP1 hD1 hS1 => ?_)
  have hcA : cA = tc 2 := pd_cls_same (i := 7) (j := 2) hK1 rfl rfl
  subst hcA
  refine pd_alloc hF ?_ hag hn hP1 hD1 hS1 hl hz hls hrs k
  rw [pd_c_int hs (by decide) (by decide)]
  simp [pd_zi, pd_zj]
theorem pd_newAJ (C : pd_C cx own cc rm) {N : Nat} {x : Int32} (hw : Cond.arrayClass .long ∈ pd_B) (hs : pd_SH n = (16, N)) (hx0 : ¬ x < 0) (hN : x.toNatClampNeg = N) (hby : N * componentBytes .long ≤ 536870912) (hF : ∀ b : Nat, b < n → ∀ j, F b j ≠ some n) (hls : pd_oldL n (n + 1) ls) (hrs : ∀ w ∈ st, pd_old n (n + 1) w) (hk : kc + 1 ≤ rm.cells ∧ ks + N ≤ rm.slots)
    (d : decode cc pc = .ok (.newarray .long, 2)) (k : pd_V cx (kc + 1) (ks + N) (pc + 2) ls (.ref n :: st) (pd_zi I n) (pd_zj J n) (pd_zf F n) (n + 1)) : pd_V cx kc ks pc ls (.int x :: st) I J F n := by
  obtain ⟨p, l, e, R, s, m, args, below, meth, c, D, tc, A, Q, n0, ad0, nL⟩ := cx
  intro ad H locs lsA hag hn hP hD hS hl hz
  obtain ⟨hx, hb, hml, hown, hts, hK, hA, hlocks, rfl, hG, hst⟩ := C
  refine va_newa (atype := .long) (ty := .long) hx hb (hts _ hw) rfl hK hP hD hS hA (a0 := (N, .inr (.inl (fun _ => 0)))) (fun cA => rfl) hx0 hN hby hk.1 hk.2 d (fun q cA H1 hK1 hP1 hD1 hS1 => ?_)
  have hcA : cA = tc 3 := pd_cls_same (i := 7) (j := 3) hK1 rfl rfl
  subst hcA
  refine pd_alloc hF ?_ hag hn hP1 hD1 hS1 hl hz hls hrs k
  rw [pd_c_long hs]
  simp [pd_zi, pd_zj]
theorem pd_newQ17 (C : pd_C cx own cc rm) {N index : Nat} {x : Int32} (hw : Cond.classLink own index "PathDecoder$Row" ∈ pd_B) (hs : pd_SH n = (17, N)) (hx0 : ¬ x < 0) (hN : x.toNatClampNeg = N) (hby : N * 4 ≤ 536870912) (hF : ∀ b : Nat, b < n → ∀ j, F b j ≠ some n) (hls : pd_oldL n (n + 1) ls) (hrs : ∀ w ∈ st, pd_old n (n + 1) w) (hk : kc + 1 ≤ rm.cells ∧ ks + N ≤ rm.slots)
    (d : decode cc pc = .ok (.anewarray index, 3)) (k : pd_V cx (kc + 1) (ks + N) (pc + 3) ls (.ref n :: st) (pd_zi I n) (pd_zj J n) (pd_zf F n) (n + 1)) : pd_V cx kc ks pc ls (.int x :: st) I J F n := by
  obtain ⟨p, l, e, R, s, m, args, below, meth, c, D, tc, A, Q, n0, ad0, nL⟩ := cx
  intro ad H locs lsA hag hn hP hD hS hl hz
  obtain ⟨hx, hb, hml, hown, hts, hK, hA, hlocks, rfl, hG, hst⟩ := C
  refine va_newq (C := "PathDecoder$Row") hx hb hown (hts _ hw) (hG.2.2.1 _ (by decide)) hK hP hD hS hA hx0 hN hby hk.1 hk.2 d (fun q cA H1 hK1 hP1 hD1 hS1 => ?_)
  have hcA : cA = tc 4 := pd_cls_same (i := 7) (j := 4) hK1 rfl rfl
  subst hcA
  refine pd_alloc hF ?_ hag hn hP1 hD1 hS1 hl hz hls hrs k
  rw [pd_c_ref hs (by decide)]
  simp [pd_zf]
theorem pd_newQ18 (C : pd_C cx own cc rm) {N index : Nat} {x : Int32} (hw : Cond.classLink own index "PathDecoder$Code" ∈ pd_B) (hs : pd_SH n = (18, N)) (hx0 : ¬ x < 0) (hN : x.toNatClampNeg = N) (hby : N * 4 ≤ 536870912) (hF : ∀ b : Nat, b < n → ∀ j, F b j ≠ some n) (hls : pd_oldL n (n + 1) ls) (hrs : ∀ w ∈ st, pd_old n (n + 1) w) (hk : kc + 1 ≤ rm.cells ∧ ks + N ≤ rm.slots)
    (d : decode cc pc = .ok (.anewarray index, 3)) (k : pd_V cx (kc + 1) (ks + N) (pc + 3) ls (.ref n :: st) (pd_zi I n) (pd_zj J n) (pd_zf F n) (n + 1)) : pd_V cx kc ks pc ls (.int x :: st) I J F n := by
  obtain ⟨p, l, e, R, s, m, args, below, meth, c, D, tc, A, Q, n0, ad0, nL⟩ := cx
  intro ad H locs lsA hag hn hP hD hS hl hz
  obtain ⟨hx, hb, hml, hown, hts, hK, hA, hlocks, rfl, hG, hst⟩ := C
  refine va_newq (C := "PathDecoder$Code") hx hb hown (hts _ hw) (hG.2.2.1 _ (by decide)) hK hP hD hS hA hx0 hN hby hk.1 hk.2 d (fun q cA H1 hK1 hP1 hD1 hS1 => ?_)
  have hcA : cA = tc 5 := pd_cls_same (i := 7) (j := 5) hK1 rfl rfl
  subst hcA
  refine pd_alloc hF ?_ hag hn hP1 hD1 hS1 hl hz hls hrs k
  rw [pd_c_ref hs (by decide)]
  simp [pd_zf]
theorem pd_newQ19 (C : pd_C cx own cc rm) {N index : Nat} {x : Int32} (hw : Cond.classLink own index "PathDecoder$Way" ∈ pd_B) (hs : pd_SH n = (19, N)) (hx0 : ¬ x < 0) (hN : x.toNatClampNeg = N) (hby : N * 4 ≤ 536870912) (hF : ∀ b : Nat, b < n → ∀ j, F b j ≠ some n) (hls : pd_oldL n (n + 1) ls) (hrs : ∀ w ∈ st, pd_old n (n + 1) w) (hk : kc + 1 ≤ rm.cells ∧ ks + N ≤ rm.slots)
    (d : decode cc pc = .ok (.anewarray index, 3)) (k : pd_V cx (kc + 1) (ks + N) (pc + 3) ls (.ref n :: st) (pd_zi I n) (pd_zj J n) (pd_zf F n) (n + 1)) : pd_V cx kc ks pc ls (.int x :: st) I J F n := by
  obtain ⟨p, l, e, R, s, m, args, below, meth, c, D, tc, A, Q, n0, ad0, nL⟩ := cx
  intro ad H locs lsA hag hn hP hD hS hl hz
  obtain ⟨hx, hb, hml, hown, hts, hK, hA, hlocks, rfl, hG, hst⟩ := C
  refine va_newq (C := "PathDecoder$Way") hx hb hown (hts _ hw) (hG.2.2.1 _ (by decide)) hK hP hD hS hA hx0 hN hby hk.1 hk.2 d (fun q cA H1 hK1 hP1 hD1 hS1 => ?_)
  have hcA : cA = tc 6 := pd_cls_same (i := 7) (j := 6) hK1 rfl rfl
  subst hcA
  refine pd_alloc hF ?_ hag hn hP1 hD1 hS1 hl hz hls hrs k
  rw [pd_c_ref hs (by decide)]
  simp [pd_zf]
theorem pd_mmax (C : pd_C cx own cc rm) {index : Nat} {x y : Int32} (hw : Cond.methodLink own index Lib.Math.max.name ∈ pd_B) (hs : Cond.static Lib.Math.max.name ∈ pd_B) (hi : Cond.initialized "java/lang/Math" ∈ pd_B) (hcd : Cond.code Lib.Math.max.name Lib.Math.max.code 2 (some .int) ∈ pd_B) (hR : 1 ≤ rm.frames ∧ (st.map fun v => v.category).sum + 13 ≤ rm.locals ∧ kc ≤ rm.cells ∧ ks ≤ rm.slots)
    (d : decode cc pc = .ok (.invokestatic index, 3)) (k : pd_V cx kc ks (pc + 3) ls (.int (pd_max x y) :: st) I J F n) : pd_V cx kc ks pc ls (.int y :: .int x :: st) I J F n := by
  obtain ⟨p, l, e, R, s, m, args, below, meth, c, D, tc, A, Q, n0, ad0, nL⟩ := cx
  intro ad H locs lsA hag hn hP hD hS hl hz
  obtain ⟨hx, hb, hml, hown, hts, hK, hA, hlocks, rfl, hG, hst⟩ := C
  have hcat : (st.map (pd_v ad)).map (fun v => v.category) = st.map (fun v => v.category) := by rw [List.map_map]; exact List.map_congr_left fun v _ => pd_v_cat ad v
  exact va_mmax hx hb (hml.trans hl.1.symm) hown (hts _ hw) (hts _ hs) (hts _ hi) (hts _ hcd) hR.1 (by rw [hcat]; exact hR.2.1) hR.2.2.1 hR.2.2.2 d (k ad H locs lsA hag hn hP hD hS hl hz)
theorem pd_mmin (C : pd_C cx own cc rm) {index : Nat} {x y : Int32} (hw : Cond.methodLink own index Lib.Math.min.name ∈ pd_B) (hs : Cond.static Lib.Math.min.name ∈ pd_B) (hi : Cond.initialized "java/lang/Math" ∈ pd_B) (hcd : Cond.code Lib.Math.min.name Lib.Math.min.code 2 (some .int) ∈ pd_B) (hR : 1 ≤ rm.frames ∧ (st.map fun v => v.category).sum + 13 ≤ rm.locals ∧ kc ≤ rm.cells ∧ ks ≤ rm.slots)
    (d : decode cc pc = .ok (.invokestatic index, 3)) (k : pd_V cx kc ks (pc + 3) ls (.int (pd_min x y) :: st) I J F n) : pd_V cx kc ks pc ls (.int y :: .int x :: st) I J F n := by
  obtain ⟨p, l, e, R, s, m, args, below, meth, c, D, tc, A, Q, n0, ad0, nL⟩ := cx
  intro ad H locs lsA hag hn hP hD hS hl hz
  obtain ⟨hx, hb, hml, hown, hts, hK, hA, hlocks, rfl, hG, hst⟩ := C
  have hcat : (st.map (pd_v ad)).map (fun v => v.category) = st.map (fun v => v.category) := by rw [List.map_map]; exact List.map_congr_left fun v _ => pd_v_cat ad v
  exact va_mmin hx hb (hml.trans hl.1.symm) hown (hts _ hw) (hts _ hs) (hts _ hi) (hts _ hcd) hR.1 (by rw [hcat]; exact hR.2.1) hR.2.2.1 hR.2.2.2 d (k ad H locs lsA hag hn hP hD hS hl hz)
end PDK
