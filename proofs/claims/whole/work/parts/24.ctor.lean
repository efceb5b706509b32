/-! constructors -/
def pd_fr (F : pd_R) (n : Nat) : Prop := ∀ b j k, b < n → F b j = some k → k < n
theorem pd_fr_hF {F : pd_R} {n : Nat} (h : pd_fr F n) : ∀ b : Nat, b < n → ∀ j, F b j ≠ some n := fun b hb j e => Nat.lt_irrefl _ (h b j n hb e)
theorem pd_fr_z {F : pd_R} {n : Nat} (h : pd_fr F n) : pd_fr (pd_zf F n) (n + 1) := by
  intro b j k hb e
  by_cases hbn : b = n
  · subst hbn
    simp [pd_zf] at e
  · simp only [pd_zf, if_neg hbn] at e
    exact Nat.lt_succ_of_lt (h b j k (by omega) e)
theorem pd_fr_u {F : pd_R} {n a j b : Nat} (h : pd_fr F n) (hb : b < n) : pd_fr (pd_ur F a j (some b)) n := by
  intro c i k hc e
  by_cases hca : c = a
  · subst hca
    by_cases hi : i = j
    · subst hi
      have e' : some b = some k := by rw [← e]; simp [pd_ur, va_up]
      cases e'
      exact hb
    · exact h c i k hc (by rw [← e]; simp [pd_ur, va_up, hi])
  · simp only [pd_ur, if_neg hca] at e
    exact h _ _ _ hc e
theorem pd_oL0 {n n' : Nat} : pd_oldL n n' [] := fun _ h => nomatch h
theorem pd_oLn {n n' : Nat} {ls : List (Option Value)} (h : pd_oldL n n' ls) : pd_oldL n n' (none :: ls) := fun v hv => by
  rcases List.mem_cons.mp hv with e | e
  · cases e
  · exact h v e
theorem pd_oLr {n n' k : Nat} {ls : List (Option Value)} (hk : k < n) (h : pd_oldL n n' ls) : pd_oldL n n' (some (.ref k) :: ls) := fun v hv => by
  rcases List.mem_cons.mp hv with e | e
  · cases e; intro k' e'; cases e'; exact Or.inl hk
  · exact h v e
theorem pd_oLi {n n' : Nat} {x : Int32} {ls : List (Option Value)} (h : pd_oldL n n' ls) : pd_oldL n n' (some (.int x) :: ls) := fun v hv => by
  rcases List.mem_cons.mp hv with e | e
  · cases e; intro k' e'; cases e'
  · exact h v e
theorem pd_oS0 {n n' : Nat} : ∀ w ∈ ([] : List Value), pd_old n n' w := fun _ h => nomatch h
theorem pd_oSr {n n' k : Nat} {st : List Value} (hk : k < n) (h : ∀ w ∈ st, pd_old n n' w) : ∀ w ∈ Value.ref k :: st, pd_old n n' w := fun w hw => by
  rcases List.mem_cons.mp hw with e | e
  · subst e; intro k' e'; cases e'; exact Or.inl hk
  · exact h w e
theorem pd_oSi {n n' : Nat} {x : Int32} {st : List Value} (h : ∀ w ∈ st, pd_old n n' w) : ∀ w ∈ Value.int x :: st, pd_old n n' w := fun w hw => by
  rcases List.mem_cons.mp hw with e | e
  · subst e; intro k' e'; cases e'
  · exact h w e
section
variable {cx : pd_X} {own : String} {cc : ByteArray} {rm : Room} {kc ks pc : Nat} {ls : List (Option Value)} {st : List Value} {I : pd_I} {J : pd_J} {F : pd_R} {n : Nat}
theorem pd_nE {n' : Nat} (h : n = n') (k : pd_V cx kc ks pc ls st I J F n') : pd_V cx kc ks pc ls st I J F n := by subst h; exact k
theorem pd_memn (k : ∀ y, y = n → pd_V cx kc ks pc ls st I J F y) : pd_V cx kc ks pc ls st I J F n := k n rfl
theorem pd_FE {F' : pd_R} (h : ∀ b, b < n → F b = F' b) (k : pd_V cx kc ks pc ls st I J F' n) : pd_V cx kc ks pc ls st I J F n := by
  have hw : ∀ (ad : Nat → Nat) (tc : Nat → ClassId), pd_w ad tc I J F n = pd_w ad tc I J F' n := fun ad tc => List.map_congr_left fun b hb => by rw [pd_c_eqF (h b (List.mem_range.mp hb)).symm]
  obtain ⟨p, l, e, R, s, m, args, below, meth, c, D, tc, A, Q, n0, ad0, nL⟩ := cx
  intro ad H locs lsA hag hn hP hD hS hl hz
  rw [hw] at hP hD
  exact k ad H locs lsA hag hn hP hD hS hl hz
theorem pd_obji (C : pd_C cx own cc rm) {index a : Nat} (hw : Cond.methodLink own index ⟨"java/lang/Object", "<init>", "()V"⟩ ∈ pd_B) (hk : 1 ≤ rm.frames ∧ 21 ≤ rm.locals) (h8 : (st.map fun v => v.category).sum ≤ 8) (d : decode cc pc = .ok (.invokespecial index, 3)) (kk : pd_V cx kc ks (pc + 3) ls st I J F n) : pd_V cx kc ks pc ls (.ref a :: st) I J F n := by
  obtain ⟨p, l, e, R, s, m, args, below, meth, c, D, tc, A, Q, n0, ad0, nL⟩ := cx
  intro ad H locs lsA hag hn hP hD hS hl hz
  obtain ⟨hx, hb, hml, hown, hts, hK, hA, hlocks, rfl, hG, hst⟩ := id C
  have hc8 : ((st.map (pd_v ad)).map fun v => v.category).sum ≤ 8 := by rw [pd_cats]; exact h8
  refine W.objInit hx hb hown (hts _ hw) (hts _ wd_1_28) (hts _ wd_1_29) rfl (by rw [hml]; exact hl.1) rfl d hk.1 ?_ (kk ad H locs lsA hag hn hP hD hS hl hz)
  show 2 * 0 + ((st.map (pd_v ad)).map fun v => v.category).sum + 12 ≤ R.locals
  have := hk.2
  show _ ≤ R.locals
  have h9 : 21 ≤ R.locals := this
  omega
end
theorem pfi_0_0 {cx : pd_X} {own : String} {cc : ByteArray} {rm : Room} {kc ks pc : Nat} {ls : List (Option Value)} {st : List Value} {I : pd_I} {J : pd_J} {F : pd_R} {n : Nat} (C : pd_C cx own cc rm) (hin0 : (cx.2.2.2.2.2.2.2.2.1).name = "<init>") (hown : "PathDecoder$Code" = own) {index a : Nat} {x : Int32} (hw : Cond.fieldLink own index "PathDecoder$Code" "kind" "I" ∈ pd_B) (hnr : narrow .int (.int x) = .int x) (hfit : fits .int (.int x) = true) (ha : a < n) (hs : pd_SH a = (0, 8)) (d : decode cc pc = .ok (.putfield index, 3)) (kk : pd_V cx kc ks (pc + 3) ls st (pd_ui I a 0 x) J F n) : pd_V cx kc ks pc ls (.int x :: .ref a :: st) I J F n := pd_putFI (t := 0) (N := 8) (T := TX0) (ty0 := tyX0) (ty := .int) C hin0 rfl fw_0 tyX0_ok nmX0 (by decide) 0 (by decide) rfl rfl hown rfl rfl hw hnr hfit ha hs d kk
theorem pfi_0_1 {cx : pd_X} {own : String} {cc : ByteArray} {rm : Room} {kc ks pc : Nat} {ls : List (Option Value)} {st : List Value} {I : pd_I} {J : pd_J} {F : pd_R} {n : Nat} (C : pd_C cx own cc rm) (hin0 : (cx.2.2.2.2.2.2.2.2.1).name = "<init>") (hown : "PathDecoder$Code" = own) {index a : Nat} {x : Int32} (hw : Cond.fieldLink own index "PathDecoder$Code" "cells" "I" ∈ pd_B) (hnr : narrow .int (.int x) = .int x) (hfit : fits .int (.int x) = true) (ha : a < n) (hs : pd_SH a = (0, 8)) (d : decode cc pc = .ok (.putfield index, 3)) (kk : pd_V cx kc ks (pc + 3) ls st (pd_ui I a 1 x) J F n) : pd_V cx kc ks pc ls (.int x :: .ref a :: st) I J F n := pd_putFI (t := 0) (N := 8) (T := TX0) (ty0 := tyX0) (ty := .int) C hin0 rfl fw_0 tyX0_ok nmX0 (by decide) 1 (by decide) rfl rfl hown rfl rfl hw hnr hfit ha hs d kk
theorem pfi_0_2 {cx : pd_X} {own : String} {cc : ByteArray} {rm : Room} {kc ks pc : Nat} {ls : List (Option Value)} {st : List Value} {I : pd_I} {J : pd_J} {F : pd_R} {n : Nat} (C : pd_C cx own cc rm) (hin0 : (cx.2.2.2.2.2.2.2.2.1).name = "<init>") (hown : "PathDecoder$Code" = own) {index a : Nat} {x : Int32} (hw : Cond.fieldLink own index "PathDecoder$Code" "outs" "I" ∈ pd_B) (hnr : narrow .int (.int x) = .int x) (hfit : fits .int (.int x) = true) (ha : a < n) (hs : pd_SH a = (0, 8)) (d : decode cc pc = .ok (.putfield index, 3)) (kk : pd_V cx kc ks (pc + 3) ls st (pd_ui I a 2 x) J F n) : pd_V cx kc ks pc ls (.int x :: .ref a :: st) I J F n := pd_putFI (t := 0) (N := 8) (T := TX0) (ty0 := tyX0) (ty := .int) C hin0 rfl fw_0 tyX0_ok nmX0 (by decide) 2 (by decide) rfl rfl hown rfl rfl hw hnr hfit ha hs d kk
theorem pfr_0_3 {cx : pd_X} {own : String} {cc : ByteArray} {rm : Room} {kc ks pc : Nat} {ls : List (Option Value)} {st : List Value} {I : pd_I} {J : pd_J} {F : pd_R} {n : Nat} (C : pd_C cx own cc rm) (hin0 : (cx.2.2.2.2.2.2.2.2.1).name = "<init>") (hown : "PathDecoder$Code" = own) {index a b : Nat} (hw : Cond.fieldLink own index "PathDecoder$Code" "taps" "[I" ∈ pd_B) (ha : a < n) (hs : pd_SH a = (0, 8)) (d : decode cc pc = .ok (.putfield index, 3)) (kk : pd_V cx kc ks (pc + 3) ls st I J (pd_ur F a 3 (some b)) n) : pd_V cx kc ks pc ls (.ref b :: .ref a :: st) I J F n := pd_putFR (t := 0) (N := 8) (T := TX0) (ty0 := tyX0) C hin0 rfl fw_0 tyX0_ok nmX0 (by decide) 3 (by decide) rfl rfl hown rfl rfl (fun q => ⟨rfl, rfl⟩) hw ha hs d kk
theorem pfr_0_7 {cx : pd_X} {own : String} {cc : ByteArray} {rm : Room} {kc ks pc : Nat} {ls : List (Option Value)} {st : List Value} {I : pd_I} {J : pd_J} {F : pd_R} {n : Nat} (C : pd_C cx own cc rm) (hin0 : (cx.2.2.2.2.2.2.2.2.1).name = "<init>") (hown : "PathDecoder$Code" = own) {index a b : Nat} (hw : Cond.fieldLink own index "PathDecoder$Code" "keeps" "[I" ∈ pd_B) (ha : a < n) (hs : pd_SH a = (0, 8)) (d : decode cc pc = .ok (.putfield index, 3)) (kk : pd_V cx kc ks (pc + 3) ls st I J (pd_ur F a 7 (some b)) n) : pd_V cx kc ks pc ls (.ref b :: .ref a :: st) I J F n := pd_putFR (t := 0) (N := 8) (T := TX0) (ty0 := tyX0) C hin0 rfl fw_0 tyX0_ok nmX0 (by decide) 7 (by decide) rfl rfl hown rfl rfl (fun q => ⟨rfl, rfl⟩) hw ha hs d kk
theorem pfr_1_0 {cx : pd_X} {own : String} {cc : ByteArray} {rm : Room} {kc ks pc : Nat} {ls : List (Option Value)} {st : List Value} {I : pd_I} {J : pd_J} {F : pd_R} {n : Nat} (C : pd_C cx own cc rm) (hin0 : (cx.2.2.2.2.2.2.2.2.1).name = "<init>") (hown : "PathDecoder$Lattice" = own) {index a b : Nat} (hw : Cond.fieldLink own index "PathDecoder$Lattice" "next" "[I" ∈ pd_B) (ha : a < n) (hs : pd_SH a = (1, 5)) (d : decode cc pc = .ok (.putfield index, 3)) (kk : pd_V cx kc ks (pc + 3) ls st I J (pd_ur F a 0 (some b)) n) : pd_V cx kc ks pc ls (.ref b :: .ref a :: st) I J F n := pd_putFR (t := 1) (N := 5) (T := TX1) (ty0 := tyX1) C hin0 rfl fw_1 tyX1_ok nmX1 (by decide) 0 (by decide) rfl rfl hown rfl rfl (fun q => ⟨rfl, rfl⟩) hw ha hs d kk
theorem pfr_1_1 {cx : pd_X} {own : String} {cc : ByteArray} {rm : Room} {kc ks pc : Nat} {ls : List (Option Value)} {st : List Value} {I : pd_I} {J : pd_J} {F : pd_R} {n : Nat} (C : pd_C cx own cc rm) (hin0 : (cx.2.2.2.2.2.2.2.2.1).name = "<init>") (hown : "PathDecoder$Lattice" = own) {index a b : Nat} (hw : Cond.fieldLink own index "PathDecoder$Lattice" "word" "[I" ∈ pd_B) (ha : a < n) (hs : pd_SH a = (1, 5)) (d : decode cc pc = .ok (.putfield index, 3)) (kk : pd_V cx kc ks (pc + 3) ls st I J (pd_ur F a 1 (some b)) n) : pd_V cx kc ks pc ls (.ref b :: .ref a :: st) I J F n := pd_putFR (t := 1) (N := 5) (T := TX1) (ty0 := tyX1) C hin0 rfl fw_1 tyX1_ok nmX1 (by decide) 1 (by decide) rfl rfl hown rfl rfl (fun q => ⟨rfl, rfl⟩) hw ha hs d kk
theorem pfr_1_2 {cx : pd_X} {own : String} {cc : ByteArray} {rm : Room} {kc ks pc : Nat} {ls : List (Option Value)} {st : List Value} {I : pd_I} {J : pd_J} {F : pd_R} {n : Nat} (C : pd_C cx own cc rm) (hin0 : (cx.2.2.2.2.2.2.2.2.1).name = "<init>") (hown : "PathDecoder$Lattice" = own) {index a b : Nat} (hw : Cond.fieldLink own index "PathDecoder$Lattice" "ends" "[I" ∈ pd_B) (ha : a < n) (hs : pd_SH a = (1, 5)) (d : decode cc pc = .ok (.putfield index, 3)) (kk : pd_V cx kc ks (pc + 3) ls st I J (pd_ur F a 2 (some b)) n) : pd_V cx kc ks pc ls (.ref b :: .ref a :: st) I J F n := pd_putFR (t := 1) (N := 5) (T := TX1) (ty0 := tyX1) C hin0 rfl fw_1 tyX1_ok nmX1 (by decide) 2 (by decide) rfl rfl hown rfl rfl (fun q => ⟨rfl, rfl⟩) hw ha hs d kk
theorem pfr_1_4 {cx : pd_X} {own : String} {cc : ByteArray} {rm : Room} {kc ks pc : Nat} {ls : List (Option Value)} {st : List Value} {I : pd_I} {J : pd_J} {F : pd_R} {n : Nat} (C : pd_C cx own cc rm) (hin0 : (cx.2.2.2.2.2.2.2.2.1).name = "<init>") (hown : "PathDecoder$Lattice" = own) {index a b : Nat} (hw : Cond.fieldLink own index "PathDecoder$Lattice" "prices" "[I" ∈ pd_B) (ha : a < n) (hs : pd_SH a = (1, 5)) (d : decode cc pc = .ok (.putfield index, 3)) (kk : pd_V cx kc ks (pc + 3) ls st I J (pd_ur F a 4 (some b)) n) : pd_V cx kc ks pc ls (.ref b :: .ref a :: st) I J F n := pd_putFR (t := 1) (N := 5) (T := TX1) (ty0 := tyX1) C hin0 rfl fw_1 tyX1_ok nmX1 (by decide) 4 (by decide) rfl rfl hown rfl rfl (fun q => ⟨rfl, rfl⟩) hw ha hs d kk
theorem pfr_2_0 {cx : pd_X} {own : String} {cc : ByteArray} {rm : Room} {kc ks pc : Nat} {ls : List (Option Value)} {st : List Value} {I : pd_I} {J : pd_J} {F : pd_R} {n : Nat} (C : pd_C cx own cc rm) (hin0 : (cx.2.2.2.2.2.2.2.2.1).name = "<init>") (hown : "PathDecoder$Message" = own) {index a b : Nat} (hw : Cond.fieldLink own index "PathDecoder$Message" "bits" "[I" ∈ pd_B) (ha : a < n) (hs : pd_SH a = (2, 2)) (d : decode cc pc = .ok (.putfield index, 3)) (kk : pd_V cx kc ks (pc + 3) ls st I J (pd_ur F a 0 (some b)) n) : pd_V cx kc ks pc ls (.ref b :: .ref a :: st) I J F n := pd_putFR (t := 2) (N := 2) (T := TX2) (ty0 := tyX2) C hin0 rfl fw_2 tyX2_ok nmX2 (by decide) 0 (by decide) rfl rfl hown rfl rfl (fun q => ⟨rfl, rfl⟩) hw ha hs d kk
theorem pfr_2_1 {cx : pd_X} {own : String} {cc : ByteArray} {rm : Room} {kc ks pc : Nat} {ls : List (Option Value)} {st : List Value} {I : pd_I} {J : pd_J} {F : pd_R} {n : Nat} (C : pd_C cx own cc rm) (hin0 : (cx.2.2.2.2.2.2.2.2.1).name = "<init>") (hown : "PathDecoder$Message" = own) {index a b : Nat} (hw : Cond.fieldLink own index "PathDecoder$Message" "signs" "[I" ∈ pd_B) (ha : a < n) (hs : pd_SH a = (2, 2)) (d : decode cc pc = .ok (.putfield index, 3)) (kk : pd_V cx kc ks (pc + 3) ls st I J (pd_ur F a 1 (some b)) n) : pd_V cx kc ks pc ls (.ref b :: .ref a :: st) I J F n := pd_putFR (t := 2) (N := 2) (T := TX2) (ty0 := tyX2) C hin0 rfl fw_2 tyX2_ok nmX2 (by decide) 1 (by decide) rfl rfl hown rfl rfl (fun q => ⟨rfl, rfl⟩) hw ha hs d kk
theorem pfr_3_0 {cx : pd_X} {own : String} {cc : ByteArray} {rm : Room} {kc ks pc : Nat} {ls : List (Option Value)} {st : List Value} {I : pd_I} {J : pd_J} {F : pd_R} {n : Nat} (C : pd_C cx own cc rm) (hin0 : (cx.2.2.2.2.2.2.2.2.1).name = "<init>") (hown : "PathDecoder$Received" = own) {index a b : Nat} (hw : Cond.fieldLink own index "PathDecoder$Received" "tableZero" "[I" ∈ pd_B) (ha : a < n) (hs : pd_SH a = (3, 4)) (d : decode cc pc = .ok (.putfield index, 3)) (kk : pd_V cx kc ks (pc + 3) ls st I J (pd_ur F a 0 (some b)) n) : pd_V cx kc ks pc ls (.ref b :: .ref a :: st) I J F n := pd_putFR (t := 3) (N := 4) (T := TX3) (ty0 := tyX3) C hin0 rfl fw_3 tyX3_ok nmX3 (by decide) 0 (by decide) rfl rfl hown rfl rfl (fun q => ⟨rfl, rfl⟩) hw ha hs d kk
theorem pfr_3_1 {cx : pd_X} {own : String} {cc : ByteArray} {rm : Room} {kc ks pc : Nat} {ls : List (Option Value)} {st : List Value} {I : pd_I} {J : pd_J} {F : pd_R} {n : Nat} (C : pd_C cx own cc rm) (hin0 : (cx.2.2.2.2.2.2.2.2.1).name = "<init>") (hown : "PathDecoder$Received" = own) {index a b : Nat} (hw : Cond.fieldLink own index "PathDecoder$Received" "tableOne" "[I" ∈ pd_B) (ha : a < n) (hs : pd_SH a = (3, 4)) (d : decode cc pc = .ok (.putfield index, 3)) (kk : pd_V cx kc ks (pc + 3) ls st I J (pd_ur F a 1 (some b)) n) : pd_V cx kc ks pc ls (.ref b :: .ref a :: st) I J F n := pd_putFR (t := 3) (N := 4) (T := TX3) (ty0 := tyX3) C hin0 rfl fw_3 tyX3_ok nmX3 (by decide) 1 (by decide) rfl rfl hown rfl rfl (fun q => ⟨rfl, rfl⟩) hw ha hs d kk
theorem pfr_3_2 {cx : pd_X} {own : String} {cc : ByteArray} {rm : Room} {kc ks pc : Nat} {ls : List (Option Value)} {st : List Value} {I : pd_I} {J : pd_J} {F : pd_R} {n : Nat} (C : pd_C cx own cc rm) (hin0 : (cx.2.2.2.2.2.2.2.2.1).name = "<init>") (hown : "PathDecoder$Received" = own) {index a b : Nat} (hw : Cond.fieldLink own index "PathDecoder$Received" "zero" "[I" ∈ pd_B) (ha : a < n) (hs : pd_SH a = (3, 4)) (d : decode cc pc = .ok (.putfield index, 3)) (kk : pd_V cx kc ks (pc + 3) ls st I J (pd_ur F a 2 (some b)) n) : pd_V cx kc ks pc ls (.ref b :: .ref a :: st) I J F n := pd_putFR (t := 3) (N := 4) (T := TX3) (ty0 := tyX3) C hin0 rfl fw_3 tyX3_ok nmX3 (by decide) 2 (by decide) rfl rfl hown rfl rfl (fun q => ⟨rfl, rfl⟩) hw ha hs d kk
theorem pfr_3_3 {cx : pd_X} {own : String} {cc : ByteArray} {rm : Room} {kc ks pc : Nat} {ls : List (Option Value)} {st : List Value} {I : pd_I} {J : pd_J} {F : pd_R} {n : Nat} (C : pd_C cx own cc rm) (hin0 : (cx.2.2.2.2.2.2.2.2.1).name = "<init>") (hown : "PathDecoder$Received" = own) {index a b : Nat} (hw : Cond.fieldLink own index "PathDecoder$Received" "one" "[I" ∈ pd_B) (ha : a < n) (hs : pd_SH a = (3, 4)) (d : decode cc pc = .ok (.putfield index, 3)) (kk : pd_V cx kc ks (pc + 3) ls st I J (pd_ur F a 3 (some b)) n) : pd_V cx kc ks pc ls (.ref b :: .ref a :: st) I J F n := pd_putFR (t := 3) (N := 4) (T := TX3) (ty0 := tyX3) C hin0 rfl fw_3 tyX3_ok nmX3 (by decide) 3 (by decide) rfl rfl hown rfl rfl (fun q => ⟨rfl, rfl⟩) hw ha hs d kk
theorem pfr_4_0 {cx : pd_X} {own : String} {cc : ByteArray} {rm : Room} {kc ks pc : Nat} {ls : List (Option Value)} {st : List Value} {I : pd_I} {J : pd_J} {F : pd_R} {n : Nat} (C : pd_C cx own cc rm) (hin0 : (cx.2.2.2.2.2.2.2.2.1).name = "<init>") (hown : "PathDecoder$Row" = own) {index a b : Nat} (hw : Cond.fieldLink own index "PathDecoder$Row" "numbers" "[S" ∈ pd_B) (ha : a < n) (hs : pd_SH a = (4, 2)) (d : decode cc pc = .ok (.putfield index, 3)) (kk : pd_V cx kc ks (pc + 3) ls st I J (pd_ur F a 0 (some b)) n) : pd_V cx kc ks pc ls (.ref b :: .ref a :: st) I J F n := pd_putFR (t := 4) (N := 2) (T := TX4) (ty0 := tyX4) C hin0 rfl fw_4 tyX4_ok nmX4 (by decide) 0 (by decide) rfl rfl hown rfl rfl (fun q => ⟨rfl, rfl⟩) hw ha hs d kk
theorem pfr_5_0 {cx : pd_X} {own : String} {cc : ByteArray} {rm : Room} {kc ks pc : Nat} {ls : List (Option Value)} {st : List Value} {I : pd_I} {J : pd_J} {F : pd_R} {n : Nat} (C : pd_C cx own cc rm) (hin0 : (cx.2.2.2.2.2.2.2.2.1).name = "<init>") (hown : "PathDecoder$Search" = own) {index a b : Nat} (hw : Cond.fieldLink own index "PathDecoder$Search" "lattice" "LPathDecoder$Lattice;" ∈ pd_B) (ha : a < n) (hs : pd_SH a = (5, 8)) (d : decode cc pc = .ok (.putfield index, 3)) (kk : pd_V cx kc ks (pc + 3) ls st I J (pd_ur F a 0 (some b)) n) : pd_V cx kc ks pc ls (.ref b :: .ref a :: st) I J F n := pd_putFR (t := 5) (N := 8) (T := TX5) (ty0 := tyX5) C hin0 rfl fw_5 tyX5_ok nmX5 (by decide) 0 (by decide) rfl rfl hown rfl rfl (fun q => ⟨rfl, rfl⟩) hw ha hs d kk
theorem pfr_5_1 {cx : pd_X} {own : String} {cc : ByteArray} {rm : Room} {kc ks pc : Nat} {ls : List (Option Value)} {st : List Value} {I : pd_I} {J : pd_J} {F : pd_R} {n : Nat} (C : pd_C cx own cc rm) (hin0 : (cx.2.2.2.2.2.2.2.2.1).name = "<init>") (hown : "PathDecoder$Search" = own) {index a b : Nat} (hw : Cond.fieldLink own index "PathDecoder$Search" "ways" "LPathDecoder$Ways;" ∈ pd_B) (ha : a < n) (hs : pd_SH a = (5, 8)) (d : decode cc pc = .ok (.putfield index, 3)) (kk : pd_V cx kc ks (pc + 3) ls st I J (pd_ur F a 1 (some b)) n) : pd_V cx kc ks pc ls (.ref b :: .ref a :: st) I J F n := pd_putFR (t := 5) (N := 8) (T := TX5) (ty0 := tyX5) C hin0 rfl fw_5 tyX5_ok nmX5 (by decide) 1 (by decide) rfl rfl hown rfl rfl (fun q => ⟨rfl, rfl⟩) hw ha hs d kk
theorem pfr_5_6 {cx : pd_X} {own : String} {cc : ByteArray} {rm : Room} {kc ks pc : Nat} {ls : List (Option Value)} {st : List Value} {I : pd_I} {J : pd_J} {F : pd_R} {n : Nat} (C : pd_C cx own cc rm) (hin0 : (cx.2.2.2.2.2.2.2.2.1).name = "<init>") (hown : "PathDecoder$Search" = own) {index a b : Nat} (hw : Cond.fieldLink own index "PathDecoder$Search" "onward" "[B" ∈ pd_B) (ha : a < n) (hs : pd_SH a = (5, 8)) (d : decode cc pc = .ok (.putfield index, 3)) (kk : pd_V cx kc ks (pc + 3) ls st I J (pd_ur F a 6 (some b)) n) : pd_V cx kc ks pc ls (.ref b :: .ref a :: st) I J F n := pd_putFR (t := 5) (N := 8) (T := TX5) (ty0 := tyX5) C hin0 rfl fw_5 tyX5_ok nmX5 (by decide) 6 (by decide) rfl rfl hown rfl rfl (fun q => ⟨rfl, rfl⟩) hw ha hs d kk
theorem pfr_5_7 {cx : pd_X} {own : String} {cc : ByteArray} {rm : Room} {kc ks pc : Nat} {ls : List (Option Value)} {st : List Value} {I : pd_I} {J : pd_J} {F : pd_R} {n : Nat} (C : pd_C cx own cc rm) (hin0 : (cx.2.2.2.2.2.2.2.2.1).name = "<init>") (hown : "PathDecoder$Search" = own) {index a b : Nat} (hw : Cond.fieldLink own index "PathDecoder$Search" "origin" "[B" ∈ pd_B) (ha : a < n) (hs : pd_SH a = (5, 8)) (d : decode cc pc = .ok (.putfield index, 3)) (kk : pd_V cx kc ks (pc + 3) ls st I J (pd_ur F a 7 (some b)) n) : pd_V cx kc ks pc ls (.ref b :: .ref a :: st) I J F n := pd_putFR (t := 5) (N := 8) (T := TX5) (ty0 := tyX5) C hin0 rfl fw_5 tyX5_ok nmX5 (by decide) 7 (by decide) rfl rfl hown rfl rfl (fun q => ⟨rfl, rfl⟩) hw ha hs d kk
theorem pfr_6_0 {cx : pd_X} {own : String} {cc : ByteArray} {rm : Room} {kc ks pc : Nat} {ls : List (Option Value)} {st : List Value} {I : pd_I} {J : pd_J} {F : pd_R} {n : Nat} (C : pd_C cx own cc rm) (hin0 : (cx.2.2.2.2.2.2.2.2.1).name = "<init>") (hown : "PathDecoder$Seeming" = own) {index a b : Nat} (hw : Cond.fieldLink own index "PathDecoder$Seeming" "lattice" "LPathDecoder$Lattice;" ∈ pd_B) (ha : a < n) (hs : pd_SH a = (6, 6)) (d : decode cc pc = .ok (.putfield index, 3)) (kk : pd_V cx kc ks (pc + 3) ls st I J (pd_ur F a 0 (some b)) n) : pd_V cx kc ks pc ls (.ref b :: .ref a :: st) I J F n := pd_putFR (t := 6) (N := 6) (T := TX6) (ty0 := tyX6) C hin0 rfl fw_6 tyX6_ok nmX6 (by decide) 0 (by decide) rfl rfl hown rfl rfl (fun q => ⟨rfl, rfl⟩) hw ha hs d kk
theorem pfr_6_1 {cx : pd_X} {own : String} {cc : ByteArray} {rm : Room} {kc ks pc : Nat} {ls : List (Option Value)} {st : List Value} {I : pd_I} {J : pd_J} {F : pd_R} {n : Nat} (C : pd_C cx own cc rm) (hin0 : (cx.2.2.2.2.2.2.2.2.1).name = "<init>") (hown : "PathDecoder$Seeming" = own) {index a b : Nat} (hw : Cond.fieldLink own index "PathDecoder$Seeming" "reached" "[I" ∈ pd_B) (ha : a < n) (hs : pd_SH a = (6, 6)) (d : decode cc pc = .ok (.putfield index, 3)) (kk : pd_V cx kc ks (pc + 3) ls st I J (pd_ur F a 1 (some b)) n) : pd_V cx kc ks pc ls (.ref b :: .ref a :: st) I J F n := pd_putFR (t := 6) (N := 6) (T := TX6) (ty0 := tyX6) C hin0 rfl fw_6 tyX6_ok nmX6 (by decide) 1 (by decide) rfl rfl hown rfl rfl (fun q => ⟨rfl, rfl⟩) hw ha hs d kk
theorem pfr_6_4 {cx : pd_X} {own : String} {cc : ByteArray} {rm : Room} {kc ks pc : Nat} {ls : List (Option Value)} {st : List Value} {I : pd_I} {J : pd_J} {F : pd_R} {n : Nat} (C : pd_C cx own cc rm) (hin0 : (cx.2.2.2.2.2.2.2.2.1).name = "<init>") (hown : "PathDecoder$Seeming" = own) {index a b : Nat} (hw : Cond.fieldLink own index "PathDecoder$Seeming" "leastZero" "[I" ∈ pd_B) (ha : a < n) (hs : pd_SH a = (6, 6)) (d : decode cc pc = .ok (.putfield index, 3)) (kk : pd_V cx kc ks (pc + 3) ls st I J (pd_ur F a 4 (some b)) n) : pd_V cx kc ks pc ls (.ref b :: .ref a :: st) I J F n := pd_putFR (t := 6) (N := 6) (T := TX6) (ty0 := tyX6) C hin0 rfl fw_6 tyX6_ok nmX6 (by decide) 4 (by decide) rfl rfl hown rfl rfl (fun q => ⟨rfl, rfl⟩) hw ha hs d kk
theorem pfr_6_5 {cx : pd_X} {own : String} {cc : ByteArray} {rm : Room} {kc ks pc : Nat} {ls : List (Option Value)} {st : List Value} {I : pd_I} {J : pd_J} {F : pd_R} {n : Nat} (C : pd_C cx own cc rm) (hin0 : (cx.2.2.2.2.2.2.2.2.1).name = "<init>") (hown : "PathDecoder$Seeming" = own) {index a b : Nat} (hw : Cond.fieldLink own index "PathDecoder$Seeming" "leastOne" "[I" ∈ pd_B) (ha : a < n) (hs : pd_SH a = (6, 6)) (d : decode cc pc = .ok (.putfield index, 3)) (kk : pd_V cx kc ks (pc + 3) ls st I J (pd_ur F a 5 (some b)) n) : pd_V cx kc ks pc ls (.ref b :: .ref a :: st) I J F n := pd_putFR (t := 6) (N := 6) (T := TX6) (ty0 := tyX6) C hin0 rfl fw_6 tyX6_ok nmX6 (by decide) 5 (by decide) rfl rfl hown rfl rfl (fun q => ⟨rfl, rfl⟩) hw ha hs d kk
theorem pfr_7_0 {cx : pd_X} {own : String} {cc : ByteArray} {rm : Room} {kc ks pc : Nat} {ls : List (Option Value)} {st : List Value} {I : pd_I} {J : pd_J} {F : pd_R} {n : Nat} (C : pd_C cx own cc rm) (hin0 : (cx.2.2.2.2.2.2.2.2.1).name = "<init>") (hown : "PathDecoder$Spectrum" = own) {index a b : Nat} (hw : Cond.fieldLink own index "PathDecoder$Spectrum" "lattice" "LPathDecoder$Lattice;" ∈ pd_B) (ha : a < n) (hs : pd_SH a = (7, 6)) (d : decode cc pc = .ok (.putfield index, 3)) (kk : pd_V cx kc ks (pc + 3) ls st I J (pd_ur F a 0 (some b)) n) : pd_V cx kc ks pc ls (.ref b :: .ref a :: st) I J F n := pd_putFR (t := 7) (N := 6) (T := TX7) (ty0 := tyX7) C hin0 rfl fw_7 tyX7_ok nmX7 (by decide) 0 (by decide) rfl rfl hown rfl rfl (fun q => ⟨rfl, rfl⟩) hw ha hs d kk
theorem pfr_7_1 {cx : pd_X} {own : String} {cc : ByteArray} {rm : Room} {kc ks pc : Nat} {ls : List (Option Value)} {st : List Value} {I : pd_I} {J : pd_J} {F : pd_R} {n : Nat} (C : pd_C cx own cc rm) (hin0 : (cx.2.2.2.2.2.2.2.2.1).name = "<init>") (hown : "PathDecoder$Spectrum" = own) {index a b : Nat} (hw : Cond.fieldLink own index "PathDecoder$Spectrum" "order" "[I" ∈ pd_B) (ha : a < n) (hs : pd_SH a = (7, 6)) (d : decode cc pc = .ok (.putfield index, 3)) (kk : pd_V cx kc ks (pc + 3) ls st I J (pd_ur F a 1 (some b)) n) : pd_V cx kc ks pc ls (.ref b :: .ref a :: st) I J F n := pd_putFR (t := 7) (N := 6) (T := TX7) (ty0 := tyX7) C hin0 rfl fw_7 tyX7_ok nmX7 (by decide) 1 (by decide) rfl rfl hown rfl rfl (fun q => ⟨rfl, rfl⟩) hw ha hs d kk
theorem pfr_7_3 {cx : pd_X} {own : String} {cc : ByteArray} {rm : Room} {kc ks pc : Nat} {ls : List (Option Value)} {st : List Value} {I : pd_I} {J : pd_J} {F : pd_R} {n : Nat} (C : pd_C cx own cc rm) (hin0 : (cx.2.2.2.2.2.2.2.2.1).name = "<init>") (hown : "PathDecoder$Spectrum" = own) {index a b : Nat} (hw : Cond.fieldLink own index "PathDecoder$Spectrum" "waiting" "[I" ∈ pd_B) (ha : a < n) (hs : pd_SH a = (7, 6)) (d : decode cc pc = .ok (.putfield index, 3)) (kk : pd_V cx kc ks (pc + 3) ls st I J (pd_ur F a 3 (some b)) n) : pd_V cx kc ks pc ls (.ref b :: .ref a :: st) I J F n := pd_putFR (t := 7) (N := 6) (T := TX7) (ty0 := tyX7) C hin0 rfl fw_7 tyX7_ok nmX7 (by decide) 3 (by decide) rfl rfl hown rfl rfl (fun q => ⟨rfl, rfl⟩) hw ha hs d kk
theorem pfr_7_4 {cx : pd_X} {own : String} {cc : ByteArray} {rm : Room} {kc ks pc : Nat} {ls : List (Option Value)} {st : List Value} {I : pd_I} {J : pd_J} {F : pd_R} {n : Nat} (C : pd_C cx own cc rm) (hin0 : (cx.2.2.2.2.2.2.2.2.1).name = "<init>") (hown : "PathDecoder$Spectrum" = own) {index a b : Nat} (hw : Cond.fieldLink own index "PathDecoder$Spectrum" "least" "[I" ∈ pd_B) (ha : a < n) (hs : pd_SH a = (7, 6)) (d : decode cc pc = .ok (.putfield index, 3)) (kk : pd_V cx kc ks (pc + 3) ls st I J (pd_ur F a 4 (some b)) n) : pd_V cx kc ks pc ls (.ref b :: .ref a :: st) I J F n := pd_putFR (t := 7) (N := 6) (T := TX7) (ty0 := tyX7) C hin0 rfl fw_7 tyX7_ok nmX7 (by decide) 4 (by decide) rfl rfl hown rfl rfl (fun q => ⟨rfl, rfl⟩) hw ha hs d kk
theorem pfr_7_5 {cx : pd_X} {own : String} {cc : ByteArray} {rm : Room} {kc ks pc : Nat} {ls : List (Option Value)} {st : List Value} {I : pd_I} {J : pd_J} {F : pd_R} {n : Nat} (C : pd_C cx own cc rm) (hin0 : (cx.2.2.2.2.2.2.2.2.1).name = "<init>") (hown : "PathDecoder$Spectrum" = own) {index a b : Nat} (hw : Cond.fieldLink own index "PathDecoder$Spectrum" "counts" "[J" ∈ pd_B) (ha : a < n) (hs : pd_SH a = (7, 6)) (d : decode cc pc = .ok (.putfield index, 3)) (kk : pd_V cx kc ks (pc + 3) ls st I J (pd_ur F a 5 (some b)) n) : pd_V cx kc ks pc ls (.ref b :: .ref a :: st) I J F n := pd_putFR (t := 7) (N := 6) (T := TX7) (ty0 := tyX7) C hin0 rfl fw_7 tyX7_ok nmX7 (by decide) 5 (by decide) rfl rfl hown rfl rfl (fun q => ⟨rfl, rfl⟩) hw ha hs d kk
theorem pfr_8_0 {cx : pd_X} {own : String} {cc : ByteArray} {rm : Room} {kc ks pc : Nat} {ls : List (Option Value)} {st : List Value} {I : pd_I} {J : pd_J} {F : pd_R} {n : Nat} (C : pd_C cx own cc rm) (hin0 : (cx.2.2.2.2.2.2.2.2.1).name = "<init>") (hown : "PathDecoder$Turns" = own) {index a b : Nat} (hw : Cond.fieldLink own index "PathDecoder$Turns" "received" "LPathDecoder$Received;" ∈ pd_B) (ha : a < n) (hs : pd_SH a = (8, 8)) (d : decode cc pc = .ok (.putfield index, 3)) (kk : pd_V cx kc ks (pc + 3) ls st I J (pd_ur F a 0 (some b)) n) : pd_V cx kc ks pc ls (.ref b :: .ref a :: st) I J F n := pd_putFR (t := 8) (N := 8) (T := TX8) (ty0 := tyX8) C hin0 rfl fw_8 tyX8_ok nmX8 (by decide) 0 (by decide) rfl rfl hown rfl rfl (fun q => ⟨rfl, rfl⟩) hw ha hs d kk
theorem pfr_8_1 {cx : pd_X} {own : String} {cc : ByteArray} {rm : Room} {kc ks pc : Nat} {ls : List (Option Value)} {st : List Value} {I : pd_I} {J : pd_J} {F : pd_R} {n : Nat} (C : pd_C cx own cc rm) (hin0 : (cx.2.2.2.2.2.2.2.2.1).name = "<init>") (hown : "PathDecoder$Turns" = own) {index a b : Nat} (hw : Cond.fieldLink own index "PathDecoder$Turns" "lattice" "LPathDecoder$Lattice;" ∈ pd_B) (ha : a < n) (hs : pd_SH a = (8, 8)) (d : decode cc pc = .ok (.putfield index, 3)) (kk : pd_V cx kc ks (pc + 3) ls st I J (pd_ur F a 1 (some b)) n) : pd_V cx kc ks pc ls (.ref b :: .ref a :: st) I J F n := pd_putFR (t := 8) (N := 8) (T := TX8) (ty0 := tyX8) C hin0 rfl fw_8 tyX8_ok nmX8 (by decide) 1 (by decide) rfl rfl hown rfl rfl (fun q => ⟨rfl, rfl⟩) hw ha hs d kk
theorem pfr_8_2 {cx : pd_X} {own : String} {cc : ByteArray} {rm : Room} {kc ks pc : Nat} {ls : List (Option Value)} {st : List Value} {I : pd_I} {J : pd_J} {F : pd_R} {n : Nat} (C : pd_C cx own cc rm) (hin0 : (cx.2.2.2.2.2.2.2.2.1).name = "<init>") (hown : "PathDecoder$Turns" = own) {index a b : Nat} (hw : Cond.fieldLink own index "PathDecoder$Turns" "seeming" "LPathDecoder$Seeming;" ∈ pd_B) (ha : a < n) (hs : pd_SH a = (8, 8)) (d : decode cc pc = .ok (.putfield index, 3)) (kk : pd_V cx kc ks (pc + 3) ls st I J (pd_ur F a 2 (some b)) n) : pd_V cx kc ks pc ls (.ref b :: .ref a :: st) I J F n := pd_putFR (t := 8) (N := 8) (T := TX8) (ty0 := tyX8) C hin0 rfl fw_8 tyX8_ok nmX8 (by decide) 2 (by decide) rfl rfl hown rfl rfl (fun q => ⟨rfl, rfl⟩) hw ha hs d kk
theorem pfr_8_3 {cx : pd_X} {own : String} {cc : ByteArray} {rm : Room} {kc ks pc : Nat} {ls : List (Option Value)} {st : List Value} {I : pd_I} {J : pd_J} {F : pd_R} {n : Nat} (C : pd_C cx own cc rm) (hin0 : (cx.2.2.2.2.2.2.2.2.1).name = "<init>") (hown : "PathDecoder$Turns" = own) {index a b : Nat} (hw : Cond.fieldLink own index "PathDecoder$Turns" "news" "[I" ∈ pd_B) (ha : a < n) (hs : pd_SH a = (8, 8)) (d : decode cc pc = .ok (.putfield index, 3)) (kk : pd_V cx kc ks (pc + 3) ls st I J (pd_ur F a 3 (some b)) n) : pd_V cx kc ks pc ls (.ref b :: .ref a :: st) I J F n := pd_putFR (t := 8) (N := 8) (T := TX8) (ty0 := tyX8) C hin0 rfl fw_8 tyX8_ok nmX8 (by decide) 3 (by decide) rfl rfl hown rfl rfl (fun q => ⟨rfl, rfl⟩) hw ha hs d kk
theorem pfr_8_4 {cx : pd_X} {own : String} {cc : ByteArray} {rm : Room} {kc ks pc : Nat} {ls : List (Option Value)} {st : List Value} {I : pd_I} {J : pd_J} {F : pd_R} {n : Nat} (C : pd_C cx own cc rm) (hin0 : (cx.2.2.2.2.2.2.2.2.1).name = "<init>") (hown : "PathDecoder$Turns" = own) {index a b : Nat} (hw : Cond.fieldLink own index "PathDecoder$Turns" "byStep" "[I" ∈ pd_B) (ha : a < n) (hs : pd_SH a = (8, 8)) (d : decode cc pc = .ok (.putfield index, 3)) (kk : pd_V cx kc ks (pc + 3) ls st I J (pd_ur F a 4 (some b)) n) : pd_V cx kc ks pc ls (.ref b :: .ref a :: st) I J F n := pd_putFR (t := 8) (N := 8) (T := TX8) (ty0 := tyX8) C hin0 rfl fw_8 tyX8_ok nmX8 (by decide) 4 (by decide) rfl rfl hown rfl rfl (fun q => ⟨rfl, rfl⟩) hw ha hs d kk
theorem pfr_8_5 {cx : pd_X} {own : String} {cc : ByteArray} {rm : Room} {kc ks pc : Nat} {ls : List (Option Value)} {st : List Value} {I : pd_I} {J : pd_J} {F : pd_R} {n : Nat} (C : pd_C cx own cc rm) (hin0 : (cx.2.2.2.2.2.2.2.2.1).name = "<init>") (hown : "PathDecoder$Turns" = own) {index a b : Nat} (hw : Cond.fieldLink own index "PathDecoder$Turns" "first" "[I" ∈ pd_B) (ha : a < n) (hs : pd_SH a = (8, 8)) (d : decode cc pc = .ok (.putfield index, 3)) (kk : pd_V cx kc ks (pc + 3) ls st I J (pd_ur F a 5 (some b)) n) : pd_V cx kc ks pc ls (.ref b :: .ref a :: st) I J F n := pd_putFR (t := 8) (N := 8) (T := TX8) (ty0 := tyX8) C hin0 rfl fw_8 tyX8_ok nmX8 (by decide) 5 (by decide) rfl rfl hown rfl rfl (fun q => ⟨rfl, rfl⟩) hw ha hs d kk
theorem pfr_8_6 {cx : pd_X} {own : String} {cc : ByteArray} {rm : Room} {kc ks pc : Nat} {ls : List (Option Value)} {st : List Value} {I : pd_I} {J : pd_J} {F : pd_R} {n : Nat} (C : pd_C cx own cc rm) (hin0 : (cx.2.2.2.2.2.2.2.2.1).name = "<init>") (hown : "PathDecoder$Turns" = own) {index a b : Nat} (hw : Cond.fieldLink own index "PathDecoder$Turns" "second" "[I" ∈ pd_B) (ha : a < n) (hs : pd_SH a = (8, 8)) (d : decode cc pc = .ok (.putfield index, 3)) (kk : pd_V cx kc ks (pc + 3) ls st I J (pd_ur F a 6 (some b)) n) : pd_V cx kc ks pc ls (.ref b :: .ref a :: st) I J F n := pd_putFR (t := 8) (N := 8) (T := TX8) (ty0 := tyX8) C hin0 rfl fw_8 tyX8_ok nmX8 (by decide) 6 (by decide) rfl rfl hown rfl rfl (fun q => ⟨rfl, rfl⟩) hw ha hs d kk
theorem pfr_9_3 {cx : pd_X} {own : String} {cc : ByteArray} {rm : Room} {kc ks pc : Nat} {ls : List (Option Value)} {st : List Value} {I : pd_I} {J : pd_J} {F : pd_R} {n : Nat} (C : pd_C cx own cc rm) (hin0 : (cx.2.2.2.2.2.2.2.2.1).name = "<init>") (hown : "PathDecoder$Way" = own) {index a b : Nat} (hw : Cond.fieldLink own index "PathDecoder$Way" "bits" "[B" ∈ pd_B) (ha : a < n) (hs : pd_SH a = (9, 4)) (d : decode cc pc = .ok (.putfield index, 3)) (kk : pd_V cx kc ks (pc + 3) ls st I J (pd_ur F a 3 (some b)) n) : pd_V cx kc ks pc ls (.ref b :: .ref a :: st) I J F n := pd_putFR (t := 9) (N := 4) (T := TX9) (ty0 := tyX9) C hin0 rfl fw_9 tyX9_ok nmX9 (by decide) 3 (by decide) rfl rfl hown rfl rfl (fun q => ⟨rfl, rfl⟩) hw ha hs d kk
theorem pfr_10_0 {cx : pd_X} {own : String} {cc : ByteArray} {rm : Room} {kc ks pc : Nat} {ls : List (Option Value)} {st : List Value} {I : pd_I} {J : pd_J} {F : pd_R} {n : Nat} (C : pd_C cx own cc rm) (hin0 : (cx.2.2.2.2.2.2.2.2.1).name = "<init>") (hown : "PathDecoder$Ways" = own) {index a b : Nat} (hw : Cond.fieldLink own index "PathDecoder$Ways" "ways" "[LPathDecoder$Way;" ∈ pd_B) (ha : a < n) (hs : pd_SH a = (10, 3)) (d : decode cc pc = .ok (.putfield index, 3)) (kk : pd_V cx kc ks (pc + 3) ls st I J (pd_ur F a 0 (some b)) n) : pd_V cx kc ks pc ls (.ref b :: .ref a :: st) I J F n := pd_putFR (t := 10) (N := 3) (T := TX10) (ty0 := tyX10) C hin0 rfl fw_10 tyX10_ok nmX10 (by decide) 0 (by decide) rfl rfl hown rfl rfl (fun q => ⟨rfl, rfl⟩) hw ha hs d kk
theorem pfr_11_0 {cx : pd_X} {own : String} {cc : ByteArray} {rm : Room} {kc ks pc : Nat} {ls : List (Option Value)} {st : List Value} {I : pd_I} {J : pd_J} {F : pd_R} {n : Nat} (C : pd_C cx own cc rm) (hin0 : (cx.2.2.2.2.2.2.2.2.1).name = "<init>") (hown : "PathDecoder" = own) {index a b : Nat} (hw : Cond.fieldLink own index "PathDecoder" "rows" "[LPathDecoder$Row;" ∈ pd_B) (ha : a < n) (hs : pd_SH a = (11, 14)) (d : decode cc pc = .ok (.putfield index, 3)) (kk : pd_V cx kc ks (pc + 3) ls st I J (pd_ur F a 0 (some b)) n) : pd_V cx kc ks pc ls (.ref b :: .ref a :: st) I J F n := pd_putFR (t := 11) (N := 14) (T := TX11) (ty0 := tyX11) C hin0 rfl fw_11 tyX11_ok nmX11 (by decide) 0 (by decide) rfl rfl hown rfl rfl (fun q => ⟨rfl, rfl⟩) hw ha hs d kk
theorem pfr_11_1 {cx : pd_X} {own : String} {cc : ByteArray} {rm : Room} {kc ks pc : Nat} {ls : List (Option Value)} {st : List Value} {I : pd_I} {J : pd_J} {F : pd_R} {n : Nat} (C : pd_C cx own cc rm) (hin0 : (cx.2.2.2.2.2.2.2.2.1).name = "<init>") (hown : "PathDecoder" = own) {index a b : Nat} (hw : Cond.fieldLink own index "PathDecoder" "codes" "[LPathDecoder$Code;" ∈ pd_B) (ha : a < n) (hs : pd_SH a = (11, 14)) (d : decode cc pc = .ok (.putfield index, 3)) (kk : pd_V cx kc ks (pc + 3) ls st I J (pd_ur F a 1 (some b)) n) : pd_V cx kc ks pc ls (.ref b :: .ref a :: st) I J F n := pd_putFR (t := 11) (N := 14) (T := TX11) (ty0 := tyX11) C hin0 rfl fw_11 tyX11_ok nmX11 (by decide) 1 (by decide) rfl rfl hown rfl rfl (fun q => ⟨rfl, rfl⟩) hw ha hs d kk
theorem pfr_11_3 {cx : pd_X} {own : String} {cc : ByteArray} {rm : Room} {kc ks pc : Nat} {ls : List (Option Value)} {st : List Value} {I : pd_I} {J : pd_J} {F : pd_R} {n : Nat} (C : pd_C cx own cc rm) (hin0 : (cx.2.2.2.2.2.2.2.2.1).name = "<init>") (hown : "PathDecoder" = own) {index a b : Nat} (hw : Cond.fieldLink own index "PathDecoder" "message" "LPathDecoder$Message;" ∈ pd_B) (ha : a < n) (hs : pd_SH a = (11, 14)) (d : decode cc pc = .ok (.putfield index, 3)) (kk : pd_V cx kc ks (pc + 3) ls st I J (pd_ur F a 3 (some b)) n) : pd_V cx kc ks pc ls (.ref b :: .ref a :: st) I J F n := pd_putFR (t := 11) (N := 14) (T := TX11) (ty0 := tyX11) C hin0 rfl fw_11 tyX11_ok nmX11 (by decide) 3 (by decide) rfl rfl hown rfl rfl (fun q => ⟨rfl, rfl⟩) hw ha hs d kk
theorem pfr_11_4 {cx : pd_X} {own : String} {cc : ByteArray} {rm : Room} {kc ks pc : Nat} {ls : List (Option Value)} {st : List Value} {I : pd_I} {J : pd_J} {F : pd_R} {n : Nat} (C : pd_C cx own cc rm) (hin0 : (cx.2.2.2.2.2.2.2.2.1).name = "<init>") (hown : "PathDecoder" = own) {index a b : Nat} (hw : Cond.fieldLink own index "PathDecoder" "received" "LPathDecoder$Received;" ∈ pd_B) (ha : a < n) (hs : pd_SH a = (11, 14)) (d : decode cc pc = .ok (.putfield index, 3)) (kk : pd_V cx kc ks (pc + 3) ls st I J (pd_ur F a 4 (some b)) n) : pd_V cx kc ks pc ls (.ref b :: .ref a :: st) I J F n := pd_putFR (t := 11) (N := 14) (T := TX11) (ty0 := tyX11) C hin0 rfl fw_11 tyX11_ok nmX11 (by decide) 4 (by decide) rfl rfl hown rfl rfl (fun q => ⟨rfl, rfl⟩) hw ha hs d kk
theorem pfr_11_5 {cx : pd_X} {own : String} {cc : ByteArray} {rm : Room} {kc ks pc : Nat} {ls : List (Option Value)} {st : List Value} {I : pd_I} {J : pd_J} {F : pd_R} {n : Nat} (C : pd_C cx own cc rm) (hin0 : (cx.2.2.2.2.2.2.2.2.1).name = "<init>") (hown : "PathDecoder" = own) {index a b : Nat} (hw : Cond.fieldLink own index "PathDecoder" "lattice" "LPathDecoder$Lattice;" ∈ pd_B) (ha : a < n) (hs : pd_SH a = (11, 14)) (d : decode cc pc = .ok (.putfield index, 3)) (kk : pd_V cx kc ks (pc + 3) ls st I J (pd_ur F a 5 (some b)) n) : pd_V cx kc ks pc ls (.ref b :: .ref a :: st) I J F n := pd_putFR (t := 11) (N := 14) (T := TX11) (ty0 := tyX11) C hin0 rfl fw_11 tyX11_ok nmX11 (by decide) 5 (by decide) rfl rfl hown rfl rfl (fun q => ⟨rfl, rfl⟩) hw ha hs d kk
theorem pfr_11_6 {cx : pd_X} {own : String} {cc : ByteArray} {rm : Room} {kc ks pc : Nat} {ls : List (Option Value)} {st : List Value} {I : pd_I} {J : pd_J} {F : pd_R} {n : Nat} (C : pd_C cx own cc rm) (hin0 : (cx.2.2.2.2.2.2.2.2.1).name = "<init>") (hown : "PathDecoder" = own) {index a b : Nat} (hw : Cond.fieldLink own index "PathDecoder" "ways" "LPathDecoder$Ways;" ∈ pd_B) (ha : a < n) (hs : pd_SH a = (11, 14)) (d : decode cc pc = .ok (.putfield index, 3)) (kk : pd_V cx kc ks (pc + 3) ls st I J (pd_ur F a 6 (some b)) n) : pd_V cx kc ks pc ls (.ref b :: .ref a :: st) I J F n := pd_putFR (t := 11) (N := 14) (T := TX11) (ty0 := tyX11) C hin0 rfl fw_11 tyX11_ok nmX11 (by decide) 6 (by decide) rfl rfl hown rfl rfl (fun q => ⟨rfl, rfl⟩) hw ha hs d kk
theorem pfr_11_7 {cx : pd_X} {own : String} {cc : ByteArray} {rm : Room} {kc ks pc : Nat} {ls : List (Option Value)} {st : List Value} {I : pd_I} {J : pd_J} {F : pd_R} {n : Nat} (C : pd_C cx own cc rm) (hin0 : (cx.2.2.2.2.2.2.2.2.1).name = "<init>") (hown : "PathDecoder" = own) {index a b : Nat} (hw : Cond.fieldLink own index "PathDecoder" "search" "LPathDecoder$Search;" ∈ pd_B) (ha : a < n) (hs : pd_SH a = (11, 14)) (d : decode cc pc = .ok (.putfield index, 3)) (kk : pd_V cx kc ks (pc + 3) ls st I J (pd_ur F a 7 (some b)) n) : pd_V cx kc ks pc ls (.ref b :: .ref a :: st) I J F n := pd_putFR (t := 11) (N := 14) (T := TX11) (ty0 := tyX11) C hin0 rfl fw_11 tyX11_ok nmX11 (by decide) 7 (by decide) rfl rfl hown rfl rfl (fun q => ⟨rfl, rfl⟩) hw ha hs d kk
theorem pfr_11_8 {cx : pd_X} {own : String} {cc : ByteArray} {rm : Room} {kc ks pc : Nat} {ls : List (Option Value)} {st : List Value} {I : pd_I} {J : pd_J} {F : pd_R} {n : Nat} (C : pd_C cx own cc rm) (hin0 : (cx.2.2.2.2.2.2.2.2.1).name = "<init>") (hown : "PathDecoder" = own) {index a b : Nat} (hw : Cond.fieldLink own index "PathDecoder" "seeming" "LPathDecoder$Seeming;" ∈ pd_B) (ha : a < n) (hs : pd_SH a = (11, 14)) (d : decode cc pc = .ok (.putfield index, 3)) (kk : pd_V cx kc ks (pc + 3) ls st I J (pd_ur F a 8 (some b)) n) : pd_V cx kc ks pc ls (.ref b :: .ref a :: st) I J F n := pd_putFR (t := 11) (N := 14) (T := TX11) (ty0 := tyX11) C hin0 rfl fw_11 tyX11_ok nmX11 (by decide) 8 (by decide) rfl rfl hown rfl rfl (fun q => ⟨rfl, rfl⟩) hw ha hs d kk
theorem pfr_11_9 {cx : pd_X} {own : String} {cc : ByteArray} {rm : Room} {kc ks pc : Nat} {ls : List (Option Value)} {st : List Value} {I : pd_I} {J : pd_J} {F : pd_R} {n : Nat} (C : pd_C cx own cc rm) (hin0 : (cx.2.2.2.2.2.2.2.2.1).name = "<init>") (hown : "PathDecoder" = own) {index a b : Nat} (hw : Cond.fieldLink own index "PathDecoder" "turns" "LPathDecoder$Turns;" ∈ pd_B) (ha : a < n) (hs : pd_SH a = (11, 14)) (d : decode cc pc = .ok (.putfield index, 3)) (kk : pd_V cx kc ks (pc + 3) ls st I J (pd_ur F a 9 (some b)) n) : pd_V cx kc ks pc ls (.ref b :: .ref a :: st) I J F n := pd_putFR (t := 11) (N := 14) (T := TX11) (ty0 := tyX11) C hin0 rfl fw_11 tyX11_ok nmX11 (by decide) 9 (by decide) rfl rfl hown rfl rfl (fun q => ⟨rfl, rfl⟩) hw ha hs d kk
theorem pfr_11_10 {cx : pd_X} {own : String} {cc : ByteArray} {rm : Room} {kc ks pc : Nat} {ls : List (Option Value)} {st : List Value} {I : pd_I} {J : pd_J} {F : pd_R} {n : Nat} (C : pd_C cx own cc rm) (hin0 : (cx.2.2.2.2.2.2.2.2.1).name = "<init>") (hown : "PathDecoder" = own) {index a b : Nat} (hw : Cond.fieldLink own index "PathDecoder" "spectrum" "LPathDecoder$Spectrum;" ∈ pd_B) (ha : a < n) (hs : pd_SH a = (11, 14)) (d : decode cc pc = .ok (.putfield index, 3)) (kk : pd_V cx kc ks (pc + 3) ls st I J (pd_ur F a 10 (some b)) n) : pd_V cx kc ks pc ls (.ref b :: .ref a :: st) I J F n := pd_putFR (t := 11) (N := 14) (T := TX11) (ty0 := tyX11) C hin0 rfl fw_11 tyX11_ok nmX11 (by decide) 10 (by decide) rfl rfl hown rfl rfl (fun q => ⟨rfl, rfl⟩) hw ha hs d kk
theorem pfr_11_11 {cx : pd_X} {own : String} {cc : ByteArray} {rm : Room} {kc ks pc : Nat} {ls : List (Option Value)} {st : List Value} {I : pd_I} {J : pd_J} {F : pd_R} {n : Nat} (C : pd_C cx own cc rm) (hin0 : (cx.2.2.2.2.2.2.2.2.1).name = "<init>") (hown : "PathDecoder" = own) {index a b : Nat} (hw : Cond.fieldLink own index "PathDecoder" "seen" "[I" ∈ pd_B) (ha : a < n) (hs : pd_SH a = (11, 14)) (d : decode cc pc = .ok (.putfield index, 3)) (kk : pd_V cx kc ks (pc + 3) ls st I J (pd_ur F a 11 (some b)) n) : pd_V cx kc ks pc ls (.ref b :: .ref a :: st) I J F n := pd_putFR (t := 11) (N := 14) (T := TX11) (ty0 := tyX11) C hin0 rfl fw_11 tyX11_ok nmX11 (by decide) 11 (by decide) rfl rfl hown rfl rfl (fun q => ⟨rfl, rfl⟩) hw ha hs d kk
theorem pfr_12_1 {cx : pd_X} {own : String} {cc : ByteArray} {rm : Room} {kc ks pc : Nat} {ls : List (Option Value)} {st : List Value} {I : pd_I} {J : pd_J} {F : pd_R} {n : Nat} (C : pd_C cx own cc rm) (hin0 : (cx.2.2.2.2.2.2.2.2.1).name = "<init>") (hown : "PathDecoderModel" = own) {index a b : Nat} (hw : Cond.fieldLink own index "PathDecoderModel" "rowMany" "[I" ∈ pd_B) (ha : a < n) (hs : pd_SH a = (12, 44)) (d : decode cc pc = .ok (.putfield index, 3)) (kk : pd_V cx kc ks (pc + 3) ls st I J (pd_ur F a 1 (some b)) n) : pd_V cx kc ks pc ls (.ref b :: .ref a :: st) I J F n := pd_putFR (t := 12) (N := 44) (T := TX12) (ty0 := tyX12) C hin0 rfl fw_12 tyX12_ok nmX12 (by decide) 1 (by decide) rfl rfl hown rfl rfl (fun q => ⟨rfl, rfl⟩) hw ha hs d kk
theorem pfr_12_2 {cx : pd_X} {own : String} {cc : ByteArray} {rm : Room} {kc ks pc : Nat} {ls : List (Option Value)} {st : List Value} {I : pd_I} {J : pd_J} {F : pd_R} {n : Nat} (C : pd_C cx own cc rm) (hin0 : (cx.2.2.2.2.2.2.2.2.1).name = "<init>") (hown : "PathDecoderModel" = own) {index a b : Nat} (hw : Cond.fieldLink own index "PathDecoderModel" "rows" "[I" ∈ pd_B) (ha : a < n) (hs : pd_SH a = (12, 44)) (d : decode cc pc = .ok (.putfield index, 3)) (kk : pd_V cx kc ks (pc + 3) ls st I J (pd_ur F a 2 (some b)) n) : pd_V cx kc ks pc ls (.ref b :: .ref a :: st) I J F n := pd_putFR (t := 12) (N := 44) (T := TX12) (ty0 := tyX12) C hin0 rfl fw_12 tyX12_ok nmX12 (by decide) 2 (by decide) rfl rfl hown rfl rfl (fun q => ⟨rfl, rfl⟩) hw ha hs d kk
theorem pfr_12_3 {cx : pd_X} {own : String} {cc : ByteArray} {rm : Room} {kc ks pc : Nat} {ls : List (Option Value)} {st : List Value} {I : pd_I} {J : pd_J} {F : pd_R} {n : Nat} (C : pd_C cx own cc rm) (hin0 : (cx.2.2.2.2.2.2.2.2.1).name = "<init>") (hown : "PathDecoderModel" = own) {index a b : Nat} (hw : Cond.fieldLink own index "PathDecoderModel" "tableZero" "[I" ∈ pd_B) (ha : a < n) (hs : pd_SH a = (12, 44)) (d : decode cc pc = .ok (.putfield index, 3)) (kk : pd_V cx kc ks (pc + 3) ls st I J (pd_ur F a 3 (some b)) n) : pd_V cx kc ks pc ls (.ref b :: .ref a :: st) I J F n := pd_putFR (t := 12) (N := 44) (T := TX12) (ty0 := tyX12) C hin0 rfl fw_12 tyX12_ok nmX12 (by decide) 3 (by decide) rfl rfl hown rfl rfl (fun q => ⟨rfl, rfl⟩) hw ha hs d kk
theorem pfr_12_4 {cx : pd_X} {own : String} {cc : ByteArray} {rm : Room} {kc ks pc : Nat} {ls : List (Option Value)} {st : List Value} {I : pd_I} {J : pd_J} {F : pd_R} {n : Nat} (C : pd_C cx own cc rm) (hin0 : (cx.2.2.2.2.2.2.2.2.1).name = "<init>") (hown : "PathDecoderModel" = own) {index a b : Nat} (hw : Cond.fieldLink own index "PathDecoderModel" "tableOne" "[I" ∈ pd_B) (ha : a < n) (hs : pd_SH a = (12, 44)) (d : decode cc pc = .ok (.putfield index, 3)) (kk : pd_V cx kc ks (pc + 3) ls st I J (pd_ur F a 4 (some b)) n) : pd_V cx kc ks pc ls (.ref b :: .ref a :: st) I J F n := pd_putFR (t := 12) (N := 44) (T := TX12) (ty0 := tyX12) C hin0 rfl fw_12 tyX12_ok nmX12 (by decide) 4 (by decide) rfl rfl hown rfl rfl (fun q => ⟨rfl, rfl⟩) hw ha hs d kk
theorem pfr_12_6 {cx : pd_X} {own : String} {cc : ByteArray} {rm : Room} {kc ks pc : Nat} {ls : List (Option Value)} {st : List Value} {I : pd_I} {J : pd_J} {F : pd_R} {n : Nat} (C : pd_C cx own cc rm) (hin0 : (cx.2.2.2.2.2.2.2.2.1).name = "<init>") (hown : "PathDecoderModel" = own) {index a b : Nat} (hw : Cond.fieldLink own index "PathDecoderModel" "kinds" "[I" ∈ pd_B) (ha : a < n) (hs : pd_SH a = (12, 44)) (d : decode cc pc = .ok (.putfield index, 3)) (kk : pd_V cx kc ks (pc + 3) ls st I J (pd_ur F a 6 (some b)) n) : pd_V cx kc ks pc ls (.ref b :: .ref a :: st) I J F n := pd_putFR (t := 12) (N := 44) (T := TX12) (ty0 := tyX12) C hin0 rfl fw_12 tyX12_ok nmX12 (by decide) 6 (by decide) rfl rfl hown rfl rfl (fun q => ⟨rfl, rfl⟩) hw ha hs d kk
theorem pfr_12_7 {cx : pd_X} {own : String} {cc : ByteArray} {rm : Room} {kc ks pc : Nat} {ls : List (Option Value)} {st : List Value} {I : pd_I} {J : pd_J} {F : pd_R} {n : Nat} (C : pd_C cx own cc rm) (hin0 : (cx.2.2.2.2.2.2.2.2.1).name = "<init>") (hown : "PathDecoderModel" = own) {index a b : Nat} (hw : Cond.fieldLink own index "PathDecoderModel" "cells" "[I" ∈ pd_B) (ha : a < n) (hs : pd_SH a = (12, 44)) (d : decode cc pc = .ok (.putfield index, 3)) (kk : pd_V cx kc ks (pc + 3) ls st I J (pd_ur F a 7 (some b)) n) : pd_V cx kc ks pc ls (.ref b :: .ref a :: st) I J F n := pd_putFR (t := 12) (N := 44) (T := TX12) (ty0 := tyX12) C hin0 rfl fw_12 tyX12_ok nmX12 (by decide) 7 (by decide) rfl rfl hown rfl rfl (fun q => ⟨rfl, rfl⟩) hw ha hs d kk
theorem pfr_12_8 {cx : pd_X} {own : String} {cc : ByteArray} {rm : Room} {kc ks pc : Nat} {ls : List (Option Value)} {st : List Value} {I : pd_I} {J : pd_J} {F : pd_R} {n : Nat} (C : pd_C cx own cc rm) (hin0 : (cx.2.2.2.2.2.2.2.2.1).name = "<init>") (hown : "PathDecoderModel" = own) {index a b : Nat} (hw : Cond.fieldLink own index "PathDecoderModel" "outs" "[I" ∈ pd_B) (ha : a < n) (hs : pd_SH a = (12, 44)) (d : decode cc pc = .ok (.putfield index, 3)) (kk : pd_V cx kc ks (pc + 3) ls st I J (pd_ur F a 8 (some b)) n) : pd_V cx kc ks pc ls (.ref b :: .ref a :: st) I J F n := pd_putFR (t := 12) (N := 44) (T := TX12) (ty0 := tyX12) C hin0 rfl fw_12 tyX12_ok nmX12 (by decide) 8 (by decide) rfl rfl hown rfl rfl (fun q => ⟨rfl, rfl⟩) hw ha hs d kk
theorem pfr_12_9 {cx : pd_X} {own : String} {cc : ByteArray} {rm : Room} {kc ks pc : Nat} {ls : List (Option Value)} {st : List Value} {I : pd_I} {J : pd_J} {F : pd_R} {n : Nat} (C : pd_C cx own cc rm) (hin0 : (cx.2.2.2.2.2.2.2.2.1).name = "<init>") (hown : "PathDecoderModel" = own) {index a b : Nat} (hw : Cond.fieldLink own index "PathDecoderModel" "feeds" "[I" ∈ pd_B) (ha : a < n) (hs : pd_SH a = (12, 44)) (d : decode cc pc = .ok (.putfield index, 3)) (kk : pd_V cx kc ks (pc + 3) ls st I J (pd_ur F a 9 (some b)) n) : pd_V cx kc ks pc ls (.ref b :: .ref a :: st) I J F n := pd_putFR (t := 12) (N := 44) (T := TX12) (ty0 := tyX12) C hin0 rfl fw_12 tyX12_ok nmX12 (by decide) 9 (by decide) rfl rfl hown rfl rfl (fun q => ⟨rfl, rfl⟩) hw ha hs d kk
theorem pfr_12_10 {cx : pd_X} {own : String} {cc : ByteArray} {rm : Room} {kc ks pc : Nat} {ls : List (Option Value)} {st : List Value} {I : pd_I} {J : pd_J} {F : pd_R} {n : Nat} (C : pd_C cx own cc rm) (hin0 : (cx.2.2.2.2.2.2.2.2.1).name = "<init>") (hown : "PathDecoderModel" = own) {index a b : Nat} (hw : Cond.fieldLink own index "PathDecoderModel" "periods" "[I" ∈ pd_B) (ha : a < n) (hs : pd_SH a = (12, 44)) (d : decode cc pc = .ok (.putfield index, 3)) (kk : pd_V cx kc ks (pc + 3) ls st I J (pd_ur F a 10 (some b)) n) : pd_V cx kc ks pc ls (.ref b :: .ref a :: st) I J F n := pd_putFR (t := 12) (N := 44) (T := TX12) (ty0 := tyX12) C hin0 rfl fw_12 tyX12_ok nmX12 (by decide) 10 (by decide) rfl rfl hown rfl rfl (fun q => ⟨rfl, rfl⟩) hw ha hs d kk
theorem pfr_12_11 {cx : pd_X} {own : String} {cc : ByteArray} {rm : Room} {kc ks pc : Nat} {ls : List (Option Value)} {st : List Value} {I : pd_I} {J : pd_J} {F : pd_R} {n : Nat} (C : pd_C cx own cc rm) (hin0 : (cx.2.2.2.2.2.2.2.2.1).name = "<init>") (hown : "PathDecoderModel" = own) {index a b : Nat} (hw : Cond.fieldLink own index "PathDecoderModel" "strides" "[I" ∈ pd_B) (ha : a < n) (hs : pd_SH a = (12, 44)) (d : decode cc pc = .ok (.putfield index, 3)) (kk : pd_V cx kc ks (pc + 3) ls st I J (pd_ur F a 11 (some b)) n) : pd_V cx kc ks pc ls (.ref b :: .ref a :: st) I J F n := pd_putFR (t := 12) (N := 44) (T := TX12) (ty0 := tyX12) C hin0 rfl fw_12 tyX12_ok nmX12 (by decide) 11 (by decide) rfl rfl hown rfl rfl (fun q => ⟨rfl, rfl⟩) hw ha hs d kk
theorem pfr_12_12 {cx : pd_X} {own : String} {cc : ByteArray} {rm : Room} {kc ks pc : Nat} {ls : List (Option Value)} {st : List Value} {I : pd_I} {J : pd_J} {F : pd_R} {n : Nat} (C : pd_C cx own cc rm) (hin0 : (cx.2.2.2.2.2.2.2.2.1).name = "<init>") (hown : "PathDecoderModel" = own) {index a b : Nat} (hw : Cond.fieldLink own index "PathDecoderModel" "taps" "[I" ∈ pd_B) (ha : a < n) (hs : pd_SH a = (12, 44)) (d : decode cc pc = .ok (.putfield index, 3)) (kk : pd_V cx kc ks (pc + 3) ls st I J (pd_ur F a 12 (some b)) n) : pd_V cx kc ks pc ls (.ref b :: .ref a :: st) I J F n := pd_putFR (t := 12) (N := 44) (T := TX12) (ty0 := tyX12) C hin0 rfl fw_12 tyX12_ok nmX12 (by decide) 12 (by decide) rfl rfl hown rfl rfl (fun q => ⟨rfl, rfl⟩) hw ha hs d kk
theorem pfr_12_13 {cx : pd_X} {own : String} {cc : ByteArray} {rm : Room} {kc ks pc : Nat} {ls : List (Option Value)} {st : List Value} {I : pd_I} {J : pd_J} {F : pd_R} {n : Nat} (C : pd_C cx own cc rm) (hin0 : (cx.2.2.2.2.2.2.2.2.1).name = "<init>") (hown : "PathDecoderModel" = own) {index a b : Nat} (hw : Cond.fieldLink own index "PathDecoderModel" "keeps" "[I" ∈ pd_B) (ha : a < n) (hs : pd_SH a = (12, 44)) (d : decode cc pc = .ok (.putfield index, 3)) (kk : pd_V cx kc ks (pc + 3) ls st I J (pd_ur F a 13 (some b)) n) : pd_V cx kc ks pc ls (.ref b :: .ref a :: st) I J F n := pd_putFR (t := 12) (N := 44) (T := TX12) (ty0 := tyX12) C hin0 rfl fw_12 tyX12_ok nmX12 (by decide) 13 (by decide) rfl rfl hown rfl rfl (fun q => ⟨rfl, rfl⟩) hw ha hs d kk
theorem pfr_12_15 {cx : pd_X} {own : String} {cc : ByteArray} {rm : Room} {kc ks pc : Nat} {ls : List (Option Value)} {st : List Value} {I : pd_I} {J : pd_J} {F : pd_R} {n : Nat} (C : pd_C cx own cc rm) (hin0 : (cx.2.2.2.2.2.2.2.2.1).name = "<init>") (hown : "PathDecoderModel" = own) {index a b : Nat} (hw : Cond.fieldLink own index "PathDecoderModel" "wayBits" "[I" ∈ pd_B) (ha : a < n) (hs : pd_SH a = (12, 44)) (d : decode cc pc = .ok (.putfield index, 3)) (kk : pd_V cx kc ks (pc + 3) ls st I J (pd_ur F a 15 (some b)) n) : pd_V cx kc ks pc ls (.ref b :: .ref a :: st) I J F n := pd_putFR (t := 12) (N := 44) (T := TX12) (ty0 := tyX12) C hin0 rfl fw_12 tyX12_ok nmX12 (by decide) 15 (by decide) rfl rfl hown rfl rfl (fun q => ⟨rfl, rfl⟩) hw ha hs d kk
theorem pfr_12_16 {cx : pd_X} {own : String} {cc : ByteArray} {rm : Room} {kc ks pc : Nat} {ls : List (Option Value)} {st : List Value} {I : pd_I} {J : pd_J} {F : pd_R} {n : Nat} (C : pd_C cx own cc rm) (hin0 : (cx.2.2.2.2.2.2.2.2.1).name = "<init>") (hown : "PathDecoderModel" = own) {index a b : Nat} (hw : Cond.fieldLink own index "PathDecoderModel" "wayCost" "[I" ∈ pd_B) (ha : a < n) (hs : pd_SH a = (12, 44)) (d : decode cc pc = .ok (.putfield index, 3)) (kk : pd_V cx kc ks (pc + 3) ls st I J (pd_ur F a 16 (some b)) n) : pd_V cx kc ks pc ls (.ref b :: .ref a :: st) I J F n := pd_putFR (t := 12) (N := 44) (T := TX12) (ty0 := tyX12) C hin0 rfl fw_12 tyX12_ok nmX12 (by decide) 16 (by decide) rfl rfl hown rfl rfl (fun q => ⟨rfl, rfl⟩) hw ha hs d kk
theorem pfr_12_17 {cx : pd_X} {own : String} {cc : ByteArray} {rm : Room} {kc ks pc : Nat} {ls : List (Option Value)} {st : List Value} {I : pd_I} {J : pd_J} {F : pd_R} {n : Nat} (C : pd_C cx own cc rm) (hin0 : (cx.2.2.2.2.2.2.2.2.1).name = "<init>") (hown : "PathDecoderModel" = own) {index a b : Nat} (hw : Cond.fieldLink own index "PathDecoderModel" "wayBegin" "[I" ∈ pd_B) (ha : a < n) (hs : pd_SH a = (12, 44)) (d : decode cc pc = .ok (.putfield index, 3)) (kk : pd_V cx kc ks (pc + 3) ls st I J (pd_ur F a 17 (some b)) n) : pd_V cx kc ks pc ls (.ref b :: .ref a :: st) I J F n := pd_putFR (t := 12) (N := 44) (T := TX12) (ty0 := tyX12) C hin0 rfl fw_12 tyX12_ok nmX12 (by decide) 17 (by decide) rfl rfl hown rfl rfl (fun q => ⟨rfl, rfl⟩) hw ha hs d kk
theorem pfr_12_18 {cx : pd_X} {own : String} {cc : ByteArray} {rm : Room} {kc ks pc : Nat} {ls : List (Option Value)} {st : List Value} {I : pd_I} {J : pd_J} {F : pd_R} {n : Nat} (C : pd_C cx own cc rm) (hin0 : (cx.2.2.2.2.2.2.2.2.1).name = "<init>") (hown : "PathDecoderModel" = own) {index a b : Nat} (hw : Cond.fieldLink own index "PathDecoderModel" "wayMany" "[I" ∈ pd_B) (ha : a < n) (hs : pd_SH a = (12, 44)) (d : decode cc pc = .ok (.putfield index, 3)) (kk : pd_V cx kc ks (pc + 3) ls st I J (pd_ur F a 18 (some b)) n) : pd_V cx kc ks pc ls (.ref b :: .ref a :: st) I J F n := pd_putFR (t := 12) (N := 44) (T := TX12) (ty0 := tyX12) C hin0 rfl fw_12 tyX12_ok nmX12 (by decide) 18 (by decide) rfl rfl hown rfl rfl (fun q => ⟨rfl, rfl⟩) hw ha hs d kk
theorem pfr_12_20 {cx : pd_X} {own : String} {cc : ByteArray} {rm : Room} {kc ks pc : Nat} {ls : List (Option Value)} {st : List Value} {I : pd_I} {J : pd_J} {F : pd_R} {n : Nat} (C : pd_C cx own cc rm) (hin0 : (cx.2.2.2.2.2.2.2.2.1).name = "<init>") (hown : "PathDecoderModel" = own) {index a b : Nat} (hw : Cond.fieldLink own index "PathDecoderModel" "each" "[I" ∈ pd_B) (ha : a < n) (hs : pd_SH a = (12, 44)) (d : decode cc pc = .ok (.putfield index, 3)) (kk : pd_V cx kc ks (pc + 3) ls st I J (pd_ur F a 20 (some b)) n) : pd_V cx kc ks pc ls (.ref b :: .ref a :: st) I J F n := pd_putFR (t := 12) (N := 44) (T := TX12) (ty0 := tyX12) C hin0 rfl fw_12 tyX12_ok nmX12 (by decide) 20 (by decide) rfl rfl hown rfl rfl (fun q => ⟨rfl, rfl⟩) hw ha hs d kk
theorem pfr_12_22 {cx : pd_X} {own : String} {cc : ByteArray} {rm : Room} {kc ks pc : Nat} {ls : List (Option Value)} {st : List Value} {I : pd_I} {J : pd_J} {F : pd_R} {n : Nat} (C : pd_C cx own cc rm) (hin0 : (cx.2.2.2.2.2.2.2.2.1).name = "<init>") (hown : "PathDecoderModel" = own) {index a b : Nat} (hw : Cond.fieldLink own index "PathDecoderModel" "stepCost" "[I" ∈ pd_B) (ha : a < n) (hs : pd_SH a = (12, 44)) (d : decode cc pc = .ok (.putfield index, 3)) (kk : pd_V cx kc ks (pc + 3) ls st I J (pd_ur F a 22 (some b)) n) : pd_V cx kc ks pc ls (.ref b :: .ref a :: st) I J F n := pd_putFR (t := 12) (N := 44) (T := TX12) (ty0 := tyX12) C hin0 rfl fw_12 tyX12_ok nmX12 (by decide) 22 (by decide) rfl rfl hown rfl rfl (fun q => ⟨rfl, rfl⟩) hw ha hs d kk
theorem pfr_12_23 {cx : pd_X} {own : String} {cc : ByteArray} {rm : Room} {kc ks pc : Nat} {ls : List (Option Value)} {st : List Value} {I : pd_I} {J : pd_J} {F : pd_R} {n : Nat} (C : pd_C cx own cc rm) (hin0 : (cx.2.2.2.2.2.2.2.2.1).name = "<init>") (hown : "PathDecoderModel" = own) {index a b : Nat} (hw : Cond.fieldLink own index "PathDecoderModel" "restMany" "[I" ∈ pd_B) (ha : a < n) (hs : pd_SH a = (12, 44)) (d : decode cc pc = .ok (.putfield index, 3)) (kk : pd_V cx kc ks (pc + 3) ls st I J (pd_ur F a 23 (some b)) n) : pd_V cx kc ks pc ls (.ref b :: .ref a :: st) I J F n := pd_putFR (t := 12) (N := 44) (T := TX12) (ty0 := tyX12) C hin0 rfl fw_12 tyX12_ok nmX12 (by decide) 23 (by decide) rfl rfl hown rfl rfl (fun q => ⟨rfl, rfl⟩) hw ha hs d kk
theorem pfr_12_24 {cx : pd_X} {own : String} {cc : ByteArray} {rm : Room} {kc ks pc : Nat} {ls : List (Option Value)} {st : List Value} {I : pd_I} {J : pd_J} {F : pd_R} {n : Nat} (C : pd_C cx own cc rm) (hin0 : (cx.2.2.2.2.2.2.2.2.1).name = "<init>") (hown : "PathDecoderModel" = own) {index a b : Nat} (hw : Cond.fieldLink own index "PathDecoderModel" "restCost" "[I" ∈ pd_B) (ha : a < n) (hs : pd_SH a = (12, 44)) (d : decode cc pc = .ok (.putfield index, 3)) (kk : pd_V cx kc ks (pc + 3) ls st I J (pd_ur F a 24 (some b)) n) : pd_V cx kc ks pc ls (.ref b :: .ref a :: st) I J F n := pd_putFR (t := 12) (N := 44) (T := TX12) (ty0 := tyX12) C hin0 rfl fw_12 tyX12_ok nmX12 (by decide) 24 (by decide) rfl rfl hown rfl rfl (fun q => ⟨rfl, rfl⟩) hw ha hs d kk
theorem pfr_12_25 {cx : pd_X} {own : String} {cc : ByteArray} {rm : Room} {kc ks pc : Nat} {ls : List (Option Value)} {st : List Value} {I : pd_I} {J : pd_J} {F : pd_R} {n : Nat} (C : pd_C cx own cc rm) (hin0 : (cx.2.2.2.2.2.2.2.2.1).name = "<init>") (hown : "PathDecoderModel" = own) {index a b : Nat} (hw : Cond.fieldLink own index "PathDecoderModel" "restBit" "[I" ∈ pd_B) (ha : a < n) (hs : pd_SH a = (12, 44)) (d : decode cc pc = .ok (.putfield index, 3)) (kk : pd_V cx kc ks (pc + 3) ls st I J (pd_ur F a 25 (some b)) n) : pd_V cx kc ks pc ls (.ref b :: .ref a :: st) I J F n := pd_putFR (t := 12) (N := 44) (T := TX12) (ty0 := tyX12) C hin0 rfl fw_12 tyX12_ok nmX12 (by decide) 25 (by decide) rfl rfl hown rfl rfl (fun q => ⟨rfl, rfl⟩) hw ha hs d kk
theorem pfr_12_26 {cx : pd_X} {own : String} {cc : ByteArray} {rm : Room} {kc ks pc : Nat} {ls : List (Option Value)} {st : List Value} {I : pd_I} {J : pd_J} {F : pd_R} {n : Nat} (C : pd_C cx own cc rm) (hin0 : (cx.2.2.2.2.2.2.2.2.1).name = "<init>") (hown : "PathDecoderModel" = own) {index a b : Nat} (hw : Cond.fieldLink own index "PathDecoderModel" "restRank" "[I" ∈ pd_B) (ha : a < n) (hs : pd_SH a = (12, 44)) (d : decode cc pc = .ok (.putfield index, 3)) (kk : pd_V cx kc ks (pc + 3) ls st I J (pd_ur F a 26 (some b)) n) : pd_V cx kc ks pc ls (.ref b :: .ref a :: st) I J F n := pd_putFR (t := 12) (N := 44) (T := TX12) (ty0 := tyX12) C hin0 rfl fw_12 tyX12_ok nmX12 (by decide) 26 (by decide) rfl rfl hown rfl rfl (fun q => ⟨rfl, rfl⟩) hw ha hs d kk
theorem pfr_12_27 {cx : pd_X} {own : String} {cc : ByteArray} {rm : Room} {kc ks pc : Nat} {ls : List (Option Value)} {st : List Value} {I : pd_I} {J : pd_J} {F : pd_R} {n : Nat} (C : pd_C cx own cc rm) (hin0 : (cx.2.2.2.2.2.2.2.2.1).name = "<init>") (hown : "PathDecoderModel" = own) {index a b : Nat} (hw : Cond.fieldLink own index "PathDecoderModel" "ahead" "[I" ∈ pd_B) (ha : a < n) (hs : pd_SH a = (12, 44)) (d : decode cc pc = .ok (.putfield index, 3)) (kk : pd_V cx kc ks (pc + 3) ls st I J (pd_ur F a 27 (some b)) n) : pd_V cx kc ks pc ls (.ref b :: .ref a :: st) I J F n := pd_putFR (t := 12) (N := 44) (T := TX12) (ty0 := tyX12) C hin0 rfl fw_12 tyX12_ok nmX12 (by decide) 27 (by decide) rfl rfl hown rfl rfl (fun q => ⟨rfl, rfl⟩) hw ha hs d kk
theorem pfr_12_28 {cx : pd_X} {own : String} {cc : ByteArray} {rm : Room} {kc ks pc : Nat} {ls : List (Option Value)} {st : List Value} {I : pd_I} {J : pd_J} {F : pd_R} {n : Nat} (C : pd_C cx own cc rm) (hin0 : (cx.2.2.2.2.2.2.2.2.1).name = "<init>") (hown : "PathDecoderModel" = own) {index a b : Nat} (hw : Cond.fieldLink own index "PathDecoderModel" "behind" "[I" ∈ pd_B) (ha : a < n) (hs : pd_SH a = (12, 44)) (d : decode cc pc = .ok (.putfield index, 3)) (kk : pd_V cx kc ks (pc + 3) ls st I J (pd_ur F a 28 (some b)) n) : pd_V cx kc ks pc ls (.ref b :: .ref a :: st) I J F n := pd_putFR (t := 12) (N := 44) (T := TX12) (ty0 := tyX12) C hin0 rfl fw_12 tyX12_ok nmX12 (by decide) 28 (by decide) rfl rfl hown rfl rfl (fun q => ⟨rfl, rfl⟩) hw ha hs d kk
theorem pfr_12_29 {cx : pd_X} {own : String} {cc : ByteArray} {rm : Room} {kc ks pc : Nat} {ls : List (Option Value)} {st : List Value} {I : pd_I} {J : pd_J} {F : pd_R} {n : Nat} (C : pd_C cx own cc rm) (hin0 : (cx.2.2.2.2.2.2.2.2.1).name = "<init>") (hown : "PathDecoderModel" = own) {index a b : Nat} (hw : Cond.fieldLink own index "PathDecoderModel" "zeroLeast" "[I" ∈ pd_B) (ha : a < n) (hs : pd_SH a = (12, 44)) (d : decode cc pc = .ok (.putfield index, 3)) (kk : pd_V cx kc ks (pc + 3) ls st I J (pd_ur F a 29 (some b)) n) : pd_V cx kc ks pc ls (.ref b :: .ref a :: st) I J F n := pd_putFR (t := 12) (N := 44) (T := TX12) (ty0 := tyX12) C hin0 rfl fw_12 tyX12_ok nmX12 (by decide) 29 (by decide) rfl rfl hown rfl rfl (fun q => ⟨rfl, rfl⟩) hw ha hs d kk
theorem pfr_12_30 {cx : pd_X} {own : String} {cc : ByteArray} {rm : Room} {kc ks pc : Nat} {ls : List (Option Value)} {st : List Value} {I : pd_I} {J : pd_J} {F : pd_R} {n : Nat} (C : pd_C cx own cc rm) (hin0 : (cx.2.2.2.2.2.2.2.2.1).name = "<init>") (hown : "PathDecoderModel" = own) {index a b : Nat} (hw : Cond.fieldLink own index "PathDecoderModel" "oneLeast" "[I" ∈ pd_B) (ha : a < n) (hs : pd_SH a = (12, 44)) (d : decode cc pc = .ok (.putfield index, 3)) (kk : pd_V cx kc ks (pc + 3) ls st I J (pd_ur F a 30 (some b)) n) : pd_V cx kc ks pc ls (.ref b :: .ref a :: st) I J F n := pd_putFR (t := 12) (N := 44) (T := TX12) (ty0 := tyX12) C hin0 rfl fw_12 tyX12_ok nmX12 (by decide) 30 (by decide) rfl rfl hown rfl rfl (fun q => ⟨rfl, rfl⟩) hw ha hs d kk
theorem pfr_12_31 {cx : pd_X} {own : String} {cc : ByteArray} {rm : Room} {kc ks pc : Nat} {ls : List (Option Value)} {st : List Value} {I : pd_I} {J : pd_J} {F : pd_R} {n : Nat} (C : pd_C cx own cc rm) (hin0 : (cx.2.2.2.2.2.2.2.2.1).name = "<init>") (hown : "PathDecoderModel" = own) {index a b : Nat} (hw : Cond.fieldLink own index "PathDecoderModel" "sentBits" "[I" ∈ pd_B) (ha : a < n) (hs : pd_SH a = (12, 44)) (d : decode cc pc = .ok (.putfield index, 3)) (kk : pd_V cx kc ks (pc + 3) ls st I J (pd_ur F a 31 (some b)) n) : pd_V cx kc ks pc ls (.ref b :: .ref a :: st) I J F n := pd_putFR (t := 12) (N := 44) (T := TX12) (ty0 := tyX12) C hin0 rfl fw_12 tyX12_ok nmX12 (by decide) 31 (by decide) rfl rfl hown rfl rfl (fun q => ⟨rfl, rfl⟩) hw ha hs d kk
theorem pfr_12_32 {cx : pd_X} {own : String} {cc : ByteArray} {rm : Room} {kc ks pc : Nat} {ls : List (Option Value)} {st : List Value} {I : pd_I} {J : pd_J} {F : pd_R} {n : Nat} (C : pd_C cx own cc rm) (hin0 : (cx.2.2.2.2.2.2.2.2.1).name = "<init>") (hown : "PathDecoderModel" = own) {index a b : Nat} (hw : Cond.fieldLink own index "PathDecoderModel" "message" "[I" ∈ pd_B) (ha : a < n) (hs : pd_SH a = (12, 44)) (d : decode cc pc = .ok (.putfield index, 3)) (kk : pd_V cx kc ks (pc + 3) ls st I J (pd_ur F a 32 (some b)) n) : pd_V cx kc ks pc ls (.ref b :: .ref a :: st) I J F n := pd_putFR (t := 12) (N := 44) (T := TX12) (ty0 := tyX12) C hin0 rfl fw_12 tyX12_ok nmX12 (by decide) 32 (by decide) rfl rfl hown rfl rfl (fun q => ⟨rfl, rfl⟩) hw ha hs d kk
theorem pfr_12_33 {cx : pd_X} {own : String} {cc : ByteArray} {rm : Room} {kc ks pc : Nat} {ls : List (Option Value)} {st : List Value} {I : pd_I} {J : pd_J} {F : pd_R} {n : Nat} (C : pd_C cx own cc rm) (hin0 : (cx.2.2.2.2.2.2.2.2.1).name = "<init>") (hown : "PathDecoderModel" = own) {index a b : Nat} (hw : Cond.fieldLink own index "PathDecoderModel" "news" "[I" ∈ pd_B) (ha : a < n) (hs : pd_SH a = (12, 44)) (d : decode cc pc = .ok (.putfield index, 3)) (kk : pd_V cx kc ks (pc + 3) ls st I J (pd_ur F a 33 (some b)) n) : pd_V cx kc ks pc ls (.ref b :: .ref a :: st) I J F n := pd_putFR (t := 12) (N := 44) (T := TX12) (ty0 := tyX12) C hin0 rfl fw_12 tyX12_ok nmX12 (by decide) 33 (by decide) rfl rfl hown rfl rfl (fun q => ⟨rfl, rfl⟩) hw ha hs d kk
theorem pfr_12_34 {cx : pd_X} {own : String} {cc : ByteArray} {rm : Room} {kc ks pc : Nat} {ls : List (Option Value)} {st : List Value} {I : pd_I} {J : pd_J} {F : pd_R} {n : Nat} (C : pd_C cx own cc rm) (hin0 : (cx.2.2.2.2.2.2.2.2.1).name = "<init>") (hown : "PathDecoderModel" = own) {index a b : Nat} (hw : Cond.fieldLink own index "PathDecoderModel" "systematic" "[I" ∈ pd_B) (ha : a < n) (hs : pd_SH a = (12, 44)) (d : decode cc pc = .ok (.putfield index, 3)) (kk : pd_V cx kc ks (pc + 3) ls st I J (pd_ur F a 34 (some b)) n) : pd_V cx kc ks pc ls (.ref b :: .ref a :: st) I J F n := pd_putFR (t := 12) (N := 44) (T := TX12) (ty0 := tyX12) C hin0 rfl fw_12 tyX12_ok nmX12 (by decide) 34 (by decide) rfl rfl hown rfl rfl (fun q => ⟨rfl, rfl⟩) hw ha hs d kk
theorem pfr_12_35 {cx : pd_X} {own : String} {cc : ByteArray} {rm : Room} {kc ks pc : Nat} {ls : List (Option Value)} {st : List Value} {I : pd_I} {J : pd_J} {F : pd_R} {n : Nat} (C : pd_C cx own cc rm) (hin0 : (cx.2.2.2.2.2.2.2.2.1).name = "<init>") (hown : "PathDecoderModel" = own) {index a b : Nat} (hw : Cond.fieldLink own index "PathDecoderModel" "firstSeems" "[I" ∈ pd_B) (ha : a < n) (hs : pd_SH a = (12, 44)) (d : decode cc pc = .ok (.putfield index, 3)) (kk : pd_V cx kc ks (pc + 3) ls st I J (pd_ur F a 35 (some b)) n) : pd_V cx kc ks pc ls (.ref b :: .ref a :: st) I J F n := pd_putFR (t := 12) (N := 44) (T := TX12) (ty0 := tyX12) C hin0 rfl fw_12 tyX12_ok nmX12 (by decide) 35 (by decide) rfl rfl hown rfl rfl (fun q => ⟨rfl, rfl⟩) hw ha hs d kk
theorem pfr_12_36 {cx : pd_X} {own : String} {cc : ByteArray} {rm : Room} {kc ks pc : Nat} {ls : List (Option Value)} {st : List Value} {I : pd_I} {J : pd_J} {F : pd_R} {n : Nat} (C : pd_C cx own cc rm) (hin0 : (cx.2.2.2.2.2.2.2.2.1).name = "<init>") (hown : "PathDecoderModel" = own) {index a b : Nat} (hw : Cond.fieldLink own index "PathDecoderModel" "keptCost" "[I" ∈ pd_B) (ha : a < n) (hs : pd_SH a = (12, 44)) (d : decode cc pc = .ok (.putfield index, 3)) (kk : pd_V cx kc ks (pc + 3) ls st I J (pd_ur F a 36 (some b)) n) : pd_V cx kc ks pc ls (.ref b :: .ref a :: st) I J F n := pd_putFR (t := 12) (N := 44) (T := TX12) (ty0 := tyX12) C hin0 rfl fw_12 tyX12_ok nmX12 (by decide) 36 (by decide) rfl rfl hown rfl rfl (fun q => ⟨rfl, rfl⟩) hw ha hs d kk
theorem pfr_12_37 {cx : pd_X} {own : String} {cc : ByteArray} {rm : Room} {kc ks pc : Nat} {ls : List (Option Value)} {st : List Value} {I : pd_I} {J : pd_J} {F : pd_R} {n : Nat} (C : pd_C cx own cc rm) (hin0 : (cx.2.2.2.2.2.2.2.2.1).name = "<init>") (hown : "PathDecoderModel" = own) {index a b : Nat} (hw : Cond.fieldLink own index "PathDecoderModel" "nextCost" "[I" ∈ pd_B) (ha : a < n) (hs : pd_SH a = (12, 44)) (d : decode cc pc = .ok (.putfield index, 3)) (kk : pd_V cx kc ks (pc + 3) ls st I J (pd_ur F a 37 (some b)) n) : pd_V cx kc ks pc ls (.ref b :: .ref a :: st) I J F n := pd_putFR (t := 12) (N := 44) (T := TX12) (ty0 := tyX12) C hin0 rfl fw_12 tyX12_ok nmX12 (by decide) 37 (by decide) rfl rfl hown rfl rfl (fun q => ⟨rfl, rfl⟩) hw ha hs d kk
theorem pfr_12_38 {cx : pd_X} {own : String} {cc : ByteArray} {rm : Room} {kc ks pc : Nat} {ls : List (Option Value)} {st : List Value} {I : pd_I} {J : pd_J} {F : pd_R} {n : Nat} (C : pd_C cx own cc rm) (hin0 : (cx.2.2.2.2.2.2.2.2.1).name = "<init>") (hown : "PathDecoderModel" = own) {index a b : Nat} (hw : Cond.fieldLink own index "PathDecoderModel" "origin" "[I" ∈ pd_B) (ha : a < n) (hs : pd_SH a = (12, 44)) (d : decode cc pc = .ok (.putfield index, 3)) (kk : pd_V cx kc ks (pc + 3) ls st I J (pd_ur F a 38 (some b)) n) : pd_V cx kc ks pc ls (.ref b :: .ref a :: st) I J F n := pd_putFR (t := 12) (N := 44) (T := TX12) (ty0 := tyX12) C hin0 rfl fw_12 tyX12_ok nmX12 (by decide) 38 (by decide) rfl rfl hown rfl rfl (fun q => ⟨rfl, rfl⟩) hw ha hs d kk
theorem pfr_12_39 {cx : pd_X} {own : String} {cc : ByteArray} {rm : Room} {kc ks pc : Nat} {ls : List (Option Value)} {st : List Value} {I : pd_I} {J : pd_J} {F : pd_R} {n : Nat} (C : pd_C cx own cc rm) (hin0 : (cx.2.2.2.2.2.2.2.2.1).name = "<init>") (hown : "PathDecoderModel" = own) {index a b : Nat} (hw : Cond.fieldLink own index "PathDecoderModel" "originBit" "[I" ∈ pd_B) (ha : a < n) (hs : pd_SH a = (12, 44)) (d : decode cc pc = .ok (.putfield index, 3)) (kk : pd_V cx kc ks (pc + 3) ls st I J (pd_ur F a 39 (some b)) n) : pd_V cx kc ks pc ls (.ref b :: .ref a :: st) I J F n := pd_putFR (t := 12) (N := 44) (T := TX12) (ty0 := tyX12) C hin0 rfl fw_12 tyX12_ok nmX12 (by decide) 39 (by decide) rfl rfl hown rfl rfl (fun q => ⟨rfl, rfl⟩) hw ha hs d kk
theorem pfr_12_40 {cx : pd_X} {own : String} {cc : ByteArray} {rm : Room} {kc ks pc : Nat} {ls : List (Option Value)} {st : List Value} {I : pd_I} {J : pd_J} {F : pd_R} {n : Nat} (C : pd_C cx own cc rm) (hin0 : (cx.2.2.2.2.2.2.2.2.1).name = "<init>") (hown : "PathDecoderModel" = own) {index a b : Nat} (hw : Cond.fieldLink own index "PathDecoderModel" "spare" "[I" ∈ pd_B) (ha : a < n) (hs : pd_SH a = (12, 44)) (d : decode cc pc = .ok (.putfield index, 3)) (kk : pd_V cx kc ks (pc + 3) ls st I J (pd_ur F a 40 (some b)) n) : pd_V cx kc ks pc ls (.ref b :: .ref a :: st) I J F n := pd_putFR (t := 12) (N := 44) (T := TX12) (ty0 := tyX12) C hin0 rfl fw_12 tyX12_ok nmX12 (by decide) 40 (by decide) rfl rfl hown rfl rfl (fun q => ⟨rfl, rfl⟩) hw ha hs d kk
theorem pfr_12_41 {cx : pd_X} {own : String} {cc : ByteArray} {rm : Room} {kc ks pc : Nat} {ls : List (Option Value)} {st : List Value} {I : pd_I} {J : pd_J} {F : pd_R} {n : Nat} (C : pd_C cx own cc rm) (hin0 : (cx.2.2.2.2.2.2.2.2.1).name = "<init>") (hown : "PathDecoderModel" = own) {index a b : Nat} (hw : Cond.fieldLink own index "PathDecoderModel" "counts" "[J" ∈ pd_B) (ha : a < n) (hs : pd_SH a = (12, 44)) (d : decode cc pc = .ok (.putfield index, 3)) (kk : pd_V cx kc ks (pc + 3) ls st I J (pd_ur F a 41 (some b)) n) : pd_V cx kc ks pc ls (.ref b :: .ref a :: st) I J F n := pd_putFR (t := 12) (N := 44) (T := TX12) (ty0 := tyX12) C hin0 rfl fw_12 tyX12_ok nmX12 (by decide) 41 (by decide) rfl rfl hown rfl rfl (fun q => ⟨rfl, rfl⟩) hw ha hs d kk
theorem pfr_12_42 {cx : pd_X} {own : String} {cc : ByteArray} {rm : Room} {kc ks pc : Nat} {ls : List (Option Value)} {st : List Value} {I : pd_I} {J : pd_J} {F : pd_R} {n : Nat} (C : pd_C cx own cc rm) (hin0 : (cx.2.2.2.2.2.2.2.2.1).name = "<init>") (hown : "PathDecoderModel" = own) {index a b : Nat} (hw : Cond.fieldLink own index "PathDecoderModel" "flow" "[J" ∈ pd_B) (ha : a < n) (hs : pd_SH a = (12, 44)) (d : decode cc pc = .ok (.putfield index, 3)) (kk : pd_V cx kc ks (pc + 3) ls st I J (pd_ur F a 42 (some b)) n) : pd_V cx kc ks pc ls (.ref b :: .ref a :: st) I J F n := pd_putFR (t := 12) (N := 44) (T := TX12) (ty0 := tyX12) C hin0 rfl fw_12 tyX12_ok nmX12 (by decide) 42 (by decide) rfl rfl hown rfl rfl (fun q => ⟨rfl, rfl⟩) hw ha hs d kk
theorem pfr_12_43 {cx : pd_X} {own : String} {cc : ByteArray} {rm : Room} {kc ks pc : Nat} {ls : List (Option Value)} {st : List Value} {I : pd_I} {J : pd_J} {F : pd_R} {n : Nat} (C : pd_C cx own cc rm) (hin0 : (cx.2.2.2.2.2.2.2.2.1).name = "<init>") (hown : "PathDecoderModel" = own) {index a b : Nat} (hw : Cond.fieldLink own index "PathDecoderModel" "flowing" "[J" ∈ pd_B) (ha : a < n) (hs : pd_SH a = (12, 44)) (d : decode cc pc = .ok (.putfield index, 3)) (kk : pd_V cx kc ks (pc + 3) ls st I J (pd_ur F a 43 (some b)) n) : pd_V cx kc ks pc ls (.ref b :: .ref a :: st) I J F n := pd_putFR (t := 12) (N := 44) (T := TX12) (ty0 := tyX12) C hin0 rfl fw_12 tyX12_ok nmX12 (by decide) 43 (by decide) rfl rfl hown rfl rfl (fun q => ⟨rfl, rfl⟩) hw ha hs d kk
def ic_X4_init (a : Nat) (I : pd_I) : pd_I := pd_ui (pd_zi I (a + 1)) a 1 (-1)
def jc_X4_init (a : Nat) (J : pd_J) : pd_J := pd_zj J (a + 1)
def fc_X4_init (a : Nat) (F : pd_R) : pd_R := pd_ur (pd_zf F (a + 1)) a 0 (some (a + 1))
abbrev rm_X4_init : Room := { frames := 1, cells := 1, slots := 600, locals := 21 }
theorem mi_X4_init : pd_mi yX4_init cX4_init 1 0 := ⟨wd_2_21, wd_1_11, wd_2_22, rfl, (by decide +kernel)⟩
theorem fr_X4_init {a : Nat} (ha : pd_isRow a = true) {F : pd_R} (f0 : pd_fr F (a + 1)) : pd_fr (fc_X4_init a F) (a + 1 + 1) := by
  have f1 : pd_fr (pd_zf F (a + 1)) (a + 1 + 1) := pd_fr_z f0
  have f2 : pd_fr (pd_ur (pd_zf F (a + 1)) a 0 (some (a + 1))) (a + 1 + 1) := pd_fr_u f1 (by omega)
  exact f2
set_option maxHeartbeats 4000000 in
set_option maxRecDepth 100000 in
theorem ec_X4_init {l : Launch} {D : va_G} {tc : Nat → ClassId} (hst : l.stackTraces = false) {a : Nat} (ha : pd_isRow a = true) {I : pd_I} {J : pd_J} {F : pd_R} (f0 : pd_fr F (a + 1)) :
    pd_M l D tc yX4_init (.code yX4_init cX4_init 1 none) rm_X4_init [.ref a] I J F (a + 1) (.ok none) (ic_X4_init a I) (jc_X4_init a J) (fc_X4_init a F) (a + 1 + 1) := by
  refine pd_open (own := "PathDecoder$Row") (ls0 := [some (.ref a)]) (by decide) rfl (Nat.le_of_ble_eq_true rfl) rfl rfl hst (fun cx hl hD htc C hE htab hnm => ?_)
  have hin0 : (cx.2.2.2.2.2.2.2.2.1).name = "<init>" := hnm
  subst hl hD htc
  refine pd_aload_n C dX4_init_0 rfl rfl ?_
  refine pd_obji C wd_2_23 ⟨by decide, by decide⟩ (Nat.le_of_ble_eq_true rfl) dX4_init_1 ?_
  refine pd_aload_n C dX4_init_4 rfl rfl ?_
  refine pd_sipush (v := 600) C dX4_init_5 (by decide) ?_
  refine pd_newAS (N := 600) C wd_2_31 (pd_row_sh1 ha) (by decide) (by decide) (by decide) (pd_fr_hF f0) (pd_oLr (by omega) pd_oL0) (pd_oSr (by omega) pd_oS0) ⟨by decide, by decide⟩ dX4_init_8 ?_
  have f1 : pd_fr (pd_zf F (a + 1)) (a + 1 + 1) := pd_fr_z f0
  refine pfr_4_0 C hin0 rfl wd_2_24 (by omega) (pd_row_sh ha) dX4_init_10 ?_
  have f2 : pd_fr (pd_ur (pd_zf F (a + 1)) a 0 (some (a + 1))) (a + 1 + 1) := pd_fr_u f1 (by omega)
  refine pd_aload_n C dX4_init_13 rfl rfl ?_
  refine pd_iconst (v := (-1)) C dX4_init_14 (by decide) ?_
  refine pi_4_1 C wd_2_25 rfl rfl (by omega) (pd_row_sh ha) dX4_init_15 ?_
  exact pd_vret C hE rfl ⟨by decide, by decide⟩ dX4_init_18
def ic_X9_init (a : Nat) (I : pd_I) : pd_I := pd_zi (pd_ui (pd_ui (pd_ui I a 0 0) a 1 0) a 2 0) (a + 1)
def jc_X9_init (a : Nat) (J : pd_J) : pd_J := pd_zj J (a + 1)
def fc_X9_init (a : Nat) (F : pd_R) : pd_R := pd_ur (pd_zf F (a + 1)) a 3 (some (a + 1))
abbrev rm_X9_init : Room := { frames := 1, cells := 1, slots := 200, locals := 21 }
theorem mi_X9_init : pd_mi yX9_init cX9_init 1 0 := ⟨wd_1_113, wd_1_6, wd_1_114, rfl, (by decide +kernel)⟩
theorem fr_X9_init {a : Nat} (ha : pd_isWay a = true) {F : pd_R} (f0 : pd_fr F (a + 1)) : pd_fr (fc_X9_init a F) (a + 1 + 1) := by
  have f1 : pd_fr (pd_zf F (a + 1)) (a + 1 + 1) := pd_fr_z f0
  have f2 : pd_fr (pd_ur (pd_zf F (a + 1)) a 3 (some (a + 1))) (a + 1 + 1) := pd_fr_u f1 (by omega)
  exact f2
set_option maxHeartbeats 4000000 in
set_option maxRecDepth 100000 in
theorem ec_X9_init {l : Launch} {D : va_G} {tc : Nat → ClassId} (hst : l.stackTraces = false) {a : Nat} (ha : pd_isWay a = true) {I : pd_I} {J : pd_J} {F : pd_R} (f0 : pd_fr F (a + 1)) :
    pd_M l D tc yX9_init (.code yX9_init cX9_init 1 none) rm_X9_init [.ref a] I J F (a + 1) (.ok none) (ic_X9_init a I) (jc_X9_init a J) (fc_X9_init a F) (a + 1 + 1) := by
  refine pd_open (own := "PathDecoder$Way") (ls0 := [some (.ref a)]) (by decide) rfl (Nat.le_of_ble_eq_true rfl) rfl rfl hst (fun cx hl hD htc C hE htab hnm => ?_)
  have hin0 : (cx.2.2.2.2.2.2.2.2.1).name = "<init>" := hnm
  subst hl hD htc
  refine pd_aload_n C dX9_init_0 rfl rfl ?_
  refine pd_obji C wd_1_115 ⟨by decide, by decide⟩ (Nat.le_of_ble_eq_true rfl) dX9_init_1 ?_
  refine pd_aload_n C dX9_init_4 rfl rfl ?_
  refine pd_iconst (v := 0) C dX9_init_5 (by decide) ?_
  refine pi_9_0 C wd_1_116 rfl rfl (by omega) (pd_way_sh ha) dX9_init_6 ?_
  refine pd_aload_n C dX9_init_9 rfl rfl ?_
  refine pd_iconst (v := 0) C dX9_init_10 (by decide) ?_
  refine pi_9_1 C wd_1_118 rfl rfl (by omega) (pd_way_sh ha) dX9_init_11 ?_
  refine pd_aload_n C dX9_init_14 rfl rfl ?_
  refine pd_iconst (v := 0) C dX9_init_15 (by decide) ?_
  refine pi_9_2 C wd_1_120 rfl rfl (by omega) (pd_way_sh ha) dX9_init_16 ?_
  refine pd_aload_n C dX9_init_19 rfl rfl ?_
  refine pd_sipush (v := 200) C dX9_init_20 (by decide) ?_
  refine pd_newAB (N := 200) C wd_1_134 (pd_way_sh1 ha) (by decide) (by decide) (by decide) (pd_fr_hF f0) (pd_oLr (by omega) pd_oL0) (pd_oSr (by omega) pd_oS0) ⟨by decide, by decide⟩ dX9_init_23 ?_
  have f1 : pd_fr (pd_zf F (a + 1)) (a + 1 + 1) := pd_fr_z f0
  refine pfr_9_3 C hin0 rfl wd_1_122 (by omega) (pd_way_sh ha) dX9_init_25 ?_
  have f2 : pd_fr (pd_ur (pd_zf F (a + 1)) a 3 (some (a + 1))) (a + 1 + 1) := pd_fr_u f1 (by omega)
  exact pd_vret C hE rfl ⟨by decide, by decide⟩ dX9_init_28
def ic_X2_init (I : pd_I) : pd_I := pd_zi (pd_zi I 4) 5
def jc_X2_init (J : pd_J) : pd_J := pd_zj (pd_zj J 4) 5
def fc_X2_init (F : pd_R) : pd_R := pd_ur (pd_zf (pd_ur (pd_zf F 4) 3 0 (some 4)) 5) 3 1 (some 5)
abbrev rm_X2_init : Room := { frames := 1, cells := 2, slots := 1642, locals := 21 }
theorem mi_X2_init : pd_mi yX2_init cX2_init 1 0 := ⟨wd_1_37, wd_1_2, wd_1_38, rfl, (by decide +kernel)⟩
theorem fr_X2_init {F : pd_R} (f0 : pd_fr F (4)) : pd_fr (fc_X2_init F) (6) := by
  have f1 : pd_fr (pd_zf F 4) (5) := pd_fr_z f0
  have f2 : pd_fr (pd_ur (pd_zf F 4) 3 0 (some 4)) (5) := pd_fr_u f1 (by omega)
  have f3 : pd_fr (pd_zf (pd_ur (pd_zf F 4) 3 0 (some 4)) 5) (6) := pd_fr_z f2
  have f4 : pd_fr (pd_ur (pd_zf (pd_ur (pd_zf F 4) 3 0 (some 4)) 5) 3 1 (some 5)) (6) := pd_fr_u f3 (by omega)
  exact f4
set_option maxHeartbeats 4000000 in
set_option maxRecDepth 100000 in
theorem ec_X2_init {l : Launch} {D : va_G} {tc : Nat → ClassId} (hst : l.stackTraces = false) {I : pd_I} {J : pd_J} {F : pd_R} (f0 : pd_fr F (4)) :
    pd_M l D tc yX2_init (.code yX2_init cX2_init 1 none) rm_X2_init [.ref 3] I J F (4) (.ok none) (ic_X2_init I) (jc_X2_init J) (fc_X2_init F) (6) := by
  refine pd_open (own := "PathDecoder$Message") (ls0 := [some (.ref 3)]) (by decide) rfl (Nat.le_of_ble_eq_true rfl) rfl rfl hst (fun cx hl hD htc C hE htab hnm => ?_)
  have hin0 : (cx.2.2.2.2.2.2.2.2.1).name = "<init>" := hnm
  subst hl hD htc
  refine pd_aload_n C dX2_init_0 rfl rfl ?_
  refine pd_obji C wd_1_39 ⟨by decide, by decide⟩ (Nat.le_of_ble_eq_true rfl) dX2_init_1 ?_
  refine pd_aload_n C dX2_init_4 rfl rfl ?_
  refine pd_sipush (v := 200) C dX2_init_5 (by decide) ?_
  refine pd_newAI (N := 200) C wd_1_48 sh_4 (by decide) (by decide) (by decide) (pd_fr_hF f0) (pd_oLr (by omega) pd_oL0) (pd_oSr (by omega) pd_oS0) ⟨by decide, by decide⟩ dX2_init_8 ?_
  refine pd_nE (n' := 5) rfl ?_
  have f1 : pd_fr (pd_zf F 4) (5) := pd_fr_z f0
  refine pfr_2_0 C hin0 rfl wd_1_40 (by omega) sh_3 dX2_init_10 ?_
  have f2 : pd_fr (pd_ur (pd_zf F 4) 3 0 (some 4)) (5) := pd_fr_u f1 (by omega)
  refine pd_aload_n C dX2_init_13 rfl rfl ?_
  refine pd_sipush (v := 1442) C dX2_init_14 (by decide) ?_
  refine pd_newAI (N := 1442) C wd_1_48 sh_5 (by decide) (by decide) (by decide) (pd_fr_hF f2) (pd_oLr (by omega) pd_oL0) (pd_oSr (by omega) pd_oS0) ⟨by decide, by decide⟩ dX2_init_17 ?_
  refine pd_nE (n' := 6) rfl ?_
  have f3 : pd_fr (pd_zf (pd_ur (pd_zf F 4) 3 0 (some 4)) 5) (6) := pd_fr_z f2
  refine pfr_2_1 C hin0 rfl wd_1_41 (by omega) sh_3 dX2_init_19 ?_
  have f4 : pd_fr (pd_ur (pd_zf (pd_ur (pd_zf F 4) 3 0 (some 4)) 5) 3 1 (some 5)) (6) := pd_fr_u f3 (by omega)
  exact pd_vret C hE rfl ⟨by decide, by decide⟩ dX2_init_22
def ic_X1_init (I : pd_I) : pd_I := pd_zi (pd_ui (pd_zi (pd_zi (pd_zi I 12) 13) 14) 11 3 1) 15
def jc_X1_init (J : pd_J) : pd_J := pd_zj (pd_zj (pd_zj (pd_zj J 12) 13) 14) 15
def fc_X1_init (F : pd_R) : pd_R := pd_ur (pd_zf (pd_ur (pd_zf (pd_ur (pd_zf (pd_ur (pd_zf F 12) 11 0 (some 12)) 13) 11 1 (some 13)) 14) 11 2 (some 14)) 15) 11 4 (some 15)
abbrev rm_X1_init : Room := { frames := 1, cells := 4, slots := 3616, locals := 21 }
theorem mi_X1_init : pd_mi yX1_init cX1_init 1 0 := ⟨wd_1_75, wd_1_4, wd_1_76, rfl, (by decide +kernel)⟩
theorem fr_X1_init {F : pd_R} (f0 : pd_fr F (12)) : pd_fr (fc_X1_init F) (16) := by
  have f1 : pd_fr (pd_zf F 12) (13) := pd_fr_z f0
  have f2 : pd_fr (pd_ur (pd_zf F 12) 11 0 (some 12)) (13) := pd_fr_u f1 (by omega)
  have f3 : pd_fr (pd_zf (pd_ur (pd_zf F 12) 11 0 (some 12)) 13) (14) := pd_fr_z f2
  have f4 : pd_fr (pd_ur (pd_zf (pd_ur (pd_zf F 12) 11 0 (some 12)) 13) 11 1 (some 13)) (14) := pd_fr_u f3 (by omega)
  have f5 : pd_fr (pd_zf (pd_ur (pd_zf (pd_ur (pd_zf F 12) 11 0 (some 12)) 13) 11 1 (some 13)) 14) (15) := pd_fr_z f4
  have f6 : pd_fr (pd_ur (pd_zf (pd_ur (pd_zf (pd_ur (pd_zf F 12) 11 0 (some 12)) 13) 11 1 (some 13)) 14) 11 2 (some 14)) (15) := pd_fr_u f5 (by omega)
  have f7 : pd_fr (pd_zf (pd_ur (pd_zf (pd_ur (pd_zf (pd_ur (pd_zf F 12) 11 0 (some 12)) 13) 11 1 (some 13)) 14) 11 2 (some 14)) 15) (16) := pd_fr_z f6
  have f8 : pd_fr (pd_ur (pd_zf (pd_ur (pd_zf (pd_ur (pd_zf (pd_ur (pd_zf F 12) 11 0 (some 12)) 13) 11 1 (some 13)) 14) 11 2 (some 14)) 15) 11 4 (some 15)) (16) := pd_fr_u f7 (by omega)
  exact f8
set_option maxHeartbeats 4000000 in
set_option maxRecDepth 100000 in
theorem ec_X1_init {l : Launch} {D : va_G} {tc : Nat → ClassId} (hst : l.stackTraces = false) {I : pd_I} {J : pd_J} {F : pd_R} (f0 : pd_fr F (12)) :
    pd_M l D tc yX1_init (.code yX1_init cX1_init 1 none) rm_X1_init [.ref 11] I J F (12) (.ok none) (ic_X1_init I) (jc_X1_init J) (fc_X1_init F) (16) := by
  refine pd_open (own := "PathDecoder$Lattice") (ls0 := [some (.ref 11)]) (by decide) rfl (Nat.le_of_ble_eq_true rfl) rfl rfl hst (fun cx hl hD htc C hE htab hnm => ?_)
  have hin0 : (cx.2.2.2.2.2.2.2.2.1).name = "<init>" := hnm
  subst hl hD htc
  refine pd_aload_n C dX1_init_0 rfl rfl ?_
  refine pd_obji C wd_1_77 ⟨by decide, by decide⟩ (Nat.le_of_ble_eq_true rfl) dX1_init_1 ?_
  refine pd_aload_n C dX1_init_4 rfl rfl ?_
  refine pd_sipush (v := 128) C dX1_init_5 (by decide) ?_
  refine pd_newAI (N := 128) C wd_1_48 sh_12 (by decide) (by decide) (by decide) (pd_fr_hF f0) (pd_oLr (by omega) pd_oL0) (pd_oSr (by omega) pd_oS0) ⟨by decide, by decide⟩ dX1_init_8 ?_
  refine pd_nE (n' := 13) rfl ?_
  have f1 : pd_fr (pd_zf F 12) (13) := pd_fr_z f0
  refine pfr_1_0 C hin0 rfl wd_1_78 (by omega) sh_11 dX1_init_10 ?_
  have f2 : pd_fr (pd_ur (pd_zf F 12) 11 0 (some 12)) (13) := pd_fr_u f1 (by omega)
  refine pd_aload_n C dX1_init_13 rfl rfl ?_
  refine pd_sipush (v := 128) C dX1_init_14 (by decide) ?_
  refine pd_newAI (N := 128) C wd_1_48 sh_13 (by decide) (by decide) (by decide) (pd_fr_hF f2) (pd_oLr (by omega) pd_oL0) (pd_oSr (by omega) pd_oS0) ⟨by decide, by decide⟩ dX1_init_17 ?_
  refine pd_nE (n' := 14) rfl ?_
  have f3 : pd_fr (pd_zf (pd_ur (pd_zf F 12) 11 0 (some 12)) 13) (14) := pd_fr_z f2
  refine pfr_1_1 C hin0 rfl wd_1_82 (by omega) sh_11 dX1_init_19 ?_
  have f4 : pd_fr (pd_ur (pd_zf (pd_ur (pd_zf F 12) 11 0 (some 12)) 13) 11 1 (some 13)) (14) := pd_fr_u f3 (by omega)
  refine pd_aload_n C dX1_init_22 rfl rfl ?_
  refine pd_bipush (v := 64) C dX1_init_23 (by decide) ?_
  refine pd_newAI (N := 64) C wd_1_48 sh_14 (by decide) (by decide) (by decide) (pd_fr_hF f4) (pd_oLr (by omega) pd_oL0) (pd_oSr (by omega) pd_oS0) ⟨by decide, by decide⟩ dX1_init_25 ?_
  refine pd_nE (n' := 15) rfl ?_
  have f5 : pd_fr (pd_zf (pd_ur (pd_zf (pd_ur (pd_zf F 12) 11 0 (some 12)) 13) 11 1 (some 13)) 14) (15) := pd_fr_z f4
  refine pfr_1_2 C hin0 rfl wd_1_84 (by omega) sh_11 dX1_init_27 ?_
  have f6 : pd_fr (pd_ur (pd_zf (pd_ur (pd_zf (pd_ur (pd_zf F 12) 11 0 (some 12)) 13) 11 1 (some 13)) 14) 11 2 (some 14)) (15) := pd_fr_u f5 (by omega)
  refine pd_aload_n C dX1_init_30 rfl rfl ?_
  refine pd_iconst (v := 1) C dX1_init_31 (by decide) ?_
  refine pi_1_3 C wd_1_87 rfl rfl (by omega) sh_11 dX1_init_32 ?_
  refine pd_aload_n C dX1_init_35 rfl rfl ?_
  refine pd_sipush (v := 3296) C dX1_init_36 (by decide) ?_
  refine pd_newAI (N := 3296) C wd_1_48 sh_15 (by decide) (by decide) (by decide) (pd_fr_hF f6) (pd_oLr (by omega) pd_oL0) (pd_oSr (by omega) pd_oS0) ⟨by decide, by decide⟩ dX1_init_39 ?_
  refine pd_nE (n' := 16) rfl ?_
  have f7 : pd_fr (pd_zf (pd_ur (pd_zf (pd_ur (pd_zf (pd_ur (pd_zf F 12) 11 0 (some 12)) 13) 11 1 (some 13)) 14) 11 2 (some 14)) 15) (16) := pd_fr_z f6
  refine pfr_1_4 C hin0 rfl wd_1_91 (by omega) sh_11 dX1_init_41 ?_
  have f8 : pd_fr (pd_ur (pd_zf (pd_ur (pd_zf (pd_ur (pd_zf (pd_ur (pd_zf F 12) 11 0 (some 12)) 13) 11 1 (some 13)) 14) 11 2 (some 14)) 15) 11 4 (some 15)) (16) := pd_fr_u f7 (by omega)
  exact pd_vret C hE rfl ⟨by decide, by decide⟩ dX1_init_44
def ic_X10_init (I : pd_I) : pd_I := ic_X9_init 34 (pd_zi (ic_X9_init 32 (pd_zi (ic_X9_init 30 (pd_zi (ic_X9_init 28 (pd_zi (ic_X9_init 26 (pd_zi (ic_X9_init 24 (pd_zi (ic_X9_init 22 (pd_zi (ic_X9_init 20 (pd_zi (ic_X9_init 18 (pd_zi (pd_ui (pd_ui (pd_zi I 17) 16 1 0) 16 2 0) 18)) 20)) 22)) 24)) 26)) 28)) 30)) 32)) 34)
def jc_X10_init (J : pd_J) : pd_J := jc_X9_init 34 (pd_zj (jc_X9_init 32 (pd_zj (jc_X9_init 30 (pd_zj (jc_X9_init 28 (pd_zj (jc_X9_init 26 (pd_zj (jc_X9_init 24 (pd_zj (jc_X9_init 22 (pd_zj (jc_X9_init 20 (pd_zj (jc_X9_init 18 (pd_zj (pd_zj J 17) 18)) 20)) 22)) 24)) 26)) 28)) 30)) 32)) 34)
def fc_X10_init (F : pd_R) : pd_R := pd_ur (fc_X9_init 34 (pd_zf (pd_ur (fc_X9_init 32 (pd_zf (pd_ur (fc_X9_init 30 (pd_zf (pd_ur (fc_X9_init 28 (pd_zf (pd_ur (fc_X9_init 26 (pd_zf (pd_ur (fc_X9_init 24 (pd_zf (pd_ur (fc_X9_init 22 (pd_zf (pd_ur (fc_X9_init 20 (pd_zf (pd_ur (fc_X9_init 18 (pd_zf (pd_ur (pd_zf F 17) 16 0 (some 17)) 18)) 17 ((0 : Int32).toNatClampNeg) (some 18)) 20)) 17 ((1 : Int32).toNatClampNeg) (some 20)) 22)) 17 ((2 : Int32).toNatClampNeg) (some 22)) 24)) 17 ((3 : Int32).toNatClampNeg) (some 24)) 26)) 17 ((4 : Int32).toNatClampNeg) (some 26)) 28)) 17 ((5 : Int32).toNatClampNeg) (some 28)) 30)) 17 ((6 : Int32).toNatClampNeg) (some 30)) 32)) 17 ((7 : Int32).toNatClampNeg) (some 32)) 34)) 17 ((8 : Int32).toNatClampNeg) (some 34)
abbrev rm_X10_init : Room := { frames := 2, cells := 19, slots := 1845, locals := 41 }
theorem mi_X10_init : pd_mi yX10_init cX10_init 2 0 := ⟨wd_1_106, wd_1_5, wd_1_107, rfl, (by decide +kernel)⟩
theorem fr_X10_init {F : pd_R} (f0 : pd_fr F (17)) : pd_fr (fc_X10_init F) (36) := by
  have f1 : pd_fr (pd_zf F 17) (18) := pd_fr_z f0
  have f2 : pd_fr (pd_ur (pd_zf F 17) 16 0 (some 17)) (18) := pd_fr_u f1 (by omega)
  have f3 : pd_fr (pd_zf (pd_ur (pd_zf F 17) 16 0 (some 17)) 18) (19) := pd_fr_z f2
  have f4 : pd_fr (fc_X9_init 18 (pd_zf (pd_ur (pd_zf F 17) 16 0 (some 17)) 18)) 20 := fr_X9_init (by decide) f3
  have f5 : pd_fr (pd_ur (fc_X9_init 18 (pd_zf (pd_ur (pd_zf F 17) 16 0 (some 17)) 18)) 17 ((0 : Int32).toNatClampNeg) (some 18)) (20) := pd_fr_u f4 (by omega)
  have f6 : pd_fr (pd_zf (pd_ur (fc_X9_init 18 (pd_zf (pd_ur (pd_zf F 17) 16 0 (some 17)) 18)) 17 ((0 : Int32).toNatClampNeg) (some 18)) 20) (21) := pd_fr_z f5
  have f7 : pd_fr (fc_X9_init 20 (pd_zf (pd_ur (fc_X9_init 18 (pd_zf (pd_ur (pd_zf F 17) 16 0 (some 17)) 18)) 17 ((0 : Int32).toNatClampNeg) (some 18)) 20)) 22 := fr_X9_init (by decide) f6
  have f8 : pd_fr (pd_ur (fc_X9_init 20 (pd_zf (pd_ur (fc_X9_init 18 (pd_zf (pd_ur (pd_zf F 17) 16 0 (some 17)) 18)) 17 ((0 : Int32).toNatClampNeg) (some 18)) 20)) 17 ((1 : Int32).toNatClampNeg) (some 20)) (22) := pd_fr_u f7 (by omega)
  have f9 : pd_fr (pd_zf (pd_ur (fc_X9_init 20 (pd_zf (pd_ur (fc_X9_init 18 (pd_zf (pd_ur (pd_zf F 17) 16 0 (some 17)) 18)) 17 ((0 : Int32).toNatClampNeg) (some 18)) 20)) 17 ((1 : Int32).toNatClampNeg) (some 20)) 22) (23) := pd_fr_z f8
  have f10 : pd_fr (fc_X9_init 22 (pd_zf (pd_ur (fc_X9_init 20 (pd_zf (pd_ur (fc_X9_init 18 (pd_zf (pd_ur (pd_zf F 17) 16 0 (some 17)) 18)) 17 ((0 : Int32).toNatClampNeg) (some 18)) 20)) 17 ((1 : Int32).toNatClampNeg) (some 20)) 22)) 24 := fr_X9_init (by decide) f9
  have f11 : pd_fr (pd_ur (fc_X9_init 22 (pd_zf (pd_ur (fc_X9_init 20 (pd_zf (pd_ur (fc_X9_init 18 (pd_zf (pd_ur (pd_zf F 17) 16 0 (some 17)) 18)) 17 ((0 : Int32).toNatClampNeg) (some 18)) 20)) 17 ((1 : Int32).toNatClampNeg) (some 20)) 22)) 17 ((2 : Int32).toNatClampNeg) (some 22)) (24) := pd_fr_u f10 (by omega)
  have f12 : pd_fr (pd_zf (pd_ur (fc_X9_init 22 (pd_zf (pd_ur (fc_X9_init 20 (pd_zf (pd_ur (fc_X9_init 18 (pd_zf (pd_ur (pd_zf F 17) 16 0 (some 17)) 18)) 17 ((0 : Int32).toNatClampNeg) (some 18)) 20)) 17 ((1 : Int32).toNatClampNeg) (some 20)) 22)) 17 ((2 : Int32).toNatClampNeg) (some 22)) 24) (25) := pd_fr_z f11
  have f13 : pd_fr (fc_X9_init 24 (pd_zf (pd_ur (fc_X9_init 22 (pd_zf (pd_ur (fc_X9_init 20 (pd_zf (pd_ur (fc_X9_init 18 (pd_zf (pd_ur (pd_zf F 17) 16 0 (some 17)) 18)) 17 ((0 : Int32).toNatClampNeg) (some 18)) 20)) 17 ((1 : Int32).toNatClampNeg) (some 20)) 22)) 17 ((2 : Int32).toNatClampNeg) (some 22)) 24)) 26 := fr_X9_init (by decide) f12
  have f14 : pd_fr (pd_ur (fc_X9_init 24 (pd_zf (pd_ur (fc_X9_init 22 (pd_zf (pd_ur (fc_X9_init 20 (pd_zf (pd_ur (fc_X9_init 18 (pd_zf (pd_ur (pd_zf F 17) 16 0 (some 17)) 18)) 17 ((0 : Int32).toNatClampNeg) (some 18)) 20)) 17 ((1 : Int32).toNatClampNeg) (some 20)) 22)) 17 ((2 : Int32).toNatClampNeg) (some 22)) 24)) 17 ((3 : Int32).toNatClampNeg) (some 24)) (26) := pd_fr_u f13 (by omega)
  have f15 : pd_fr (pd_zf (pd_ur (fc_X9_init 24 (pd_zf (pd_ur (fc_X9_init 22 (pd_zf (pd_ur (fc_X9_init 20 (pd_zf (pd_ur (fc_X9_init 18 (pd_zf (pd_ur (pd_zf F 17) 16 0 (some 17)) 18)) 17 ((0 : Int32).toNatClampNeg) (some 18)) 20)) 17 ((1 : Int32).toNatClampNeg) (some 20)) 22)) 17 ((2 : Int32).toNatClampNeg) (some 22)) 24)) 17 ((3 : Int32).toNatClampNeg) (some 24)) 26) (27) := pd_fr_z f14
  have f16 : pd_fr (fc_X9_init 26 (pd_zf (pd_ur (fc_X9_init 24 (pd_zf (pd_ur (fc_X9_init 22 (pd_zf (pd_ur (fc_X9_init 20 (pd_zf (pd_ur (fc_X9_init 18 (pd_zf (pd_ur (pd_zf F 17) 16 0 (some 17)) 18)) 17 ((0 : Int32).toNatClampNeg) (some 18)) 20)) 17 ((1 : Int32).toNatClampNeg) (some 20)) 22)) 17 ((2 : Int32).toNatClampNeg) (some 22)) 24)) 17 ((3 : Int32).toNatClampNeg) (some 24)) 26)) 28 := fr_X9_init (by decide) f15
  have f17 : pd_fr (pd_ur (fc_X9_init 26 (pd_zf (pd_ur (fc_X9_init 24 (pd_zf (pd_ur (fc_X9_init 22 (pd_zf (pd_ur (fc_X9_init 20 (pd_zf (pd_ur (fc_X9_init 18 (pd_zf (pd_ur (pd_zf F 17) 16 0 (some 17)) 18)) 17 ((0 : Int32).toNatClampNeg) (some 18)) 20)) 17 ((1 : Int32).toNatClampNeg) (some 20)) 22)) 17 ((2 : Int32).toNatClampNeg) (some 22)) 24)) 17 ((3 : Int32).toNatClampNeg) (some 24)) 26)) 17 ((4 : Int32).toNatClampNeg) (some 26)) (28) := pd_fr_u f16 (by omega)
  have f18 : pd_fr (pd_zf (pd_ur (fc_X9_init 26 (pd_zf (pd_ur (fc_X9_init 24 (pd_zf (pd_ur (fc_X9_init 22 (pd_zf (pd_ur (fc_X9_init 20 (pd_zf (pd_ur (fc_X9_init 18 (pd_zf (pd_ur (pd_zf F 17) 16 0 (some 17)) 18)) 17 ((0 : Int32).toNatClampNeg) (some 18)) 20)) 17 ((1 : Int32).toNatClampNeg) (some 20)) 22)) 17 ((2 : Int32).toNatClampNeg) (some 22)) 24)) 17 ((3 : Int32).toNatClampNeg) (some 24)) 26)) 17 ((4 : Int32).toNatClampNeg) (some 26)) 28) (29) := pd_fr_z f17
  have f19 : pd_fr (fc_X9_init 28 (pd_zf (pd_ur (fc_X9_init 26 (pd_zf (pd_ur (fc_X9_init 24 (pd_zf (pd_ur (fc_X9_init 22 (pd_zf (pd_ur (fc_X9_init 20 (pd_zf (pd_ur (fc_X9_init 18 (pd_zf (pd_ur (pd_zf F 17) 16 0 (some 17)) 18)) 17 ((0 : Int32).toNatClampNeg) (some 18)) 20)) 17 ((1 : Int32).toNatClampNeg) (some 20)) 22)) 17 ((2 : Int32).toNatClampNeg) (some 22)) 24)) 17 ((3 : Int32).toNatClampNeg) (some 24)) 26)) 17 ((4 : Int32).toNatClampNeg) (some 26)) 28)) 30 := fr_X9_init (by decide) f18
  have f20 : pd_fr (pd_ur (fc_X9_init 28 (pd_zf (pd_ur (fc_X9_init 26 (pd_zf (pd_ur (fc_X9_init 24 (pd_zf (pd_ur (fc_X9_init 22 (pd_zf (pd_ur (fc_X9_init 20 (pd_zf (pd_ur (fc_X9_init 18 (pd_zf (pd_ur (pd_zf F 17) 16 0 (some 17)) 18)) 17 ((0 : Int32).toNatClampNeg) (some 18)) 20)) 17 ((1 : Int32).toNatClampNeg) (some 20)) 22)) 17 ((2 : Int32).toNatClampNeg) (some 22)) 24)) 17 ((3 : Int32).toNatClampNeg) (some 24)) 26)) 17 ((4 : Int32).toNatClampNeg) (some 26)) 28)) 17 ((5 : Int32).toNatClampNeg) (some 28)) (30) := pd_fr_u f19 (by omega)
  have f21 : pd_fr (pd_zf (pd_ur (fc_X9_init 28 (pd_zf (pd_ur (fc_X9_init 26 (pd_zf (pd_ur (fc_X9_init 24 (pd_zf (pd_ur (fc_X9_init 22 (pd_zf (pd_ur (fc_X9_init 20 (pd_zf (pd_ur (fc_X9_init 18 (pd_zf (pd_ur (pd_zf F 17) 16 0 (some 17)) 18)) 17 ((0 : Int32).toNatClampNeg) (some 18)) 20)) 17 ((1 : Int32).toNatClampNeg) (some 20)) 22)) 17 ((2 : Int32).toNatClampNeg) (some 22)) 24)) 17 ((3 : Int32).toNatClampNeg) (some 24)) 26)) 17 ((4 : Int32).toNatClampNeg) (some 26)) 28)) 17 ((5 : Int32).toNatClampNeg) (some 28)) 30) (31) := pd_fr_z f20
  have f22 : pd_fr (fc_X9_init 30 (pd_zf (pd_ur (fc_X9_init 28 (pd_zf (pd_ur (fc_X9_init 26 (pd_zf (pd_ur (fc_X9_init 24 (pd_zf (pd_ur (fc_X9_init 22 (pd_zf (pd_ur (fc_X9_init 20 (pd_zf (pd_ur (fc_X9_init 18 (pd_zf (pd_ur (pd_zf F 17) 16 0 (some 17)) 18)) 17 ((0 : Int32).toNatClampNeg) (some 18)) 20)) 17 ((1 : Int32).toNatClampNeg) (some 20)) 22)) 17 ((2 : Int32).toNatClampNeg) (some 22)) 24)) 17 ((3 : Int32).toNatClampNeg) (some 24)) 26)) 17 ((4 : Int32).toNatClampNeg) (some 26)) 28)) 17 ((5 : Int32).toNatClampNeg) (some 28)) 30)) 32 := fr_X9_init (by decide) f21
  have f23 : pd_fr (pd_ur (fc_X9_init 30 (pd_zf (pd_ur (fc_X9_init 28 (pd_zf (pd_ur (fc_X9_init 26 (pd_zf (pd_ur (fc_X9_init 24 (pd_zf (pd_ur (fc_X9_init 22 (pd_zf (pd_ur (fc_X9_init 20 (pd_zf (pd_ur (fc_X9_init 18 (pd_zf (pd_ur (pd_zf F 17) 16 0 (some 17)) 18)) 17 ((0 : Int32).toNatClampNeg) (some 18)) 20)) 17 ((1 : Int32).toNatClampNeg) (some 20)) 22)) 17 ((2 : Int32).toNatClampNeg) (some 22)) 24)) 17 ((3 : Int32).toNatClampNeg) (some 24)) 26)) 17 ((4 : Int32).toNatClampNeg) (some 26)) 28)) 17 ((5 : Int32).toNatClampNeg) (some 28)) 30)) 17 ((6 : Int32).toNatClampNeg) (some 30)) (32) := pd_fr_u f22 (by omega)
  have f24 : pd_fr (pd_zf (pd_ur (fc_X9_init 30 (pd_zf (pd_ur (fc_X9_init 28 (pd_zf (pd_ur (fc_X9_init 26 (pd_zf (pd_ur (fc_X9_init 24 (pd_zf (pd_ur (fc_X9_init 22 (pd_zf (pd_ur (fc_X9_init 20 (pd_zf (pd_ur (fc_X9_init 18 (pd_zf (pd_ur (pd_zf F 17) 16 0 (some 17)) 18)) 17 ((0 : Int32).toNatClampNeg) (some 18)) 20)) 17 ((1 : Int32).toNatClampNeg) (some 20)) 22)) 17 ((2 : Int32).toNatClampNeg) (some 22)) 24)) 17 ((3 : Int32).toNatClampNeg) (some 24)) 26)) 17 ((4 : Int32).toNatClampNeg) (some 26)) 28)) 17 ((5 : Int32).toNatClampNeg) (some 28)) 30)) 17 ((6 : Int32).toNatClampNeg) (some 30)) 32) (33) := pd_fr_z f23
  have f25 : pd_fr (fc_X9_init 32 (pd_zf (pd_ur (fc_X9_init 30 (pd_zf (pd_ur (fc_X9_init 28 (pd_zf (pd_ur (fc_X9_init 26 (pd_zf (pd_ur (fc_X9_init 24 (pd_zf (pd_ur (fc_X9_init 22 (pd_zf (pd_ur (fc_X9_init 20 (pd_zf (pd_ur (fc_X9_init 18 (pd_zf (pd_ur (pd_zf F 17) 16 0 (some 17)) 18)) 17 ((0 : Int32).toNatClampNeg) (some 18)) 20)) 17 ((1 : Int32).toNatClampNeg) (some 20)) 22)) 17 ((2 : Int32).toNatClampNeg) (some 22)) 24)) 17 ((3 : Int32).toNatClampNeg) (some 24)) 26)) 17 ((4 : Int32).toNatClampNeg) (some 26)) 28)) 17 ((5 : Int32).toNatClampNeg) (some 28)) 30)) 17 ((6 : Int32).toNatClampNeg) (some 30)) 32)) 34 := fr_X9_init (by decide) f24
  have f26 : pd_fr (pd_ur (fc_X9_init 32 (pd_zf (pd_ur (fc_X9_init 30 (pd_zf (pd_ur (fc_X9_init 28 (pd_zf (pd_ur (fc_X9_init 26 (pd_zf (pd_ur (fc_X9_init 24 (pd_zf (pd_ur (fc_X9_init 22 (pd_zf (pd_ur (fc_X9_init 20 (pd_zf (pd_ur (fc_X9_init 18 (pd_zf (pd_ur (pd_zf F 17) 16 0 (some 17)) 18)) 17 ((0 : Int32).toNatClampNeg) (some 18)) 20)) 17 ((1 : Int32).toNatClampNeg) (some 20)) 22)) 17 ((2 : Int32).toNatClampNeg) (some 22)) 24)) 17 ((3 : Int32).toNatClampNeg) (some 24)) 26)) 17 ((4 : Int32).toNatClampNeg) (some 26)) 28)) 17 ((5 : Int32).toNatClampNeg) (some 28)) 30)) 17 ((6 : Int32).toNatClampNeg) (some 30)) 32)) 17 ((7 : Int32).toNatClampNeg) (some 32)) (34) := pd_fr_u f25 (by omega)
  have f27 : pd_fr (pd_zf (pd_ur (fc_X9_init 32 (pd_zf (pd_ur (fc_X9_init 30 (pd_zf (pd_ur (fc_X9_init 28 (pd_zf (pd_ur (fc_X9_init 26 (pd_zf (pd_ur (fc_X9_init 24 (pd_zf (pd_ur (fc_X9_init 22 (pd_zf (pd_ur (fc_X9_init 20 (pd_zf (pd_ur (fc_X9_init 18 (pd_zf (pd_ur (pd_zf F 17) 16 0 (some 17)) 18)) 17 ((0 : Int32).toNatClampNeg) (some 18)) 20)) 17 ((1 : Int32).toNatClampNeg) (some 20)) 22)) 17 ((2 : Int32).toNatClampNeg) (some 22)) 24)) 17 ((3 : Int32).toNatClampNeg) (some 24)) 26)) 17 ((4 : Int32).toNatClampNeg) (some 26)) 28)) 17 ((5 : Int32).toNatClampNeg) (some 28)) 30)) 17 ((6 : Int32).toNatClampNeg) (some 30)) 32)) 17 ((7 : Int32).toNatClampNeg) (some 32)) 34) (35) := pd_fr_z f26
  have f28 : pd_fr (fc_X9_init 34 (pd_zf (pd_ur (fc_X9_init 32 (pd_zf (pd_ur (fc_X9_init 30 (pd_zf (pd_ur (fc_X9_init 28 (pd_zf (pd_ur (fc_X9_init 26 (pd_zf (pd_ur (fc_X9_init 24 (pd_zf (pd_ur (fc_X9_init 22 (pd_zf (pd_ur (fc_X9_init 20 (pd_zf (pd_ur (fc_X9_init 18 (pd_zf (pd_ur (pd_zf F 17) 16 0 (some 17)) 18)) 17 ((0 : Int32).toNatClampNeg) (some 18)) 20)) 17 ((1 : Int32).toNatClampNeg) (some 20)) 22)) 17 ((2 : Int32).toNatClampNeg) (some 22)) 24)) 17 ((3 : Int32).toNatClampNeg) (some 24)) 26)) 17 ((4 : Int32).toNatClampNeg) (some 26)) 28)) 17 ((5 : Int32).toNatClampNeg) (some 28)) 30)) 17 ((6 : Int32).toNatClampNeg) (some 30)) 32)) 17 ((7 : Int32).toNatClampNeg) (some 32)) 34)) 36 := fr_X9_init (by decide) f27
  have f29 : pd_fr (pd_ur (fc_X9_init 34 (pd_zf (pd_ur (fc_X9_init 32 (pd_zf (pd_ur (fc_X9_init 30 (pd_zf (pd_ur (fc_X9_init 28 (pd_zf (pd_ur (fc_X9_init 26 (pd_zf (pd_ur (fc_X9_init 24 (pd_zf (pd_ur (fc_X9_init 22 (pd_zf (pd_ur (fc_X9_init 20 (pd_zf (pd_ur (fc_X9_init 18 (pd_zf (pd_ur (pd_zf F 17) 16 0 (some 17)) 18)) 17 ((0 : Int32).toNatClampNeg) (some 18)) 20)) 17 ((1 : Int32).toNatClampNeg) (some 20)) 22)) 17 ((2 : Int32).toNatClampNeg) (some 22)) 24)) 17 ((3 : Int32).toNatClampNeg) (some 24)) 26)) 17 ((4 : Int32).toNatClampNeg) (some 26)) 28)) 17 ((5 : Int32).toNatClampNeg) (some 28)) 30)) 17 ((6 : Int32).toNatClampNeg) (some 30)) 32)) 17 ((7 : Int32).toNatClampNeg) (some 32)) 34)) 17 ((8 : Int32).toNatClampNeg) (some 34)) (36) := pd_fr_u f28 (by omega)
  exact f29
set_option maxHeartbeats 4000000 in
set_option maxRecDepth 100000 in
theorem ec_X10_init {l : Launch} {D : va_G} {tc : Nat → ClassId} (hst : l.stackTraces = false) {I : pd_I} {J : pd_J} {F : pd_R} (f0 : pd_fr F (17)) :
    pd_M l D tc yX10_init (.code yX10_init cX10_init 2 none) rm_X10_init [.ref 16] I J F (17) (.ok none) (ic_X10_init I) (jc_X10_init J) (fc_X10_init F) (36) := by
  refine pd_open (own := "PathDecoder$Ways") (ls0 := [some (.ref 16), none]) (by decide) rfl (Nat.le_of_ble_eq_true rfl) rfl rfl hst (fun cx hl hD htc C hE htab hnm => ?_)
  have hin0 : (cx.2.2.2.2.2.2.2.2.1).name = "<init>" := hnm
  subst hl hD htc
  refine pd_aload_n C dX10_init_0 rfl rfl ?_
  refine pd_obji C wd_1_108 ⟨by decide, by decide⟩ (Nat.le_of_ble_eq_true rfl) dX10_init_1 ?_
  refine pd_aload_n C dX10_init_4 rfl rfl ?_
  refine pd_bipush (v := 9) C dX10_init_5 (by decide) ?_
  refine pd_newQ19 (N := 9) C wd_1_109 sh_17 (by decide) (by decide) (by decide) (pd_fr_hF f0) (pd_oLr (by omega) (pd_oLn pd_oL0)) (pd_oSr (by omega) pd_oS0) ⟨by decide, by decide⟩ dX10_init_7 ?_
  refine pd_nE (n' := 18) rfl ?_
  have f1 : pd_fr (pd_zf F 17) (18) := pd_fr_z f0
  refine pfr_10_0 C hin0 rfl wd_1_135 (by omega) sh_16 dX10_init_10 ?_
  have f2 : pd_fr (pd_ur (pd_zf F 17) 16 0 (some 17)) (18) := pd_fr_u f1 (by omega)
  refine pd_aload_n C dX10_init_13 rfl rfl ?_
  refine pd_iconst (v := 0) C dX10_init_14 (by decide) ?_
  refine pi_10_1 C wd_1_136 rfl rfl (by omega) sh_16 dX10_init_15 ?_
  refine pd_aload_n C dX10_init_18 rfl rfl ?_
  refine pd_iconst (v := 0) C dX10_init_19 (by decide) ?_
  refine pi_10_2 C wd_1_137 rfl rfl (by omega) sh_16 dX10_init_20 ?_
  refine pd_iconst (v := 0) C dX10_init_23 (by decide) ?_
  refine pd_istore_n (ls' := [some (.ref 16), some (.int 0)]) C dX10_init_24 rfl (Nat.le_of_ble_eq_true rfl) rfl rfl ?_
  refine pd_iload_n C dX10_init_25 rfl rfl ?_
  refine pd_bipush (v := 8) C dX10_init_26 (by decide) ?_
  refine pd_icmp_gt (tgt := 50) C dX10_init_28 (by decide) (fun h9 => ?_) (fun h9 => ?_)
  exact absurd h9 (by decide)
  refine pd_aload_n C dX10_init_31 rfl rfl ?_
  refine gr_10_0 (b := 17) C wd_1_135 (by decide) sh_16 rfl dX10_init_32 ?_
  refine pd_iload_n C dX10_init_35 rfl rfl ?_
  refine pd_newO (t := 9) (N := 4) (T := TX9) (ty0 := tyX9) C rfl fw_9 tyX9_ok (by decide) (by decide) wd_1_109 wd_1_111 wd_1_6 sh_18 (pd_fr_hF f2) (pd_oLr (by omega) (pd_oLi pd_oL0)) (pd_oSi (pd_oSr (by omega) pd_oS0)) ⟨by decide, by decide⟩ dX10_init_36 ?_
  refine pd_nE (n' := 19) rfl ?_
  have f3 : pd_fr (pd_zf (pd_ur (pd_zf F 17) 16 0 (some 17)) 18) (19) := pd_fr_z f2
  refine pd_dup C dX10_init_39 rfl ?_
  refine pd_callN C [] [.ref 18, .int 0, .ref 17] (I' := ic_X9_init 18 (pd_zi (pd_ui (pd_ui (pd_zi I 17) 16 1 0) 16 2 0) 18)) (J' := jc_X9_init 18 (pd_zj (pd_zj J 17) 18)) (F' := fc_X9_init 18 (pd_zf (pd_ur (pd_zf F 17) 16 0 (some 17)) 18)) (n' := 20) (ec_X9_init (pd_C_st C) (by decide) f3) mi_X9_init (List.mem_of_getElem? (i := 2) rfl) ⟨by decide, by decide, by decide, by decide⟩ rfl (Nat.le_of_ble_eq_true rfl) (pd_oLr (by omega) (pd_oLi pd_oL0)) (pd_oSr (by omega) (pd_oSi (pd_oSr (by omega) pd_oS0))) dX10_init_40 (stk' := [.ref 18, .int 0, .ref 17]) rfl ?_
  have f4 : pd_fr (fc_X9_init 18 (pd_zf (pd_ur (pd_zf F 17) 16 0 (some 17)) 18)) 20 := fr_X9_init (by decide) f3
  refine pd_aast C (by omega) sh_17 (by omega) sh_18 rfl (by decide) dX10_init_43 ?_
  have f5 : pd_fr (pd_ur (fc_X9_init 18 (pd_zf (pd_ur (pd_zf F 17) 16 0 (some 17)) 18)) 17 ((0 : Int32).toNatClampNeg) (some 18)) (20) := pd_fr_u f4 (by omega)
  refine pd_iincG (zz := 1) C dX10_init_44 rfl (by decide) rfl (fun v9 h9 => ?_)
  obtain rfl : v9 = 1 := h9.trans (by decide)
  refine pd_lsE (ls' := [some (.ref 16), some (.int 1)]) rfl ?_
  refine pd_goto (tgt := 25) C dX10_init_47 (by decide) ?_
  refine pd_iload_n C dX10_init_25 rfl rfl ?_
  refine pd_bipush (v := 8) C dX10_init_26 (by decide) ?_
  refine pd_icmp_gt (tgt := 50) C dX10_init_28 (by decide) (fun h9 => ?_) (fun h9 => ?_)
  exact absurd h9 (by decide)
  refine pd_aload_n C dX10_init_31 rfl rfl ?_
  refine gr_10_0 (b := 17) C wd_1_135 (by decide) sh_16 rfl dX10_init_32 ?_
  refine pd_iload_n C dX10_init_35 rfl rfl ?_
  refine pd_newO (t := 9) (N := 4) (T := TX9) (ty0 := tyX9) C rfl fw_9 tyX9_ok (by decide) (by decide) wd_1_109 wd_1_111 wd_1_6 sh_20 (pd_fr_hF f5) (pd_oLr (by omega) (pd_oLi pd_oL0)) (pd_oSi (pd_oSr (by omega) pd_oS0)) ⟨by decide, by decide⟩ dX10_init_36 ?_
  refine pd_nE (n' := 21) rfl ?_
  have f6 : pd_fr (pd_zf (pd_ur (fc_X9_init 18 (pd_zf (pd_ur (pd_zf F 17) 16 0 (some 17)) 18)) 17 ((0 : Int32).toNatClampNeg) (some 18)) 20) (21) := pd_fr_z f5
  refine pd_dup C dX10_init_39 rfl ?_
  refine pd_callN C [] [.ref 20, .int 1, .ref 17] (I' := ic_X9_init 20 (pd_zi (ic_X9_init 18 (pd_zi (pd_ui (pd_ui (pd_zi I 17) 16 1 0) 16 2 0) 18)) 20)) (J' := jc_X9_init 20 (pd_zj (jc_X9_init 18 (pd_zj (pd_zj J 17) 18)) 20)) (F' := fc_X9_init 20 (pd_zf (pd_ur (fc_X9_init 18 (pd_zf (pd_ur (pd_zf F 17) 16 0 (some 17)) 18)) 17 ((0 : Int32).toNatClampNeg) (some 18)) 20)) (n' := 22) (ec_X9_init (pd_C_st C) (by decide) f6) mi_X9_init (List.mem_of_getElem? (i := 2) rfl) ⟨by decide, by decide, by decide, by decide⟩ rfl (Nat.le_of_ble_eq_true rfl) (pd_oLr (by omega) (pd_oLi pd_oL0)) (pd_oSr (by omega) (pd_oSi (pd_oSr (by omega) pd_oS0))) dX10_init_40 (stk' := [.ref 20, .int 1, .ref 17]) rfl ?_
  have f7 : pd_fr (fc_X9_init 20 (pd_zf (pd_ur (fc_X9_init 18 (pd_zf (pd_ur (pd_zf F 17) 16 0 (some 17)) 18)) 17 ((0 : Int32).toNatClampNeg) (some 18)) 20)) 22 := fr_X9_init (by decide) f6
  refine pd_aast C (by omega) sh_17 (by omega) sh_20 rfl (by decide) dX10_init_43 ?_
  have f8 : pd_fr (pd_ur (fc_X9_init 20 (pd_zf (pd_ur (fc_X9_init 18 (pd_zf (pd_ur (pd_zf F 17) 16 0 (some 17)) 18)) 17 ((0 : Int32).toNatClampNeg) (some 18)) 20)) 17 ((1 : Int32).toNatClampNeg) (some 20)) (22) := pd_fr_u f7 (by omega)
  refine pd_iincG (zz := 1) C dX10_init_44 rfl (by decide) rfl (fun v9 h9 => ?_)
  obtain rfl : v9 = 2 := h9.trans (by decide)
  refine pd_lsE (ls' := [some (.ref 16), some (.int 2)]) rfl ?_
  refine pd_goto (tgt := 25) C dX10_init_47 (by decide) ?_
  refine pd_iload_n C dX10_init_25 rfl rfl ?_
  refine pd_bipush (v := 8) C dX10_init_26 (by decide) ?_
  refine pd_icmp_gt (tgt := 50) C dX10_init_28 (by decide) (fun h9 => ?_) (fun h9 => ?_)
  exact absurd h9 (by decide)
  refine pd_aload_n C dX10_init_31 rfl rfl ?_
  refine gr_10_0 (b := 17) C wd_1_135 (by decide) sh_16 rfl dX10_init_32 ?_
  refine pd_iload_n C dX10_init_35 rfl rfl ?_
  refine pd_newO (t := 9) (N := 4) (T := TX9) (ty0 := tyX9) C rfl fw_9 tyX9_ok (by decide) (by decide) wd_1_109 wd_1_111 wd_1_6 sh_22 (pd_fr_hF f8) (pd_oLr (by omega) (pd_oLi pd_oL0)) (pd_oSi (pd_oSr (by omega) pd_oS0)) ⟨by decide, by decide⟩ dX10_init_36 ?_
  refine pd_nE (n' := 23) rfl ?_
  have f9 : pd_fr (pd_zf (pd_ur (fc_X9_init 20 (pd_zf (pd_ur (fc_X9_init 18 (pd_zf (pd_ur (pd_zf F 17) 16 0 (some 17)) 18)) 17 ((0 : Int32).toNatClampNeg) (some 18)) 20)) 17 ((1 : Int32).toNatClampNeg) (some 20)) 22) (23) := pd_fr_z f8
  refine pd_dup C dX10_init_39 rfl ?_
  refine pd_callN C [] [.ref 22, .int 2, .ref 17] (I' := ic_X9_init 22 (pd_zi (ic_X9_init 20 (pd_zi (ic_X9_init 18 (pd_zi (pd_ui (pd_ui (pd_zi I 17) 16 1 0) 16 2 0) 18)) 20)) 22)) (J' := jc_X9_init 22 (pd_zj (jc_X9_init 20 (pd_zj (jc_X9_init 18 (pd_zj (pd_zj J 17) 18)) 20)) 22)) (F' := fc_X9_init 22 (pd_zf (pd_ur (fc_X9_init 20 (pd_zf (pd_ur (fc_X9_init 18 (pd_zf (pd_ur (pd_zf F 17) 16 0 (some 17)) 18)) 17 ((0 : Int32).toNatClampNeg) (some 18)) 20)) 17 ((1 : Int32).toNatClampNeg) (some 20)) 22)) (n' := 24) (ec_X9_init (pd_C_st C) (by decide) f9) mi_X9_init (List.mem_of_getElem? (i := 2) rfl) ⟨by decide, by decide, by decide, by decide⟩ rfl (Nat.le_of_ble_eq_true rfl) (pd_oLr (by omega) (pd_oLi pd_oL0)) (pd_oSr (by omega) (pd_oSi (pd_oSr (by omega) pd_oS0))) dX10_init_40 (stk' := [.ref 22, .int 2, .ref 17]) rfl ?_
  have f10 : pd_fr (fc_X9_init 22 (pd_zf (pd_ur (fc_X9_init 20 (pd_zf (pd_ur (fc_X9_init 18 (pd_zf (pd_ur (pd_zf F 17) 16 0 (some 17)) 18)) 17 ((0 : Int32).toNatClampNeg) (some 18)) 20)) 17 ((1 : Int32).toNatClampNeg) (some 20)) 22)) 24 := fr_X9_init (by decide) f9
  refine pd_aast C (by omega) sh_17 (by omega) sh_22 rfl (by decide) dX10_init_43 ?_
  have f11 : pd_fr (pd_ur (fc_X9_init 22 (pd_zf (pd_ur (fc_X9_init 20 (pd_zf (pd_ur (fc_X9_init 18 (pd_zf (pd_ur (pd_zf F 17) 16 0 (some 17)) 18)) 17 ((0 : Int32).toNatClampNeg) (some 18)) 20)) 17 ((1 : Int32).toNatClampNeg) (some 20)) 22)) 17 ((2 : Int32).toNatClampNeg) (some 22)) (24) := pd_fr_u f10 (by omega)
  refine pd_iincG (zz := 1) C dX10_init_44 rfl (by decide) rfl (fun v9 h9 => ?_)
  obtain rfl : v9 = 3 := h9.trans (by decide)
  refine pd_lsE (ls' := [some (.ref 16), some (.int 3)]) rfl ?_
  refine pd_goto (tgt := 25) C dX10_init_47 (by decide) ?_
  refine pd_iload_n C dX10_init_25 rfl rfl ?_
  refine pd_bipush (v := 8) C dX10_init_26 (by decide) ?_
  refine pd_icmp_gt (tgt := 50) C dX10_init_28 (by decide) (fun h9 => ?_) (fun h9 => ?_)
  exact absurd h9 (by decide)
  refine pd_aload_n C dX10_init_31 rfl rfl ?_
  refine gr_10_0 (b := 17) C wd_1_135 (by decide) sh_16 rfl dX10_init_32 ?_
  refine pd_iload_n C dX10_init_35 rfl rfl ?_
  refine pd_newO (t := 9) (N := 4) (T := TX9) (ty0 := tyX9) C rfl fw_9 tyX9_ok (by decide) (by decide) wd_1_109 wd_1_111 wd_1_6 sh_24 (pd_fr_hF f11) (pd_oLr (by omega) (pd_oLi pd_oL0)) (pd_oSi (pd_oSr (by omega) pd_oS0)) ⟨by decide, by decide⟩ dX10_init_36 ?_
  refine pd_nE (n' := 25) rfl ?_
  have f12 : pd_fr (pd_zf (pd_ur (fc_X9_init 22 (pd_zf (pd_ur (fc_X9_init 20 (pd_zf (pd_ur (fc_X9_init 18 (pd_zf (pd_ur (pd_zf F 17) 16 0 (some 17)) 18)) 17 ((0 : Int32).toNatClampNeg) (some 18)) 20)) 17 ((1 : Int32).toNatClampNeg) (some 20)) 22)) 17 ((2 : Int32).toNatClampNeg) (some 22)) 24) (25) := pd_fr_z f11
  refine pd_dup C dX10_init_39 rfl ?_
  refine pd_callN C [] [.ref 24, .int 3, .ref 17] (I' := ic_X9_init 24 (pd_zi (ic_X9_init 22 (pd_zi (ic_X9_init 20 (pd_zi (ic_X9_init 18 (pd_zi (pd_ui (pd_ui (pd_zi I 17) 16 1 0) 16 2 0) 18)) 20)) 22)) 24)) (J' := jc_X9_init 24 (pd_zj (jc_X9_init 22 (pd_zj (jc_X9_init 20 (pd_zj (jc_X9_init 18 (pd_zj (pd_zj J 17) 18)) 20)) 22)) 24)) (F' := fc_X9_init 24 (pd_zf (pd_ur (fc_X9_init 22 (pd_zf (pd_ur (fc_X9_init 20 (pd_zf (pd_ur (fc_X9_init 18 (pd_zf (pd_ur (pd_zf F 17) 16 0 (some 17)) 18)) 17 ((0 : Int32).toNatClampNeg) (some 18)) 20)) 17 ((1 : Int32).toNatClampNeg) (some 20)) 22)) 17 ((2 : Int32).toNatClampNeg) (some 22)) 24)) (n' := 26) (ec_X9_init (pd_C_st C) (by decide) f12) mi_X9_init (List.mem_of_getElem? (i := 2) rfl) ⟨by decide, by decide, by decide, by decide⟩ rfl (Nat.le_of_ble_eq_true rfl) (pd_oLr (by omega) (pd_oLi pd_oL0)) (pd_oSr (by omega) (pd_oSi (pd_oSr (by omega) pd_oS0))) dX10_init_40 (stk' := [.ref 24, .int 3, .ref 17]) rfl ?_
  have f13 : pd_fr (fc_X9_init 24 (pd_zf (pd_ur (fc_X9_init 22 (pd_zf (pd_ur (fc_X9_init 20 (pd_zf (pd_ur (fc_X9_init 18 (pd_zf (pd_ur (pd_zf F 17) 16 0 (some 17)) 18)) 17 ((0 : Int32).toNatClampNeg) (some 18)) 20)) 17 ((1 : Int32).toNatClampNeg) (some 20)) 22)) 17 ((2 : Int32).toNatClampNeg) (some 22)) 24)) 26 := fr_X9_init (by decide) f12
  refine pd_aast C (by omega) sh_17 (by omega) sh_24 rfl (by decide) dX10_init_43 ?_
  have f14 : pd_fr (pd_ur (fc_X9_init 24 (pd_zf (pd_ur (fc_X9_init 22 (pd_zf (pd_ur (fc_X9_init 20 (pd_zf (pd_ur (fc_X9_init 18 (pd_zf (pd_ur (pd_zf F 17) 16 0 (some 17)) 18)) 17 ((0 : Int32).toNatClampNeg) (some 18)) 20)) 17 ((1 : Int32).toNatClampNeg) (some 20)) 22)) 17 ((2 : Int32).toNatClampNeg) (some 22)) 24)) 17 ((3 : Int32).toNatClampNeg) (some 24)) (26) := pd_fr_u f13 (by omega)
  refine pd_iincG (zz := 1) C dX10_init_44 rfl (by decide) rfl (fun v9 h9 => ?_)
  obtain rfl : v9 = 4 := h9.trans (by decide)
  refine pd_lsE (ls' := [some (.ref 16), some (.int 4)]) rfl ?_
  refine pd_goto (tgt := 25) C dX10_init_47 (by decide) ?_
  refine pd_iload_n C dX10_init_25 rfl rfl ?_
  refine pd_bipush (v := 8) C dX10_init_26 (by decide) ?_
  refine pd_icmp_gt (tgt := 50) C dX10_init_28 (by decide) (fun h9 => ?_) (fun h9 => ?_)
  exact absurd h9 (by decide)
  refine pd_aload_n C dX10_init_31 rfl rfl ?_
  refine gr_10_0 (b := 17) C wd_1_135 (by decide) sh_16 rfl dX10_init_32 ?_
  refine pd_iload_n C dX10_init_35 rfl rfl ?_
  refine pd_newO (t := 9) (N := 4) (T := TX9) (ty0 := tyX9) C rfl fw_9 tyX9_ok (by decide) (by decide) wd_1_109 wd_1_111 wd_1_6 sh_26 (pd_fr_hF f14) (pd_oLr (by omega) (pd_oLi pd_oL0)) (pd_oSi (pd_oSr (by omega) pd_oS0)) ⟨by decide, by decide⟩ dX10_init_36 ?_
  refine pd_nE (n' := 27) rfl ?_
  have f15 : pd_fr (pd_zf (pd_ur (fc_X9_init 24 (pd_zf (pd_ur (fc_X9_init 22 (pd_zf (pd_ur (fc_X9_init 20 (pd_zf (pd_ur (fc_X9_init 18 (pd_zf (pd_ur (pd_zf F 17) 16 0 (some 17)) 18)) 17 ((0 : Int32).toNatClampNeg) (some 18)) 20)) 17 ((1 : Int32).toNatClampNeg) (some 20)) 22)) 17 ((2 : Int32).toNatClampNeg) (some 22)) 24)) 17 ((3 : Int32).toNatClampNeg) (some 24)) 26) (27) := pd_fr_z f14
  refine pd_dup C dX10_init_39 rfl ?_
  refine pd_callN C [] [.ref 26, .int 4, .ref 17] (I' := ic_X9_init 26 (pd_zi (ic_X9_init 24 (pd_zi (ic_X9_init 22 (pd_zi (ic_X9_init 20 (pd_zi (ic_X9_init 18 (pd_zi (pd_ui (pd_ui (pd_zi I 17) 16 1 0) 16 2 0) 18)) 20)) 22)) 24)) 26)) (J' := jc_X9_init 26 (pd_zj (jc_X9_init 24 (pd_zj (jc_X9_init 22 (pd_zj (jc_X9_init 20 (pd_zj (jc_X9_init 18 (pd_zj (pd_zj J 17) 18)) 20)) 22)) 24)) 26)) (F' := fc_X9_init 26 (pd_zf (pd_ur (fc_X9_init 24 (pd_zf (pd_ur (fc_X9_init 22 (pd_zf (pd_ur (fc_X9_init 20 (pd_zf (pd_ur (fc_X9_init 18 (pd_zf (pd_ur (pd_zf F 17) 16 0 (some 17)) 18)) 17 ((0 : Int32).toNatClampNeg) (some 18)) 20)) 17 ((1 : Int32).toNatClampNeg) (some 20)) 22)) 17 ((2 : Int32).toNatClampNeg) (some 22)) 24)) 17 ((3 : Int32).toNatClampNeg) (some 24)) 26)) (n' := 28) (ec_X9_init (pd_C_st C) (by decide) f15) mi_X9_init (List.mem_of_getElem? (i := 2) rfl) ⟨by decide, by decide, by decide, by decide⟩ rfl (Nat.le_of_ble_eq_true rfl) (pd_oLr (by omega) (pd_oLi pd_oL0)) (pd_oSr (by omega) (pd_oSi (pd_oSr (by omega) pd_oS0))) dX10_init_40 (stk' := [.ref 26, .int 4, .ref 17]) rfl ?_
  have f16 : pd_fr (fc_X9_init 26 (pd_zf (pd_ur (fc_X9_init 24 (pd_zf (pd_ur (fc_X9_init 22 (pd_zf (pd_ur (fc_X9_init 20 (pd_zf (pd_ur (fc_X9_init 18 (pd_zf (pd_ur (pd_zf F 17) 16 0 (some 17)) 18)) 17 ((0 : Int32).toNatClampNeg) (some 18)) 20)) 17 ((1 : Int32).toNatClampNeg) (some 20)) 22)) 17 ((2 : Int32).toNatClampNeg) (some 22)) 24)) 17 ((3 : Int32).toNatClampNeg) (some 24)) 26)) 28 := fr_X9_init (by decide) f15
  refine pd_aast C (by omega) sh_17 (by omega) sh_26 rfl (by decide) dX10_init_43 ?_
  have f17 : pd_fr (pd_ur (fc_X9_init 26 (pd_zf (pd_ur (fc_X9_init 24 (pd_zf (pd_ur (fc_X9_init 22 (pd_zf (pd_ur (fc_X9_init 20 (pd_zf (pd_ur (fc_X9_init 18 (pd_zf (pd_ur (pd_zf F 17) 16 0 (some 17)) 18)) 17 ((0 : Int32).toNatClampNeg) (some 18)) 20)) 17 ((1 : Int32).toNatClampNeg) (some 20)) 22)) 17 ((2 : Int32).toNatClampNeg) (some 22)) 24)) 17 ((3 : Int32).toNatClampNeg) (some 24)) 26)) 17 ((4 : Int32).toNatClampNeg) (some 26)) (28) := pd_fr_u f16 (by omega)
  refine pd_iincG (zz := 1) C dX10_init_44 rfl (by decide) rfl (fun v9 h9 => ?_)
  obtain rfl : v9 = 5 := h9.trans (by decide)
  refine pd_lsE (ls' := [some (.ref 16), some (.int 5)]) rfl ?_
  refine pd_goto (tgt := 25) C dX10_init_47 (by decide) ?_
  refine pd_iload_n C dX10_init_25 rfl rfl ?_
  refine pd_bipush (v := 8) C dX10_init_26 (by decide) ?_
  refine pd_icmp_gt (tgt := 50) C dX10_init_28 (by decide) (fun h9 => ?_) (fun h9 => ?_)
  exact absurd h9 (by decide)
  refine pd_aload_n C dX10_init_31 rfl rfl ?_
  refine gr_10_0 (b := 17) C wd_1_135 (by decide) sh_16 rfl dX10_init_32 ?_
  refine pd_iload_n C dX10_init_35 rfl rfl ?_
  refine pd_newO (t := 9) (N := 4) (T := TX9) (ty0 := tyX9) C rfl fw_9 tyX9_ok (by decide) (by decide) wd_1_109 wd_1_111 wd_1_6 sh_28 (pd_fr_hF f17) (pd_oLr (by omega) (pd_oLi pd_oL0)) (pd_oSi (pd_oSr (by omega) pd_oS0)) ⟨by decide, by decide⟩ dX10_init_36 ?_
  refine pd_nE (n' := 29) rfl ?_
  have f18 : pd_fr (pd_zf (pd_ur (fc_X9_init 26 (pd_zf (pd_ur (fc_X9_init 24 (pd_zf (pd_ur (fc_X9_init 22 (pd_zf (pd_ur (fc_X9_init 20 (pd_zf (pd_ur (fc_X9_init 18 (pd_zf (pd_ur (pd_zf F 17) 16 0 (some 17)) 18)) 17 ((0 : Int32).toNatClampNeg) (some 18)) 20)) 17 ((1 : Int32).toNatClampNeg) (some 20)) 22)) 17 ((2 : Int32).toNatClampNeg) (some 22)) 24)) 17 ((3 : Int32).toNatClampNeg) (some 24)) 26)) 17 ((4 : Int32).toNatClampNeg) (some 26)) 28) (29) := pd_fr_z f17
  refine pd_dup C dX10_init_39 rfl ?_
  refine pd_callN C [] [.ref 28, .int 5, .ref 17] (I' := ic_X9_init 28 (pd_zi (ic_X9_init 26 (pd_zi (ic_X9_init 24 (pd_zi (ic_X9_init 22 (pd_zi (ic_X9_init 20 (pd_zi (ic_X9_init 18 (pd_zi (pd_ui (pd_ui (pd_zi I 17) 16 1 0) 16 2 0) 18)) 20)) 22)) 24)) 26)) 28)) (J' := jc_X9_init 28 (pd_zj (jc_X9_init 26 (pd_zj (jc_X9_init 24 (pd_zj (jc_X9_init 22 (pd_zj (jc_X9_init 20 (pd_zj (jc_X9_init 18 (pd_zj (pd_zj J 17) 18)) 20)) 22)) 24)) 26)) 28)) (F' := fc_X9_init 28 (pd_zf (pd_ur (fc_X9_init 26 (pd_zf (pd_ur (fc_X9_init 24 (pd_zf (pd_ur (fc_X9_init 22 (pd_zf (pd_ur (fc_X9_init 20 (pd_zf (pd_ur (fc_X9_init 18 (pd_zf (pd_ur (pd_zf F 17) 16 0 (some 17)) 18)) 17 ((0 : Int32).toNatClampNeg) (some 18)) 20)) 17 ((1 : Int32).toNatClampNeg) (some 20)) 22)) 17 ((2 : Int32).toNatClampNeg) (some 22)) 24)) 17 ((3 : Int32).toNatClampNeg) (some 24)) 26)) 17 ((4 : Int32).toNatClampNeg) (some 26)) 28)) (n' := 30) (ec_X9_init (pd_C_st C) (by decide) f18) mi_X9_init (List.mem_of_getElem? (i := 2) rfl) ⟨by decide, by decide, by decide, by decide⟩ rfl (Nat.le_of_ble_eq_true rfl) (pd_oLr (by omega) (pd_oLi pd_oL0)) (pd_oSr (by omega) (pd_oSi (pd_oSr (by omega) pd_oS0))) dX10_init_40 (stk' := [.ref 28, .int 5, .ref 17]) rfl ?_
  have f19 : pd_fr (fc_X9_init 28 (pd_zf (pd_ur (fc_X9_init 26 (pd_zf (pd_ur (fc_X9_init 24 (pd_zf (pd_ur (fc_X9_init 22 (pd_zf (pd_ur (fc_X9_init 20 (pd_zf (pd_ur (fc_X9_init 18 (pd_zf (pd_ur (pd_zf F 17) 16 0 (some 17)) 18)) 17 ((0 : Int32).toNatClampNeg) (some 18)) 20)) 17 ((1 : Int32).toNatClampNeg) (some 20)) 22)) 17 ((2 : Int32).toNatClampNeg) (some 22)) 24)) 17 ((3 : Int32).toNatClampNeg) (some 24)) 26)) 17 ((4 : Int32).toNatClampNeg) (some 26)) 28)) 30 := fr_X9_init (by decide) f18
  refine pd_aast C (by omega) sh_17 (by omega) sh_28 rfl (by decide) dX10_init_43 ?_
  have f20 : pd_fr (pd_ur (fc_X9_init 28 (pd_zf (pd_ur (fc_X9_init 26 (pd_zf (pd_ur (fc_X9_init 24 (pd_zf (pd_ur (fc_X9_init 22 (pd_zf (pd_ur (fc_X9_init 20 (pd_zf (pd_ur (fc_X9_init 18 (pd_zf (pd_ur (pd_zf F 17) 16 0 (some 17)) 18)) 17 ((0 : Int32).toNatClampNeg) (some 18)) 20)) 17 ((1 : Int32).toNatClampNeg) (some 20)) 22)) 17 ((2 : Int32).toNatClampNeg) (some 22)) 24)) 17 ((3 : Int32).toNatClampNeg) (some 24)) 26)) 17 ((4 : Int32).toNatClampNeg) (some 26)) 28)) 17 ((5 : Int32).toNatClampNeg) (some 28)) (30) := pd_fr_u f19 (by omega)
  refine pd_iincG (zz := 1) C dX10_init_44 rfl (by decide) rfl (fun v9 h9 => ?_)
  obtain rfl : v9 = 6 := h9.trans (by decide)
  refine pd_lsE (ls' := [some (.ref 16), some (.int 6)]) rfl ?_
  refine pd_goto (tgt := 25) C dX10_init_47 (by decide) ?_
  refine pd_iload_n C dX10_init_25 rfl rfl ?_
  refine pd_bipush (v := 8) C dX10_init_26 (by decide) ?_
  refine pd_icmp_gt (tgt := 50) C dX10_init_28 (by decide) (fun h9 => ?_) (fun h9 => ?_)
  exact absurd h9 (by decide)
  refine pd_aload_n C dX10_init_31 rfl rfl ?_
  refine gr_10_0 (b := 17) C wd_1_135 (by decide) sh_16 rfl dX10_init_32 ?_
  refine pd_iload_n C dX10_init_35 rfl rfl ?_
  refine pd_newO (t := 9) (N := 4) (T := TX9) (ty0 := tyX9) C rfl fw_9 tyX9_ok (by decide) (by decide) wd_1_109 wd_1_111 wd_1_6 sh_30 (pd_fr_hF f20) (pd_oLr (by omega) (pd_oLi pd_oL0)) (pd_oSi (pd_oSr (by omega) pd_oS0)) ⟨by decide, by decide⟩ dX10_init_36 ?_
  refine pd_nE (n' := 31) rfl ?_
  have f21 : pd_fr (pd_zf (pd_ur (fc_X9_init 28 (pd_zf (pd_ur (fc_X9_init 26 (pd_zf (pd_ur (fc_X9_init 24 (pd_zf (pd_ur (fc_X9_init 22 (pd_zf (pd_ur (fc_X9_init 20 (pd_zf (pd_ur (fc_X9_init 18 (pd_zf (pd_ur (pd_zf F 17) 16 0 (some 17)) 18)) 17 ((0 : Int32).toNatClampNeg) (some 18)) 20)) 17 ((1 : Int32).toNatClampNeg) (some 20)) 22)) 17 ((2 : Int32).toNatClampNeg) (some 22)) 24)) 17 ((3 : Int32).toNatClampNeg) (some 24)) 26)) 17 ((4 : Int32).toNatClampNeg) (some 26)) 28)) 17 ((5 : Int32).toNatClampNeg) (some 28)) 30) (31) := pd_fr_z f20
  refine pd_dup C dX10_init_39 rfl ?_
  refine pd_callN C [] [.ref 30, .int 6, .ref 17] (I' := ic_X9_init 30 (pd_zi (ic_X9_init 28 (pd_zi (ic_X9_init 26 (pd_zi (ic_X9_init 24 (pd_zi (ic_X9_init 22 (pd_zi (ic_X9_init 20 (pd_zi (ic_X9_init 18 (pd_zi (pd_ui (pd_ui (pd_zi I 17) 16 1 0) 16 2 0) 18)) 20)) 22)) 24)) 26)) 28)) 30)) (J' := jc_X9_init 30 (pd_zj (jc_X9_init 28 (pd_zj (jc_X9_init 26 (pd_zj (jc_X9_init 24 (pd_zj (jc_X9_init 22 (pd_zj (jc_X9_init 20 (pd_zj (jc_X9_init 18 (pd_zj (pd_zj J 17) 18)) 20)) 22)) 24)) 26)) 28)) 30)) (F' := fc_X9_init 30 (pd_zf (pd_ur (fc_X9_init 28 (pd_zf (pd_ur (fc_X9_init 26 (pd_zf (pd_ur (fc_X9_init 24 (pd_zf (pd_ur (fc_X9_init 22 (pd_zf (pd_ur (fc_X9_init 20 (pd_zf (pd_ur (fc_X9_init 18 (pd_zf (pd_ur (pd_zf F 17) 16 0 (some 17)) 18)) 17 ((0 : Int32).toNatClampNeg) (some 18)) 20)) 17 ((1 : Int32).toNatClampNeg) (some 20)) 22)) 17 ((2 : Int32).toNatClampNeg) (some 22)) 24)) 17 ((3 : Int32).toNatClampNeg) (some 24)) 26)) 17 ((4 : Int32).toNatClampNeg) (some 26)) 28)) 17 ((5 : Int32).toNatClampNeg) (some 28)) 30)) (n' := 32) (ec_X9_init (pd_C_st C) (by decide) f21) mi_X9_init (List.mem_of_getElem? (i := 2) rfl) ⟨by decide, by decide, by decide, by decide⟩ rfl (Nat.le_of_ble_eq_true rfl) (pd_oLr (by omega) (pd_oLi pd_oL0)) (pd_oSr (by omega) (pd_oSi (pd_oSr (by omega) pd_oS0))) dX10_init_40 (stk' := [.ref 30, .int 6, .ref 17]) rfl ?_
  have f22 : pd_fr (fc_X9_init 30 (pd_zf (pd_ur (fc_X9_init 28 (pd_zf (pd_ur (fc_X9_init 26 (pd_zf (pd_ur (fc_X9_init 24 (pd_zf (pd_ur (fc_X9_init 22 (pd_zf (pd_ur (fc_X9_init 20 (pd_zf (pd_ur (fc_X9_init 18 (pd_zf (pd_ur (pd_zf F 17) 16 0 (some 17)) 18)) 17 ((0 : Int32).toNatClampNeg) (some 18)) 20)) 17 ((1 : Int32).toNatClampNeg) (some 20)) 22)) 17 ((2 : Int32).toNatClampNeg) (some 22)) 24)) 17 ((3 : Int32).toNatClampNeg) (some 24)) 26)) 17 ((4 : Int32).toNatClampNeg) (some 26)) 28)) 17 ((5 : Int32).toNatClampNeg) (some 28)) 30)) 32 := fr_X9_init (by decide) f21
  refine pd_aast C (by omega) sh_17 (by omega) sh_30 rfl (by decide) dX10_init_43 ?_
  have f23 : pd_fr (pd_ur (fc_X9_init 30 (pd_zf (pd_ur (fc_X9_init 28 (pd_zf (pd_ur (fc_X9_init 26 (pd_zf (pd_ur (fc_X9_init 24 (pd_zf (pd_ur (fc_X9_init 22 (pd_zf (pd_ur (fc_X9_init 20 (pd_zf (pd_ur (fc_X9_init 18 (pd_zf (pd_ur (pd_zf F 17) 16 0 (some 17)) 18)) 17 ((0 : Int32).toNatClampNeg) (some 18)) 20)) 17 ((1 : Int32).toNatClampNeg) (some 20)) 22)) 17 ((2 : Int32).toNatClampNeg) (some 22)) 24)) 17 ((3 : Int32).toNatClampNeg) (some 24)) 26)) 17 ((4 : Int32).toNatClampNeg) (some 26)) 28)) 17 ((5 : Int32).toNatClampNeg) (some 28)) 30)) 17 ((6 : Int32).toNatClampNeg) (some 30)) (32) := pd_fr_u f22 (by omega)
  refine pd_iincG (zz := 1) C dX10_init_44 rfl (by decide) rfl (fun v9 h9 => ?_)
  obtain rfl : v9 = 7 := h9.trans (by decide)
  refine pd_lsE (ls' := [some (.ref 16), some (.int 7)]) rfl ?_
  refine pd_goto (tgt := 25) C dX10_init_47 (by decide) ?_
  refine pd_iload_n C dX10_init_25 rfl rfl ?_
  refine pd_bipush (v := 8) C dX10_init_26 (by decide) ?_
  refine pd_icmp_gt (tgt := 50) C dX10_init_28 (by decide) (fun h9 => ?_) (fun h9 => ?_)
  exact absurd h9 (by decide)
  refine pd_aload_n C dX10_init_31 rfl rfl ?_
  refine gr_10_0 (b := 17) C wd_1_135 (by decide) sh_16 rfl dX10_init_32 ?_
  refine pd_iload_n C dX10_init_35 rfl rfl ?_
  refine pd_newO (t := 9) (N := 4) (T := TX9) (ty0 := tyX9) C rfl fw_9 tyX9_ok (by decide) (by decide) wd_1_109 wd_1_111 wd_1_6 sh_32 (pd_fr_hF f23) (pd_oLr (by omega) (pd_oLi pd_oL0)) (pd_oSi (pd_oSr (by omega) pd_oS0)) ⟨by decide, by decide⟩ dX10_init_36 ?_
  refine pd_nE (n' := 33) rfl ?_
  have f24 : pd_fr (pd_zf (pd_ur (fc_X9_init 30 (pd_zf (pd_ur (fc_X9_init 28 (pd_zf (pd_ur (fc_X9_init 26 (pd_zf (pd_ur (fc_X9_init 24 (pd_zf (pd_ur (fc_X9_init 22 (pd_zf (pd_ur (fc_X9_init 20 (pd_zf (pd_ur (fc_X9_init 18 (pd_zf (pd_ur (pd_zf F 17) 16 0 (some 17)) 18)) 17 ((0 : Int32).toNatClampNeg) (some 18)) 20)) 17 ((1 : Int32).toNatClampNeg) (some 20)) 22)) 17 ((2 : Int32).toNatClampNeg) (some 22)) 24)) 17 ((3 : Int32).toNatClampNeg) (some 24)) 26)) 17 ((4 : Int32).toNatClampNeg) (some 26)) 28)) 17 ((5 : Int32).toNatClampNeg) (some 28)) 30)) 17 ((6 : Int32).toNatClampNeg) (some 30)) 32) (33) := pd_fr_z f23
  refine pd_dup C dX10_init_39 rfl ?_
  refine pd_callN C [] [.ref 32, .int 7, .ref 17] (I' := ic_X9_init 32 (pd_zi (ic_X9_init 30 (pd_zi (ic_X9_init 28 (pd_zi (ic_X9_init 26 (pd_zi (ic_X9_init 24 (pd_zi (ic_X9_init 22 (pd_zi (ic_X9_init 20 (pd_zi (ic_X9_init 18 (pd_zi (pd_ui (pd_ui (pd_zi I 17) 16 1 0) 16 2 0) 18)) 20)) 22)) 24)) 26)) 28)) 30)) 32)) (J' := jc_X9_init 32 (pd_zj (jc_X9_init 30 (pd_zj (jc_X9_init 28 (pd_zj (jc_X9_init 26 (pd_zj (jc_X9_init 24 (pd_zj (jc_X9_init 22 (pd_zj (jc_X9_init 20 (pd_zj (jc_X9_init 18 (pd_zj (pd_zj J 17) 18)) 20)) 22)) 24)) 26)) 28)) 30)) 32)) (F' := fc_X9_init 32 (pd_zf (pd_ur (fc_X9_init 30 (pd_zf (pd_ur (fc_X9_init 28 (pd_zf (pd_ur (fc_X9_init 26 (pd_zf (pd_ur (fc_X9_init 24 (pd_zf (pd_ur (fc_X9_init 22 (pd_zf (pd_ur (fc_X9_init 20 (pd_zf (pd_ur (fc_X9_init 18 (pd_zf (pd_ur (pd_zf F 17) 16 0 (some 17)) 18)) 17 ((0 : Int32).toNatClampNeg) (some 18)) 20)) 17 ((1 : Int32).toNatClampNeg) (some 20)) 22)) 17 ((2 : Int32).toNatClampNeg) (some 22)) 24)) 17 ((3 : Int32).toNatClampNeg) (some 24)) 26)) 17 ((4 : Int32).toNatClampNeg) (some 26)) 28)) 17 ((5 : Int32).toNatClampNeg) (some 28)) 30)) 17 ((6 : Int32).toNatClampNeg) (some 30)) 32)) (n' := 34) (ec_X9_init (pd_C_st C) (by decide) f24) mi_X9_init (List.mem_of_getElem? (i := 2) rfl) ⟨by decide, by decide, by decide, by decide⟩ rfl (Nat.le_of_ble_eq_true rfl) (pd_oLr (by omega) (pd_oLi pd_oL0)) (pd_oSr (by omega) (pd_oSi (pd_oSr (by omega) pd_oS0))) dX10_init_40 (stk' := [.ref 32, .int 7, .ref 17]) rfl ?_
  have f25 : pd_fr (fc_X9_init 32 (pd_zf (pd_ur (fc_X9_init 30 (pd_zf (pd_ur (fc_X9_init 28 (pd_zf (pd_ur (fc_X9_init 26 (pd_zf (pd_ur (fc_X9_init 24 (pd_zf (pd_ur (fc_X9_init 22 (pd_zf (pd_ur (fc_X9_init 20 (pd_zf (pd_ur (fc_X9_init 18 (pd_zf (pd_ur (pd_zf F 17) 16 0 (some 17)) 18)) 17 ((0 : Int32).toNatClampNeg) (some 18)) 20)) 17 ((1 : Int32).toNatClampNeg) (some 20)) 22)) 17 ((2 : Int32).toNatClampNeg) (some 22)) 24)) 17 ((3 : Int32).toNatClampNeg) (some 24)) 26)) 17 ((4 : Int32).toNatClampNeg) (some 26)) 28)) 17 ((5 : Int32).toNatClampNeg) (some 28)) 30)) 17 ((6 : Int32).toNatClampNeg) (some 30)) 32)) 34 := fr_X9_init (by decide) f24
  refine pd_aast C (by omega) sh_17 (by omega) sh_32 rfl (by decide) dX10_init_43 ?_
  have f26 : pd_fr (pd_ur (fc_X9_init 32 (pd_zf (pd_ur (fc_X9_init 30 (pd_zf (pd_ur (fc_X9_init 28 (pd_zf (pd_ur (fc_X9_init 26 (pd_zf (pd_ur (fc_X9_init 24 (pd_zf (pd_ur (fc_X9_init 22 (pd_zf (pd_ur (fc_X9_init 20 (pd_zf (pd_ur (fc_X9_init 18 (pd_zf (pd_ur (pd_zf F 17) 16 0 (some 17)) 18)) 17 ((0 : Int32).toNatClampNeg) (some 18)) 20)) 17 ((1 : Int32).toNatClampNeg) (some 20)) 22)) 17 ((2 : Int32).toNatClampNeg) (some 22)) 24)) 17 ((3 : Int32).toNatClampNeg) (some 24)) 26)) 17 ((4 : Int32).toNatClampNeg) (some 26)) 28)) 17 ((5 : Int32).toNatClampNeg) (some 28)) 30)) 17 ((6 : Int32).toNatClampNeg) (some 30)) 32)) 17 ((7 : Int32).toNatClampNeg) (some 32)) (34) := pd_fr_u f25 (by omega)
  refine pd_iincG (zz := 1) C dX10_init_44 rfl (by decide) rfl (fun v9 h9 => ?_)
  obtain rfl : v9 = 8 := h9.trans (by decide)
  refine pd_lsE (ls' := [some (.ref 16), some (.int 8)]) rfl ?_
  refine pd_goto (tgt := 25) C dX10_init_47 (by decide) ?_
  refine pd_iload_n C dX10_init_25 rfl rfl ?_
  refine pd_bipush (v := 8) C dX10_init_26 (by decide) ?_
  refine pd_icmp_gt (tgt := 50) C dX10_init_28 (by decide) (fun h9 => ?_) (fun h9 => ?_)
  exact absurd h9 (by decide)
  refine pd_aload_n C dX10_init_31 rfl rfl ?_
  refine gr_10_0 (b := 17) C wd_1_135 (by decide) sh_16 rfl dX10_init_32 ?_
  refine pd_iload_n C dX10_init_35 rfl rfl ?_
  refine pd_newO (t := 9) (N := 4) (T := TX9) (ty0 := tyX9) C rfl fw_9 tyX9_ok (by decide) (by decide) wd_1_109 wd_1_111 wd_1_6 sh_34 (pd_fr_hF f26) (pd_oLr (by omega) (pd_oLi pd_oL0)) (pd_oSi (pd_oSr (by omega) pd_oS0)) ⟨by decide, by decide⟩ dX10_init_36 ?_
  refine pd_nE (n' := 35) rfl ?_
  have f27 : pd_fr (pd_zf (pd_ur (fc_X9_init 32 (pd_zf (pd_ur (fc_X9_init 30 (pd_zf (pd_ur (fc_X9_init 28 (pd_zf (pd_ur (fc_X9_init 26 (pd_zf (pd_ur (fc_X9_init 24 (pd_zf (pd_ur (fc_X9_init 22 (pd_zf (pd_ur (fc_X9_init 20 (pd_zf (pd_ur (fc_X9_init 18 (pd_zf (pd_ur (pd_zf F 17) 16 0 (some 17)) 18)) 17 ((0 : Int32).toNatClampNeg) (some 18)) 20)) 17 ((1 : Int32).toNatClampNeg) (some 20)) 22)) 17 ((2 : Int32).toNatClampNeg) (some 22)) 24)) 17 ((3 : Int32).toNatClampNeg) (some 24)) 26)) 17 ((4 : Int32).toNatClampNeg) (some 26)) 28)) 17 ((5 : Int32).toNatClampNeg) (some 28)) 30)) 17 ((6 : Int32).toNatClampNeg) (some 30)) 32)) 17 ((7 : Int32).toNatClampNeg) (some 32)) 34) (35) := pd_fr_z f26
  refine pd_dup C dX10_init_39 rfl ?_
  refine pd_callN C [] [.ref 34, .int 8, .ref 17] (I' := ic_X9_init 34 (pd_zi (ic_X9_init 32 (pd_zi (ic_X9_init 30 (pd_zi (ic_X9_init 28 (pd_zi (ic_X9_init 26 (pd_zi (ic_X9_init 24 (pd_zi (ic_X9_init 22 (pd_zi (ic_X9_init 20 (pd_zi (ic_X9_init 18 (pd_zi (pd_ui (pd_ui (pd_zi I 17) 16 1 0) 16 2 0) 18)) 20)) 22)) 24)) 26)) 28)) 30)) 32)) 34)) (J' := jc_X9_init 34 (pd_zj (jc_X9_init 32 (pd_zj (jc_X9_init 30 (pd_zj (jc_X9_init 28 (pd_zj (jc_X9_init 26 (pd_zj (jc_X9_init 24 (pd_zj (jc_X9_init 22 (pd_zj (jc_X9_init 20 (pd_zj (jc_X9_init 18 (pd_zj (pd_zj J 17) 18)) 20)) 22)) 24)) 26)) 28)) 30)) 32)) 34)) (F' := fc_X9_init 34 (pd_zf (pd_ur (fc_X9_init 32 (pd_zf (pd_ur (fc_X9_init 30 (pd_zf (pd_ur (fc_X9_init 28 (pd_zf (pd_ur (fc_X9_init 26 (pd_zf (pd_ur (fc_X9_init 24 (pd_zf (pd_ur (fc_X9_init 22 (pd_zf (pd_ur (fc_X9_init 20 (pd_zf (pd_ur (fc_X9_init 18 (pd_zf (pd_ur (pd_zf F 17) 16 0 (some 17)) 18)) 17 ((0 : Int32).toNatClampNeg) (some 18)) 20)) 17 ((1 : Int32).toNatClampNeg) (some 20)) 22)) 17 ((2 : Int32).toNatClampNeg) (some 22)) 24)) 17 ((3 : Int32).toNatClampNeg) (some 24)) 26)) 17 ((4 : Int32).toNatClampNeg) (some 26)) 28)) 17 ((5 : Int32).toNatClampNeg) (some 28)) 30)) 17 ((6 : Int32).toNatClampNeg) (some 30)) 32)) 17 ((7 : Int32).toNatClampNeg) (some 32)) 34)) (n' := 36) (ec_X9_init (pd_C_st C) (by decide) f27) mi_X9_init (List.mem_of_getElem? (i := 2) rfl) ⟨by decide, by decide, by decide, by decide⟩ rfl (Nat.le_of_ble_eq_true rfl) (pd_oLr (by omega) (pd_oLi pd_oL0)) (pd_oSr (by omega) (pd_oSi (pd_oSr (by omega) pd_oS0))) dX10_init_40 (stk' := [.ref 34, .int 8, .ref 17]) rfl ?_
  have f28 : pd_fr (fc_X9_init 34 (pd_zf (pd_ur (fc_X9_init 32 (pd_zf (pd_ur (fc_X9_init 30 (pd_zf (pd_ur (fc_X9_init 28 (pd_zf (pd_ur (fc_X9_init 26 (pd_zf (pd_ur (fc_X9_init 24 (pd_zf (pd_ur (fc_X9_init 22 (pd_zf (pd_ur (fc_X9_init 20 (pd_zf (pd_ur (fc_X9_init 18 (pd_zf (pd_ur (pd_zf F 17) 16 0 (some 17)) 18)) 17 ((0 : Int32).toNatClampNeg) (some 18)) 20)) 17 ((1 : Int32).toNatClampNeg) (some 20)) 22)) 17 ((2 : Int32).toNatClampNeg) (some 22)) 24)) 17 ((3 : Int32).toNatClampNeg) (some 24)) 26)) 17 ((4 : Int32).toNatClampNeg) (some 26)) 28)) 17 ((5 : Int32).toNatClampNeg) (some 28)) 30)) 17 ((6 : Int32).toNatClampNeg) (some 30)) 32)) 17 ((7 : Int32).toNatClampNeg) (some 32)) 34)) 36 := fr_X9_init (by decide) f27
  refine pd_aast C (by omega) sh_17 (by omega) sh_34 rfl (by decide) dX10_init_43 ?_
  have f29 : pd_fr (pd_ur (fc_X9_init 34 (pd_zf (pd_ur (fc_X9_init 32 (pd_zf (pd_ur (fc_X9_init 30 (pd_zf (pd_ur (fc_X9_init 28 (pd_zf (pd_ur (fc_X9_init 26 (pd_zf (pd_ur (fc_X9_init 24 (pd_zf (pd_ur (fc_X9_init 22 (pd_zf (pd_ur (fc_X9_init 20 (pd_zf (pd_ur (fc_X9_init 18 (pd_zf (pd_ur (pd_zf F 17) 16 0 (some 17)) 18)) 17 ((0 : Int32).toNatClampNeg) (some 18)) 20)) 17 ((1 : Int32).toNatClampNeg) (some 20)) 22)) 17 ((2 : Int32).toNatClampNeg) (some 22)) 24)) 17 ((3 : Int32).toNatClampNeg) (some 24)) 26)) 17 ((4 : Int32).toNatClampNeg) (some 26)) 28)) 17 ((5 : Int32).toNatClampNeg) (some 28)) 30)) 17 ((6 : Int32).toNatClampNeg) (some 30)) 32)) 17 ((7 : Int32).toNatClampNeg) (some 32)) 34)) 17 ((8 : Int32).toNatClampNeg) (some 34)) (36) := pd_fr_u f28 (by omega)
  refine pd_iincG (zz := 1) C dX10_init_44 rfl (by decide) rfl (fun v9 h9 => ?_)
  obtain rfl : v9 = 9 := h9.trans (by decide)
  refine pd_lsE (ls' := [some (.ref 16), some (.int 9)]) rfl ?_
  refine pd_goto (tgt := 25) C dX10_init_47 (by decide) ?_
  refine pd_iload_n C dX10_init_25 rfl rfl ?_
  refine pd_bipush (v := 8) C dX10_init_26 (by decide) ?_
  refine pd_icmp_gt (tgt := 50) C dX10_init_28 (by decide) (fun h9 => ?_) (fun h9 => ?_)
  rotate_left
  exact absurd (by decide) h9
  exact pd_vret C hE rfl ⟨by decide, by decide⟩ dX10_init_50
def ic_X5_init (I : pd_I) : pd_I := pd_zi (pd_zi (pd_zi (pd_zi (pd_zi (pd_zi I 37) 38) 39) 40) 41) 42
def jc_X5_init (J : pd_J) : pd_J := pd_zj (pd_zj (pd_zj (pd_zj (pd_zj (pd_zj J 37) 38) 39) 40) 41) 42
def fc_X5_init (F : pd_R) : pd_R := pd_ur (pd_ur (pd_ur (pd_zf (pd_ur (pd_zf (pd_ur (pd_zf (pd_ur (pd_zf (pd_ur (pd_zf (pd_ur (pd_zf F 37) 36 2 (some 37)) 38) 36 3 (some 38)) 39) 36 4 (some 39)) 40) 36 5 (some 40)) 41) 36 6 (some 41)) 42) 36 7 (some 42)) 36 0 (some 11)) 36 1 (some 16)
abbrev rm_X5_init : Room := { frames := 1, cells := 6, slots := 116736, locals := 21 }
theorem mi_X5_init : pd_mi yX5_init cX5_init 3 2 := ⟨wd_1_148, wd_1_7, wd_1_149, rfl, (by decide +kernel)⟩
theorem fr_X5_init {F : pd_R} (f0 : pd_fr F (37)) : pd_fr (fc_X5_init F) (43) := by
  have f1 : pd_fr (pd_zf F 37) (38) := pd_fr_z f0
  have f2 : pd_fr (pd_ur (pd_zf F 37) 36 2 (some 37)) (38) := pd_fr_u f1 (by omega)
  have f3 : pd_fr (pd_zf (pd_ur (pd_zf F 37) 36 2 (some 37)) 38) (39) := pd_fr_z f2
  have f4 : pd_fr (pd_ur (pd_zf (pd_ur (pd_zf F 37) 36 2 (some 37)) 38) 36 3 (some 38)) (39) := pd_fr_u f3 (by omega)
  have f5 : pd_fr (pd_zf (pd_ur (pd_zf (pd_ur (pd_zf F 37) 36 2 (some 37)) 38) 36 3 (some 38)) 39) (40) := pd_fr_z f4
  have f6 : pd_fr (pd_ur (pd_zf (pd_ur (pd_zf (pd_ur (pd_zf F 37) 36 2 (some 37)) 38) 36 3 (some 38)) 39) 36 4 (some 39)) (40) := pd_fr_u f5 (by omega)
  have f7 : pd_fr (pd_zf (pd_ur (pd_zf (pd_ur (pd_zf (pd_ur (pd_zf F 37) 36 2 (some 37)) 38) 36 3 (some 38)) 39) 36 4 (some 39)) 40) (41) := pd_fr_z f6
  have f8 : pd_fr (pd_ur (pd_zf (pd_ur (pd_zf (pd_ur (pd_zf (pd_ur (pd_zf F 37) 36 2 (some 37)) 38) 36 3 (some 38)) 39) 36 4 (some 39)) 40) 36 5 (some 40)) (41) := pd_fr_u f7 (by omega)
  have f9 : pd_fr (pd_zf (pd_ur (pd_zf (pd_ur (pd_zf (pd_ur (pd_zf (pd_ur (pd_zf F 37) 36 2 (some 37)) 38) 36 3 (some 38)) 39) 36 4 (some 39)) 40) 36 5 (some 40)) 41) (42) := pd_fr_z f8
  have f10 : pd_fr (pd_ur (pd_zf (pd_ur (pd_zf (pd_ur (pd_zf (pd_ur (pd_zf (pd_ur (pd_zf F 37) 36 2 (some 37)) 38) 36 3 (some 38)) 39) 36 4 (some 39)) 40) 36 5 (some 40)) 41) 36 6 (some 41)) (42) := pd_fr_u f9 (by omega)
  have f11 : pd_fr (pd_zf (pd_ur (pd_zf (pd_ur (pd_zf (pd_ur (pd_zf (pd_ur (pd_zf (pd_ur (pd_zf F 37) 36 2 (some 37)) 38) 36 3 (some 38)) 39) 36 4 (some 39)) 40) 36 5 (some 40)) 41) 36 6 (some 41)) 42) (43) := pd_fr_z f10
  have f12 : pd_fr (pd_ur (pd_zf (pd_ur (pd_zf (pd_ur (pd_zf (pd_ur (pd_zf (pd_ur (pd_zf (pd_ur (pd_zf F 37) 36 2 (some 37)) 38) 36 3 (some 38)) 39) 36 4 (some 39)) 40) 36 5 (some 40)) 41) 36 6 (some 41)) 42) 36 7 (some 42)) (43) := pd_fr_u f11 (by omega)
  have f13 : pd_fr (pd_ur (pd_ur (pd_zf (pd_ur (pd_zf (pd_ur (pd_zf (pd_ur (pd_zf (pd_ur (pd_zf (pd_ur (pd_zf F 37) 36 2 (some 37)) 38) 36 3 (some 38)) 39) 36 4 (some 39)) 40) 36 5 (some 40)) 41) 36 6 (some 41)) 42) 36 7 (some 42)) 36 0 (some 11)) (43) := pd_fr_u f12 (by omega)
  have f14 : pd_fr (pd_ur (pd_ur (pd_ur (pd_zf (pd_ur (pd_zf (pd_ur (pd_zf (pd_ur (pd_zf (pd_ur (pd_zf (pd_ur (pd_zf F 37) 36 2 (some 37)) 38) 36 3 (some 38)) 39) 36 4 (some 39)) 40) 36 5 (some 40)) 41) 36 6 (some 41)) 42) 36 7 (some 42)) 36 0 (some 11)) 36 1 (some 16)) (43) := pd_fr_u f13 (by omega)
  exact f14
set_option maxHeartbeats 4000000 in
set_option maxRecDepth 100000 in
theorem ec_X5_init {l : Launch} {D : va_G} {tc : Nat → ClassId} (hst : l.stackTraces = false) {I : pd_I} {J : pd_J} {F : pd_R} (f0 : pd_fr F (37)) :
    pd_M l D tc yX5_init (.code yX5_init cX5_init 3 none) rm_X5_init [.ref 36, .ref 11, .ref 16] I J F (37) (.ok none) (ic_X5_init I) (jc_X5_init J) (fc_X5_init F) (43) := by
  refine pd_open (own := "PathDecoder$Search") (ls0 := [some (.ref 36), some (.ref 11), some (.ref 16)]) (by decide) rfl (Nat.le_of_ble_eq_true rfl) rfl rfl hst (fun cx hl hD htc C hE htab hnm => ?_)
  have hin0 : (cx.2.2.2.2.2.2.2.2.1).name = "<init>" := hnm
  subst hl hD htc
  refine pd_aload_n C dX5_init_0 rfl rfl ?_
  refine pd_obji C wd_1_150 ⟨by decide, by decide⟩ (Nat.le_of_ble_eq_true rfl) dX5_init_1 ?_
  refine pd_aload_n C dX5_init_4 rfl rfl ?_
  refine pd_sipush (v := 512) C dX5_init_5 (by decide) ?_
  refine pd_newAI (N := 512) C wd_1_48 sh_37 (by decide) (by decide) (by decide) (pd_fr_hF f0) (pd_oLr (by omega) (pd_oLr (by omega) (pd_oLr (by omega) pd_oL0))) (pd_oSr (by omega) pd_oS0) ⟨by decide, by decide⟩ dX5_init_8 ?_
  refine pd_nE (n' := 38) rfl ?_
  have f1 : pd_fr (pd_zf F 37) (38) := pd_fr_z f0
  refine pr_5_2 C wd_1_154 (by omega) sh_36 dX5_init_10 ?_
  have f2 : pd_fr (pd_ur (pd_zf F 37) 36 2 (some 37)) (38) := pd_fr_u f1 (by omega)
  refine pd_aload_n C dX5_init_13 rfl rfl ?_
  refine pd_sipush (v := 512) C dX5_init_14 (by decide) ?_
  refine pd_newAI (N := 512) C wd_1_48 sh_38 (by decide) (by decide) (by decide) (pd_fr_hF f2) (pd_oLr (by omega) (pd_oLr (by omega) (pd_oLr (by omega) pd_oL0))) (pd_oSr (by omega) pd_oS0) ⟨by decide, by decide⟩ dX5_init_17 ?_
  refine pd_nE (n' := 39) rfl ?_
  have f3 : pd_fr (pd_zf (pd_ur (pd_zf F 37) 36 2 (some 37)) 38) (39) := pd_fr_z f2
  refine pr_5_3 C wd_1_155 (by omega) sh_36 dX5_init_19 ?_
  have f4 : pd_fr (pd_ur (pd_zf (pd_ur (pd_zf F 37) 36 2 (some 37)) 38) 36 3 (some 38)) (39) := pd_fr_u f3 (by omega)
  refine pd_aload_n C dX5_init_22 rfl rfl ?_
  refine pd_bipush (v := 64) C dX5_init_23 (by decide) ?_
  refine pd_newAI (N := 64) C wd_1_48 sh_39 (by decide) (by decide) (by decide) (pd_fr_hF f4) (pd_oLr (by omega) (pd_oLr (by omega) (pd_oLr (by omega) pd_oL0))) (pd_oSr (by omega) pd_oS0) ⟨by decide, by decide⟩ dX5_init_25 ?_
  refine pd_nE (n' := 40) rfl ?_
  have f5 : pd_fr (pd_zf (pd_ur (pd_zf (pd_ur (pd_zf F 37) 36 2 (some 37)) 38) 36 3 (some 38)) 39) (40) := pd_fr_z f4
  refine pr_5_4 C wd_1_156 (by omega) sh_36 dX5_init_27 ?_
  have f6 : pd_fr (pd_ur (pd_zf (pd_ur (pd_zf (pd_ur (pd_zf F 37) 36 2 (some 37)) 38) 36 3 (some 38)) 39) 36 4 (some 39)) (40) := pd_fr_u f5 (by omega)
  refine pd_aload_n C dX5_init_30 rfl rfl ?_
  refine pd_bipush (v := 64) C dX5_init_31 (by decide) ?_
  refine pd_newAI (N := 64) C wd_1_48 sh_40 (by decide) (by decide) (by decide) (pd_fr_hF f6) (pd_oLr (by omega) (pd_oLr (by omega) (pd_oLr (by omega) pd_oL0))) (pd_oSr (by omega) pd_oS0) ⟨by decide, by decide⟩ dX5_init_33 ?_
  refine pd_nE (n' := 41) rfl ?_
  have f7 : pd_fr (pd_zf (pd_ur (pd_zf (pd_ur (pd_zf (pd_ur (pd_zf F 37) 36 2 (some 37)) 38) 36 3 (some 38)) 39) 36 4 (some 39)) 40) (41) := pd_fr_z f6
  refine pr_5_5 C wd_1_157 (by omega) sh_36 dX5_init_35 ?_
  have f8 : pd_fr (pd_ur (pd_zf (pd_ur (pd_zf (pd_ur (pd_zf (pd_ur (pd_zf F 37) 36 2 (some 37)) 38) 36 3 (some 38)) 39) 36 4 (some 39)) 40) 36 5 (some 40)) (41) := pd_fr_u f7 (by omega)
  refine pd_aload_n C dX5_init_38 rfl rfl ?_
  refine pd_ldc C wd_1_151 dX5_init_39 ?_
  refine pd_newAB (N := 102400) C wd_1_134 sh_41 (by decide) (by decide) (by decide) (pd_fr_hF f8) (pd_oLr (by omega) (pd_oLr (by omega) (pd_oLr (by omega) pd_oL0))) (pd_oSr (by omega) pd_oS0) ⟨by decide, by decide⟩ dX5_init_41 ?_
  refine pd_nE (n' := 42) rfl ?_
  have f9 : pd_fr (pd_zf (pd_ur (pd_zf (pd_ur (pd_zf (pd_ur (pd_zf (pd_ur (pd_zf F 37) 36 2 (some 37)) 38) 36 3 (some 38)) 39) 36 4 (some 39)) 40) 36 5 (some 40)) 41) (42) := pd_fr_z f8
  refine pfr_5_6 C hin0 rfl wd_1_158 (by omega) sh_36 dX5_init_43 ?_
  have f10 : pd_fr (pd_ur (pd_zf (pd_ur (pd_zf (pd_ur (pd_zf (pd_ur (pd_zf (pd_ur (pd_zf F 37) 36 2 (some 37)) 38) 36 3 (some 38)) 39) 36 4 (some 39)) 40) 36 5 (some 40)) 41) 36 6 (some 41)) (42) := pd_fr_u f9 (by omega)
  refine pd_aload_n C dX5_init_46 rfl rfl ?_
  refine pd_sipush (v := 13184) C dX5_init_47 (by decide) ?_
  refine pd_newAB (N := 13184) C wd_1_134 sh_42 (by decide) (by decide) (by decide) (pd_fr_hF f10) (pd_oLr (by omega) (pd_oLr (by omega) (pd_oLr (by omega) pd_oL0))) (pd_oSr (by omega) pd_oS0) ⟨by decide, by decide⟩ dX5_init_50 ?_
  refine pd_nE (n' := 43) rfl ?_
  have f11 : pd_fr (pd_zf (pd_ur (pd_zf (pd_ur (pd_zf (pd_ur (pd_zf (pd_ur (pd_zf (pd_ur (pd_zf F 37) 36 2 (some 37)) 38) 36 3 (some 38)) 39) 36 4 (some 39)) 40) 36 5 (some 40)) 41) 36 6 (some 41)) 42) (43) := pd_fr_z f10
  refine pfr_5_7 C hin0 rfl wd_1_159 (by omega) sh_36 dX5_init_52 ?_
  have f12 : pd_fr (pd_ur (pd_zf (pd_ur (pd_zf (pd_ur (pd_zf (pd_ur (pd_zf (pd_ur (pd_zf (pd_ur (pd_zf F 37) 36 2 (some 37)) 38) 36 3 (some 38)) 39) 36 4 (some 39)) 40) 36 5 (some 40)) 41) 36 6 (some 41)) 42) 36 7 (some 42)) (43) := pd_fr_u f11 (by omega)
  refine pd_aload_n C dX5_init_55 rfl rfl ?_
  refine pd_aload_n C dX5_init_56 rfl rfl ?_
  refine pfr_5_0 C hin0 rfl wd_1_152 (by omega) sh_36 dX5_init_57 ?_
  have f13 : pd_fr (pd_ur (pd_ur (pd_zf (pd_ur (pd_zf (pd_ur (pd_zf (pd_ur (pd_zf (pd_ur (pd_zf (pd_ur (pd_zf F 37) 36 2 (some 37)) 38) 36 3 (some 38)) 39) 36 4 (some 39)) 40) 36 5 (some 40)) 41) 36 6 (some 41)) 42) 36 7 (some 42)) 36 0 (some 11)) (43) := pd_fr_u f12 (by omega)
  refine pd_aload_n C dX5_init_60 rfl rfl ?_
  refine pd_aload_n C dX5_init_61 rfl rfl ?_
  refine pfr_5_1 C hin0 rfl wd_1_153 (by omega) sh_36 dX5_init_62 ?_
  have f14 : pd_fr (pd_ur (pd_ur (pd_ur (pd_zf (pd_ur (pd_zf (pd_ur (pd_zf (pd_ur (pd_zf (pd_ur (pd_zf (pd_ur (pd_zf F 37) 36 2 (some 37)) 38) 36 3 (some 38)) 39) 36 4 (some 39)) 40) 36 5 (some 40)) 41) 36 6 (some 41)) 42) 36 7 (some 42)) 36 0 (some 11)) 36 1 (some 16)) (43) := pd_fr_u f13 (by omega)
  exact pd_vret C hE rfl ⟨by decide, by decide⟩ dX5_init_65
def ic_X6_init (I : pd_I) : pd_I := pd_zi (pd_zi (pd_zi (pd_zi (pd_zi I 44) 45) 46) 47) 48
def jc_X6_init (J : pd_J) : pd_J := pd_zj (pd_zj (pd_zj (pd_zj (pd_zj J 44) 45) 46) 47) 48
def fc_X6_init (F : pd_R) : pd_R := pd_ur (pd_ur (pd_zf (pd_ur (pd_zf (pd_ur (pd_zf (pd_ur (pd_zf (pd_ur (pd_zf F 44) 43 1 (some 44)) 45) 43 2 (some 45)) 46) 43 3 (some 46)) 47) 43 4 (some 47)) 48) 43 5 (some 48)) 43 0 (some 11)
abbrev rm_X6_init : Room := { frames := 1, cells := 5, slots := 13328, locals := 21 }
theorem mi_X6_init : pd_mi yX6_init cX6_init 2 1 := ⟨wd_1_180, wd_1_8, wd_1_181, rfl, (by decide +kernel)⟩
theorem fr_X6_init {F : pd_R} (f0 : pd_fr F (44)) : pd_fr (fc_X6_init F) (49) := by
  have f1 : pd_fr (pd_zf F 44) (45) := pd_fr_z f0
  have f2 : pd_fr (pd_ur (pd_zf F 44) 43 1 (some 44)) (45) := pd_fr_u f1 (by omega)
  have f3 : pd_fr (pd_zf (pd_ur (pd_zf F 44) 43 1 (some 44)) 45) (46) := pd_fr_z f2
  have f4 : pd_fr (pd_ur (pd_zf (pd_ur (pd_zf F 44) 43 1 (some 44)) 45) 43 2 (some 45)) (46) := pd_fr_u f3 (by omega)
  have f5 : pd_fr (pd_zf (pd_ur (pd_zf (pd_ur (pd_zf F 44) 43 1 (some 44)) 45) 43 2 (some 45)) 46) (47) := pd_fr_z f4
  have f6 : pd_fr (pd_ur (pd_zf (pd_ur (pd_zf (pd_ur (pd_zf F 44) 43 1 (some 44)) 45) 43 2 (some 45)) 46) 43 3 (some 46)) (47) := pd_fr_u f5 (by omega)
  have f7 : pd_fr (pd_zf (pd_ur (pd_zf (pd_ur (pd_zf (pd_ur (pd_zf F 44) 43 1 (some 44)) 45) 43 2 (some 45)) 46) 43 3 (some 46)) 47) (48) := pd_fr_z f6
  have f8 : pd_fr (pd_ur (pd_zf (pd_ur (pd_zf (pd_ur (pd_zf (pd_ur (pd_zf F 44) 43 1 (some 44)) 45) 43 2 (some 45)) 46) 43 3 (some 46)) 47) 43 4 (some 47)) (48) := pd_fr_u f7 (by omega)
  have f9 : pd_fr (pd_zf (pd_ur (pd_zf (pd_ur (pd_zf (pd_ur (pd_zf (pd_ur (pd_zf F 44) 43 1 (some 44)) 45) 43 2 (some 45)) 46) 43 3 (some 46)) 47) 43 4 (some 47)) 48) (49) := pd_fr_z f8
  have f10 : pd_fr (pd_ur (pd_zf (pd_ur (pd_zf (pd_ur (pd_zf (pd_ur (pd_zf (pd_ur (pd_zf F 44) 43 1 (some 44)) 45) 43 2 (some 45)) 46) 43 3 (some 46)) 47) 43 4 (some 47)) 48) 43 5 (some 48)) (49) := pd_fr_u f9 (by omega)
  have f11 : pd_fr (pd_ur (pd_ur (pd_zf (pd_ur (pd_zf (pd_ur (pd_zf (pd_ur (pd_zf (pd_ur (pd_zf F 44) 43 1 (some 44)) 45) 43 2 (some 45)) 46) 43 3 (some 46)) 47) 43 4 (some 47)) 48) 43 5 (some 48)) 43 0 (some 11)) (49) := pd_fr_u f10 (by omega)
  exact f11
set_option maxHeartbeats 4000000 in
set_option maxRecDepth 100000 in
theorem ec_X6_init {l : Launch} {D : va_G} {tc : Nat → ClassId} (hst : l.stackTraces = false) {I : pd_I} {J : pd_J} {F : pd_R} (f0 : pd_fr F (44)) :
    pd_M l D tc yX6_init (.code yX6_init cX6_init 2 none) rm_X6_init [.ref 43, .ref 11] I J F (44) (.ok none) (ic_X6_init I) (jc_X6_init J) (fc_X6_init F) (49) := by
  refine pd_open (own := "PathDecoder$Seeming") (ls0 := [some (.ref 43), some (.ref 11)]) (by decide) rfl (Nat.le_of_ble_eq_true rfl) rfl rfl hst (fun cx hl hD htc C hE htab hnm => ?_)
  have hin0 : (cx.2.2.2.2.2.2.2.2.1).name = "<init>" := hnm
  subst hl hD htc
  refine pd_aload_n C dX6_init_0 rfl rfl ?_
  refine pd_obji C wd_1_182 ⟨by decide, by decide⟩ (Nat.le_of_ble_eq_true rfl) dX6_init_1 ?_
  refine pd_aload_n C dX6_init_4 rfl rfl ?_
  refine pd_sipush (v := 12800) C dX6_init_5 (by decide) ?_
  refine pd_newAI (N := 12800) C wd_1_48 sh_44 (by decide) (by decide) (by decide) (pd_fr_hF f0) (pd_oLr (by omega) (pd_oLr (by omega) pd_oL0)) (pd_oSr (by omega) pd_oS0) ⟨by decide, by decide⟩ dX6_init_8 ?_
  refine pd_nE (n' := 45) rfl ?_
  have f1 : pd_fr (pd_zf F 44) (45) := pd_fr_z f0
  refine pfr_6_1 C hin0 rfl wd_1_184 (by omega) sh_43 dX6_init_10 ?_
  have f2 : pd_fr (pd_ur (pd_zf F 44) 43 1 (some 44)) (45) := pd_fr_u f1 (by omega)
  refine pd_aload_n C dX6_init_13 rfl rfl ?_
  refine pd_bipush (v := 64) C dX6_init_14 (by decide) ?_
  refine pd_newAI (N := 64) C wd_1_48 sh_45 (by decide) (by decide) (by decide) (pd_fr_hF f2) (pd_oLr (by omega) (pd_oLr (by omega) pd_oL0)) (pd_oSr (by omega) pd_oS0) ⟨by decide, by decide⟩ dX6_init_16 ?_
  refine pd_nE (n' := 46) rfl ?_
  have f3 : pd_fr (pd_zf (pd_ur (pd_zf F 44) 43 1 (some 44)) 45) (46) := pd_fr_z f2
  refine pr_6_2 C wd_1_185 (by omega) sh_43 dX6_init_18 ?_
  have f4 : pd_fr (pd_ur (pd_zf (pd_ur (pd_zf F 44) 43 1 (some 44)) 45) 43 2 (some 45)) (46) := pd_fr_u f3 (by omega)
  refine pd_aload_n C dX6_init_21 rfl rfl ?_
  refine pd_bipush (v := 64) C dX6_init_22 (by decide) ?_
  refine pd_newAI (N := 64) C wd_1_48 sh_46 (by decide) (by decide) (by decide) (pd_fr_hF f4) (pd_oLr (by omega) (pd_oLr (by omega) pd_oL0)) (pd_oSr (by omega) pd_oS0) ⟨by decide, by decide⟩ dX6_init_24 ?_
  refine pd_nE (n' := 47) rfl ?_
  have f5 : pd_fr (pd_zf (pd_ur (pd_zf (pd_ur (pd_zf F 44) 43 1 (some 44)) 45) 43 2 (some 45)) 46) (47) := pd_fr_z f4
  refine pr_6_3 C wd_1_186 (by omega) sh_43 dX6_init_26 ?_
  have f6 : pd_fr (pd_ur (pd_zf (pd_ur (pd_zf (pd_ur (pd_zf F 44) 43 1 (some 44)) 45) 43 2 (some 45)) 46) 43 3 (some 46)) (47) := pd_fr_u f5 (by omega)
  refine pd_aload_n C dX6_init_29 rfl rfl ?_
  refine pd_sipush (v := 200) C dX6_init_30 (by decide) ?_
  refine pd_newAI (N := 200) C wd_1_48 sh_47 (by decide) (by decide) (by decide) (pd_fr_hF f6) (pd_oLr (by omega) (pd_oLr (by omega) pd_oL0)) (pd_oSr (by omega) pd_oS0) ⟨by decide, by decide⟩ dX6_init_33 ?_
  refine pd_nE (n' := 48) rfl ?_
  have f7 : pd_fr (pd_zf (pd_ur (pd_zf (pd_ur (pd_zf (pd_ur (pd_zf F 44) 43 1 (some 44)) 45) 43 2 (some 45)) 46) 43 3 (some 46)) 47) (48) := pd_fr_z f6
  refine pfr_6_4 C hin0 rfl wd_1_187 (by omega) sh_43 dX6_init_35 ?_
  have f8 : pd_fr (pd_ur (pd_zf (pd_ur (pd_zf (pd_ur (pd_zf (pd_ur (pd_zf F 44) 43 1 (some 44)) 45) 43 2 (some 45)) 46) 43 3 (some 46)) 47) 43 4 (some 47)) (48) := pd_fr_u f7 (by omega)
  refine pd_aload_n C dX6_init_38 rfl rfl ?_
  refine pd_sipush (v := 200) C dX6_init_39 (by decide) ?_
  refine pd_newAI (N := 200) C wd_1_48 sh_48 (by decide) (by decide) (by decide) (pd_fr_hF f8) (pd_oLr (by omega) (pd_oLr (by omega) pd_oL0)) (pd_oSr (by omega) pd_oS0) ⟨by decide, by decide⟩ dX6_init_42 ?_
  refine pd_nE (n' := 49) rfl ?_
  have f9 : pd_fr (pd_zf (pd_ur (pd_zf (pd_ur (pd_zf (pd_ur (pd_zf (pd_ur (pd_zf F 44) 43 1 (some 44)) 45) 43 2 (some 45)) 46) 43 3 (some 46)) 47) 43 4 (some 47)) 48) (49) := pd_fr_z f8
  refine pfr_6_5 C hin0 rfl wd_1_188 (by omega) sh_43 dX6_init_44 ?_
  have f10 : pd_fr (pd_ur (pd_zf (pd_ur (pd_zf (pd_ur (pd_zf (pd_ur (pd_zf (pd_ur (pd_zf F 44) 43 1 (some 44)) 45) 43 2 (some 45)) 46) 43 3 (some 46)) 47) 43 4 (some 47)) 48) 43 5 (some 48)) (49) := pd_fr_u f9 (by omega)
  refine pd_aload_n C dX6_init_47 rfl rfl ?_
  refine pd_aload_n C dX6_init_48 rfl rfl ?_
  refine pfr_6_0 C hin0 rfl wd_1_183 (by omega) sh_43 dX6_init_49 ?_
  have f11 : pd_fr (pd_ur (pd_ur (pd_zf (pd_ur (pd_zf (pd_ur (pd_zf (pd_ur (pd_zf (pd_ur (pd_zf F 44) 43 1 (some 44)) 45) 43 2 (some 45)) 46) 43 3 (some 46)) 47) 43 4 (some 47)) 48) 43 5 (some 48)) 43 0 (some 11)) (49) := pd_fr_u f10 (by omega)
  exact pd_vret C hE rfl ⟨by decide, by decide⟩ dX6_init_52
def ic_X8_init (I : pd_I) : pd_I := pd_ui (pd_zi (pd_zi (pd_zi (pd_zi I 50) 51) 52) 53) 49 7 0
def jc_X8_init (J : pd_J) : pd_J := pd_zj (pd_zj (pd_zj (pd_zj J 50) 51) 52) 53
def fc_X8_init (F : pd_R) : pd_R := pd_ur (pd_ur (pd_ur (pd_ur (pd_zf (pd_ur (pd_zf (pd_ur (pd_zf (pd_ur (pd_zf F 50) 49 3 (some 50)) 51) 49 4 (some 51)) 52) 49 5 (some 52)) 53) 49 6 (some 53)) 49 0 (some 6)) 49 1 (some 11)) 49 2 (some 43)
abbrev rm_X8_init : Room := { frames := 1, cells := 4, slots := 800, locals := 21 }
theorem mi_X8_init : pd_mi yX8_init cX8_init 4 3 := ⟨wd_1_205, wd_1_9, wd_1_206, rfl, (by decide +kernel)⟩
theorem fr_X8_init {F : pd_R} (f0 : pd_fr F (50)) : pd_fr (fc_X8_init F) (54) := by
  have f1 : pd_fr (pd_zf F 50) (51) := pd_fr_z f0
  have f2 : pd_fr (pd_ur (pd_zf F 50) 49 3 (some 50)) (51) := pd_fr_u f1 (by omega)
  have f3 : pd_fr (pd_zf (pd_ur (pd_zf F 50) 49 3 (some 50)) 51) (52) := pd_fr_z f2
  have f4 : pd_fr (pd_ur (pd_zf (pd_ur (pd_zf F 50) 49 3 (some 50)) 51) 49 4 (some 51)) (52) := pd_fr_u f3 (by omega)
  have f5 : pd_fr (pd_zf (pd_ur (pd_zf (pd_ur (pd_zf F 50) 49 3 (some 50)) 51) 49 4 (some 51)) 52) (53) := pd_fr_z f4
  have f6 : pd_fr (pd_ur (pd_zf (pd_ur (pd_zf (pd_ur (pd_zf F 50) 49 3 (some 50)) 51) 49 4 (some 51)) 52) 49 5 (some 52)) (53) := pd_fr_u f5 (by omega)
  have f7 : pd_fr (pd_zf (pd_ur (pd_zf (pd_ur (pd_zf (pd_ur (pd_zf F 50) 49 3 (some 50)) 51) 49 4 (some 51)) 52) 49 5 (some 52)) 53) (54) := pd_fr_z f6
  have f8 : pd_fr (pd_ur (pd_zf (pd_ur (pd_zf (pd_ur (pd_zf (pd_ur (pd_zf F 50) 49 3 (some 50)) 51) 49 4 (some 51)) 52) 49 5 (some 52)) 53) 49 6 (some 53)) (54) := pd_fr_u f7 (by omega)
  have f9 : pd_fr (pd_ur (pd_ur (pd_zf (pd_ur (pd_zf (pd_ur (pd_zf (pd_ur (pd_zf F 50) 49 3 (some 50)) 51) 49 4 (some 51)) 52) 49 5 (some 52)) 53) 49 6 (some 53)) 49 0 (some 6)) (54) := pd_fr_u f8 (by omega)
  have f10 : pd_fr (pd_ur (pd_ur (pd_ur (pd_zf (pd_ur (pd_zf (pd_ur (pd_zf (pd_ur (pd_zf F 50) 49 3 (some 50)) 51) 49 4 (some 51)) 52) 49 5 (some 52)) 53) 49 6 (some 53)) 49 0 (some 6)) 49 1 (some 11)) (54) := pd_fr_u f9 (by omega)
  have f11 : pd_fr (pd_ur (pd_ur (pd_ur (pd_ur (pd_zf (pd_ur (pd_zf (pd_ur (pd_zf (pd_ur (pd_zf F 50) 49 3 (some 50)) 51) 49 4 (some 51)) 52) 49 5 (some 52)) 53) 49 6 (some 53)) 49 0 (some 6)) 49 1 (some 11)) 49 2 (some 43)) (54) := pd_fr_u f10 (by omega)
  exact f11
set_option maxHeartbeats 4000000 in
set_option maxRecDepth 100000 in
theorem ec_X8_init {l : Launch} {D : va_G} {tc : Nat → ClassId} (hst : l.stackTraces = false) {I : pd_I} {J : pd_J} {F : pd_R} (f0 : pd_fr F (50)) :
    pd_M l D tc yX8_init (.code yX8_init cX8_init 4 none) rm_X8_init [.ref 49, .ref 6, .ref 11, .ref 43] I J F (50) (.ok none) (ic_X8_init I) (jc_X8_init J) (fc_X8_init F) (54) := by
  refine pd_open (own := "PathDecoder$Turns") (ls0 := [some (.ref 49), some (.ref 6), some (.ref 11), some (.ref 43)]) (by decide) rfl (Nat.le_of_ble_eq_true rfl) rfl rfl hst (fun cx hl hD htc C hE htab hnm => ?_)
  have hin0 : (cx.2.2.2.2.2.2.2.2.1).name = "<init>" := hnm
  subst hl hD htc
  refine pd_aload_n C dX8_init_0 rfl rfl ?_
  refine pd_obji C wd_1_207 ⟨by decide, by decide⟩ (Nat.le_of_ble_eq_true rfl) dX8_init_1 ?_
  refine pd_aload_n C dX8_init_4 rfl rfl ?_
  refine pd_sipush (v := 200) C dX8_init_5 (by decide) ?_
  refine pd_newAI (N := 200) C wd_1_48 sh_50 (by decide) (by decide) (by decide) (pd_fr_hF f0) (pd_oLr (by omega) (pd_oLr (by omega) (pd_oLr (by omega) (pd_oLr (by omega) pd_oL0)))) (pd_oSr (by omega) pd_oS0) ⟨by decide, by decide⟩ dX8_init_8 ?_
  refine pd_nE (n' := 51) rfl ?_
  have f1 : pd_fr (pd_zf F 50) (51) := pd_fr_z f0
  refine pfr_8_3 C hin0 rfl wd_1_211 (by omega) sh_49 dX8_init_10 ?_
  have f2 : pd_fr (pd_ur (pd_zf F 50) 49 3 (some 50)) (51) := pd_fr_u f1 (by omega)
  refine pd_aload_n C dX8_init_13 rfl rfl ?_
  refine pd_sipush (v := 200) C dX8_init_14 (by decide) ?_
  refine pd_newAI (N := 200) C wd_1_48 sh_51 (by decide) (by decide) (by decide) (pd_fr_hF f2) (pd_oLr (by omega) (pd_oLr (by omega) (pd_oLr (by omega) (pd_oLr (by omega) pd_oL0)))) (pd_oSr (by omega) pd_oS0) ⟨by decide, by decide⟩ dX8_init_17 ?_
  refine pd_nE (n' := 52) rfl ?_
  have f3 : pd_fr (pd_zf (pd_ur (pd_zf F 50) 49 3 (some 50)) 51) (52) := pd_fr_z f2
  refine pfr_8_4 C hin0 rfl wd_1_212 (by omega) sh_49 dX8_init_19 ?_
  have f4 : pd_fr (pd_ur (pd_zf (pd_ur (pd_zf F 50) 49 3 (some 50)) 51) 49 4 (some 51)) (52) := pd_fr_u f3 (by omega)
  refine pd_aload_n C dX8_init_22 rfl rfl ?_
  refine pd_sipush (v := 200) C dX8_init_23 (by decide) ?_
  refine pd_newAI (N := 200) C wd_1_48 sh_52 (by decide) (by decide) (by decide) (pd_fr_hF f4) (pd_oLr (by omega) (pd_oLr (by omega) (pd_oLr (by omega) (pd_oLr (by omega) pd_oL0)))) (pd_oSr (by omega) pd_oS0) ⟨by decide, by decide⟩ dX8_init_26 ?_
  refine pd_nE (n' := 53) rfl ?_
  have f5 : pd_fr (pd_zf (pd_ur (pd_zf (pd_ur (pd_zf F 50) 49 3 (some 50)) 51) 49 4 (some 51)) 52) (53) := pd_fr_z f4
  refine pfr_8_5 C hin0 rfl wd_1_213 (by omega) sh_49 dX8_init_28 ?_
  have f6 : pd_fr (pd_ur (pd_zf (pd_ur (pd_zf (pd_ur (pd_zf F 50) 49 3 (some 50)) 51) 49 4 (some 51)) 52) 49 5 (some 52)) (53) := pd_fr_u f5 (by omega)
  refine pd_aload_n C dX8_init_31 rfl rfl ?_
  refine pd_sipush (v := 200) C dX8_init_32 (by decide) ?_
  refine pd_newAI (N := 200) C wd_1_48 sh_53 (by decide) (by decide) (by decide) (pd_fr_hF f6) (pd_oLr (by omega) (pd_oLr (by omega) (pd_oLr (by omega) (pd_oLr (by omega) pd_oL0)))) (pd_oSr (by omega) pd_oS0) ⟨by decide, by decide⟩ dX8_init_35 ?_
  refine pd_nE (n' := 54) rfl ?_
  have f7 : pd_fr (pd_zf (pd_ur (pd_zf (pd_ur (pd_zf (pd_ur (pd_zf F 50) 49 3 (some 50)) 51) 49 4 (some 51)) 52) 49 5 (some 52)) 53) (54) := pd_fr_z f6
  refine pfr_8_6 C hin0 rfl wd_1_214 (by omega) sh_49 dX8_init_37 ?_
  have f8 : pd_fr (pd_ur (pd_zf (pd_ur (pd_zf (pd_ur (pd_zf (pd_ur (pd_zf F 50) 49 3 (some 50)) 51) 49 4 (some 51)) 52) 49 5 (some 52)) 53) 49 6 (some 53)) (54) := pd_fr_u f7 (by omega)
  refine pd_aload_n C dX8_init_40 rfl rfl ?_
  refine pd_iconst (v := 0) C dX8_init_41 (by decide) ?_
  refine pi_8_7 C wd_1_215 (pd_bo_nar (by decide)) (pd_bo_fit (by decide)) (by omega) sh_49 dX8_init_42 ?_
  refine pd_aload_n C dX8_init_45 rfl rfl ?_
  refine pd_aload_n C dX8_init_46 rfl rfl ?_
  refine pfr_8_0 C hin0 rfl wd_1_208 (by omega) sh_49 dX8_init_47 ?_
  have f9 : pd_fr (pd_ur (pd_ur (pd_zf (pd_ur (pd_zf (pd_ur (pd_zf (pd_ur (pd_zf F 50) 49 3 (some 50)) 51) 49 4 (some 51)) 52) 49 5 (some 52)) 53) 49 6 (some 53)) 49 0 (some 6)) (54) := pd_fr_u f8 (by omega)
  refine pd_aload_n C dX8_init_50 rfl rfl ?_
  refine pd_aload_n C dX8_init_51 rfl rfl ?_
  refine pfr_8_1 C hin0 rfl wd_1_209 (by omega) sh_49 dX8_init_52 ?_
  have f10 : pd_fr (pd_ur (pd_ur (pd_ur (pd_zf (pd_ur (pd_zf (pd_ur (pd_zf (pd_ur (pd_zf F 50) 49 3 (some 50)) 51) 49 4 (some 51)) 52) 49 5 (some 52)) 53) 49 6 (some 53)) 49 0 (some 6)) 49 1 (some 11)) (54) := pd_fr_u f9 (by omega)
  refine pd_aload_n C dX8_init_55 rfl rfl ?_
  refine pd_aload_n C dX8_init_56 rfl rfl ?_
  refine pfr_8_2 C hin0 rfl wd_1_210 (by omega) sh_49 dX8_init_57 ?_
  have f11 : pd_fr (pd_ur (pd_ur (pd_ur (pd_ur (pd_zf (pd_ur (pd_zf (pd_ur (pd_zf (pd_ur (pd_zf F 50) 49 3 (some 50)) 51) 49 4 (some 51)) 52) 49 5 (some 52)) 53) 49 6 (some 53)) 49 0 (some 6)) 49 1 (some 11)) 49 2 (some 43)) (54) := pd_fr_u f10 (by omega)
  exact pd_vret C hE rfl ⟨by decide, by decide⟩ dX8_init_60
def ic_X7_init (I : pd_I) : pd_I := pd_zi (pd_zi (pd_zi (pd_ui (pd_zi I 55) 54 2 0) 56) 57) 58
def jc_X7_init (J : pd_J) : pd_J := pd_zj (pd_zj (pd_zj (pd_zj J 55) 56) 57) 58
def fc_X7_init (F : pd_R) : pd_R := pd_ur (pd_ur (pd_zf (pd_ur (pd_zf (pd_ur (pd_zf (pd_ur (pd_zf F 55) 54 1 (some 55)) 56) 54 3 (some 56)) 57) 54 4 (some 57)) 58) 54 5 (some 58)) 54 0 (some 11)
abbrev rm_X7_init : Room := { frames := 1, cells := 4, slots := 2176, locals := 21 }
theorem mi_X7_init : pd_mi yX7_init cX7_init 2 1 := ⟨wd_1_236, wd_1_10, wd_1_237, rfl, (by decide +kernel)⟩
theorem fr_X7_init {F : pd_R} (f0 : pd_fr F (55)) : pd_fr (fc_X7_init F) (59) := by
  have f1 : pd_fr (pd_zf F 55) (56) := pd_fr_z f0
  have f2 : pd_fr (pd_ur (pd_zf F 55) 54 1 (some 55)) (56) := pd_fr_u f1 (by omega)
  have f3 : pd_fr (pd_zf (pd_ur (pd_zf F 55) 54 1 (some 55)) 56) (57) := pd_fr_z f2
  have f4 : pd_fr (pd_ur (pd_zf (pd_ur (pd_zf F 55) 54 1 (some 55)) 56) 54 3 (some 56)) (57) := pd_fr_u f3 (by omega)
  have f5 : pd_fr (pd_zf (pd_ur (pd_zf (pd_ur (pd_zf F 55) 54 1 (some 55)) 56) 54 3 (some 56)) 57) (58) := pd_fr_z f4
  have f6 : pd_fr (pd_ur (pd_zf (pd_ur (pd_zf (pd_ur (pd_zf F 55) 54 1 (some 55)) 56) 54 3 (some 56)) 57) 54 4 (some 57)) (58) := pd_fr_u f5 (by omega)
  have f7 : pd_fr (pd_zf (pd_ur (pd_zf (pd_ur (pd_zf (pd_ur (pd_zf F 55) 54 1 (some 55)) 56) 54 3 (some 56)) 57) 54 4 (some 57)) 58) (59) := pd_fr_z f6
  have f8 : pd_fr (pd_ur (pd_zf (pd_ur (pd_zf (pd_ur (pd_zf (pd_ur (pd_zf F 55) 54 1 (some 55)) 56) 54 3 (some 56)) 57) 54 4 (some 57)) 58) 54 5 (some 58)) (59) := pd_fr_u f7 (by omega)
  have f9 : pd_fr (pd_ur (pd_ur (pd_zf (pd_ur (pd_zf (pd_ur (pd_zf (pd_ur (pd_zf F 55) 54 1 (some 55)) 56) 54 3 (some 56)) 57) 54 4 (some 57)) 58) 54 5 (some 58)) 54 0 (some 11)) (59) := pd_fr_u f8 (by omega)
  exact f9
set_option maxHeartbeats 4000000 in
set_option maxRecDepth 100000 in
theorem ec_X7_init {l : Launch} {D : va_G} {tc : Nat → ClassId} (hst : l.stackTraces = false) {I : pd_I} {J : pd_J} {F : pd_R} (f0 : pd_fr F (55)) :
    pd_M l D tc yX7_init (.code yX7_init cX7_init 2 none) rm_X7_init [.ref 54, .ref 11] I J F (55) (.ok none) (ic_X7_init I) (jc_X7_init J) (fc_X7_init F) (59) := by
  refine pd_open (own := "PathDecoder$Spectrum") (ls0 := [some (.ref 54), some (.ref 11)]) (by decide) rfl (Nat.le_of_ble_eq_true rfl) rfl rfl hst (fun cx hl hD htc C hE htab hnm => ?_)
  have hin0 : (cx.2.2.2.2.2.2.2.2.1).name = "<init>" := hnm
  subst hl hD htc
  refine pd_aload_n C dX7_init_0 rfl rfl ?_
  refine pd_obji C wd_1_238 ⟨by decide, by decide⟩ (Nat.le_of_ble_eq_true rfl) dX7_init_1 ?_
  refine pd_aload_n C dX7_init_4 rfl rfl ?_
  refine pd_bipush (v := 64) C dX7_init_5 (by decide) ?_
  refine pd_newAI (N := 64) C wd_1_48 sh_55 (by decide) (by decide) (by decide) (pd_fr_hF f0) (pd_oLr (by omega) (pd_oLr (by omega) pd_oL0)) (pd_oSr (by omega) pd_oS0) ⟨by decide, by decide⟩ dX7_init_7 ?_
  refine pd_nE (n' := 56) rfl ?_
  have f1 : pd_fr (pd_zf F 55) (56) := pd_fr_z f0
  refine pfr_7_1 C hin0 rfl wd_2_0 (by omega) sh_54 dX7_init_9 ?_
  have f2 : pd_fr (pd_ur (pd_zf F 55) 54 1 (some 55)) (56) := pd_fr_u f1 (by omega)
  refine pd_aload_n C dX7_init_12 rfl rfl ?_
  refine pd_iconst (v := 0) C dX7_init_13 (by decide) ?_
  refine pi_7_2 C wd_2_1 rfl rfl (by omega) sh_54 dX7_init_14 ?_
  refine pd_aload_n C dX7_init_17 rfl rfl ?_
  refine pd_bipush (v := 64) C dX7_init_18 (by decide) ?_
  refine pd_newAI (N := 64) C wd_1_48 sh_56 (by decide) (by decide) (by decide) (pd_fr_hF f2) (pd_oLr (by omega) (pd_oLr (by omega) pd_oL0)) (pd_oSr (by omega) pd_oS0) ⟨by decide, by decide⟩ dX7_init_20 ?_
  refine pd_nE (n' := 57) rfl ?_
  have f3 : pd_fr (pd_zf (pd_ur (pd_zf F 55) 54 1 (some 55)) 56) (57) := pd_fr_z f2
  refine pfr_7_3 C hin0 rfl wd_2_2 (by omega) sh_54 dX7_init_22 ?_
  have f4 : pd_fr (pd_ur (pd_zf (pd_ur (pd_zf F 55) 54 1 (some 55)) 56) 54 3 (some 56)) (57) := pd_fr_u f3 (by omega)
  refine pd_aload_n C dX7_init_25 rfl rfl ?_
  refine pd_bipush (v := 64) C dX7_init_26 (by decide) ?_
  refine pd_newAI (N := 64) C wd_1_48 sh_57 (by decide) (by decide) (by decide) (pd_fr_hF f4) (pd_oLr (by omega) (pd_oLr (by omega) pd_oL0)) (pd_oSr (by omega) pd_oS0) ⟨by decide, by decide⟩ dX7_init_28 ?_
  refine pd_nE (n' := 58) rfl ?_
  have f5 : pd_fr (pd_zf (pd_ur (pd_zf (pd_ur (pd_zf F 55) 54 1 (some 55)) 56) 54 3 (some 56)) 57) (58) := pd_fr_z f4
  refine pfr_7_4 C hin0 rfl wd_2_3 (by omega) sh_54 dX7_init_30 ?_
  have f6 : pd_fr (pd_ur (pd_zf (pd_ur (pd_zf (pd_ur (pd_zf F 55) 54 1 (some 55)) 56) 54 3 (some 56)) 57) 54 4 (some 57)) (58) := pd_fr_u f5 (by omega)
  refine pd_aload_n C dX7_init_33 rfl rfl ?_
  refine pd_sipush (v := 1984) C dX7_init_34 (by decide) ?_
  refine pd_newAJ (N := 1984) C wd_2_18 sh_58 (by decide) (by decide) (by decide) (pd_fr_hF f6) (pd_oLr (by omega) (pd_oLr (by omega) pd_oL0)) (pd_oSr (by omega) pd_oS0) ⟨by decide, by decide⟩ dX7_init_37 ?_
  refine pd_nE (n' := 59) rfl ?_
  have f7 : pd_fr (pd_zf (pd_ur (pd_zf (pd_ur (pd_zf (pd_ur (pd_zf F 55) 54 1 (some 55)) 56) 54 3 (some 56)) 57) 54 4 (some 57)) 58) (59) := pd_fr_z f6
  refine pfr_7_5 C hin0 rfl wd_2_4 (by omega) sh_54 dX7_init_39 ?_
  have f8 : pd_fr (pd_ur (pd_zf (pd_ur (pd_zf (pd_ur (pd_zf (pd_ur (pd_zf F 55) 54 1 (some 55)) 56) 54 3 (some 56)) 57) 54 4 (some 57)) 58) 54 5 (some 58)) (59) := pd_fr_u f7 (by omega)
  refine pd_aload_n C dX7_init_42 rfl rfl ?_
  refine pd_aload_n C dX7_init_43 rfl rfl ?_
  refine pfr_7_0 C hin0 rfl wd_1_239 (by omega) sh_54 dX7_init_44 ?_
  have f9 : pd_fr (pd_ur (pd_ur (pd_zf (pd_ur (pd_zf (pd_ur (pd_zf (pd_ur (pd_zf F 55) 54 1 (some 55)) 56) 54 3 (some 56)) 57) 54 4 (some 57)) 58) 54 5 (some 58)) 54 0 (some 11)) (59) := pd_fr_u f8 (by omega)
  exact pd_vret C hE rfl ⟨by decide, by decide⟩ dX7_init_47
