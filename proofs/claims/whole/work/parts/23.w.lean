def fn_L_row (I : pd_I) (J : pd_J) (Z : pd_R) (n : Nat) (p1 : Int32) (p2 : Int32) : Option (Int32 × pd_I × pd_J) := pd_bc2 (fn_X11_row I Z n p1 p2) (fun ze => if ze = "java/lang/IndexOutOfBoundsException" then some (1, I, J) else (if ze = "java/lang/IllegalArgumentException" then some (2, I, J) else (none))) fun zr1 zI1 => pd_bd (if zr1 = 0 then some 0 else (some 1)) fun (zy1 : Int64) => pd_gd (pd_in 0 1) (pd_let (pd_uj J 132 (0 : Int32).toNatClampNeg zy1) fun zJ1 => some (0, zI1, zJ1))
set_option maxRecDepth 100000 in
set_option maxHeartbeats 4000000 in
theorem em_L_row {l : Launch} {D : va_G} {tc : Nat → ClassId} (hst : l.stackTraces = false) {I : pd_I} {J : pd_J} {Z : pd_R} {n : Nat} {p1 : Int32} {p2 : Int32} (hn : 133 ≤ n)  {out : Int32 × pd_I × pd_J} (hF : fn_L_row I J Z n p1 p2 = some out) :
    pd_M l D tc yL_row (.codeWith yL_row cL_row 5 (Option.some Jvm.ClassFile.FieldType.int) [(0, 17, 20, 13), (0, 17, 24, 15)]) rm_L_row [.ref 0, .int p1, .int p2, .ref 132] I J (pd_RF Z) n (.ok (some (.int out.1))) out.2.1 out.2.2 (pd_RF Z) n := by
  refine pd_openH (own := "PathDecoderLaw") (ls0 := [some (.ref 0), some (.int p1), some (.int p2), some (.ref 132), none]) (by decide) rfl (Nat.le_of_ble_eq_true rfl) rfl rfl hst (fun cx hl hD htc C hE htab => ?_)
  subst hl hD htc
  unfold fn_L_row at hF
  refine pd_aload_n C dL_row_0 rfl rfl ?_
  refine pd_iconst (v := 0) C dL_row_1 (by decide) ?_
  refine pd_aload_n C dL_row_2 rfl rfl ?_
  refine pd_iload_n C dL_row_3 rfl rfl ?_
  refine pd_iload_n C dL_row_4 rfl rfl ?_
  rcases pd_bc2_some hF with ⟨e9, zh1, hF⟩ | ⟨zr1, zI1, zh1, hF⟩
  · have hF := hF
    by_cases he0 : e9 = "java/lang/IndexOutOfBoundsException"
    · subst he0
      have hF := pd_t rfl hF
      refine pd_callVX C [.int p1, .int p2] [.int 0, .ref 132] (em_X11_row (pd_C_st C) hn  zh1) mw_X11_row wd_2_84 rfl (by decide) (pd_lt (by decide) hn) sh_0 ⟨by decide, by decide, by decide, by decide⟩ rfl (Nat.le_of_ble_eq_true rfl) dL_row_5 ?_
      refine pd_catch0 (hh := [(0, 17, 20, 13), (0, 17, 24, 15)]) (pre := []) (x := (0, 17, 20, 13)) (suf := [(0, 17, 24, 15)]) (i := 4) (ls' := [some (.ref 0), some (.int p1), some (.int p2), some (.ref 132), none]) C htab rfl (fun z hz => absurd hz List.not_mem_nil) (by decide) (by decide) wd_2_82 (by decide) (Or.inl ⟨dL_row_20, rfl⟩) (Nat.le_of_ble_eq_true rfl) rfl rfl ?_
      refine pd_iconst (v := 1) C dL_row_22 (by decide) ?_
      cases hF
      exact pd_iret C hE rfl rfl rfl ⟨by decide, by decide⟩ dL_row_23
    have hF := pd_f he0 hF
    by_cases he1 : e9 = "java/lang/IllegalArgumentException"
    · subst he1
      have hF := pd_t rfl hF
      refine pd_callVX C [.int p1, .int p2] [.int 0, .ref 132] (em_X11_row (pd_C_st C) hn  zh1) mw_X11_row wd_2_84 rfl (by decide) (pd_lt (by decide) hn) sh_0 ⟨by decide, by decide, by decide, by decide⟩ rfl (Nat.le_of_ble_eq_true rfl) dL_row_5 ?_
      refine pd_catch0 (hh := [(0, 17, 20, 13), (0, 17, 24, 15)]) (pre := [(0, 17, 20, 13)]) (x := (0, 17, 24, 15)) (suf := []) (i := 4) (ls' := [some (.ref 0), some (.int p1), some (.int p2), some (.ref 132), none]) C htab rfl (List.forall_mem_cons.mpr ⟨⟨by decide, "java/lang/IndexOutOfBoundsException", wd_2_82, by decide⟩, (fun _ h => absurd h List.not_mem_nil)⟩) (by decide) (by decide) wd_2_83 (by decide) (Or.inl ⟨dL_row_24, rfl⟩) (Nat.le_of_ble_eq_true rfl) rfl rfl ?_
      refine pd_iconst (v := 2) C dL_row_26 (by decide) ?_
      cases hF
      exact pd_iret C hE rfl rfl rfl ⟨by decide, by decide⟩ dL_row_27
    have hF := pd_f he1 hF
    cases hF
  refine pd_callV C [.int p1, .int p2] [.int 0, .ref 132] (em_X11_row (pd_C_st C) hn  zh1) mw_X11_row wd_2_84 rfl (by decide) (pd_lt (by decide) hn) sh_0 ⟨by decide, by decide, by decide, by decide⟩ rfl (Nat.le_of_ble_eq_true rfl) pd_oldL_same (fun _ _ => pd_old_same _) dL_row_5 (stk' := [.int zr1, .int 0, .ref 132]) rfl ?_
  obtain ⟨zy1, hS, hF⟩ := pd_bd_some hF
  have hJ16 : pd_V cx 2 12 16 [none, none, none, none, none] [.long zy1, .int 0, .ref 132] zI1 J (pd_RF Z) n := by
    obtain ⟨zg1, hF⟩ := pd_gd_some hF
    refine pd_last C (pd_lt (by decide) hn) sh_132 zg1 dL_row_16 ?_
    refine pd_memJ (fun zJ1 hzJ1 => ?_)
    have hF := pd_let_at hF hzJ1
    refine pd_goto (tgt := 28) C dL_row_17 (by decide) ?_
    refine pd_iconst (v := 0) C dL_row_28 (by decide) ?_
    cases hF
    exact pd_iret C hE rfl rfl rfl ⟨by decide, by decide⟩ dL_row_29
  replace hF := hS
  clear hS
  refine pd_if_eq (tgt := 15) C dL_row_8 (by decide) (fun zc1 => ?_) (fun zc1 => ?_)
  · have hF := pd_t zc1 hF
    refine pd_lconst (v := 0) C dL_row_15 (by decide) ?_
    refine pd_wk (ls' := [none, none, none, none, none]) True.intro ?_
    have hF := hF.symm
    cases hF
    exact hJ16
  · have hF := pd_f zc1 hF
    refine pd_lconst (v := 1) C dL_row_11 (by decide) ?_
    refine pd_goto (tgt := 16) C dL_row_12 (by decide) ?_
    refine pd_wk (ls' := [none, none, none, none, none]) True.intro ?_
    have hF := hF.symm
    cases hF
    exact hJ16

def fn_L_put (I : pd_I) (J : pd_J) (Z : pd_R) (n : Nat) (p1 : Int32) (p2 : Int32) (p3 : Int32) : Option (Int32 × pd_I × pd_J) := pd_bc2 (fn_X11_put I Z n p1 p2 p3) (fun ze => if ze = "java/lang/IllegalArgumentException" then some (1, I, J) else (if ze = "java/lang/IndexOutOfBoundsException" then some (2, I, J) else (if ze = "java/util/NoSuchElementException" then some (3, I, J) else (none)))) fun zr1 zI1 => pd_gd (pd_in 0 1) (pd_let (pd_uj J 132 (0 : Int32).toNatClampNeg zr1.toInt64) fun zJ1 => some (0, zI1, zJ1))
set_option maxRecDepth 100000 in
set_option maxHeartbeats 4000000 in
theorem em_L_put {l : Launch} {D : va_G} {tc : Nat → ClassId} (hst : l.stackTraces = false) {I : pd_I} {J : pd_J} {Z : pd_R} {n : Nat} {p1 : Int32} {p2 : Int32} {p3 : Int32} (hn : 133 ≤ n)  {out : Int32 × pd_I × pd_J} (hF : fn_L_put I J Z n p1 p2 p3 = some out) :
    pd_M l D tc yL_put (.codeWith yL_put cL_put 6 (Option.some Jvm.ClassFile.FieldType.int) [(0, 12, 15, 15), (0, 12, 19, 13), (0, 12, 23, 21)]) rm_L_put [.ref 0, .int p1, .int p2, .int p3, .ref 132] I J (pd_RF Z) n (.ok (some (.int out.1))) out.2.1 out.2.2 (pd_RF Z) n := by
  refine pd_openH (own := "PathDecoderLaw") (ls0 := [some (.ref 0), some (.int p1), some (.int p2), some (.int p3), some (.ref 132), none]) (by decide) rfl (Nat.le_of_ble_eq_true rfl) rfl rfl hst (fun cx hl hD htc C hE htab => ?_)
  subst hl hD htc
  unfold fn_L_put at hF
  refine pd_aload C dL_put_0 rfl ?_
  refine pd_iconst (v := 0) C dL_put_2 (by decide) ?_
  refine pd_aload_n C dL_put_3 rfl rfl ?_
  refine pd_iload_n C dL_put_4 rfl rfl ?_
  refine pd_iload_n C dL_put_5 rfl rfl ?_
  refine pd_iload_n C dL_put_6 rfl rfl ?_
  rcases pd_bc2_some hF with ⟨e9, zh1, hF⟩ | ⟨zr1, zI1, zh1, hF⟩
  · have hF := hF
    by_cases he0 : e9 = "java/lang/IllegalArgumentException"
    · subst he0
      have hF := pd_t rfl hF
      refine pd_callVX C [.int p1, .int p2, .int p3] [.int 0, .ref 132] (em_X11_put (pd_C_st C) hn  zh1) mw_X11_put wd_2_196 rfl (by decide) (pd_lt (by decide) hn) sh_0 ⟨by decide, by decide, by decide, by decide⟩ rfl (Nat.le_of_ble_eq_true rfl) dL_put_7 ?_
      refine pd_catch0 (hh := [(0, 12, 15, 15), (0, 12, 19, 13), (0, 12, 23, 21)]) (pre := []) (x := (0, 12, 15, 15)) (suf := [(0, 12, 19, 13), (0, 12, 23, 21)]) (i := 5) (ls' := [some (.ref 0), some (.int p1), some (.int p2), some (.int p3), some (.ref 132), none]) C htab rfl (fun z hz => absurd hz List.not_mem_nil) (by decide) (by decide) wd_2_83 (by decide) (Or.inl ⟨dL_put_15, rfl⟩) (Nat.le_of_ble_eq_true rfl) rfl rfl ?_
      refine pd_iconst (v := 1) C dL_put_17 (by decide) ?_
      cases hF
      exact pd_iret C hE rfl rfl rfl ⟨by decide, by decide⟩ dL_put_18
    have hF := pd_f he0 hF
    by_cases he1 : e9 = "java/lang/IndexOutOfBoundsException"
    · subst he1
      have hF := pd_t rfl hF
      refine pd_callVX C [.int p1, .int p2, .int p3] [.int 0, .ref 132] (em_X11_put (pd_C_st C) hn  zh1) mw_X11_put wd_2_196 rfl (by decide) (pd_lt (by decide) hn) sh_0 ⟨by decide, by decide, by decide, by decide⟩ rfl (Nat.le_of_ble_eq_true rfl) dL_put_7 ?_
      refine pd_catch0 (hh := [(0, 12, 15, 15), (0, 12, 19, 13), (0, 12, 23, 21)]) (pre := [(0, 12, 15, 15)]) (x := (0, 12, 19, 13)) (suf := [(0, 12, 23, 21)]) (i := 5) (ls' := [some (.ref 0), some (.int p1), some (.int p2), some (.int p3), some (.ref 132), none]) C htab rfl (List.forall_mem_cons.mpr ⟨⟨by decide, "java/lang/IllegalArgumentException", wd_2_83, by decide⟩, (fun _ h => absurd h List.not_mem_nil)⟩) (by decide) (by decide) wd_2_82 (by decide) (Or.inl ⟨dL_put_19, rfl⟩) (Nat.le_of_ble_eq_true rfl) rfl rfl ?_
      refine pd_iconst (v := 2) C dL_put_21 (by decide) ?_
      cases hF
      exact pd_iret C hE rfl rfl rfl ⟨by decide, by decide⟩ dL_put_22
    have hF := pd_f he1 hF
    by_cases he2 : e9 = "java/util/NoSuchElementException"
    · subst he2
      have hF := pd_t rfl hF
      refine pd_callVX C [.int p1, .int p2, .int p3] [.int 0, .ref 132] (em_X11_put (pd_C_st C) hn  zh1) mw_X11_put wd_2_196 rfl (by decide) (pd_lt (by decide) hn) sh_0 ⟨by decide, by decide, by decide, by decide⟩ rfl (Nat.le_of_ble_eq_true rfl) dL_put_7 ?_
      refine pd_catch0 (hh := [(0, 12, 15, 15), (0, 12, 19, 13), (0, 12, 23, 21)]) (pre := [(0, 12, 15, 15), (0, 12, 19, 13)]) (x := (0, 12, 23, 21)) (suf := []) (i := 5) (ls' := [some (.ref 0), some (.int p1), some (.int p2), some (.int p3), some (.ref 132), none]) C htab rfl (List.forall_mem_cons.mpr ⟨⟨by decide, "java/lang/IllegalArgumentException", wd_2_83, by decide⟩, (List.forall_mem_cons.mpr ⟨⟨by decide, "java/lang/IndexOutOfBoundsException", wd_2_82, by decide⟩, (fun _ h => absurd h List.not_mem_nil)⟩)⟩) (by decide) (by decide) wd_2_195 (by decide) (Or.inl ⟨dL_put_23, rfl⟩) (Nat.le_of_ble_eq_true rfl) rfl rfl ?_
      refine pd_iconst (v := 3) C dL_put_25 (by decide) ?_
      cases hF
      exact pd_iret C hE rfl rfl rfl ⟨by decide, by decide⟩ dL_put_26
    have hF := pd_f he2 hF
    cases hF
  refine pd_callV C [.int p1, .int p2, .int p3] [.int 0, .ref 132] (em_X11_put (pd_C_st C) hn  zh1) mw_X11_put wd_2_196 rfl (by decide) (pd_lt (by decide) hn) sh_0 ⟨by decide, by decide, by decide, by decide⟩ rfl (Nat.le_of_ble_eq_true rfl) pd_oldL_same (fun _ _ => pd_old_same _) dL_put_7 (stk' := [.int zr1, .int 0, .ref 132]) rfl ?_
  refine pd_i2l C dL_put_10 ?_
  obtain ⟨zg1, hF⟩ := pd_gd_some hF
  refine pd_last C (pd_lt (by decide) hn) sh_132 zg1 dL_put_11 ?_
  refine pd_memJ (fun zJ1 hzJ1 => ?_)
  have hF := pd_let_at hF hzJ1
  refine pd_goto (tgt := 27) C dL_put_12 (by decide) ?_
  refine pd_iconst (v := 0) C dL_put_27 (by decide) ?_
  cases hF
  exact pd_iret C hE rfl rfl rfl ⟨by decide, by decide⟩ dL_put_28

def fn_L_five (I : pd_I) (J : pd_J) (Z : pd_R) (n : Nat) (p1 : Int32) (p2 : Int32) (p3 : Int32) (p4 : Int32) : Option (Int32 × pd_I × pd_J) := pd_bc2 (fn_X11_five I Z n p1 p2 p3 p4) (fun ze => if ze = "java/lang/IndexOutOfBoundsException" then some (1, I, J) else (if ze = "java/util/NoSuchElementException" then some (2, I, J) else (none))) fun zr1 zI1 => pd_gd (pd_in 0 1) (pd_let (pd_uj J 132 (0 : Int32).toNatClampNeg zr1.toInt64) fun zJ1 => some (0, zI1, zJ1))
set_option maxRecDepth 100000 in
set_option maxHeartbeats 4000000 in
theorem em_L_five {l : Launch} {D : va_G} {tc : Nat → ClassId} (hst : l.stackTraces = false) {I : pd_I} {J : pd_J} {Z : pd_R} {n : Nat} {p1 : Int32} {p2 : Int32} {p3 : Int32} {p4 : Int32} (hn : 133 ≤ n)  {out : Int32 × pd_I × pd_J} (hF : fn_L_five I J Z n p1 p2 p3 p4 = some out) :
    pd_M l D tc yL_five (.codeWith yL_five cL_five 7 (Option.some Jvm.ClassFile.FieldType.int) [(0, 14, 17, 13), (0, 14, 21, 21)]) rm_L_five [.ref 0, .int p1, .int p2, .int p3, .int p4, .ref 132] I J (pd_RF Z) n (.ok (some (.int out.1))) out.2.1 out.2.2 (pd_RF Z) n := by
  refine pd_openH (own := "PathDecoderLaw") (ls0 := [some (.ref 0), some (.int p1), some (.int p2), some (.int p3), some (.int p4), some (.ref 132), none]) (by decide) rfl (Nat.le_of_ble_eq_true rfl) rfl rfl hst (fun cx hl hD htc C hE htab => ?_)
  subst hl hD htc
  unfold fn_L_five at hF
  refine pd_aload C dL_five_0 rfl ?_
  refine pd_iconst (v := 0) C dL_five_2 (by decide) ?_
  refine pd_aload_n C dL_five_3 rfl rfl ?_
  refine pd_iload_n C dL_five_4 rfl rfl ?_
  refine pd_iload_n C dL_five_5 rfl rfl ?_
  refine pd_iload_n C dL_five_6 rfl rfl ?_
  refine pd_iload C dL_five_7 rfl ?_
  rcases pd_bc2_some hF with ⟨e9, zh1, hF⟩ | ⟨zr1, zI1, zh1, hF⟩
  · have hF := hF
    by_cases he0 : e9 = "java/lang/IndexOutOfBoundsException"
    · subst he0
      have hF := pd_t rfl hF
      refine pd_callVX C [.int p1, .int p2, .int p3, .int p4] [.int 0, .ref 132] (em_X11_five (pd_C_st C) hn  zh1) mw_X11_five wd_3_2 rfl (by decide) (pd_lt (by decide) hn) sh_0 ⟨by decide, by decide, by decide, by decide⟩ rfl (Nat.le_of_ble_eq_true rfl) dL_five_9 ?_
      refine pd_catch0 (hh := [(0, 14, 17, 13), (0, 14, 21, 21)]) (pre := []) (x := (0, 14, 17, 13)) (suf := [(0, 14, 21, 21)]) (i := 6) (ls' := [some (.ref 0), some (.int p1), some (.int p2), some (.int p3), some (.int p4), some (.ref 132), none]) C htab rfl (fun z hz => absurd hz List.not_mem_nil) (by decide) (by decide) wd_2_82 (by decide) (Or.inl ⟨dL_five_17, rfl⟩) (Nat.le_of_ble_eq_true rfl) rfl rfl ?_
      refine pd_iconst (v := 1) C dL_five_19 (by decide) ?_
      cases hF
      exact pd_iret C hE rfl rfl rfl ⟨by decide, by decide⟩ dL_five_20
    have hF := pd_f he0 hF
    by_cases he1 : e9 = "java/util/NoSuchElementException"
    · subst he1
      have hF := pd_t rfl hF
      refine pd_callVX C [.int p1, .int p2, .int p3, .int p4] [.int 0, .ref 132] (em_X11_five (pd_C_st C) hn  zh1) mw_X11_five wd_3_2 rfl (by decide) (pd_lt (by decide) hn) sh_0 ⟨by decide, by decide, by decide, by decide⟩ rfl (Nat.le_of_ble_eq_true rfl) dL_five_9 ?_
      refine pd_catch0 (hh := [(0, 14, 17, 13), (0, 14, 21, 21)]) (pre := [(0, 14, 17, 13)]) (x := (0, 14, 21, 21)) (suf := []) (i := 6) (ls' := [some (.ref 0), some (.int p1), some (.int p2), some (.int p3), some (.int p4), some (.ref 132), none]) C htab rfl (List.forall_mem_cons.mpr ⟨⟨by decide, "java/lang/IndexOutOfBoundsException", wd_2_82, by decide⟩, (fun _ h => absurd h List.not_mem_nil)⟩) (by decide) (by decide) wd_2_195 (by decide) (Or.inl ⟨dL_five_21, rfl⟩) (Nat.le_of_ble_eq_true rfl) rfl rfl ?_
      refine pd_iconst (v := 2) C dL_five_23 (by decide) ?_
      cases hF
      exact pd_iret C hE rfl rfl rfl ⟨by decide, by decide⟩ dL_five_24
    have hF := pd_f he1 hF
    cases hF
  refine pd_callV C [.int p1, .int p2, .int p3, .int p4] [.int 0, .ref 132] (em_X11_five (pd_C_st C) hn  zh1) mw_X11_five wd_3_2 rfl (by decide) (pd_lt (by decide) hn) sh_0 ⟨by decide, by decide, by decide, by decide⟩ rfl (Nat.le_of_ble_eq_true rfl) pd_oldL_same (fun _ _ => pd_old_same _) dL_five_9 (stk' := [.int zr1, .int 0, .ref 132]) rfl ?_
  refine pd_i2l C dL_five_12 ?_
  obtain ⟨zg1, hF⟩ := pd_gd_some hF
  refine pd_last C (pd_lt (by decide) hn) sh_132 zg1 dL_five_13 ?_
  refine pd_memJ (fun zJ1 hzJ1 => ?_)
  have hF := pd_let_at hF hzJ1
  refine pd_goto (tgt := 25) C dL_five_14 (by decide) ?_
  refine pd_iconst (v := 0) C dL_five_25 (by decide) ?_
  cases hF
  exact pd_iret C hE rfl rfl rfl ⟨by decide, by decide⟩ dL_five_26

def fn_L_at (I : pd_I) (J : pd_J) (Z : pd_R) (n : Nat) (p1 : Int32) (p2 : Int32) : Option (Int32 × pd_J) := pd_bc (fn_X11_at I Z n p1 p2) (fun ze => if ze = "java/lang/IndexOutOfBoundsException" then some (1, J) else (if ze = "java/util/NoSuchElementException" then some (2, J) else (none))) fun zr1 => pd_gd (pd_in 0 1) (pd_let (pd_uj J 132 (0 : Int32).toNatClampNeg zr1.toInt64) fun zJ1 => some (0, zJ1))
set_option maxRecDepth 100000 in
set_option maxHeartbeats 4000000 in
theorem em_L_at {l : Launch} {D : va_G} {tc : Nat → ClassId} (hst : l.stackTraces = false) {I : pd_I} {J : pd_J} {Z : pd_R} {n : Nat} {p1 : Int32} {p2 : Int32} (hn : 133 ≤ n)  {out : Int32 × pd_J} (hF : fn_L_at I J Z n p1 p2 = some out) :
    pd_M l D tc yL_at (.codeWith yL_at cL_at 5 (Option.some Jvm.ClassFile.FieldType.int) [(0, 10, 13, 13), (0, 10, 17, 21)]) rm_L_at [.ref 0, .int p1, .int p2, .ref 132] I J (pd_RF Z) n (.ok (some (.int out.1))) I out.2 (pd_RF Z) n := by
  refine pd_openH (own := "PathDecoderLaw") (ls0 := [some (.ref 0), some (.int p1), some (.int p2), some (.ref 132), none]) (by decide) rfl (Nat.le_of_ble_eq_true rfl) rfl rfl hst (fun cx hl hD htc C hE htab => ?_)
  subst hl hD htc
  unfold fn_L_at at hF
  refine pd_aload_n C dL_at_0 rfl rfl ?_
  refine pd_iconst (v := 0) C dL_at_1 (by decide) ?_
  refine pd_aload_n C dL_at_2 rfl rfl ?_
  refine pd_iload_n C dL_at_3 rfl rfl ?_
  refine pd_iload_n C dL_at_4 rfl rfl ?_
  rcases pd_bc_some hF with ⟨e9, zh1, hF⟩ | ⟨zr1, zh1, hF⟩
  · have hF := hF
    by_cases he0 : e9 = "java/lang/IndexOutOfBoundsException"
    · subst he0
      have hF := pd_t rfl hF
      refine pd_callVX C [.int p1, .int p2] [.int 0, .ref 132] (em_X11_at (pd_C_st C) hn  zh1) mw_X11_at wd_3_14 rfl (by decide) (pd_lt (by decide) hn) sh_0 ⟨by decide, by decide, by decide, by decide⟩ rfl (Nat.le_of_ble_eq_true rfl) dL_at_5 ?_
      refine pd_catch0 (hh := [(0, 10, 13, 13), (0, 10, 17, 21)]) (pre := []) (x := (0, 10, 13, 13)) (suf := [(0, 10, 17, 21)]) (i := 4) (ls' := [some (.ref 0), some (.int p1), some (.int p2), some (.ref 132), none]) C htab rfl (fun z hz => absurd hz List.not_mem_nil) (by decide) (by decide) wd_2_82 (by decide) (Or.inl ⟨dL_at_13, rfl⟩) (Nat.le_of_ble_eq_true rfl) rfl rfl ?_
      refine pd_iconst (v := 1) C dL_at_15 (by decide) ?_
      cases hF
      exact pd_iret C hE rfl rfl rfl ⟨by decide, by decide⟩ dL_at_16
    have hF := pd_f he0 hF
    by_cases he1 : e9 = "java/util/NoSuchElementException"
    · subst he1
      have hF := pd_t rfl hF
      refine pd_callVX C [.int p1, .int p2] [.int 0, .ref 132] (em_X11_at (pd_C_st C) hn  zh1) mw_X11_at wd_3_14 rfl (by decide) (pd_lt (by decide) hn) sh_0 ⟨by decide, by decide, by decide, by decide⟩ rfl (Nat.le_of_ble_eq_true rfl) dL_at_5 ?_
      refine pd_catch0 (hh := [(0, 10, 13, 13), (0, 10, 17, 21)]) (pre := [(0, 10, 13, 13)]) (x := (0, 10, 17, 21)) (suf := []) (i := 4) (ls' := [some (.ref 0), some (.int p1), some (.int p2), some (.ref 132), none]) C htab rfl (List.forall_mem_cons.mpr ⟨⟨by decide, "java/lang/IndexOutOfBoundsException", wd_2_82, by decide⟩, (fun _ h => absurd h List.not_mem_nil)⟩) (by decide) (by decide) wd_2_195 (by decide) (Or.inl ⟨dL_at_17, rfl⟩) (Nat.le_of_ble_eq_true rfl) rfl rfl ?_
      refine pd_iconst (v := 2) C dL_at_19 (by decide) ?_
      cases hF
      exact pd_iret C hE rfl rfl rfl ⟨by decide, by decide⟩ dL_at_20
    have hF := pd_f he1 hF
    cases hF
  refine pd_callV C [.int p1, .int p2] [.int 0, .ref 132] (em_X11_at (pd_C_st C) hn  zh1) mw_X11_at wd_3_14 rfl (by decide) (pd_lt (by decide) hn) sh_0 ⟨by decide, by decide, by decide, by decide⟩ rfl (Nat.le_of_ble_eq_true rfl) pd_oldL_same (fun _ _ => pd_old_same _) dL_at_5 (stk' := [.int zr1, .int 0, .ref 132]) rfl ?_
  refine pd_i2l C dL_at_8 ?_
  obtain ⟨zg1, hF⟩ := pd_gd_some hF
  refine pd_last C (pd_lt (by decide) hn) sh_132 zg1 dL_at_9 ?_
  refine pd_memJ (fun zJ1 hzJ1 => ?_)
  have hF := pd_let_at hF hzJ1
  refine pd_goto (tgt := 21) C dL_at_10 (by decide) ?_
  refine pd_iconst (v := 0) C dL_at_21 (by decide) ?_
  cases hF
  exact pd_iret C hE rfl rfl rfl ⟨by decide, by decide⟩ dL_at_22

def fn_L_tear (I : pd_I) (J : pd_J) (Z : pd_R) (n : Nat) (p1 : Int32) (p2 : Int32) : Option (Int32 × pd_I × pd_J) := pd_bc2 (fn_X11_tear I Z n p1 p2) (fun ze => if ze = "java/lang/IndexOutOfBoundsException" then some (1, I, J) else (if ze = "java/util/NoSuchElementException" then some (2, I, J) else (none))) fun zr1 zI1 => pd_gd (pd_in 0 1) (pd_let (pd_uj J 132 (0 : Int32).toNatClampNeg zr1.toInt64) fun zJ1 => some (0, zI1, zJ1))
set_option maxRecDepth 100000 in
set_option maxHeartbeats 4000000 in
theorem em_L_tear {l : Launch} {D : va_G} {tc : Nat → ClassId} (hst : l.stackTraces = false) {I : pd_I} {J : pd_J} {Z : pd_R} {n : Nat} {p1 : Int32} {p2 : Int32} (hn : 133 ≤ n)  {out : Int32 × pd_I × pd_J} (hF : fn_L_tear I J Z n p1 p2 = some out) :
    pd_M l D tc yL_tear (.codeWith yL_tear cL_tear 5 (Option.some Jvm.ClassFile.FieldType.int) [(0, 10, 13, 13), (0, 10, 17, 21)]) rm_L_tear [.ref 0, .int p1, .int p2, .ref 132] I J (pd_RF Z) n (.ok (some (.int out.1))) out.2.1 out.2.2 (pd_RF Z) n := by
  refine pd_openH (own := "PathDecoderLaw") (ls0 := [some (.ref 0), some (.int p1), some (.int p2), some (.ref 132), none]) (by decide) rfl (Nat.le_of_ble_eq_true rfl) rfl rfl hst (fun cx hl hD htc C hE htab => ?_)
  subst hl hD htc
  unfold fn_L_tear at hF
  refine pd_aload_n C dL_tear_0 rfl rfl ?_
  refine pd_iconst (v := 0) C dL_tear_1 (by decide) ?_
  refine pd_aload_n C dL_tear_2 rfl rfl ?_
  refine pd_iload_n C dL_tear_3 rfl rfl ?_
  refine pd_iload_n C dL_tear_4 rfl rfl ?_
  rcases pd_bc2_some hF with ⟨e9, zh1, hF⟩ | ⟨zr1, zI1, zh1, hF⟩
  · have hF := hF
    by_cases he0 : e9 = "java/lang/IndexOutOfBoundsException"
    · subst he0
      have hF := pd_t rfl hF
      refine pd_callVX C [.int p1, .int p2] [.int 0, .ref 132] (em_X11_tear (pd_C_st C) hn  zh1) mw_X11_tear wd_3_21 rfl (by decide) (pd_lt (by decide) hn) sh_0 ⟨by decide, by decide, by decide, by decide⟩ rfl (Nat.le_of_ble_eq_true rfl) dL_tear_5 ?_
      refine pd_catch0 (hh := [(0, 10, 13, 13), (0, 10, 17, 21)]) (pre := []) (x := (0, 10, 13, 13)) (suf := [(0, 10, 17, 21)]) (i := 4) (ls' := [some (.ref 0), some (.int p1), some (.int p2), some (.ref 132), none]) C htab rfl (fun z hz => absurd hz List.not_mem_nil) (by decide) (by decide) wd_2_82 (by decide) (Or.inl ⟨dL_tear_13, rfl⟩) (Nat.le_of_ble_eq_true rfl) rfl rfl ?_
      refine pd_iconst (v := 1) C dL_tear_15 (by decide) ?_
      cases hF
      exact pd_iret C hE rfl rfl rfl ⟨by decide, by decide⟩ dL_tear_16
    have hF := pd_f he0 hF
    by_cases he1 : e9 = "java/util/NoSuchElementException"
    · subst he1
      have hF := pd_t rfl hF
      refine pd_callVX C [.int p1, .int p2] [.int 0, .ref 132] (em_X11_tear (pd_C_st C) hn  zh1) mw_X11_tear wd_3_21 rfl (by decide) (pd_lt (by decide) hn) sh_0 ⟨by decide, by decide, by decide, by decide⟩ rfl (Nat.le_of_ble_eq_true rfl) dL_tear_5 ?_
      refine pd_catch0 (hh := [(0, 10, 13, 13), (0, 10, 17, 21)]) (pre := [(0, 10, 13, 13)]) (x := (0, 10, 17, 21)) (suf := []) (i := 4) (ls' := [some (.ref 0), some (.int p1), some (.int p2), some (.ref 132), none]) C htab rfl (List.forall_mem_cons.mpr ⟨⟨by decide, "java/lang/IndexOutOfBoundsException", wd_2_82, by decide⟩, (fun _ h => absurd h List.not_mem_nil)⟩) (by decide) (by decide) wd_2_195 (by decide) (Or.inl ⟨dL_tear_17, rfl⟩) (Nat.le_of_ble_eq_true rfl) rfl rfl ?_
      refine pd_iconst (v := 2) C dL_tear_19 (by decide) ?_
      cases hF
      exact pd_iret C hE rfl rfl rfl ⟨by decide, by decide⟩ dL_tear_20
    have hF := pd_f he1 hF
    cases hF
  refine pd_callV C [.int p1, .int p2] [.int 0, .ref 132] (em_X11_tear (pd_C_st C) hn  zh1) mw_X11_tear wd_3_21 rfl (by decide) (pd_lt (by decide) hn) sh_0 ⟨by decide, by decide, by decide, by decide⟩ rfl (Nat.le_of_ble_eq_true rfl) pd_oldL_same (fun _ _ => pd_old_same _) dL_tear_5 (stk' := [.int zr1, .int 0, .ref 132]) rfl ?_
  refine pd_i2l C dL_tear_8 ?_
  obtain ⟨zg1, hF⟩ := pd_gd_some hF
  refine pd_last C (pd_lt (by decide) hn) sh_132 zg1 dL_tear_9 ?_
  refine pd_memJ (fun zJ1 hzJ1 => ?_)
  have hF := pd_let_at hF hzJ1
  refine pd_goto (tgt := 21) C dL_tear_10 (by decide) ?_
  refine pd_iconst (v := 0) C dL_tear_21 (by decide) ?_
  cases hF
  exact pd_iret C hE rfl rfl rfl ⟨by decide, by decide⟩ dL_tear_22

def fn_L_noise (I : pd_I) (J : pd_J) (p1 : Int32) (p2 : Int32) (p3 : Int32) : Option (Int32 × pd_I × pd_J) := pd_bc2 (fn_X11_noise I p1 p2 p3) (fun ze => if ze = "java/lang/IllegalArgumentException" then some (1, I, J) else (none)) fun zr1 zI1 => pd_gd (pd_in 0 1) (pd_let (pd_uj J 132 (0 : Int32).toNatClampNeg zr1.toInt64) fun zJ1 => some (0, zI1, zJ1))
set_option maxRecDepth 100000 in
set_option maxHeartbeats 4000000 in
theorem em_L_noise {l : Launch} {D : va_G} {tc : Nat → ClassId} (hst : l.stackTraces = false) {I : pd_I} {J : pd_J} {Z : pd_R} {n : Nat} {p1 : Int32} {p2 : Int32} {p3 : Int32} (hn : 133 ≤ n)  {out : Int32 × pd_I × pd_J} (hF : fn_L_noise I J p1 p2 p3 = some out) :
    pd_M l D tc yL_noise (.codeWith yL_noise cL_noise 6 (Option.some Jvm.ClassFile.FieldType.int) [(0, 12, 15, 15)]) rm_L_noise [.ref 0, .int p1, .int p2, .int p3, .ref 132] I J (pd_RF Z) n (.ok (some (.int out.1))) out.2.1 out.2.2 (pd_RF Z) n := by
  refine pd_openH (own := "PathDecoderLaw") (ls0 := [some (.ref 0), some (.int p1), some (.int p2), some (.int p3), some (.ref 132), none]) (by decide) rfl (Nat.le_of_ble_eq_true rfl) rfl rfl hst (fun cx hl hD htc C hE htab => ?_)
  subst hl hD htc
  unfold fn_L_noise at hF
  refine pd_aload C dL_noise_0 rfl ?_
  refine pd_iconst (v := 0) C dL_noise_2 (by decide) ?_
  refine pd_aload_n C dL_noise_3 rfl rfl ?_
  refine pd_iload_n C dL_noise_4 rfl rfl ?_
  refine pd_iload_n C dL_noise_5 rfl rfl ?_
  refine pd_iload_n C dL_noise_6 rfl rfl ?_
  rcases pd_bc2_some hF with ⟨e9, zh1, hF⟩ | ⟨zr1, zI1, zh1, hF⟩
  · have hF := hF
    by_cases he0 : e9 = "java/lang/IllegalArgumentException"
    · subst he0
      have hF := pd_t rfl hF
      refine pd_callVX C [.int p1, .int p2, .int p3] [.int 0, .ref 132] (em_X11_noise (pd_C_st C) hn  zh1) mw_X11_noise wd_3_32 rfl (by decide) (pd_lt (by decide) hn) sh_0 ⟨by decide, by decide, by decide, by decide⟩ rfl (Nat.le_of_ble_eq_true rfl) dL_noise_7 ?_
      refine pd_catch0 (hh := [(0, 12, 15, 15)]) (pre := []) (x := (0, 12, 15, 15)) (suf := []) (i := 5) (ls' := [some (.ref 0), some (.int p1), some (.int p2), some (.int p3), some (.ref 132), none]) C htab rfl (fun z hz => absurd hz List.not_mem_nil) (by decide) (by decide) wd_2_83 (by decide) (Or.inl ⟨dL_noise_15, rfl⟩) (Nat.le_of_ble_eq_true rfl) rfl rfl ?_
      refine pd_iconst (v := 1) C dL_noise_17 (by decide) ?_
      cases hF
      exact pd_iret C hE rfl rfl rfl ⟨by decide, by decide⟩ dL_noise_18
    have hF := pd_f he0 hF
    cases hF
  refine pd_callV C [.int p1, .int p2, .int p3] [.int 0, .ref 132] (em_X11_noise (pd_C_st C) hn  zh1) mw_X11_noise wd_3_32 rfl (by decide) (pd_lt (by decide) hn) sh_0 ⟨by decide, by decide, by decide, by decide⟩ rfl (Nat.le_of_ble_eq_true rfl) pd_oldL_same (fun _ _ => pd_old_same _) dL_noise_7 (stk' := [.int zr1, .int 0, .ref 132]) rfl ?_
  refine pd_i2l C dL_noise_10 ?_
  obtain ⟨zg1, hF⟩ := pd_gd_some hF
  refine pd_last C (pd_lt (by decide) hn) sh_132 zg1 dL_noise_11 ?_
  refine pd_memJ (fun zJ1 hzJ1 => ?_)
  have hF := pd_let_at hF hzJ1
  refine pd_goto (tgt := 19) C dL_noise_12 (by decide) ?_
  refine pd_iconst (v := 0) C dL_noise_19 (by decide) ?_
  cases hF
  exact pd_iret C hE rfl rfl rfl ⟨by decide, by decide⟩ dL_noise_20

def fn_L_tap (I : pd_I) (J : pd_J) (Z : pd_R) (n : Nat) (p1 : Int32) (p2 : Int32) (p3 : Int32) : Option (Int32 × pd_I × pd_J) := pd_bc2 (fn_X11_tap I Z n p1 p2 p3) (fun ze => if ze = "java/lang/IndexOutOfBoundsException" then some (1, I, J) else (if ze = "java/util/NoSuchElementException" then some (2, I, J) else (if ze = "java/lang/IllegalArgumentException" then some (3, I, J) else (none)))) fun zr1 zI1 => pd_gd (pd_in 0 1) (pd_let (pd_uj J 132 (0 : Int32).toNatClampNeg zr1.toInt64) fun zJ1 => some (0, zI1, zJ1))
set_option maxRecDepth 100000 in
set_option maxHeartbeats 4000000 in
theorem em_L_tap {l : Launch} {D : va_G} {tc : Nat → ClassId} (hst : l.stackTraces = false) {I : pd_I} {J : pd_J} {Z : pd_R} {n : Nat} {p1 : Int32} {p2 : Int32} {p3 : Int32} (hn : 133 ≤ n)  {out : Int32 × pd_I × pd_J} (hF : fn_L_tap I J Z n p1 p2 p3 = some out) :
    pd_M l D tc yL_tap (.codeWith yL_tap cL_tap 6 (Option.some Jvm.ClassFile.FieldType.int) [(0, 12, 15, 13), (0, 12, 19, 21), (0, 12, 23, 15)]) rm_L_tap [.ref 0, .int p1, .int p2, .int p3, .ref 132] I J (pd_RF Z) n (.ok (some (.int out.1))) out.2.1 out.2.2 (pd_RF Z) n := by
  refine pd_openH (own := "PathDecoderLaw") (ls0 := [some (.ref 0), some (.int p1), some (.int p2), some (.int p3), some (.ref 132), none]) (by decide) rfl (Nat.le_of_ble_eq_true rfl) rfl rfl hst (fun cx hl hD htc C hE htab => ?_)
  subst hl hD htc
  unfold fn_L_tap at hF
  refine pd_aload C dL_tap_0 rfl ?_
  refine pd_iconst (v := 0) C dL_tap_2 (by decide) ?_
  refine pd_aload_n C dL_tap_3 rfl rfl ?_
  refine pd_iload_n C dL_tap_4 rfl rfl ?_
  refine pd_iload_n C dL_tap_5 rfl rfl ?_
  refine pd_iload_n C dL_tap_6 rfl rfl ?_
  rcases pd_bc2_some hF with ⟨e9, zh1, hF⟩ | ⟨zr1, zI1, zh1, hF⟩
  · have hF := hF
    by_cases he0 : e9 = "java/lang/IndexOutOfBoundsException"
    · subst he0
      have hF := pd_t rfl hF
      refine pd_callVX C [.int p1, .int p2, .int p3] [.int 0, .ref 132] (em_X11_tap (pd_C_st C) hn  zh1) mw_X11_tap wd_3_96 rfl (by decide) (pd_lt (by decide) hn) sh_0 ⟨by decide, by decide, by decide, by decide⟩ rfl (Nat.le_of_ble_eq_true rfl) dL_tap_7 ?_
      refine pd_catch0 (hh := [(0, 12, 15, 13), (0, 12, 19, 21), (0, 12, 23, 15)]) (pre := []) (x := (0, 12, 15, 13)) (suf := [(0, 12, 19, 21), (0, 12, 23, 15)]) (i := 5) (ls' := [some (.ref 0), some (.int p1), some (.int p2), some (.int p3), some (.ref 132), none]) C htab rfl (fun z hz => absurd hz List.not_mem_nil) (by decide) (by decide) wd_2_82 (by decide) (Or.inl ⟨dL_tap_15, rfl⟩) (Nat.le_of_ble_eq_true rfl) rfl rfl ?_
      refine pd_iconst (v := 1) C dL_tap_17 (by decide) ?_
      cases hF
      exact pd_iret C hE rfl rfl rfl ⟨by decide, by decide⟩ dL_tap_18
    have hF := pd_f he0 hF
    by_cases he1 : e9 = "java/util/NoSuchElementException"
    · subst he1
      have hF := pd_t rfl hF
      refine pd_callVX C [.int p1, .int p2, .int p3] [.int 0, .ref 132] (em_X11_tap (pd_C_st C) hn  zh1) mw_X11_tap wd_3_96 rfl (by decide) (pd_lt (by decide) hn) sh_0 ⟨by decide, by decide, by decide, by decide⟩ rfl (Nat.le_of_ble_eq_true rfl) dL_tap_7 ?_
      refine pd_catch0 (hh := [(0, 12, 15, 13), (0, 12, 19, 21), (0, 12, 23, 15)]) (pre := [(0, 12, 15, 13)]) (x := (0, 12, 19, 21)) (suf := [(0, 12, 23, 15)]) (i := 5) (ls' := [some (.ref 0), some (.int p1), some (.int p2), some (.int p3), some (.ref 132), none]) C htab rfl (List.forall_mem_cons.mpr ⟨⟨by decide, "java/lang/IndexOutOfBoundsException", wd_2_82, by decide⟩, (fun _ h => absurd h List.not_mem_nil)⟩) (by decide) (by decide) wd_2_195 (by decide) (Or.inl ⟨dL_tap_19, rfl⟩) (Nat.le_of_ble_eq_true rfl) rfl rfl ?_
      refine pd_iconst (v := 2) C dL_tap_21 (by decide) ?_
      cases hF
      exact pd_iret C hE rfl rfl rfl ⟨by decide, by decide⟩ dL_tap_22
    have hF := pd_f he1 hF
    by_cases he2 : e9 = "java/lang/IllegalArgumentException"
    · subst he2
      have hF := pd_t rfl hF
      refine pd_callVX C [.int p1, .int p2, .int p3] [.int 0, .ref 132] (em_X11_tap (pd_C_st C) hn  zh1) mw_X11_tap wd_3_96 rfl (by decide) (pd_lt (by decide) hn) sh_0 ⟨by decide, by decide, by decide, by decide⟩ rfl (Nat.le_of_ble_eq_true rfl) dL_tap_7 ?_
      refine pd_catch0 (hh := [(0, 12, 15, 13), (0, 12, 19, 21), (0, 12, 23, 15)]) (pre := [(0, 12, 15, 13), (0, 12, 19, 21)]) (x := (0, 12, 23, 15)) (suf := []) (i := 5) (ls' := [some (.ref 0), some (.int p1), some (.int p2), some (.int p3), some (.ref 132), none]) C htab rfl (List.forall_mem_cons.mpr ⟨⟨by decide, "java/lang/IndexOutOfBoundsException", wd_2_82, by decide⟩, (List.forall_mem_cons.mpr ⟨⟨by decide, "java/util/NoSuchElementException", wd_2_195, by decide⟩, (fun _ h => absurd h List.not_mem_nil)⟩)⟩) (by decide) (by decide) wd_2_83 (by decide) (Or.inl ⟨dL_tap_23, rfl⟩) (Nat.le_of_ble_eq_true rfl) rfl rfl ?_
      refine pd_iconst (v := 3) C dL_tap_25 (by decide) ?_
      cases hF
      exact pd_iret C hE rfl rfl rfl ⟨by decide, by decide⟩ dL_tap_26
    have hF := pd_f he2 hF
    cases hF
  refine pd_callV C [.int p1, .int p2, .int p3] [.int 0, .ref 132] (em_X11_tap (pd_C_st C) hn  zh1) mw_X11_tap wd_3_96 rfl (by decide) (pd_lt (by decide) hn) sh_0 ⟨by decide, by decide, by decide, by decide⟩ rfl (Nat.le_of_ble_eq_true rfl) pd_oldL_same (fun _ _ => pd_old_same _) dL_tap_7 (stk' := [.int zr1, .int 0, .ref 132]) rfl ?_
  refine pd_i2l C dL_tap_10 ?_
  obtain ⟨zg1, hF⟩ := pd_gd_some hF
  refine pd_last C (pd_lt (by decide) hn) sh_132 zg1 dL_tap_11 ?_
  refine pd_memJ (fun zJ1 hzJ1 => ?_)
  have hF := pd_let_at hF hzJ1
  refine pd_goto (tgt := 27) C dL_tap_12 (by decide) ?_
  refine pd_iconst (v := 0) C dL_tap_27 (by decide) ?_
  cases hF
  exact pd_iret C hE rfl rfl rfl ⟨by decide, by decide⟩ dL_tap_28

def fn_L_keep (I : pd_I) (J : pd_J) (Z : pd_R) (n : Nat) (p1 : Int32) (p2 : Int32) (p3 : Int32) (p4 : Int32) : Option (Int32 × pd_I × pd_J) := pd_bc2 (fn_X11_keep I Z n p1 p2 p3 p4) (fun ze => if ze = "java/lang/IndexOutOfBoundsException" then some (1, I, J) else (if ze = "java/util/NoSuchElementException" then some (2, I, J) else (if ze = "java/lang/IllegalArgumentException" then some (3, I, J) else (none)))) fun zr1 zI1 => pd_gd (pd_in 0 1) (pd_let (pd_uj J 132 (0 : Int32).toNatClampNeg zr1.toInt64) fun zJ1 => some (0, zI1, zJ1))
set_option maxRecDepth 100000 in
set_option maxHeartbeats 4000000 in
theorem em_L_keep {l : Launch} {D : va_G} {tc : Nat → ClassId} (hst : l.stackTraces = false) {I : pd_I} {J : pd_J} {Z : pd_R} {n : Nat} {p1 : Int32} {p2 : Int32} {p3 : Int32} {p4 : Int32} (hn : 133 ≤ n)  {out : Int32 × pd_I × pd_J} (hF : fn_L_keep I J Z n p1 p2 p3 p4 = some out) :
    pd_M l D tc yL_keep (.codeWith yL_keep cL_keep 7 (Option.some Jvm.ClassFile.FieldType.int) [(0, 14, 17, 13), (0, 14, 21, 21), (0, 14, 25, 15)]) rm_L_keep [.ref 0, .int p1, .int p2, .int p3, .int p4, .ref 132] I J (pd_RF Z) n (.ok (some (.int out.1))) out.2.1 out.2.2 (pd_RF Z) n := by
  refine pd_openH (own := "PathDecoderLaw") (ls0 := [some (.ref 0), some (.int p1), some (.int p2), some (.int p3), some (.int p4), some (.ref 132), none]) (by decide) rfl (Nat.le_of_ble_eq_true rfl) rfl rfl hst (fun cx hl hD htc C hE htab => ?_)
  subst hl hD htc
  unfold fn_L_keep at hF
  refine pd_aload C dL_keep_0 rfl ?_
  refine pd_iconst (v := 0) C dL_keep_2 (by decide) ?_
  refine pd_aload_n C dL_keep_3 rfl rfl ?_
  refine pd_iload_n C dL_keep_4 rfl rfl ?_
  refine pd_iload_n C dL_keep_5 rfl rfl ?_
  refine pd_iload_n C dL_keep_6 rfl rfl ?_
  refine pd_iload C dL_keep_7 rfl ?_
  rcases pd_bc2_some hF with ⟨e9, zh1, hF⟩ | ⟨zr1, zI1, zh1, hF⟩
  · have hF := hF
    by_cases he0 : e9 = "java/lang/IndexOutOfBoundsException"
    · subst he0
      have hF := pd_t rfl hF
      refine pd_callVX C [.int p1, .int p2, .int p3, .int p4] [.int 0, .ref 132] (em_X11_keep (pd_C_st C) hn  zh1) mw_X11_keep wd_3_118 rfl (by decide) (pd_lt (by decide) hn) sh_0 ⟨by decide, by decide, by decide, by decide⟩ rfl (Nat.le_of_ble_eq_true rfl) dL_keep_9 ?_
      refine pd_catch0 (hh := [(0, 14, 17, 13), (0, 14, 21, 21), (0, 14, 25, 15)]) (pre := []) (x := (0, 14, 17, 13)) (suf := [(0, 14, 21, 21), (0, 14, 25, 15)]) (i := 6) (ls' := [some (.ref 0), some (.int p1), some (.int p2), some (.int p3), some (.int p4), some (.ref 132), none]) C htab rfl (fun z hz => absurd hz List.not_mem_nil) (by decide) (by decide) wd_2_82 (by decide) (Or.inl ⟨dL_keep_17, rfl⟩) (Nat.le_of_ble_eq_true rfl) rfl rfl ?_
      refine pd_iconst (v := 1) C dL_keep_19 (by decide) ?_
      cases hF
      exact pd_iret C hE rfl rfl rfl ⟨by decide, by decide⟩ dL_keep_20
    have hF := pd_f he0 hF
    by_cases he1 : e9 = "java/util/NoSuchElementException"
    · subst he1
      have hF := pd_t rfl hF
      refine pd_callVX C [.int p1, .int p2, .int p3, .int p4] [.int 0, .ref 132] (em_X11_keep (pd_C_st C) hn  zh1) mw_X11_keep wd_3_118 rfl (by decide) (pd_lt (by decide) hn) sh_0 ⟨by decide, by decide, by decide, by decide⟩ rfl (Nat.le_of_ble_eq_true rfl) dL_keep_9 ?_
      refine pd_catch0 (hh := [(0, 14, 17, 13), (0, 14, 21, 21), (0, 14, 25, 15)]) (pre := [(0, 14, 17, 13)]) (x := (0, 14, 21, 21)) (suf := [(0, 14, 25, 15)]) (i := 6) (ls' := [some (.ref 0), some (.int p1), some (.int p2), some (.int p3), some (.int p4), some (.ref 132), none]) C htab rfl (List.forall_mem_cons.mpr ⟨⟨by decide, "java/lang/IndexOutOfBoundsException", wd_2_82, by decide⟩, (fun _ h => absurd h List.not_mem_nil)⟩) (by decide) (by decide) wd_2_195 (by decide) (Or.inl ⟨dL_keep_21, rfl⟩) (Nat.le_of_ble_eq_true rfl) rfl rfl ?_
      refine pd_iconst (v := 2) C dL_keep_23 (by decide) ?_
      cases hF
      exact pd_iret C hE rfl rfl rfl ⟨by decide, by decide⟩ dL_keep_24
    have hF := pd_f he1 hF
    by_cases he2 : e9 = "java/lang/IllegalArgumentException"
    · subst he2
      have hF := pd_t rfl hF
      refine pd_callVX C [.int p1, .int p2, .int p3, .int p4] [.int 0, .ref 132] (em_X11_keep (pd_C_st C) hn  zh1) mw_X11_keep wd_3_118 rfl (by decide) (pd_lt (by decide) hn) sh_0 ⟨by decide, by decide, by decide, by decide⟩ rfl (Nat.le_of_ble_eq_true rfl) dL_keep_9 ?_
      refine pd_catch0 (hh := [(0, 14, 17, 13), (0, 14, 21, 21), (0, 14, 25, 15)]) (pre := [(0, 14, 17, 13), (0, 14, 21, 21)]) (x := (0, 14, 25, 15)) (suf := []) (i := 6) (ls' := [some (.ref 0), some (.int p1), some (.int p2), some (.int p3), some (.int p4), some (.ref 132), none]) C htab rfl (List.forall_mem_cons.mpr ⟨⟨by decide, "java/lang/IndexOutOfBoundsException", wd_2_82, by decide⟩, (List.forall_mem_cons.mpr ⟨⟨by decide, "java/util/NoSuchElementException", wd_2_195, by decide⟩, (fun _ h => absurd h List.not_mem_nil)⟩)⟩) (by decide) (by decide) wd_2_83 (by decide) (Or.inl ⟨dL_keep_25, rfl⟩) (Nat.le_of_ble_eq_true rfl) rfl rfl ?_
      refine pd_iconst (v := 3) C dL_keep_27 (by decide) ?_
      cases hF
      exact pd_iret C hE rfl rfl rfl ⟨by decide, by decide⟩ dL_keep_28
    have hF := pd_f he2 hF
    cases hF
  refine pd_callV C [.int p1, .int p2, .int p3, .int p4] [.int 0, .ref 132] (em_X11_keep (pd_C_st C) hn  zh1) mw_X11_keep wd_3_118 rfl (by decide) (pd_lt (by decide) hn) sh_0 ⟨by decide, by decide, by decide, by decide⟩ rfl (Nat.le_of_ble_eq_true rfl) pd_oldL_same (fun _ _ => pd_old_same _) dL_keep_9 (stk' := [.int zr1, .int 0, .ref 132]) rfl ?_
  refine pd_i2l C dL_keep_12 ?_
  obtain ⟨zg1, hF⟩ := pd_gd_some hF
  refine pd_last C (pd_lt (by decide) hn) sh_132 zg1 dL_keep_13 ?_
  refine pd_memJ (fun zJ1 hzJ1 => ?_)
  have hF := pd_let_at hF hzJ1
  refine pd_goto (tgt := 29) C dL_keep_14 (by decide) ?_
  refine pd_iconst (v := 0) C dL_keep_29 (by decide) ?_
  cases hF
  exact pd_iret C hE rfl rfl rfl ⟨by decide, by decide⟩ dL_keep_30

def fn_L_stride (I : pd_I) (J : pd_J) (Z : pd_R) (n : Nat) (p1 : Int32) (p2 : Int32) : Option (Int32 × pd_I × pd_J) := pd_bc2 (fn_X11_stride I Z n p1 p2) (fun ze => if ze = "java/lang/IndexOutOfBoundsException" then some (1, I, J) else (if ze = "java/util/NoSuchElementException" then some (2, I, J) else (if ze = "java/lang/IllegalArgumentException" then some (3, I, J) else (none)))) fun zr1 zI1 => pd_gd (pd_in 0 1) (pd_let (pd_uj J 132 (0 : Int32).toNatClampNeg zr1.toInt64) fun zJ1 => some (0, zI1, zJ1))
set_option maxRecDepth 100000 in
set_option maxHeartbeats 4000000 in
theorem em_L_stride {l : Launch} {D : va_G} {tc : Nat → ClassId} (hst : l.stackTraces = false) {I : pd_I} {J : pd_J} {Z : pd_R} {n : Nat} {p1 : Int32} {p2 : Int32} (hn : 133 ≤ n)  {out : Int32 × pd_I × pd_J} (hF : fn_L_stride I J Z n p1 p2 = some out) :
    pd_M l D tc yL_stride (.codeWith yL_stride cL_stride 5 (Option.some Jvm.ClassFile.FieldType.int) [(0, 10, 13, 13), (0, 10, 17, 21), (0, 10, 21, 15)]) rm_L_stride [.ref 0, .int p1, .int p2, .ref 132] I J (pd_RF Z) n (.ok (some (.int out.1))) out.2.1 out.2.2 (pd_RF Z) n := by
  refine pd_openH (own := "PathDecoderLaw") (ls0 := [some (.ref 0), some (.int p1), some (.int p2), some (.ref 132), none]) (by decide) rfl (Nat.le_of_ble_eq_true rfl) rfl rfl hst (fun cx hl hD htc C hE htab => ?_)
  subst hl hD htc
  unfold fn_L_stride at hF
  refine pd_aload_n C dL_stride_0 rfl rfl ?_
  refine pd_iconst (v := 0) C dL_stride_1 (by decide) ?_
  refine pd_aload_n C dL_stride_2 rfl rfl ?_
  refine pd_iload_n C dL_stride_3 rfl rfl ?_
  refine pd_iload_n C dL_stride_4 rfl rfl ?_
  rcases pd_bc2_some hF with ⟨e9, zh1, hF⟩ | ⟨zr1, zI1, zh1, hF⟩
  · have hF := hF
    by_cases he0 : e9 = "java/lang/IndexOutOfBoundsException"
    · subst he0
      have hF := pd_t rfl hF
      refine pd_callVX C [.int p1, .int p2] [.int 0, .ref 132] (em_X11_stride (pd_C_st C) hn  zh1) mw_X11_stride wd_3_141 rfl (by decide) (pd_lt (by decide) hn) sh_0 ⟨by decide, by decide, by decide, by decide⟩ rfl (Nat.le_of_ble_eq_true rfl) dL_stride_5 ?_
      refine pd_catch0 (hh := [(0, 10, 13, 13), (0, 10, 17, 21), (0, 10, 21, 15)]) (pre := []) (x := (0, 10, 13, 13)) (suf := [(0, 10, 17, 21), (0, 10, 21, 15)]) (i := 4) (ls' := [some (.ref 0), some (.int p1), some (.int p2), some (.ref 132), none]) C htab rfl (fun z hz => absurd hz List.not_mem_nil) (by decide) (by decide) wd_2_82 (by decide) (Or.inl ⟨dL_stride_13, rfl⟩) (Nat.le_of_ble_eq_true rfl) rfl rfl ?_
      refine pd_iconst (v := 1) C dL_stride_15 (by decide) ?_
      cases hF
      exact pd_iret C hE rfl rfl rfl ⟨by decide, by decide⟩ dL_stride_16
    have hF := pd_f he0 hF
    by_cases he1 : e9 = "java/util/NoSuchElementException"
    · subst he1
      have hF := pd_t rfl hF
      refine pd_callVX C [.int p1, .int p2] [.int 0, .ref 132] (em_X11_stride (pd_C_st C) hn  zh1) mw_X11_stride wd_3_141 rfl (by decide) (pd_lt (by decide) hn) sh_0 ⟨by decide, by decide, by decide, by decide⟩ rfl (Nat.le_of_ble_eq_true rfl) dL_stride_5 ?_
      refine pd_catch0 (hh := [(0, 10, 13, 13), (0, 10, 17, 21), (0, 10, 21, 15)]) (pre := [(0, 10, 13, 13)]) (x := (0, 10, 17, 21)) (suf := [(0, 10, 21, 15)]) (i := 4) (ls' := [some (.ref 0), some (.int p1), some (.int p2), some (.ref 132), none]) C htab rfl (List.forall_mem_cons.mpr ⟨⟨by decide, "java/lang/IndexOutOfBoundsException", wd_2_82, by decide⟩, (fun _ h => absurd h List.not_mem_nil)⟩) (by decide) (by decide) wd_2_195 (by decide) (Or.inl ⟨dL_stride_17, rfl⟩) (Nat.le_of_ble_eq_true rfl) rfl rfl ?_
      refine pd_iconst (v := 2) C dL_stride_19 (by decide) ?_
      cases hF
      exact pd_iret C hE rfl rfl rfl ⟨by decide, by decide⟩ dL_stride_20
    have hF := pd_f he1 hF
    by_cases he2 : e9 = "java/lang/IllegalArgumentException"
    · subst he2
      have hF := pd_t rfl hF
      refine pd_callVX C [.int p1, .int p2] [.int 0, .ref 132] (em_X11_stride (pd_C_st C) hn  zh1) mw_X11_stride wd_3_141 rfl (by decide) (pd_lt (by decide) hn) sh_0 ⟨by decide, by decide, by decide, by decide⟩ rfl (Nat.le_of_ble_eq_true rfl) dL_stride_5 ?_
      refine pd_catch0 (hh := [(0, 10, 13, 13), (0, 10, 17, 21), (0, 10, 21, 15)]) (pre := [(0, 10, 13, 13), (0, 10, 17, 21)]) (x := (0, 10, 21, 15)) (suf := []) (i := 4) (ls' := [some (.ref 0), some (.int p1), some (.int p2), some (.ref 132), none]) C htab rfl (List.forall_mem_cons.mpr ⟨⟨by decide, "java/lang/IndexOutOfBoundsException", wd_2_82, by decide⟩, (List.forall_mem_cons.mpr ⟨⟨by decide, "java/util/NoSuchElementException", wd_2_195, by decide⟩, (fun _ h => absurd h List.not_mem_nil)⟩)⟩) (by decide) (by decide) wd_2_83 (by decide) (Or.inl ⟨dL_stride_21, rfl⟩) (Nat.le_of_ble_eq_true rfl) rfl rfl ?_
      refine pd_iconst (v := 3) C dL_stride_23 (by decide) ?_
      cases hF
      exact pd_iret C hE rfl rfl rfl ⟨by decide, by decide⟩ dL_stride_24
    have hF := pd_f he2 hF
    cases hF
  refine pd_callV C [.int p1, .int p2] [.int 0, .ref 132] (em_X11_stride (pd_C_st C) hn  zh1) mw_X11_stride wd_3_141 rfl (by decide) (pd_lt (by decide) hn) sh_0 ⟨by decide, by decide, by decide, by decide⟩ rfl (Nat.le_of_ble_eq_true rfl) pd_oldL_same (fun _ _ => pd_old_same _) dL_stride_5 (stk' := [.int zr1, .int 0, .ref 132]) rfl ?_
  refine pd_i2l C dL_stride_8 ?_
  obtain ⟨zg1, hF⟩ := pd_gd_some hF
  refine pd_last C (pd_lt (by decide) hn) sh_132 zg1 dL_stride_9 ?_
  refine pd_memJ (fun zJ1 hzJ1 => ?_)
  have hF := pd_let_at hF hzJ1
  refine pd_goto (tgt := 25) C dL_stride_10 (by decide) ?_
  refine pd_iconst (v := 0) C dL_stride_25 (by decide) ?_
  cases hF
  exact pd_iret C hE rfl rfl rfl ⟨by decide, by decide⟩ dL_stride_26

def fn_L_send (I : pd_I) (J : pd_J) (Z : pd_R) (n : Nat) (p1 : Int32) (p2 : Int32) (p3 : Int32) (p4 : Int32) : Option (Int32 × pd_I × pd_J) := pd_bc2 (fn_X11_send I Z n p1 p2 p3 p4) (fun ze => if ze = "java/lang/IndexOutOfBoundsException" then some (1, I, J) else (if ze = "java/lang/IllegalArgumentException" then some (2, I, J) else (none))) fun zr1 zI1 => pd_gd (pd_in 0 1) (pd_let (pd_uj J 132 (0 : Int32).toNatClampNeg zr1.toInt64) fun zJ1 => some (0, zI1, zJ1))
set_option maxRecDepth 100000 in
set_option maxHeartbeats 4000000 in
theorem em_L_send {l : Launch} {D : va_G} {tc : Nat → ClassId} (hst : l.stackTraces = false) {I : pd_I} {J : pd_J} {Z : pd_R} {n : Nat} {p1 : Int32} {p2 : Int32} {p3 : Int32} {p4 : Int32} (hn : 133 ≤ n)  {out : Int32 × pd_I × pd_J} (hF : fn_L_send I J Z n p1 p2 p3 p4 = some out) :
    pd_M l D tc yL_send (.codeWith yL_send cL_send 7 (Option.some Jvm.ClassFile.FieldType.int) [(0, 14, 17, 13), (0, 14, 21, 15)]) rm_L_send [.ref 0, .int p1, .int p2, .int p3, .int p4, .ref 132] I J (pd_RF Z) n (.ok (some (.int out.1))) out.2.1 out.2.2 (pd_RF Z) n := by
  refine pd_openH (own := "PathDecoderLaw") (ls0 := [some (.ref 0), some (.int p1), some (.int p2), some (.int p3), some (.int p4), some (.ref 132), none]) (by decide) rfl (Nat.le_of_ble_eq_true rfl) rfl rfl hst (fun cx hl hD htc C hE htab => ?_)
  subst hl hD htc
  unfold fn_L_send at hF
  refine pd_aload C dL_send_0 rfl ?_
  refine pd_iconst (v := 0) C dL_send_2 (by decide) ?_
  refine pd_aload_n C dL_send_3 rfl rfl ?_
  refine pd_iload_n C dL_send_4 rfl rfl ?_
  refine pd_iload_n C dL_send_5 rfl rfl ?_
  refine pd_iload_n C dL_send_6 rfl rfl ?_
  refine pd_iload C dL_send_7 rfl ?_
  rcases pd_bc2_some hF with ⟨e9, zh1, hF⟩ | ⟨zr1, zI1, zh1, hF⟩
  · have hF := hF
    by_cases he0 : e9 = "java/lang/IndexOutOfBoundsException"
    · subst he0
      have hF := pd_t rfl hF
      refine pd_callVX C [.int p1, .int p2, .int p3, .int p4] [.int 0, .ref 132] (em_X11_send (pd_C_st C) hn  zh1) mw_X11_send wd_3_150 rfl (by decide) (pd_lt (by decide) hn) sh_0 ⟨by decide, by decide, by decide, by decide⟩ rfl (Nat.le_of_ble_eq_true rfl) dL_send_9 ?_
      refine pd_catch0 (hh := [(0, 14, 17, 13), (0, 14, 21, 15)]) (pre := []) (x := (0, 14, 17, 13)) (suf := [(0, 14, 21, 15)]) (i := 6) (ls' := [some (.ref 0), some (.int p1), some (.int p2), some (.int p3), some (.int p4), some (.ref 132), none]) C htab rfl (fun z hz => absurd hz List.not_mem_nil) (by decide) (by decide) wd_2_82 (by decide) (Or.inl ⟨dL_send_17, rfl⟩) (Nat.le_of_ble_eq_true rfl) rfl rfl ?_
      refine pd_iconst (v := 1) C dL_send_19 (by decide) ?_
      cases hF
      exact pd_iret C hE rfl rfl rfl ⟨by decide, by decide⟩ dL_send_20
    have hF := pd_f he0 hF
    by_cases he1 : e9 = "java/lang/IllegalArgumentException"
    · subst he1
      have hF := pd_t rfl hF
      refine pd_callVX C [.int p1, .int p2, .int p3, .int p4] [.int 0, .ref 132] (em_X11_send (pd_C_st C) hn  zh1) mw_X11_send wd_3_150 rfl (by decide) (pd_lt (by decide) hn) sh_0 ⟨by decide, by decide, by decide, by decide⟩ rfl (Nat.le_of_ble_eq_true rfl) dL_send_9 ?_
      refine pd_catch0 (hh := [(0, 14, 17, 13), (0, 14, 21, 15)]) (pre := [(0, 14, 17, 13)]) (x := (0, 14, 21, 15)) (suf := []) (i := 6) (ls' := [some (.ref 0), some (.int p1), some (.int p2), some (.int p3), some (.int p4), some (.ref 132), none]) C htab rfl (List.forall_mem_cons.mpr ⟨⟨by decide, "java/lang/IndexOutOfBoundsException", wd_2_82, by decide⟩, (fun _ h => absurd h List.not_mem_nil)⟩) (by decide) (by decide) wd_2_83 (by decide) (Or.inl ⟨dL_send_21, rfl⟩) (Nat.le_of_ble_eq_true rfl) rfl rfl ?_
      refine pd_iconst (v := 2) C dL_send_23 (by decide) ?_
      cases hF
      exact pd_iret C hE rfl rfl rfl ⟨by decide, by decide⟩ dL_send_24
    have hF := pd_f he1 hF
    cases hF
  refine pd_callV C [.int p1, .int p2, .int p3, .int p4] [.int 0, .ref 132] (em_X11_send (pd_C_st C) hn  zh1) mw_X11_send wd_3_150 rfl (by decide) (pd_lt (by decide) hn) sh_0 ⟨by decide, by decide, by decide, by decide⟩ rfl (Nat.le_of_ble_eq_true rfl) pd_oldL_same (fun _ _ => pd_old_same _) dL_send_9 (stk' := [.int zr1, .int 0, .ref 132]) rfl ?_
  refine pd_i2l C dL_send_12 ?_
  obtain ⟨zg1, hF⟩ := pd_gd_some hF
  refine pd_last C (pd_lt (by decide) hn) sh_132 zg1 dL_send_13 ?_
  refine pd_memJ (fun zJ1 hzJ1 => ?_)
  have hF := pd_let_at hF hzJ1
  refine pd_goto (tgt := 25) C dL_send_14 (by decide) ?_
  refine pd_iconst (v := 0) C dL_send_25 (by decide) ?_
  cases hF
  exact pd_iret C hE rfl rfl rfl ⟨by decide, by decide⟩ dL_send_26

def fn_L_length (I : pd_I) (J : pd_J) (Z : pd_R) (n : Nat) (p1 : Int32) (p2 : Int32) : Option (Int32 × pd_J) := pd_bc (fn_X11_length I Z n p1 p2) (fun ze => if ze = "java/lang/IndexOutOfBoundsException" then some (1, J) else (if ze = "java/lang/IllegalArgumentException" then some (2, J) else (none))) fun zr1 => pd_gd (pd_in 0 1) (pd_let (pd_uj J 132 (0 : Int32).toNatClampNeg zr1.toInt64) fun zJ1 => some (0, zJ1))
set_option maxRecDepth 100000 in
set_option maxHeartbeats 4000000 in
theorem em_L_length {l : Launch} {D : va_G} {tc : Nat → ClassId} (hst : l.stackTraces = false) {I : pd_I} {J : pd_J} {Z : pd_R} {n : Nat} {p1 : Int32} {p2 : Int32} (hn : 133 ≤ n)  {out : Int32 × pd_J} (hF : fn_L_length I J Z n p1 p2 = some out) :
    pd_M l D tc yL_length (.codeWith yL_length cL_length 5 (Option.some Jvm.ClassFile.FieldType.int) [(0, 10, 13, 13), (0, 10, 17, 15)]) rm_L_length [.ref 0, .int p1, .int p2, .ref 132] I J (pd_RF Z) n (.ok (some (.int out.1))) I out.2 (pd_RF Z) n := by
  refine pd_openH (own := "PathDecoderLaw") (ls0 := [some (.ref 0), some (.int p1), some (.int p2), some (.ref 132), none]) (by decide) rfl (Nat.le_of_ble_eq_true rfl) rfl rfl hst (fun cx hl hD htc C hE htab => ?_)
  subst hl hD htc
  unfold fn_L_length at hF
  refine pd_aload_n C dL_length_0 rfl rfl ?_
  refine pd_iconst (v := 0) C dL_length_1 (by decide) ?_
  refine pd_aload_n C dL_length_2 rfl rfl ?_
  refine pd_iload_n C dL_length_3 rfl rfl ?_
  refine pd_iload_n C dL_length_4 rfl rfl ?_
  rcases pd_bc_some hF with ⟨e9, zh1, hF⟩ | ⟨zr1, zh1, hF⟩
  · have hF := hF
    by_cases he0 : e9 = "java/lang/IndexOutOfBoundsException"
    · subst he0
      have hF := pd_t rfl hF
      refine pd_callVX C [.int p1, .int p2] [.int 0, .ref 132] (em_X11_length (pd_C_st C) hn  zh1) mw_X11_length wd_4_0 rfl (by decide) (pd_lt (by decide) hn) sh_0 ⟨by decide, by decide, by decide, by decide⟩ rfl (Nat.le_of_ble_eq_true rfl) dL_length_5 ?_
      refine pd_catch0 (hh := [(0, 10, 13, 13), (0, 10, 17, 15)]) (pre := []) (x := (0, 10, 13, 13)) (suf := [(0, 10, 17, 15)]) (i := 4) (ls' := [some (.ref 0), some (.int p1), some (.int p2), some (.ref 132), none]) C htab rfl (fun z hz => absurd hz List.not_mem_nil) (by decide) (by decide) wd_2_82 (by decide) (Or.inl ⟨dL_length_13, rfl⟩) (Nat.le_of_ble_eq_true rfl) rfl rfl ?_
      refine pd_iconst (v := 1) C dL_length_15 (by decide) ?_
      cases hF
      exact pd_iret C hE rfl rfl rfl ⟨by decide, by decide⟩ dL_length_16
    have hF := pd_f he0 hF
    by_cases he1 : e9 = "java/lang/IllegalArgumentException"
    · subst he1
      have hF := pd_t rfl hF
      refine pd_callVX C [.int p1, .int p2] [.int 0, .ref 132] (em_X11_length (pd_C_st C) hn  zh1) mw_X11_length wd_4_0 rfl (by decide) (pd_lt (by decide) hn) sh_0 ⟨by decide, by decide, by decide, by decide⟩ rfl (Nat.le_of_ble_eq_true rfl) dL_length_5 ?_
      refine pd_catch0 (hh := [(0, 10, 13, 13), (0, 10, 17, 15)]) (pre := [(0, 10, 13, 13)]) (x := (0, 10, 17, 15)) (suf := []) (i := 4) (ls' := [some (.ref 0), some (.int p1), some (.int p2), some (.ref 132), none]) C htab rfl (List.forall_mem_cons.mpr ⟨⟨by decide, "java/lang/IndexOutOfBoundsException", wd_2_82, by decide⟩, (fun _ h => absurd h List.not_mem_nil)⟩) (by decide) (by decide) wd_2_83 (by decide) (Or.inl ⟨dL_length_17, rfl⟩) (Nat.le_of_ble_eq_true rfl) rfl rfl ?_
      refine pd_iconst (v := 2) C dL_length_19 (by decide) ?_
      cases hF
      exact pd_iret C hE rfl rfl rfl ⟨by decide, by decide⟩ dL_length_20
    have hF := pd_f he1 hF
    cases hF
  refine pd_callV C [.int p1, .int p2] [.int 0, .ref 132] (em_X11_length (pd_C_st C) hn  zh1) mw_X11_length wd_4_0 rfl (by decide) (pd_lt (by decide) hn) sh_0 ⟨by decide, by decide, by decide, by decide⟩ rfl (Nat.le_of_ble_eq_true rfl) pd_oldL_same (fun _ _ => pd_old_same _) dL_length_5 (stk' := [.int zr1, .int 0, .ref 132]) rfl ?_
  refine pd_i2l C dL_length_8 ?_
  obtain ⟨zg1, hF⟩ := pd_gd_some hF
  refine pd_last C (pd_lt (by decide) hn) sh_132 zg1 dL_length_9 ?_
  refine pd_memJ (fun zJ1 hzJ1 => ?_)
  have hF := pd_let_at hF hzJ1
  refine pd_goto (tgt := 21) C dL_length_10 (by decide) ?_
  refine pd_iconst (v := 0) C dL_length_21 (by decide) ?_
  cases hF
  exact pd_iret C hE rfl rfl rfl ⟨by decide, by decide⟩ dL_length_22

def fn_L_cost (I : pd_I) (J : pd_J) (Z : pd_R) (n : Nat) (p1 : Int32) (p2 : Int32) (p3 : Int32) (p4 : Int32) : Option (Int32 × pd_I × pd_J) := pd_bc2 (fn_X11_cost I Z n p1 p2 p3 p4) (fun ze => if ze = "java/lang/IndexOutOfBoundsException" then some (1, I, J) else (if ze = "java/lang/IllegalArgumentException" then some (2, I, J) else (none))) fun zr1 zI1 => pd_gd (pd_in 0 1) (pd_let (pd_uj J 132 (0 : Int32).toNatClampNeg zr1.toInt64) fun zJ1 => some (0, zI1, zJ1))
set_option maxRecDepth 100000 in
set_option maxHeartbeats 4000000 in
theorem em_L_cost {l : Launch} {D : va_G} {tc : Nat → ClassId} (hst : l.stackTraces = false) {I : pd_I} {J : pd_J} {Z : pd_R} {n : Nat} {p1 : Int32} {p2 : Int32} {p3 : Int32} {p4 : Int32} (hn : 133 ≤ n)  {out : Int32 × pd_I × pd_J} (hF : fn_L_cost I J Z n p1 p2 p3 p4 = some out) :
    pd_M l D tc yL_cost (.codeWith yL_cost cL_cost 7 (Option.some Jvm.ClassFile.FieldType.int) [(0, 14, 17, 13), (0, 14, 21, 15)]) rm_L_cost [.ref 0, .int p1, .int p2, .int p3, .int p4, .ref 132] I J (pd_RF Z) n (.ok (some (.int out.1))) out.2.1 out.2.2 (pd_RF Z) n := by
  refine pd_openH (own := "PathDecoderLaw") (ls0 := [some (.ref 0), some (.int p1), some (.int p2), some (.int p3), some (.int p4), some (.ref 132), none]) (by decide) rfl (Nat.le_of_ble_eq_true rfl) rfl rfl hst (fun cx hl hD htc C hE htab => ?_)
  subst hl hD htc
  unfold fn_L_cost at hF
  refine pd_aload C dL_cost_0 rfl ?_
  refine pd_iconst (v := 0) C dL_cost_2 (by decide) ?_
  refine pd_aload_n C dL_cost_3 rfl rfl ?_
  refine pd_iload_n C dL_cost_4 rfl rfl ?_
  refine pd_iload_n C dL_cost_5 rfl rfl ?_
  refine pd_iload_n C dL_cost_6 rfl rfl ?_
  refine pd_iload C dL_cost_7 rfl ?_
  rcases pd_bc2_some hF with ⟨e9, zh1, hF⟩ | ⟨zr1, zI1, zh1, hF⟩
  · have hF := hF
    by_cases he0 : e9 = "java/lang/IndexOutOfBoundsException"
    · subst he0
      have hF := pd_t rfl hF
      refine pd_callVX C [.int p1, .int p2, .int p3, .int p4] [.int 0, .ref 132] (em_X11_cost (pd_C_st C) hn  zh1) mw_X11_cost wd_4_7 rfl (by decide) (pd_lt (by decide) hn) sh_0 ⟨by decide, by decide, by decide, by decide⟩ rfl (Nat.le_of_ble_eq_true rfl) dL_cost_9 ?_
      refine pd_catch0 (hh := [(0, 14, 17, 13), (0, 14, 21, 15)]) (pre := []) (x := (0, 14, 17, 13)) (suf := [(0, 14, 21, 15)]) (i := 6) (ls' := [some (.ref 0), some (.int p1), some (.int p2), some (.int p3), some (.int p4), some (.ref 132), none]) C htab rfl (fun z hz => absurd hz List.not_mem_nil) (by decide) (by decide) wd_2_82 (by decide) (Or.inl ⟨dL_cost_17, rfl⟩) (Nat.le_of_ble_eq_true rfl) rfl rfl ?_
      refine pd_iconst (v := 1) C dL_cost_19 (by decide) ?_
      cases hF
      exact pd_iret C hE rfl rfl rfl ⟨by decide, by decide⟩ dL_cost_20
    have hF := pd_f he0 hF
    by_cases he1 : e9 = "java/lang/IllegalArgumentException"
    · subst he1
      have hF := pd_t rfl hF
      refine pd_callVX C [.int p1, .int p2, .int p3, .int p4] [.int 0, .ref 132] (em_X11_cost (pd_C_st C) hn  zh1) mw_X11_cost wd_4_7 rfl (by decide) (pd_lt (by decide) hn) sh_0 ⟨by decide, by decide, by decide, by decide⟩ rfl (Nat.le_of_ble_eq_true rfl) dL_cost_9 ?_
      refine pd_catch0 (hh := [(0, 14, 17, 13), (0, 14, 21, 15)]) (pre := [(0, 14, 17, 13)]) (x := (0, 14, 21, 15)) (suf := []) (i := 6) (ls' := [some (.ref 0), some (.int p1), some (.int p2), some (.int p3), some (.int p4), some (.ref 132), none]) C htab rfl (List.forall_mem_cons.mpr ⟨⟨by decide, "java/lang/IndexOutOfBoundsException", wd_2_82, by decide⟩, (fun _ h => absurd h List.not_mem_nil)⟩) (by decide) (by decide) wd_2_83 (by decide) (Or.inl ⟨dL_cost_21, rfl⟩) (Nat.le_of_ble_eq_true rfl) rfl rfl ?_
      refine pd_iconst (v := 2) C dL_cost_23 (by decide) ?_
      cases hF
      exact pd_iret C hE rfl rfl rfl ⟨by decide, by decide⟩ dL_cost_24
    have hF := pd_f he1 hF
    cases hF
  refine pd_callV C [.int p1, .int p2, .int p3, .int p4] [.int 0, .ref 132] (em_X11_cost (pd_C_st C) hn  zh1) mw_X11_cost wd_4_7 rfl (by decide) (pd_lt (by decide) hn) sh_0 ⟨by decide, by decide, by decide, by decide⟩ rfl (Nat.le_of_ble_eq_true rfl) pd_oldL_same (fun _ _ => pd_old_same _) dL_cost_9 (stk' := [.int zr1, .int 0, .ref 132]) rfl ?_
  refine pd_i2l C dL_cost_12 ?_
  obtain ⟨zg1, hF⟩ := pd_gd_some hF
  refine pd_last C (pd_lt (by decide) hn) sh_132 zg1 dL_cost_13 ?_
  refine pd_memJ (fun zJ1 hzJ1 => ?_)
  have hF := pd_let_at hF hzJ1
  refine pd_goto (tgt := 25) C dL_cost_14 (by decide) ?_
  refine pd_iconst (v := 0) C dL_cost_25 (by decide) ?_
  cases hF
  exact pd_iret C hE rfl rfl rfl ⟨by decide, by decide⟩ dL_cost_26

def fn_L_best (I : pd_I) (J : pd_J) (Z : pd_R) (n : Nat) (p1 : Int32) (p2 : Int32) (p3 : Int32) : Option (Int32 × pd_I × pd_J × pd_R) := pd_bc3 (fn_X11_best I Z n p1 p2 p3) (fun ze => if ze = "java/lang/IndexOutOfBoundsException" then some (1, I, J, Z) else (if ze = "java/util/NoSuchElementException" then some (2, I, J, Z) else (if ze = "java/lang/IllegalArgumentException" then some (3, I, J, Z) else (none)))) fun zr1 zI1 zZ1 => pd_gd (pd_in 0 1) (pd_let (pd_uj J 132 (0 : Int32).toNatClampNeg zr1.toInt64) fun zJ1 => some (0, zI1, zJ1, zZ1))
set_option maxRecDepth 100000 in
set_option maxHeartbeats 4000000 in
theorem em_L_best {l : Launch} {D : va_G} {tc : Nat → ClassId} (hst : l.stackTraces = false) {I : pd_I} {J : pd_J} {Z : pd_R} {n : Nat} {p1 : Int32} {p2 : Int32} {p3 : Int32} (hn : 133 ≤ n)  {out : Int32 × pd_I × pd_J × pd_R} (hF : fn_L_best I J Z n p1 p2 p3 = some out) :
    pd_M l D tc yL_best (.codeWith yL_best cL_best 6 (Option.some Jvm.ClassFile.FieldType.int) [(0, 12, 15, 13), (0, 12, 19, 21), (0, 12, 23, 15)]) rm_L_best [.ref 0, .int p1, .int p2, .int p3, .ref 132] I J (pd_RF Z) n (.ok (some (.int out.1))) out.2.1 out.2.2.1 (pd_RF out.2.2.2) n := by
  refine pd_openH (own := "PathDecoderLaw") (ls0 := [some (.ref 0), some (.int p1), some (.int p2), some (.int p3), some (.ref 132), none]) (by decide) rfl (Nat.le_of_ble_eq_true rfl) rfl rfl hst (fun cx hl hD htc C hE htab => ?_)
  subst hl hD htc
  unfold fn_L_best at hF
  refine pd_aload C dL_best_0 rfl ?_
  refine pd_iconst (v := 0) C dL_best_2 (by decide) ?_
  refine pd_aload_n C dL_best_3 rfl rfl ?_
  refine pd_iload_n C dL_best_4 rfl rfl ?_
  refine pd_iload_n C dL_best_5 rfl rfl ?_
  refine pd_iload_n C dL_best_6 rfl rfl ?_
  rcases pd_bc3_some hF with ⟨e9, zh1, hF⟩ | ⟨zr1, zI1, zZ1, zh1, hF⟩
  · have hF := hF
    by_cases he0 : e9 = "java/lang/IndexOutOfBoundsException"
    · subst he0
      have hF := pd_t rfl hF
      refine pd_callVX C [.int p1, .int p2, .int p3] [.int 0, .ref 132] (em_X11_best (pd_C_st C) hn  zh1) mw_X11_best wd_4_27 rfl (by decide) (pd_lt (by decide) hn) sh_0 ⟨by decide, by decide, by decide, by decide⟩ rfl (Nat.le_of_ble_eq_true rfl) dL_best_7 ?_
      refine pd_catch0 (hh := [(0, 12, 15, 13), (0, 12, 19, 21), (0, 12, 23, 15)]) (pre := []) (x := (0, 12, 15, 13)) (suf := [(0, 12, 19, 21), (0, 12, 23, 15)]) (i := 5) (ls' := [some (.ref 0), some (.int p1), some (.int p2), some (.int p3), some (.ref 132), none]) C htab rfl (fun z hz => absurd hz List.not_mem_nil) (by decide) (by decide) wd_2_82 (by decide) (Or.inl ⟨dL_best_15, rfl⟩) (Nat.le_of_ble_eq_true rfl) rfl rfl ?_
      refine pd_iconst (v := 1) C dL_best_17 (by decide) ?_
      cases hF
      exact pd_iret C hE rfl rfl rfl ⟨by decide, by decide⟩ dL_best_18
    have hF := pd_f he0 hF
    by_cases he1 : e9 = "java/util/NoSuchElementException"
    · subst he1
      have hF := pd_t rfl hF
      refine pd_callVX C [.int p1, .int p2, .int p3] [.int 0, .ref 132] (em_X11_best (pd_C_st C) hn  zh1) mw_X11_best wd_4_27 rfl (by decide) (pd_lt (by decide) hn) sh_0 ⟨by decide, by decide, by decide, by decide⟩ rfl (Nat.le_of_ble_eq_true rfl) dL_best_7 ?_
      refine pd_catch0 (hh := [(0, 12, 15, 13), (0, 12, 19, 21), (0, 12, 23, 15)]) (pre := [(0, 12, 15, 13)]) (x := (0, 12, 19, 21)) (suf := [(0, 12, 23, 15)]) (i := 5) (ls' := [some (.ref 0), some (.int p1), some (.int p2), some (.int p3), some (.ref 132), none]) C htab rfl (List.forall_mem_cons.mpr ⟨⟨by decide, "java/lang/IndexOutOfBoundsException", wd_2_82, by decide⟩, (fun _ h => absurd h List.not_mem_nil)⟩) (by decide) (by decide) wd_2_195 (by decide) (Or.inl ⟨dL_best_19, rfl⟩) (Nat.le_of_ble_eq_true rfl) rfl rfl ?_
      refine pd_iconst (v := 2) C dL_best_21 (by decide) ?_
      cases hF
      exact pd_iret C hE rfl rfl rfl ⟨by decide, by decide⟩ dL_best_22
    have hF := pd_f he1 hF
    by_cases he2 : e9 = "java/lang/IllegalArgumentException"
    · subst he2
      have hF := pd_t rfl hF
      refine pd_callVX C [.int p1, .int p2, .int p3] [.int 0, .ref 132] (em_X11_best (pd_C_st C) hn  zh1) mw_X11_best wd_4_27 rfl (by decide) (pd_lt (by decide) hn) sh_0 ⟨by decide, by decide, by decide, by decide⟩ rfl (Nat.le_of_ble_eq_true rfl) dL_best_7 ?_
      refine pd_catch0 (hh := [(0, 12, 15, 13), (0, 12, 19, 21), (0, 12, 23, 15)]) (pre := [(0, 12, 15, 13), (0, 12, 19, 21)]) (x := (0, 12, 23, 15)) (suf := []) (i := 5) (ls' := [some (.ref 0), some (.int p1), some (.int p2), some (.int p3), some (.ref 132), none]) C htab rfl (List.forall_mem_cons.mpr ⟨⟨by decide, "java/lang/IndexOutOfBoundsException", wd_2_82, by decide⟩, (List.forall_mem_cons.mpr ⟨⟨by decide, "java/util/NoSuchElementException", wd_2_195, by decide⟩, (fun _ h => absurd h List.not_mem_nil)⟩)⟩) (by decide) (by decide) wd_2_83 (by decide) (Or.inl ⟨dL_best_23, rfl⟩) (Nat.le_of_ble_eq_true rfl) rfl rfl ?_
      refine pd_iconst (v := 3) C dL_best_25 (by decide) ?_
      cases hF
      exact pd_iret C hE rfl rfl rfl ⟨by decide, by decide⟩ dL_best_26
    have hF := pd_f he2 hF
    cases hF
  refine pd_callV C [.int p1, .int p2, .int p3] [.int 0, .ref 132] (em_X11_best (pd_C_st C) hn  zh1) mw_X11_best wd_4_27 rfl (by decide) (pd_lt (by decide) hn) sh_0 ⟨by decide, by decide, by decide, by decide⟩ rfl (Nat.le_of_ble_eq_true rfl) pd_oldL_same (fun _ _ => pd_old_same _) dL_best_7 (stk' := [.int zr1, .int 0, .ref 132]) rfl ?_
  refine pd_i2l C dL_best_10 ?_
  obtain ⟨zg1, hF⟩ := pd_gd_some hF
  refine pd_last C (pd_lt (by decide) hn) sh_132 zg1 dL_best_11 ?_
  refine pd_memJ (fun zJ1 hzJ1 => ?_)
  have hF := pd_let_at hF hzJ1
  refine pd_goto (tgt := 27) C dL_best_12 (by decide) ?_
  refine pd_iconst (v := 0) C dL_best_27 (by decide) ?_
  cases hF
  exact pd_iret C hE rfl rfl rfl ⟨by decide, by decide⟩ dL_best_28

def fn_L_list (I : pd_I) (J : pd_J) (Z : pd_R) (n : Nat) (p1 : Int32) (p2 : Int32) (p3 : Int32) (p4 : Int32) : Option (Int32 × pd_I × pd_J × pd_R) := pd_bc3 (fn_X11_list I Z n p1 p2 p3 p4) (fun ze => if ze = "java/lang/IndexOutOfBoundsException" then some (1, I, J, Z) else (if ze = "java/util/NoSuchElementException" then some (2, I, J, Z) else (if ze = "java/lang/IllegalArgumentException" then some (3, I, J, Z) else (none)))) fun zr1 zI1 zZ1 => pd_gd (pd_in 0 1) (pd_let (pd_uj J 132 (0 : Int32).toNatClampNeg zr1.toInt64) fun zJ1 => some (0, zI1, zJ1, zZ1))
set_option maxRecDepth 100000 in
set_option maxHeartbeats 4000000 in
theorem em_L_list {l : Launch} {D : va_G} {tc : Nat → ClassId} (hst : l.stackTraces = false) {I : pd_I} {J : pd_J} {Z : pd_R} {n : Nat} {p1 : Int32} {p2 : Int32} {p3 : Int32} {p4 : Int32} (hn : 133 ≤ n)  {out : Int32 × pd_I × pd_J × pd_R} (hF : fn_L_list I J Z n p1 p2 p3 p4 = some out) :
    pd_M l D tc yL_list (.codeWith yL_list cL_list 7 (Option.some Jvm.ClassFile.FieldType.int) [(0, 14, 17, 13), (0, 14, 21, 21), (0, 14, 25, 15)]) rm_L_list [.ref 0, .int p1, .int p2, .int p3, .int p4, .ref 132] I J (pd_RF Z) n (.ok (some (.int out.1))) out.2.1 out.2.2.1 (pd_RF out.2.2.2) n := by
  refine pd_openH (own := "PathDecoderLaw") (ls0 := [some (.ref 0), some (.int p1), some (.int p2), some (.int p3), some (.int p4), some (.ref 132), none]) (by decide) rfl (Nat.le_of_ble_eq_true rfl) rfl rfl hst (fun cx hl hD htc C hE htab => ?_)
  subst hl hD htc
  unfold fn_L_list at hF
  refine pd_aload C dL_list_0 rfl ?_
  refine pd_iconst (v := 0) C dL_list_2 (by decide) ?_
  refine pd_aload_n C dL_list_3 rfl rfl ?_
  refine pd_iload_n C dL_list_4 rfl rfl ?_
  refine pd_iload_n C dL_list_5 rfl rfl ?_
  refine pd_iload_n C dL_list_6 rfl rfl ?_
  refine pd_iload C dL_list_7 rfl ?_
  rcases pd_bc3_some hF with ⟨e9, zh1, hF⟩ | ⟨zr1, zI1, zZ1, zh1, hF⟩
  · have hF := hF
    by_cases he0 : e9 = "java/lang/IndexOutOfBoundsException"
    · subst he0
      have hF := pd_t rfl hF
      refine pd_callVX C [.int p1, .int p2, .int p3, .int p4] [.int 0, .ref 132] (em_X11_list (pd_C_st C) hn  zh1) mw_X11_list wd_4_138 rfl (by decide) (pd_lt (by decide) hn) sh_0 ⟨by decide, by decide, by decide, by decide⟩ rfl (Nat.le_of_ble_eq_true rfl) dL_list_9 ?_
      refine pd_catch0 (hh := [(0, 14, 17, 13), (0, 14, 21, 21), (0, 14, 25, 15)]) (pre := []) (x := (0, 14, 17, 13)) (suf := [(0, 14, 21, 21), (0, 14, 25, 15)]) (i := 6) (ls' := [some (.ref 0), some (.int p1), some (.int p2), some (.int p3), some (.int p4), some (.ref 132), none]) C htab rfl (fun z hz => absurd hz List.not_mem_nil) (by decide) (by decide) wd_2_82 (by decide) (Or.inl ⟨dL_list_17, rfl⟩) (Nat.le_of_ble_eq_true rfl) rfl rfl ?_
      refine pd_iconst (v := 1) C dL_list_19 (by decide) ?_
      cases hF
      exact pd_iret C hE rfl rfl rfl ⟨by decide, by decide⟩ dL_list_20
    have hF := pd_f he0 hF
    by_cases he1 : e9 = "java/util/NoSuchElementException"
    · subst he1
      have hF := pd_t rfl hF
      refine pd_callVX C [.int p1, .int p2, .int p3, .int p4] [.int 0, .ref 132] (em_X11_list (pd_C_st C) hn  zh1) mw_X11_list wd_4_138 rfl (by decide) (pd_lt (by decide) hn) sh_0 ⟨by decide, by decide, by decide, by decide⟩ rfl (Nat.le_of_ble_eq_true rfl) dL_list_9 ?_
      refine pd_catch0 (hh := [(0, 14, 17, 13), (0, 14, 21, 21), (0, 14, 25, 15)]) (pre := [(0, 14, 17, 13)]) (x := (0, 14, 21, 21)) (suf := [(0, 14, 25, 15)]) (i := 6) (ls' := [some (.ref 0), some (.int p1), some (.int p2), some (.int p3), some (.int p4), some (.ref 132), none]) C htab rfl (List.forall_mem_cons.mpr ⟨⟨by decide, "java/lang/IndexOutOfBoundsException", wd_2_82, by decide⟩, (fun _ h => absurd h List.not_mem_nil)⟩) (by decide) (by decide) wd_2_195 (by decide) (Or.inl ⟨dL_list_21, rfl⟩) (Nat.le_of_ble_eq_true rfl) rfl rfl ?_
      refine pd_iconst (v := 2) C dL_list_23 (by decide) ?_
      cases hF
      exact pd_iret C hE rfl rfl rfl ⟨by decide, by decide⟩ dL_list_24
    have hF := pd_f he1 hF
    by_cases he2 : e9 = "java/lang/IllegalArgumentException"
    · subst he2
      have hF := pd_t rfl hF
      refine pd_callVX C [.int p1, .int p2, .int p3, .int p4] [.int 0, .ref 132] (em_X11_list (pd_C_st C) hn  zh1) mw_X11_list wd_4_138 rfl (by decide) (pd_lt (by decide) hn) sh_0 ⟨by decide, by decide, by decide, by decide⟩ rfl (Nat.le_of_ble_eq_true rfl) dL_list_9 ?_
      refine pd_catch0 (hh := [(0, 14, 17, 13), (0, 14, 21, 21), (0, 14, 25, 15)]) (pre := [(0, 14, 17, 13), (0, 14, 21, 21)]) (x := (0, 14, 25, 15)) (suf := []) (i := 6) (ls' := [some (.ref 0), some (.int p1), some (.int p2), some (.int p3), some (.int p4), some (.ref 132), none]) C htab rfl (List.forall_mem_cons.mpr ⟨⟨by decide, "java/lang/IndexOutOfBoundsException", wd_2_82, by decide⟩, (List.forall_mem_cons.mpr ⟨⟨by decide, "java/util/NoSuchElementException", wd_2_195, by decide⟩, (fun _ h => absurd h List.not_mem_nil)⟩)⟩) (by decide) (by decide) wd_2_83 (by decide) (Or.inl ⟨dL_list_25, rfl⟩) (Nat.le_of_ble_eq_true rfl) rfl rfl ?_
      refine pd_iconst (v := 3) C dL_list_27 (by decide) ?_
      cases hF
      exact pd_iret C hE rfl rfl rfl ⟨by decide, by decide⟩ dL_list_28
    have hF := pd_f he2 hF
    cases hF
  refine pd_callV C [.int p1, .int p2, .int p3, .int p4] [.int 0, .ref 132] (em_X11_list (pd_C_st C) hn  zh1) mw_X11_list wd_4_138 rfl (by decide) (pd_lt (by decide) hn) sh_0 ⟨by decide, by decide, by decide, by decide⟩ rfl (Nat.le_of_ble_eq_true rfl) pd_oldL_same (fun _ _ => pd_old_same _) dL_list_9 (stk' := [.int zr1, .int 0, .ref 132]) rfl ?_
  refine pd_i2l C dL_list_12 ?_
  obtain ⟨zg1, hF⟩ := pd_gd_some hF
  refine pd_last C (pd_lt (by decide) hn) sh_132 zg1 dL_list_13 ?_
  refine pd_memJ (fun zJ1 hzJ1 => ?_)
  have hF := pd_let_at hF hzJ1
  refine pd_goto (tgt := 29) C dL_list_14 (by decide) ?_
  refine pd_iconst (v := 0) C dL_list_29 (by decide) ?_
  cases hF
  exact pd_iret C hE rfl rfl rfl ⟨by decide, by decide⟩ dL_list_30

def fn_L_few (I : pd_I) (J : pd_J) (Z : pd_R) (n : Nat) (p1 : Int32) (p2 : Int32) (p3 : Int32) (p4 : Int32) : Option (Int32 × pd_I × pd_J × pd_R) := pd_bc3 (fn_X11_few I Z n p1 p2 p3 p4) (fun ze => if ze = "java/lang/IndexOutOfBoundsException" then some (1, I, J, Z) else (if ze = "java/util/NoSuchElementException" then some (2, I, J, Z) else (if ze = "java/lang/IllegalArgumentException" then some (3, I, J, Z) else (none)))) fun zr1 zI1 zZ1 => pd_gd (pd_in 0 1) (pd_let (pd_uj J 132 (0 : Int32).toNatClampNeg zr1.toInt64) fun zJ1 => some (0, zI1, zJ1, zZ1))
set_option maxRecDepth 100000 in
set_option maxHeartbeats 4000000 in
theorem em_L_few {l : Launch} {D : va_G} {tc : Nat → ClassId} (hst : l.stackTraces = false) {I : pd_I} {J : pd_J} {Z : pd_R} {n : Nat} {p1 : Int32} {p2 : Int32} {p3 : Int32} {p4 : Int32} (hn : 133 ≤ n)  {out : Int32 × pd_I × pd_J × pd_R} (hF : fn_L_few I J Z n p1 p2 p3 p4 = some out) :
    pd_M l D tc yL_few (.codeWith yL_few cL_few 7 (Option.some Jvm.ClassFile.FieldType.int) [(0, 14, 17, 13), (0, 14, 21, 21), (0, 14, 25, 15)]) rm_L_few [.ref 0, .int p1, .int p2, .int p3, .int p4, .ref 132] I J (pd_RF Z) n (.ok (some (.int out.1))) out.2.1 out.2.2.1 (pd_RF out.2.2.2) n := by
  refine pd_openH (own := "PathDecoderLaw") (ls0 := [some (.ref 0), some (.int p1), some (.int p2), some (.int p3), some (.int p4), some (.ref 132), none]) (by decide) rfl (Nat.le_of_ble_eq_true rfl) rfl rfl hst (fun cx hl hD htc C hE htab => ?_)
  subst hl hD htc
  unfold fn_L_few at hF
  refine pd_aload C dL_few_0 rfl ?_
  refine pd_iconst (v := 0) C dL_few_2 (by decide) ?_
  refine pd_aload_n C dL_few_3 rfl rfl ?_
  refine pd_iload_n C dL_few_4 rfl rfl ?_
  refine pd_iload_n C dL_few_5 rfl rfl ?_
  refine pd_iload_n C dL_few_6 rfl rfl ?_
  refine pd_iload C dL_few_7 rfl ?_
  rcases pd_bc3_some hF with ⟨e9, zh1, hF⟩ | ⟨zr1, zI1, zZ1, zh1, hF⟩
  · have hF := hF
    by_cases he0 : e9 = "java/lang/IndexOutOfBoundsException"
    · subst he0
      have hF := pd_t rfl hF
      refine pd_callVX C [.int p1, .int p2, .int p3, .int p4] [.int 0, .ref 132] (em_X11_few (pd_C_st C) hn  zh1) mw_X11_few wd_4_146 rfl (by decide) (pd_lt (by decide) hn) sh_0 ⟨by decide, by decide, by decide, by decide⟩ rfl (Nat.le_of_ble_eq_true rfl) dL_few_9 ?_
      refine pd_catch0 (hh := [(0, 14, 17, 13), (0, 14, 21, 21), (0, 14, 25, 15)]) (pre := []) (x := (0, 14, 17, 13)) (suf := [(0, 14, 21, 21), (0, 14, 25, 15)]) (i := 6) (ls' := [some (.ref 0), some (.int p1), some (.int p2), some (.int p3), some (.int p4), some (.ref 132), none]) C htab rfl (fun z hz => absurd hz List.not_mem_nil) (by decide) (by decide) wd_2_82 (by decide) (Or.inl ⟨dL_few_17, rfl⟩) (Nat.le_of_ble_eq_true rfl) rfl rfl ?_
      refine pd_iconst (v := 1) C dL_few_19 (by decide) ?_
      cases hF
      exact pd_iret C hE rfl rfl rfl ⟨by decide, by decide⟩ dL_few_20
    have hF := pd_f he0 hF
    by_cases he1 : e9 = "java/util/NoSuchElementException"
    · subst he1
      have hF := pd_t rfl hF
      refine pd_callVX C [.int p1, .int p2, .int p3, .int p4] [.int 0, .ref 132] (em_X11_few (pd_C_st C) hn  zh1) mw_X11_few wd_4_146 rfl (by decide) (pd_lt (by decide) hn) sh_0 ⟨by decide, by decide, by decide, by decide⟩ rfl (Nat.le_of_ble_eq_true rfl) dL_few_9 ?_
      refine pd_catch0 (hh := [(0, 14, 17, 13), (0, 14, 21, 21), (0, 14, 25, 15)]) (pre := [(0, 14, 17, 13)]) (x := (0, 14, 21, 21)) (suf := [(0, 14, 25, 15)]) (i := 6) (ls' := [some (.ref 0), some (.int p1), some (.int p2), some (.int p3), some (.int p4), some (.ref 132), none]) C htab rfl (List.forall_mem_cons.mpr ⟨⟨by decide, "java/lang/IndexOutOfBoundsException", wd_2_82, by decide⟩, (fun _ h => absurd h List.not_mem_nil)⟩) (by decide) (by decide) wd_2_195 (by decide) (Or.inl ⟨dL_few_21, rfl⟩) (Nat.le_of_ble_eq_true rfl) rfl rfl ?_
      refine pd_iconst (v := 2) C dL_few_23 (by decide) ?_
      cases hF
      exact pd_iret C hE rfl rfl rfl ⟨by decide, by decide⟩ dL_few_24
    have hF := pd_f he1 hF
    by_cases he2 : e9 = "java/lang/IllegalArgumentException"
    · subst he2
      have hF := pd_t rfl hF
      refine pd_callVX C [.int p1, .int p2, .int p3, .int p4] [.int 0, .ref 132] (em_X11_few (pd_C_st C) hn  zh1) mw_X11_few wd_4_146 rfl (by decide) (pd_lt (by decide) hn) sh_0 ⟨by decide, by decide, by decide, by decide⟩ rfl (Nat.le_of_ble_eq_true rfl) dL_few_9 ?_
      refine pd_catch0 (hh := [(0, 14, 17, 13), (0, 14, 21, 21), (0, 14, 25, 15)]) (pre := [(0, 14, 17, 13), (0, 14, 21, 21)]) (x := (0, 14, 25, 15)) (suf := []) (i := 6) (ls' := [some (.ref 0), some (.int p1), some (.int p2), some (.int p3), some (.int p4), some (.ref 132), none]) C htab rfl (List.forall_mem_cons.mpr ⟨⟨by decide, "java/lang/IndexOutOfBoundsException", wd_2_82, by decide⟩, (List.forall_mem_cons.mpr ⟨⟨by decide, "java/util/NoSuchElementException", wd_2_195, by decide⟩, (fun _ h => absurd h List.not_mem_nil)⟩)⟩) (by decide) (by decide) wd_2_83 (by decide) (Or.inl ⟨dL_few_25, rfl⟩) (Nat.le_of_ble_eq_true rfl) rfl rfl ?_
      refine pd_iconst (v := 3) C dL_few_27 (by decide) ?_
      cases hF
      exact pd_iret C hE rfl rfl rfl ⟨by decide, by decide⟩ dL_few_28
    have hF := pd_f he2 hF
    cases hF
  refine pd_callV C [.int p1, .int p2, .int p3, .int p4] [.int 0, .ref 132] (em_X11_few (pd_C_st C) hn  zh1) mw_X11_few wd_4_146 rfl (by decide) (pd_lt (by decide) hn) sh_0 ⟨by decide, by decide, by decide, by decide⟩ rfl (Nat.le_of_ble_eq_true rfl) pd_oldL_same (fun _ _ => pd_old_same _) dL_few_9 (stk' := [.int zr1, .int 0, .ref 132]) rfl ?_
  refine pd_i2l C dL_few_12 ?_
  obtain ⟨zg1, hF⟩ := pd_gd_some hF
  refine pd_last C (pd_lt (by decide) hn) sh_132 zg1 dL_few_13 ?_
  refine pd_memJ (fun zJ1 hzJ1 => ?_)
  have hF := pd_let_at hF hzJ1
  refine pd_goto (tgt := 29) C dL_few_14 (by decide) ?_
  refine pd_iconst (v := 0) C dL_few_29 (by decide) ?_
  cases hF
  exact pd_iret C hE rfl rfl rfl ⟨by decide, by decide⟩ dL_few_30

def fn_L_each (I : pd_I) (J : pd_J) (Z : pd_R) (n : Nat) (p1 : Int32) (p2 : Int32) (p3 : Int32) : Option (Int32 × pd_I × pd_J × pd_R) := pd_bc3 (fn_X11_each I Z n p1 p2 p3) (fun ze => if ze = "java/lang/IndexOutOfBoundsException" then some (1, I, J, Z) else (if ze = "java/util/NoSuchElementException" then some (2, I, J, Z) else (if ze = "java/lang/IllegalArgumentException" then some (3, I, J, Z) else (none)))) fun zr1 zI1 zZ1 => pd_gd (pd_in 0 1) (pd_let (pd_uj J 132 (0 : Int32).toNatClampNeg zr1.toInt64) fun zJ1 => some (0, zI1, zJ1, zZ1))
set_option maxRecDepth 100000 in
set_option maxHeartbeats 4000000 in
theorem em_L_each {l : Launch} {D : va_G} {tc : Nat → ClassId} (hst : l.stackTraces = false) {I : pd_I} {J : pd_J} {Z : pd_R} {n : Nat} {p1 : Int32} {p2 : Int32} {p3 : Int32} (hn : 133 ≤ n)  {out : Int32 × pd_I × pd_J × pd_R} (hF : fn_L_each I J Z n p1 p2 p3 = some out) :
    pd_M l D tc yL_each (.codeWith yL_each cL_each 6 (Option.some Jvm.ClassFile.FieldType.int) [(0, 12, 15, 13), (0, 12, 19, 21), (0, 12, 23, 15)]) rm_L_each [.ref 0, .int p1, .int p2, .int p3, .ref 132] I J (pd_RF Z) n (.ok (some (.int out.1))) out.2.1 out.2.2.1 (pd_RF out.2.2.2) n := by
  refine pd_openH (own := "PathDecoderLaw") (ls0 := [some (.ref 0), some (.int p1), some (.int p2), some (.int p3), some (.ref 132), none]) (by decide) rfl (Nat.le_of_ble_eq_true rfl) rfl rfl hst (fun cx hl hD htc C hE htab => ?_)
  subst hl hD htc
  unfold fn_L_each at hF
  refine pd_aload C dL_each_0 rfl ?_
  refine pd_iconst (v := 0) C dL_each_2 (by decide) ?_
  refine pd_aload_n C dL_each_3 rfl rfl ?_
  refine pd_iload_n C dL_each_4 rfl rfl ?_
  refine pd_iload_n C dL_each_5 rfl rfl ?_
  refine pd_iload_n C dL_each_6 rfl rfl ?_
  rcases pd_bc3_some hF with ⟨e9, zh1, hF⟩ | ⟨zr1, zI1, zZ1, zh1, hF⟩
  · have hF := hF
    by_cases he0 : e9 = "java/lang/IndexOutOfBoundsException"
    · subst he0
      have hF := pd_t rfl hF
      refine pd_callVX C [.int p1, .int p2, .int p3] [.int 0, .ref 132] (em_X11_each (pd_C_st C) hn  zh1) mw_X11_each wd_4_177 rfl (by decide) (pd_lt (by decide) hn) sh_0 ⟨by decide, by decide, by decide, by decide⟩ rfl (Nat.le_of_ble_eq_true rfl) dL_each_7 ?_
      refine pd_catch0 (hh := [(0, 12, 15, 13), (0, 12, 19, 21), (0, 12, 23, 15)]) (pre := []) (x := (0, 12, 15, 13)) (suf := [(0, 12, 19, 21), (0, 12, 23, 15)]) (i := 5) (ls' := [some (.ref 0), some (.int p1), some (.int p2), some (.int p3), some (.ref 132), none]) C htab rfl (fun z hz => absurd hz List.not_mem_nil) (by decide) (by decide) wd_2_82 (by decide) (Or.inl ⟨dL_each_15, rfl⟩) (Nat.le_of_ble_eq_true rfl) rfl rfl ?_
      refine pd_iconst (v := 1) C dL_each_17 (by decide) ?_
      cases hF
      exact pd_iret C hE rfl rfl rfl ⟨by decide, by decide⟩ dL_each_18
    have hF := pd_f he0 hF
    by_cases he1 : e9 = "java/util/NoSuchElementException"
    · subst he1
      have hF := pd_t rfl hF
      refine pd_callVX C [.int p1, .int p2, .int p3] [.int 0, .ref 132] (em_X11_each (pd_C_st C) hn  zh1) mw_X11_each wd_4_177 rfl (by decide) (pd_lt (by decide) hn) sh_0 ⟨by decide, by decide, by decide, by decide⟩ rfl (Nat.le_of_ble_eq_true rfl) dL_each_7 ?_
      refine pd_catch0 (hh := [(0, 12, 15, 13), (0, 12, 19, 21), (0, 12, 23, 15)]) (pre := [(0, 12, 15, 13)]) (x := (0, 12, 19, 21)) (suf := [(0, 12, 23, 15)]) (i := 5) (ls' := [some (.ref 0), some (.int p1), some (.int p2), some (.int p3), some (.ref 132), none]) C htab rfl (List.forall_mem_cons.mpr ⟨⟨by decide, "java/lang/IndexOutOfBoundsException", wd_2_82, by decide⟩, (fun _ h => absurd h List.not_mem_nil)⟩) (by decide) (by decide) wd_2_195 (by decide) (Or.inl ⟨dL_each_19, rfl⟩) (Nat.le_of_ble_eq_true rfl) rfl rfl ?_
      refine pd_iconst (v := 2) C dL_each_21 (by decide) ?_
      cases hF
      exact pd_iret C hE rfl rfl rfl ⟨by decide, by decide⟩ dL_each_22
    have hF := pd_f he1 hF
    by_cases he2 : e9 = "java/lang/IllegalArgumentException"
    · subst he2
      have hF := pd_t rfl hF
      refine pd_callVX C [.int p1, .int p2, .int p3] [.int 0, .ref 132] (em_X11_each (pd_C_st C) hn  zh1) mw_X11_each wd_4_177 rfl (by decide) (pd_lt (by decide) hn) sh_0 ⟨by decide, by decide, by decide, by decide⟩ rfl (Nat.le_of_ble_eq_true rfl) dL_each_7 ?_
      refine pd_catch0 (hh := [(0, 12, 15, 13), (0, 12, 19, 21), (0, 12, 23, 15)]) (pre := [(0, 12, 15, 13), (0, 12, 19, 21)]) (x := (0, 12, 23, 15)) (suf := []) (i := 5) (ls' := [some (.ref 0), some (.int p1), some (.int p2), some (.int p3), some (.ref 132), none]) C htab rfl (List.forall_mem_cons.mpr ⟨⟨by decide, "java/lang/IndexOutOfBoundsException", wd_2_82, by decide⟩, (List.forall_mem_cons.mpr ⟨⟨by decide, "java/util/NoSuchElementException", wd_2_195, by decide⟩, (fun _ h => absurd h List.not_mem_nil)⟩)⟩) (by decide) (by decide) wd_2_83 (by decide) (Or.inl ⟨dL_each_23, rfl⟩) (Nat.le_of_ble_eq_true rfl) rfl rfl ?_
      refine pd_iconst (v := 3) C dL_each_25 (by decide) ?_
      cases hF
      exact pd_iret C hE rfl rfl rfl ⟨by decide, by decide⟩ dL_each_26
    have hF := pd_f he2 hF
    cases hF
  refine pd_callV C [.int p1, .int p2, .int p3] [.int 0, .ref 132] (em_X11_each (pd_C_st C) hn  zh1) mw_X11_each wd_4_177 rfl (by decide) (pd_lt (by decide) hn) sh_0 ⟨by decide, by decide, by decide, by decide⟩ rfl (Nat.le_of_ble_eq_true rfl) pd_oldL_same (fun _ _ => pd_old_same _) dL_each_7 (stk' := [.int zr1, .int 0, .ref 132]) rfl ?_
  refine pd_i2l C dL_each_10 ?_
  obtain ⟨zg1, hF⟩ := pd_gd_some hF
  refine pd_last C (pd_lt (by decide) hn) sh_132 zg1 dL_each_11 ?_
  refine pd_memJ (fun zJ1 hzJ1 => ?_)
  have hF := pd_let_at hF hzJ1
  refine pd_goto (tgt := 27) C dL_each_12 (by decide) ?_
  refine pd_iconst (v := 0) C dL_each_27 (by decide) ?_
  cases hF
  exact pd_iret C hE rfl rfl rfl ⟨by decide, by decide⟩ dL_each_28

def fn_L_talk (I : pd_I) (J : pd_J) (Z : pd_R) (n : Nat) (p1 : Int32) (p2 : Int32) (p3 : Int32) (p4 : Int32) : Option (Int32 × pd_I × pd_J × pd_R) := pd_bc3 (fn_X11_talk I Z n p1 p2 p3 p4) (fun ze => if ze = "java/lang/IndexOutOfBoundsException" then some (1, I, J, Z) else (if ze = "java/util/NoSuchElementException" then some (2, I, J, Z) else (if ze = "java/lang/IllegalArgumentException" then some (3, I, J, Z) else (none)))) fun zr1 zI1 zZ1 => pd_gd (pd_in 0 1) (pd_let (pd_uj J 132 (0 : Int32).toNatClampNeg zr1.toInt64) fun zJ1 => some (0, zI1, zJ1, zZ1))
set_option maxRecDepth 100000 in
set_option maxHeartbeats 4000000 in
theorem em_L_talk {l : Launch} {D : va_G} {tc : Nat → ClassId} (hst : l.stackTraces = false) {I : pd_I} {J : pd_J} {Z : pd_R} {n : Nat} {p1 : Int32} {p2 : Int32} {p3 : Int32} {p4 : Int32} (hn : 133 ≤ n)  {out : Int32 × pd_I × pd_J × pd_R} (hF : fn_L_talk I J Z n p1 p2 p3 p4 = some out) :
    pd_M l D tc yL_talk (.codeWith yL_talk cL_talk 7 (Option.some Jvm.ClassFile.FieldType.int) [(0, 14, 17, 13), (0, 14, 21, 21), (0, 14, 25, 15)]) rm_L_talk [.ref 0, .int p1, .int p2, .int p3, .int p4, .ref 132] I J (pd_RF Z) n (.ok (some (.int out.1))) out.2.1 out.2.2.1 (pd_RF out.2.2.2) n := by
  refine pd_openH (own := "PathDecoderLaw") (ls0 := [some (.ref 0), some (.int p1), some (.int p2), some (.int p3), some (.int p4), some (.ref 132), none]) (by decide) rfl (Nat.le_of_ble_eq_true rfl) rfl rfl hst (fun cx hl hD htc C hE htab => ?_)
  subst hl hD htc
  unfold fn_L_talk at hF
  refine pd_aload C dL_talk_0 rfl ?_
  refine pd_iconst (v := 0) C dL_talk_2 (by decide) ?_
  refine pd_aload_n C dL_talk_3 rfl rfl ?_
  refine pd_iload_n C dL_talk_4 rfl rfl ?_
  refine pd_iload_n C dL_talk_5 rfl rfl ?_
  refine pd_iload_n C dL_talk_6 rfl rfl ?_
  refine pd_iload C dL_talk_7 rfl ?_
  rcases pd_bc3_some hF with ⟨e9, zh1, hF⟩ | ⟨zr1, zI1, zZ1, zh1, hF⟩
  · have hF := hF
    by_cases he0 : e9 = "java/lang/IndexOutOfBoundsException"
    · subst he0
      have hF := pd_t rfl hF
      refine pd_callVX C [.int p1, .int p2, .int p3, .int p4] [.int 0, .ref 132] (em_X11_talk (pd_C_st C) hn  zh1) mw_X11_talk wd_4_207 rfl (by decide) (pd_lt (by decide) hn) sh_0 ⟨by decide, by decide, by decide, by decide⟩ rfl (Nat.le_of_ble_eq_true rfl) dL_talk_9 ?_
      refine pd_catch0 (hh := [(0, 14, 17, 13), (0, 14, 21, 21), (0, 14, 25, 15)]) (pre := []) (x := (0, 14, 17, 13)) (suf := [(0, 14, 21, 21), (0, 14, 25, 15)]) (i := 6) (ls' := [some (.ref 0), some (.int p1), some (.int p2), some (.int p3), some (.int p4), some (.ref 132), none]) C htab rfl (fun z hz => absurd hz List.not_mem_nil) (by decide) (by decide) wd_2_82 (by decide) (Or.inl ⟨dL_talk_17, rfl⟩) (Nat.le_of_ble_eq_true rfl) rfl rfl ?_
      refine pd_iconst (v := 1) C dL_talk_19 (by decide) ?_
      cases hF
      exact pd_iret C hE rfl rfl rfl ⟨by decide, by decide⟩ dL_talk_20
    have hF := pd_f he0 hF
    by_cases he1 : e9 = "java/util/NoSuchElementException"
    · subst he1
      have hF := pd_t rfl hF
      refine pd_callVX C [.int p1, .int p2, .int p3, .int p4] [.int 0, .ref 132] (em_X11_talk (pd_C_st C) hn  zh1) mw_X11_talk wd_4_207 rfl (by decide) (pd_lt (by decide) hn) sh_0 ⟨by decide, by decide, by decide, by decide⟩ rfl (Nat.le_of_ble_eq_true rfl) dL_talk_9 ?_
      refine pd_catch0 (hh := [(0, 14, 17, 13), (0, 14, 21, 21), (0, 14, 25, 15)]) (pre := [(0, 14, 17, 13)]) (x := (0, 14, 21, 21)) (suf := [(0, 14, 25, 15)]) (i := 6) (ls' := [some (.ref 0), some (.int p1), some (.int p2), some (.int p3), some (.int p4), some (.ref 132), none]) C htab rfl (List.forall_mem_cons.mpr ⟨⟨by decide, "java/lang/IndexOutOfBoundsException", wd_2_82, by decide⟩, (fun _ h => absurd h List.not_mem_nil)⟩) (by decide) (by decide) wd_2_195 (by decide) (Or.inl ⟨dL_talk_21, rfl⟩) (Nat.le_of_ble_eq_true rfl) rfl rfl ?_
      refine pd_iconst (v := 2) C dL_talk_23 (by decide) ?_
      cases hF
      exact pd_iret C hE rfl rfl rfl ⟨by decide, by decide⟩ dL_talk_24
    have hF := pd_f he1 hF
    by_cases he2 : e9 = "java/lang/IllegalArgumentException"
    · subst he2
      have hF := pd_t rfl hF
      refine pd_callVX C [.int p1, .int p2, .int p3, .int p4] [.int 0, .ref 132] (em_X11_talk (pd_C_st C) hn  zh1) mw_X11_talk wd_4_207 rfl (by decide) (pd_lt (by decide) hn) sh_0 ⟨by decide, by decide, by decide, by decide⟩ rfl (Nat.le_of_ble_eq_true rfl) dL_talk_9 ?_
      refine pd_catch0 (hh := [(0, 14, 17, 13), (0, 14, 21, 21), (0, 14, 25, 15)]) (pre := [(0, 14, 17, 13), (0, 14, 21, 21)]) (x := (0, 14, 25, 15)) (suf := []) (i := 6) (ls' := [some (.ref 0), some (.int p1), some (.int p2), some (.int p3), some (.int p4), some (.ref 132), none]) C htab rfl (List.forall_mem_cons.mpr ⟨⟨by decide, "java/lang/IndexOutOfBoundsException", wd_2_82, by decide⟩, (List.forall_mem_cons.mpr ⟨⟨by decide, "java/util/NoSuchElementException", wd_2_195, by decide⟩, (fun _ h => absurd h List.not_mem_nil)⟩)⟩) (by decide) (by decide) wd_2_83 (by decide) (Or.inl ⟨dL_talk_25, rfl⟩) (Nat.le_of_ble_eq_true rfl) rfl rfl ?_
      refine pd_iconst (v := 3) C dL_talk_27 (by decide) ?_
      cases hF
      exact pd_iret C hE rfl rfl rfl ⟨by decide, by decide⟩ dL_talk_28
    have hF := pd_f he2 hF
    cases hF
  refine pd_callV C [.int p1, .int p2, .int p3, .int p4] [.int 0, .ref 132] (em_X11_talk (pd_C_st C) hn  zh1) mw_X11_talk wd_4_207 rfl (by decide) (pd_lt (by decide) hn) sh_0 ⟨by decide, by decide, by decide, by decide⟩ rfl (Nat.le_of_ble_eq_true rfl) pd_oldL_same (fun _ _ => pd_old_same _) dL_talk_9 (stk' := [.int zr1, .int 0, .ref 132]) rfl ?_
  refine pd_i2l C dL_talk_12 ?_
  obtain ⟨zg1, hF⟩ := pd_gd_some hF
  refine pd_last C (pd_lt (by decide) hn) sh_132 zg1 dL_talk_13 ?_
  refine pd_memJ (fun zJ1 hzJ1 => ?_)
  have hF := pd_let_at hF hzJ1
  refine pd_goto (tgt := 29) C dL_talk_14 (by decide) ?_
  refine pd_iconst (v := 0) C dL_talk_29 (by decide) ?_
  cases hF
  exact pd_iret C hE rfl rfl rfl ⟨by decide, by decide⟩ dL_talk_30

def fn_L_seems (I : pd_I) (J : pd_J) (p1 : Int32) : Option (Int32 × pd_J) := pd_bc (fn_X11_seems I p1) (fun ze => if ze = "java/util/NoSuchElementException" then some (1, J) else (none)) fun zr1 => pd_gd (pd_in 0 1) (pd_let (pd_uj J 132 (0 : Int32).toNatClampNeg zr1.toInt64) fun zJ1 => some (0, zJ1))
set_option maxRecDepth 100000 in
set_option maxHeartbeats 4000000 in
theorem em_L_seems {l : Launch} {D : va_G} {tc : Nat → ClassId} (hst : l.stackTraces = false) {I : pd_I} {J : pd_J} {Z : pd_R} {n : Nat} {p1 : Int32} (hn : 133 ≤ n)  {out : Int32 × pd_J} (hF : fn_L_seems I J p1 = some out) :
    pd_M l D tc yL_seems (.codeWith yL_seems cL_seems 4 (Option.some Jvm.ClassFile.FieldType.int) [(0, 9, 12, 21)]) rm_L_seems [.ref 0, .int p1, .ref 132] I J (pd_RF Z) n (.ok (some (.int out.1))) I out.2 (pd_RF Z) n := by
  refine pd_openH (own := "PathDecoderLaw") (ls0 := [some (.ref 0), some (.int p1), some (.ref 132), none]) (by decide) rfl (Nat.le_of_ble_eq_true rfl) rfl rfl hst (fun cx hl hD htc C hE htab => ?_)
  subst hl hD htc
  unfold fn_L_seems at hF
  refine pd_aload_n C dL_seems_0 rfl rfl ?_
  refine pd_iconst (v := 0) C dL_seems_1 (by decide) ?_
  refine pd_aload_n C dL_seems_2 rfl rfl ?_
  refine pd_iload_n C dL_seems_3 rfl rfl ?_
  rcases pd_bc_some hF with ⟨e9, zh1, hF⟩ | ⟨zr1, zh1, hF⟩
  · have hF := hF
    by_cases he0 : e9 = "java/util/NoSuchElementException"
    · subst he0
      have hF := pd_t rfl hF
      refine pd_callVX C [.int p1] [.int 0, .ref 132] (em_X11_seems (pd_C_st C) hn  zh1) mw_X11_seems wd_5_14 rfl (by decide) (pd_lt (by decide) hn) sh_0 ⟨by decide, by decide, by decide, by decide⟩ rfl (Nat.le_of_ble_eq_true rfl) dL_seems_4 ?_
      refine pd_catch0 (hh := [(0, 9, 12, 21)]) (pre := []) (x := (0, 9, 12, 21)) (suf := []) (i := 3) (ls' := [some (.ref 0), some (.int p1), some (.ref 132), none]) C htab rfl (fun z hz => absurd hz List.not_mem_nil) (by decide) (by decide) wd_2_195 (by decide) (Or.inr ⟨_, dL_seems_12, rfl, rfl⟩) (Nat.le_of_ble_eq_true rfl) rfl rfl ?_
      refine pd_iconst (v := 1) C dL_seems_13 (by decide) ?_
      cases hF
      exact pd_iret C hE rfl rfl rfl ⟨by decide, by decide⟩ dL_seems_14
    have hF := pd_f he0 hF
    cases hF
  refine pd_callV C [.int p1] [.int 0, .ref 132] (em_X11_seems (pd_C_st C) hn  zh1) mw_X11_seems wd_5_14 rfl (by decide) (pd_lt (by decide) hn) sh_0 ⟨by decide, by decide, by decide, by decide⟩ rfl (Nat.le_of_ble_eq_true rfl) pd_oldL_same (fun _ _ => pd_old_same _) dL_seems_4 (stk' := [.int zr1, .int 0, .ref 132]) rfl ?_
  refine pd_i2l C dL_seems_7 ?_
  obtain ⟨zg1, hF⟩ := pd_gd_some hF
  refine pd_last C (pd_lt (by decide) hn) sh_132 zg1 dL_seems_8 ?_
  refine pd_memJ (fun zJ1 hzJ1 => ?_)
  have hF := pd_let_at hF hzJ1
  refine pd_goto (tgt := 15) C dL_seems_9 (by decide) ?_
  refine pd_iconst (v := 0) C dL_seems_15 (by decide) ?_
  cases hF
  exact pd_iret C hE rfl rfl rfl ⟨by decide, by decide⟩ dL_seems_16

def fn_L_way (I : pd_I) (J : pd_J) (Z : pd_R) (n : Nat) (p1 : Int32) (p2 : Int32) : Option (Int32 × pd_J) := pd_bc (fn_X11_way I Z n p1 p2) (fun ze => if ze = "java/util/NoSuchElementException" then some (1, J) else (none)) fun zr1 => pd_gd (pd_in 0 1) (pd_let (pd_uj J 132 (0 : Int32).toNatClampNeg zr1.toInt64) fun zJ1 => some (0, zJ1))
set_option maxRecDepth 100000 in
set_option maxHeartbeats 4000000 in
theorem em_L_way {l : Launch} {D : va_G} {tc : Nat → ClassId} (hst : l.stackTraces = false) {I : pd_I} {J : pd_J} {Z : pd_R} {n : Nat} {p1 : Int32} {p2 : Int32} (hn : 133 ≤ n)  {out : Int32 × pd_J} (hF : fn_L_way I J Z n p1 p2 = some out) :
    pd_M l D tc yL_way (.codeWith yL_way cL_way 5 (Option.some Jvm.ClassFile.FieldType.int) [(0, 10, 13, 21)]) rm_L_way [.ref 0, .int p1, .int p2, .ref 132] I J (pd_RF Z) n (.ok (some (.int out.1))) I out.2 (pd_RF Z) n := by
  refine pd_openH (own := "PathDecoderLaw") (ls0 := [some (.ref 0), some (.int p1), some (.int p2), some (.ref 132), none]) (by decide) rfl (Nat.le_of_ble_eq_true rfl) rfl rfl hst (fun cx hl hD htc C hE htab => ?_)
  subst hl hD htc
  unfold fn_L_way at hF
  refine pd_aload_n C dL_way_0 rfl rfl ?_
  refine pd_iconst (v := 0) C dL_way_1 (by decide) ?_
  refine pd_aload_n C dL_way_2 rfl rfl ?_
  refine pd_iload_n C dL_way_3 rfl rfl ?_
  refine pd_iload_n C dL_way_4 rfl rfl ?_
  rcases pd_bc_some hF with ⟨e9, zh1, hF⟩ | ⟨zr1, zh1, hF⟩
  · have hF := hF
    by_cases he0 : e9 = "java/util/NoSuchElementException"
    · subst he0
      have hF := pd_t rfl hF
      refine pd_callVX C [.int p1, .int p2] [.int 0, .ref 132] (em_X11_way (pd_C_st C) hn  zh1) mw_X11_way wd_5_22 rfl (by decide) (pd_lt (by decide) hn) sh_0 ⟨by decide, by decide, by decide, by decide⟩ rfl (Nat.le_of_ble_eq_true rfl) dL_way_5 ?_
      refine pd_catch0 (hh := [(0, 10, 13, 21)]) (pre := []) (x := (0, 10, 13, 21)) (suf := []) (i := 4) (ls' := [some (.ref 0), some (.int p1), some (.int p2), some (.ref 132), none]) C htab rfl (fun z hz => absurd hz List.not_mem_nil) (by decide) (by decide) wd_2_195 (by decide) (Or.inl ⟨dL_way_13, rfl⟩) (Nat.le_of_ble_eq_true rfl) rfl rfl ?_
      refine pd_iconst (v := 1) C dL_way_15 (by decide) ?_
      cases hF
      exact pd_iret C hE rfl rfl rfl ⟨by decide, by decide⟩ dL_way_16
    have hF := pd_f he0 hF
    cases hF
  refine pd_callV C [.int p1, .int p2] [.int 0, .ref 132] (em_X11_way (pd_C_st C) hn  zh1) mw_X11_way wd_5_22 rfl (by decide) (pd_lt (by decide) hn) sh_0 ⟨by decide, by decide, by decide, by decide⟩ rfl (Nat.le_of_ble_eq_true rfl) pd_oldL_same (fun _ _ => pd_old_same _) dL_way_5 (stk' := [.int zr1, .int 0, .ref 132]) rfl ?_
  refine pd_i2l C dL_way_8 ?_
  obtain ⟨zg1, hF⟩ := pd_gd_some hF
  refine pd_last C (pd_lt (by decide) hn) sh_132 zg1 dL_way_9 ?_
  refine pd_memJ (fun zJ1 hzJ1 => ?_)
  have hF := pd_let_at hF hzJ1
  refine pd_goto (tgt := 17) C dL_way_10 (by decide) ?_
  refine pd_iconst (v := 0) C dL_way_17 (by decide) ?_
  cases hF
  exact pd_iret C hE rfl rfl rfl ⟨by decide, by decide⟩ dL_way_18

def fn_L_take (I : pd_I) (J : pd_J) (Z : pd_R) (n : Nat) (p1 : Int32) (p2 : Int32) : Option (Int32 × pd_I × pd_J) := pd_bc2 (fn_X11_take I Z n p1 p2) (fun ze => if ze = "java/lang/IndexOutOfBoundsException" then some (1, I, J) else (if ze = "java/util/NoSuchElementException" then some (2, I, J) else (none))) fun zr1 zI1 => pd_gd (pd_in 0 1) (pd_let (pd_uj J 132 (0 : Int32).toNatClampNeg zr1.toInt64) fun zJ1 => some (0, zI1, zJ1))
set_option maxRecDepth 100000 in
set_option maxHeartbeats 4000000 in
theorem em_L_take {l : Launch} {D : va_G} {tc : Nat → ClassId} (hst : l.stackTraces = false) {I : pd_I} {J : pd_J} {Z : pd_R} {n : Nat} {p1 : Int32} {p2 : Int32} (hn : 133 ≤ n)  {out : Int32 × pd_I × pd_J} (hF : fn_L_take I J Z n p1 p2 = some out) :
    pd_M l D tc yL_take (.codeWith yL_take cL_take 5 (Option.some Jvm.ClassFile.FieldType.int) [(0, 10, 13, 13), (0, 10, 17, 21)]) rm_L_take [.ref 0, .int p1, .int p2, .ref 132] I J (pd_RF Z) n (.ok (some (.int out.1))) out.2.1 out.2.2 (pd_RF Z) n := by
  refine pd_openH (own := "PathDecoderLaw") (ls0 := [some (.ref 0), some (.int p1), some (.int p2), some (.ref 132), none]) (by decide) rfl (Nat.le_of_ble_eq_true rfl) rfl rfl hst (fun cx hl hD htc C hE htab => ?_)
  subst hl hD htc
  unfold fn_L_take at hF
  refine pd_aload_n C dL_take_0 rfl rfl ?_
  refine pd_iconst (v := 0) C dL_take_1 (by decide) ?_
  refine pd_aload_n C dL_take_2 rfl rfl ?_
  refine pd_iload_n C dL_take_3 rfl rfl ?_
  refine pd_iload_n C dL_take_4 rfl rfl ?_
  rcases pd_bc2_some hF with ⟨e9, zh1, hF⟩ | ⟨zr1, zI1, zh1, hF⟩
  · have hF := hF
    by_cases he0 : e9 = "java/lang/IndexOutOfBoundsException"
    · subst he0
      have hF := pd_t rfl hF
      refine pd_callVX C [.int p1, .int p2] [.int 0, .ref 132] (em_X11_take (pd_C_st C) hn  zh1) mw_X11_take wd_5_35 rfl (by decide) (pd_lt (by decide) hn) sh_0 ⟨by decide, by decide, by decide, by decide⟩ rfl (Nat.le_of_ble_eq_true rfl) dL_take_5 ?_
      refine pd_catch0 (hh := [(0, 10, 13, 13), (0, 10, 17, 21)]) (pre := []) (x := (0, 10, 13, 13)) (suf := [(0, 10, 17, 21)]) (i := 4) (ls' := [some (.ref 0), some (.int p1), some (.int p2), some (.ref 132), none]) C htab rfl (fun z hz => absurd hz List.not_mem_nil) (by decide) (by decide) wd_2_82 (by decide) (Or.inl ⟨dL_take_13, rfl⟩) (Nat.le_of_ble_eq_true rfl) rfl rfl ?_
      refine pd_iconst (v := 1) C dL_take_15 (by decide) ?_
      cases hF
      exact pd_iret C hE rfl rfl rfl ⟨by decide, by decide⟩ dL_take_16
    have hF := pd_f he0 hF
    by_cases he1 : e9 = "java/util/NoSuchElementException"
    · subst he1
      have hF := pd_t rfl hF
      refine pd_callVX C [.int p1, .int p2] [.int 0, .ref 132] (em_X11_take (pd_C_st C) hn  zh1) mw_X11_take wd_5_35 rfl (by decide) (pd_lt (by decide) hn) sh_0 ⟨by decide, by decide, by decide, by decide⟩ rfl (Nat.le_of_ble_eq_true rfl) dL_take_5 ?_
      refine pd_catch0 (hh := [(0, 10, 13, 13), (0, 10, 17, 21)]) (pre := [(0, 10, 13, 13)]) (x := (0, 10, 17, 21)) (suf := []) (i := 4) (ls' := [some (.ref 0), some (.int p1), some (.int p2), some (.ref 132), none]) C htab rfl (List.forall_mem_cons.mpr ⟨⟨by decide, "java/lang/IndexOutOfBoundsException", wd_2_82, by decide⟩, (fun _ h => absurd h List.not_mem_nil)⟩) (by decide) (by decide) wd_2_195 (by decide) (Or.inl ⟨dL_take_17, rfl⟩) (Nat.le_of_ble_eq_true rfl) rfl rfl ?_
      refine pd_iconst (v := 2) C dL_take_19 (by decide) ?_
      cases hF
      exact pd_iret C hE rfl rfl rfl ⟨by decide, by decide⟩ dL_take_20
    have hF := pd_f he1 hF
    cases hF
  refine pd_callV C [.int p1, .int p2] [.int 0, .ref 132] (em_X11_take (pd_C_st C) hn  zh1) mw_X11_take wd_5_35 rfl (by decide) (pd_lt (by decide) hn) sh_0 ⟨by decide, by decide, by decide, by decide⟩ rfl (Nat.le_of_ble_eq_true rfl) pd_oldL_same (fun _ _ => pd_old_same _) dL_take_5 (stk' := [.int zr1, .int 0, .ref 132]) rfl ?_
  refine pd_i2l C dL_take_8 ?_
  obtain ⟨zg1, hF⟩ := pd_gd_some hF
  refine pd_last C (pd_lt (by decide) hn) sh_132 zg1 dL_take_9 ?_
  refine pd_memJ (fun zJ1 hzJ1 => ?_)
  have hF := pd_let_at hF hzJ1
  refine pd_goto (tgt := 21) C dL_take_10 (by decide) ?_
  refine pd_iconst (v := 0) C dL_take_21 (by decide) ?_
  cases hF
  exact pd_iret C hE rfl rfl rfl ⟨by decide, by decide⟩ dL_take_22

def fn_L_bad (I : pd_I) (J : pd_J) (Z : pd_R) (n : Nat) (p1 : Int32) : Option (Int32 × pd_I × pd_J) := pd_bc2 (fn_X11_bad I Z n p1) (fun ze => if ze = "java/lang/IndexOutOfBoundsException" then some (1, I, J) else (if ze = "java/util/NoSuchElementException" then some (2, I, J) else (none))) fun zr1 zI1 => pd_bd (if zr1 = 0 then some 0 else (some 1)) fun (zy1 : Int64) => pd_gd (pd_in 0 1) (pd_let (pd_uj J 132 (0 : Int32).toNatClampNeg zy1) fun zJ1 => some (0, zI1, zJ1))
set_option maxRecDepth 100000 in
set_option maxHeartbeats 4000000 in
theorem em_L_bad {l : Launch} {D : va_G} {tc : Nat → ClassId} (hst : l.stackTraces = false) {I : pd_I} {J : pd_J} {Z : pd_R} {n : Nat} {p1 : Int32} (hn : 133 ≤ n)  {out : Int32 × pd_I × pd_J} (hF : fn_L_bad I J Z n p1 = some out) :
    pd_M l D tc yL_bad (.codeWith yL_bad cL_bad 4 (Option.some Jvm.ClassFile.FieldType.int) [(0, 16, 19, 13), (0, 16, 22, 21)]) rm_L_bad [.ref 0, .int p1, .ref 132] I J (pd_RF Z) n (.ok (some (.int out.1))) out.2.1 out.2.2 (pd_RF Z) n := by
  refine pd_openH (own := "PathDecoderLaw") (ls0 := [some (.ref 0), some (.int p1), some (.ref 132), none]) (by decide) rfl (Nat.le_of_ble_eq_true rfl) rfl rfl hst (fun cx hl hD htc C hE htab => ?_)
  subst hl hD htc
  unfold fn_L_bad at hF
  refine pd_aload_n C dL_bad_0 rfl rfl ?_
  refine pd_iconst (v := 0) C dL_bad_1 (by decide) ?_
  refine pd_aload_n C dL_bad_2 rfl rfl ?_
  refine pd_iload_n C dL_bad_3 rfl rfl ?_
  rcases pd_bc2_some hF with ⟨e9, zh1, hF⟩ | ⟨zr1, zI1, zh1, hF⟩
  · have hF := hF
    by_cases he0 : e9 = "java/lang/IndexOutOfBoundsException"
    · subst he0
      have hF := pd_t rfl hF
      refine pd_callVX C [.int p1] [.int 0, .ref 132] (em_X11_bad (pd_C_st C) hn  zh1) mw_X11_bad wd_5_42 rfl (by decide) (pd_lt (by decide) hn) sh_0 ⟨by decide, by decide, by decide, by decide⟩ rfl (Nat.le_of_ble_eq_true rfl) dL_bad_4 ?_
      refine pd_catch0 (hh := [(0, 16, 19, 13), (0, 16, 22, 21)]) (pre := []) (x := (0, 16, 19, 13)) (suf := [(0, 16, 22, 21)]) (i := 3) (ls' := [some (.ref 0), some (.int p1), some (.ref 132), none]) C htab rfl (fun z hz => absurd hz List.not_mem_nil) (by decide) (by decide) wd_2_82 (by decide) (Or.inr ⟨_, dL_bad_19, rfl, rfl⟩) (Nat.le_of_ble_eq_true rfl) rfl rfl ?_
      refine pd_iconst (v := 1) C dL_bad_20 (by decide) ?_
      cases hF
      exact pd_iret C hE rfl rfl rfl ⟨by decide, by decide⟩ dL_bad_21
    have hF := pd_f he0 hF
    by_cases he1 : e9 = "java/util/NoSuchElementException"
    · subst he1
      have hF := pd_t rfl hF
      refine pd_callVX C [.int p1] [.int 0, .ref 132] (em_X11_bad (pd_C_st C) hn  zh1) mw_X11_bad wd_5_42 rfl (by decide) (pd_lt (by decide) hn) sh_0 ⟨by decide, by decide, by decide, by decide⟩ rfl (Nat.le_of_ble_eq_true rfl) dL_bad_4 ?_
      refine pd_catch0 (hh := [(0, 16, 19, 13), (0, 16, 22, 21)]) (pre := [(0, 16, 19, 13)]) (x := (0, 16, 22, 21)) (suf := []) (i := 3) (ls' := [some (.ref 0), some (.int p1), some (.ref 132), none]) C htab rfl (List.forall_mem_cons.mpr ⟨⟨by decide, "java/lang/IndexOutOfBoundsException", wd_2_82, by decide⟩, (fun _ h => absurd h List.not_mem_nil)⟩) (by decide) (by decide) wd_2_195 (by decide) (Or.inr ⟨_, dL_bad_22, rfl, rfl⟩) (Nat.le_of_ble_eq_true rfl) rfl rfl ?_
      refine pd_iconst (v := 2) C dL_bad_23 (by decide) ?_
      cases hF
      exact pd_iret C hE rfl rfl rfl ⟨by decide, by decide⟩ dL_bad_24
    have hF := pd_f he1 hF
    cases hF
  refine pd_callV C [.int p1] [.int 0, .ref 132] (em_X11_bad (pd_C_st C) hn  zh1) mw_X11_bad wd_5_42 rfl (by decide) (pd_lt (by decide) hn) sh_0 ⟨by decide, by decide, by decide, by decide⟩ rfl (Nat.le_of_ble_eq_true rfl) pd_oldL_same (fun _ _ => pd_old_same _) dL_bad_4 (stk' := [.int zr1, .int 0, .ref 132]) rfl ?_
  obtain ⟨zy1, hS, hF⟩ := pd_bd_some hF
  have hJ15 : pd_V cx 2 12 15 [none, none, none, none] [.long zy1, .int 0, .ref 132] zI1 J (pd_RF Z) n := by
    obtain ⟨zg1, hF⟩ := pd_gd_some hF
    refine pd_last C (pd_lt (by decide) hn) sh_132 zg1 dL_bad_15 ?_
    refine pd_memJ (fun zJ1 hzJ1 => ?_)
    have hF := pd_let_at hF hzJ1
    refine pd_goto (tgt := 25) C dL_bad_16 (by decide) ?_
    refine pd_iconst (v := 0) C dL_bad_25 (by decide) ?_
    cases hF
    exact pd_iret C hE rfl rfl rfl ⟨by decide, by decide⟩ dL_bad_26
  replace hF := hS
  clear hS
  refine pd_if_eq (tgt := 14) C dL_bad_7 (by decide) (fun zc1 => ?_) (fun zc1 => ?_)
  · have hF := pd_t zc1 hF
    refine pd_lconst (v := 0) C dL_bad_14 (by decide) ?_
    refine pd_wk (ls' := [none, none, none, none]) True.intro ?_
    have hF := hF.symm
    cases hF
    exact hJ15
  · have hF := pd_f zc1 hF
    refine pd_lconst (v := 1) C dL_bad_10 (by decide) ?_
    refine pd_goto (tgt := 15) C dL_bad_11 (by decide) ?_
    refine pd_wk (ls' := [none, none, none, none]) True.intro ?_
    have hF := hF.symm
    cases hF
    exact hJ15

def fn_L_free (I : pd_I) (J : pd_J) (Z : pd_R) (n : Nat) (p1 : Int32) : Option (Int32 × pd_I × pd_J) := pd_bc2 (fn_X11_free I Z n p1) (fun ze => if ze = "java/lang/IndexOutOfBoundsException" then some (1, I, J) else (if ze = "java/util/NoSuchElementException" then some (2, I, J) else (none))) fun zr1 zI1 => pd_gd (pd_in 0 1) (pd_let (pd_uj J 132 (0 : Int32).toNatClampNeg zr1.toInt64) fun zJ1 => some (0, zI1, zJ1))
set_option maxRecDepth 100000 in
set_option maxHeartbeats 4000000 in
theorem em_L_free {l : Launch} {D : va_G} {tc : Nat → ClassId} (hst : l.stackTraces = false) {I : pd_I} {J : pd_J} {Z : pd_R} {n : Nat} {p1 : Int32} (hn : 133 ≤ n)  {out : Int32 × pd_I × pd_J} (hF : fn_L_free I J Z n p1 = some out) :
    pd_M l D tc yL_free (.codeWith yL_free cL_free 4 (Option.some Jvm.ClassFile.FieldType.int) [(0, 9, 12, 13), (0, 9, 15, 21)]) rm_L_free [.ref 0, .int p1, .ref 132] I J (pd_RF Z) n (.ok (some (.int out.1))) out.2.1 out.2.2 (pd_RF Z) n := by
  refine pd_openH (own := "PathDecoderLaw") (ls0 := [some (.ref 0), some (.int p1), some (.ref 132), none]) (by decide) rfl (Nat.le_of_ble_eq_true rfl) rfl rfl hst (fun cx hl hD htc C hE htab => ?_)
  subst hl hD htc
  unfold fn_L_free at hF
  refine pd_aload_n C dL_free_0 rfl rfl ?_
  refine pd_iconst (v := 0) C dL_free_1 (by decide) ?_
  refine pd_aload_n C dL_free_2 rfl rfl ?_
  refine pd_iload_n C dL_free_3 rfl rfl ?_
  rcases pd_bc2_some hF with ⟨e9, zh1, hF⟩ | ⟨zr1, zI1, zh1, hF⟩
  · have hF := hF
    by_cases he0 : e9 = "java/lang/IndexOutOfBoundsException"
    · subst he0
      have hF := pd_t rfl hF
      refine pd_callVX C [.int p1] [.int 0, .ref 132] (em_X11_free (pd_C_st C) hn  zh1) mw_X11_free wd_5_76 rfl (by decide) (pd_lt (by decide) hn) sh_0 ⟨by decide, by decide, by decide, by decide⟩ rfl (Nat.le_of_ble_eq_true rfl) dL_free_4 ?_
      refine pd_catch0 (hh := [(0, 9, 12, 13), (0, 9, 15, 21)]) (pre := []) (x := (0, 9, 12, 13)) (suf := [(0, 9, 15, 21)]) (i := 3) (ls' := [some (.ref 0), some (.int p1), some (.ref 132), none]) C htab rfl (fun z hz => absurd hz List.not_mem_nil) (by decide) (by decide) wd_2_82 (by decide) (Or.inr ⟨_, dL_free_12, rfl, rfl⟩) (Nat.le_of_ble_eq_true rfl) rfl rfl ?_
      refine pd_iconst (v := 1) C dL_free_13 (by decide) ?_
      cases hF
      exact pd_iret C hE rfl rfl rfl ⟨by decide, by decide⟩ dL_free_14
    have hF := pd_f he0 hF
    by_cases he1 : e9 = "java/util/NoSuchElementException"
    · subst he1
      have hF := pd_t rfl hF
      refine pd_callVX C [.int p1] [.int 0, .ref 132] (em_X11_free (pd_C_st C) hn  zh1) mw_X11_free wd_5_76 rfl (by decide) (pd_lt (by decide) hn) sh_0 ⟨by decide, by decide, by decide, by decide⟩ rfl (Nat.le_of_ble_eq_true rfl) dL_free_4 ?_
      refine pd_catch0 (hh := [(0, 9, 12, 13), (0, 9, 15, 21)]) (pre := [(0, 9, 12, 13)]) (x := (0, 9, 15, 21)) (suf := []) (i := 3) (ls' := [some (.ref 0), some (.int p1), some (.ref 132), none]) C htab rfl (List.forall_mem_cons.mpr ⟨⟨by decide, "java/lang/IndexOutOfBoundsException", wd_2_82, by decide⟩, (fun _ h => absurd h List.not_mem_nil)⟩) (by decide) (by decide) wd_2_195 (by decide) (Or.inr ⟨_, dL_free_15, rfl, rfl⟩) (Nat.le_of_ble_eq_true rfl) rfl rfl ?_
      refine pd_iconst (v := 2) C dL_free_16 (by decide) ?_
      cases hF
      exact pd_iret C hE rfl rfl rfl ⟨by decide, by decide⟩ dL_free_17
    have hF := pd_f he1 hF
    cases hF
  refine pd_callV C [.int p1] [.int 0, .ref 132] (em_X11_free (pd_C_st C) hn  zh1) mw_X11_free wd_5_76 rfl (by decide) (pd_lt (by decide) hn) sh_0 ⟨by decide, by decide, by decide, by decide⟩ rfl (Nat.le_of_ble_eq_true rfl) pd_oldL_same (fun _ _ => pd_old_same _) dL_free_4 (stk' := [.int zr1, .int 0, .ref 132]) rfl ?_
  refine pd_i2l C dL_free_7 ?_
  obtain ⟨zg1, hF⟩ := pd_gd_some hF
  refine pd_last C (pd_lt (by decide) hn) sh_132 zg1 dL_free_8 ?_
  refine pd_memJ (fun zJ1 hzJ1 => ?_)
  have hF := pd_let_at hF hzJ1
  refine pd_goto (tgt := 18) C dL_free_9 (by decide) ?_
  refine pd_iconst (v := 0) C dL_free_18 (by decide) ?_
  cases hF
  exact pd_iret C hE rfl rfl rfl ⟨by decide, by decide⟩ dL_free_19

def fn_L_weights (I : pd_I) (J : pd_J) (Z : pd_R) (n : Nat) (p1 : Int32) (p2 : Int32) : Option (Int32 × pd_I × pd_J) := pd_bc3 (fn_X11_weights I J Z n p1 p2) (fun ze => if ze = "java/lang/IndexOutOfBoundsException" then some (1, I, J) else (if ze = "java/util/NoSuchElementException" then some (2, I, J) else (if ze = "java/lang/IllegalArgumentException" then some (3, I, J) else (none)))) fun zy1 zI1 zJ1 => pd_gd (pd_in 0 1) (pd_let (pd_uj zJ1 132 (0 : Int32).toNatClampNeg zy1) fun zJ2 => some (0, zI1, zJ2))
set_option maxRecDepth 100000 in
set_option maxHeartbeats 4000000 in
theorem em_L_weights {l : Launch} {D : va_G} {tc : Nat → ClassId} (hst : l.stackTraces = false) {I : pd_I} {J : pd_J} {Z : pd_R} {n : Nat} {p1 : Int32} {p2 : Int32} (hn : 133 ≤ n)  {out : Int32 × pd_I × pd_J} (hF : fn_L_weights I J Z n p1 p2 = some out) :
    pd_M l D tc yL_weights (.codeWith yL_weights cL_weights 5 (Option.some Jvm.ClassFile.FieldType.int) [(0, 9, 12, 13), (0, 9, 16, 21), (0, 9, 20, 15)]) rm_L_weights [.ref 0, .int p1, .int p2, .ref 132] I J (pd_RF Z) n (.ok (some (.int out.1))) out.2.1 out.2.2 (pd_RF Z) n := by
  refine pd_openH (own := "PathDecoderLaw") (ls0 := [some (.ref 0), some (.int p1), some (.int p2), some (.ref 132), none]) (by decide) rfl (Nat.le_of_ble_eq_true rfl) rfl rfl hst (fun cx hl hD htc C hE htab => ?_)
  subst hl hD htc
  unfold fn_L_weights at hF
  refine pd_aload_n C dL_weights_0 rfl rfl ?_
  refine pd_iconst (v := 0) C dL_weights_1 (by decide) ?_
  refine pd_aload_n C dL_weights_2 rfl rfl ?_
  refine pd_iload_n C dL_weights_3 rfl rfl ?_
  refine pd_iload_n C dL_weights_4 rfl rfl ?_
  rcases pd_bc3_some hF with ⟨e9, zh1, hF⟩ | ⟨zy1, zI1, zJ1, zh1, hF⟩
  · have hF := hF
    by_cases he0 : e9 = "java/lang/IndexOutOfBoundsException"
    · subst he0
      have hF := pd_t rfl hF
      refine pd_callVX C [.int p1, .int p2] [.int 0, .ref 132] (em_X11_weights (pd_C_st C) hn  zh1) mw_X11_weights wd_5_89 rfl (by decide) (pd_lt (by decide) hn) sh_0 ⟨by decide, by decide, by decide, by decide⟩ rfl (Nat.le_of_ble_eq_true rfl) dL_weights_5 ?_
      refine pd_catch0 (hh := [(0, 9, 12, 13), (0, 9, 16, 21), (0, 9, 20, 15)]) (pre := []) (x := (0, 9, 12, 13)) (suf := [(0, 9, 16, 21), (0, 9, 20, 15)]) (i := 4) (ls' := [some (.ref 0), some (.int p1), some (.int p2), some (.ref 132), none]) C htab rfl (fun z hz => absurd hz List.not_mem_nil) (by decide) (by decide) wd_2_82 (by decide) (Or.inl ⟨dL_weights_12, rfl⟩) (Nat.le_of_ble_eq_true rfl) rfl rfl ?_
      refine pd_iconst (v := 1) C dL_weights_14 (by decide) ?_
      cases hF
      exact pd_iret C hE rfl rfl rfl ⟨by decide, by decide⟩ dL_weights_15
    have hF := pd_f he0 hF
    by_cases he1 : e9 = "java/util/NoSuchElementException"
    · subst he1
      have hF := pd_t rfl hF
      refine pd_callVX C [.int p1, .int p2] [.int 0, .ref 132] (em_X11_weights (pd_C_st C) hn  zh1) mw_X11_weights wd_5_89 rfl (by decide) (pd_lt (by decide) hn) sh_0 ⟨by decide, by decide, by decide, by decide⟩ rfl (Nat.le_of_ble_eq_true rfl) dL_weights_5 ?_
      refine pd_catch0 (hh := [(0, 9, 12, 13), (0, 9, 16, 21), (0, 9, 20, 15)]) (pre := [(0, 9, 12, 13)]) (x := (0, 9, 16, 21)) (suf := [(0, 9, 20, 15)]) (i := 4) (ls' := [some (.ref 0), some (.int p1), some (.int p2), some (.ref 132), none]) C htab rfl (List.forall_mem_cons.mpr ⟨⟨by decide, "java/lang/IndexOutOfBoundsException", wd_2_82, by decide⟩, (fun _ h => absurd h List.not_mem_nil)⟩) (by decide) (by decide) wd_2_195 (by decide) (Or.inl ⟨dL_weights_16, rfl⟩) (Nat.le_of_ble_eq_true rfl) rfl rfl ?_
      refine pd_iconst (v := 2) C dL_weights_18 (by decide) ?_
      cases hF
      exact pd_iret C hE rfl rfl rfl ⟨by decide, by decide⟩ dL_weights_19
    have hF := pd_f he1 hF
    by_cases he2 : e9 = "java/lang/IllegalArgumentException"
    · subst he2
      have hF := pd_t rfl hF
      refine pd_callVX C [.int p1, .int p2] [.int 0, .ref 132] (em_X11_weights (pd_C_st C) hn  zh1) mw_X11_weights wd_5_89 rfl (by decide) (pd_lt (by decide) hn) sh_0 ⟨by decide, by decide, by decide, by decide⟩ rfl (Nat.le_of_ble_eq_true rfl) dL_weights_5 ?_
      refine pd_catch0 (hh := [(0, 9, 12, 13), (0, 9, 16, 21), (0, 9, 20, 15)]) (pre := [(0, 9, 12, 13), (0, 9, 16, 21)]) (x := (0, 9, 20, 15)) (suf := []) (i := 4) (ls' := [some (.ref 0), some (.int p1), some (.int p2), some (.ref 132), none]) C htab rfl (List.forall_mem_cons.mpr ⟨⟨by decide, "java/lang/IndexOutOfBoundsException", wd_2_82, by decide⟩, (List.forall_mem_cons.mpr ⟨⟨by decide, "java/util/NoSuchElementException", wd_2_195, by decide⟩, (fun _ h => absurd h List.not_mem_nil)⟩)⟩) (by decide) (by decide) wd_2_83 (by decide) (Or.inl ⟨dL_weights_20, rfl⟩) (Nat.le_of_ble_eq_true rfl) rfl rfl ?_
      refine pd_iconst (v := 3) C dL_weights_22 (by decide) ?_
      cases hF
      exact pd_iret C hE rfl rfl rfl ⟨by decide, by decide⟩ dL_weights_23
    have hF := pd_f he2 hF
    cases hF
  refine pd_callV C [.int p1, .int p2] [.int 0, .ref 132] (em_X11_weights (pd_C_st C) hn  zh1) mw_X11_weights wd_5_89 rfl (by decide) (pd_lt (by decide) hn) sh_0 ⟨by decide, by decide, by decide, by decide⟩ rfl (Nat.le_of_ble_eq_true rfl) pd_oldL_same (fun _ _ => pd_old_same _) dL_weights_5 (stk' := [.long zy1, .int 0, .ref 132]) rfl ?_
  obtain ⟨zg1, hF⟩ := pd_gd_some hF
  refine pd_last C (pd_lt (by decide) hn) sh_132 zg1 dL_weights_8 ?_
  refine pd_memJ (fun zJ2 hzJ2 => ?_)
  have hF := pd_let_at hF hzJ2
  refine pd_goto (tgt := 24) C dL_weights_9 (by decide) ?_
  refine pd_iconst (v := 0) C dL_weights_24 (by decide) ?_
  cases hF
  exact pd_iret C hE rfl rfl rfl ⟨by decide, by decide⟩ dL_weights_25

def fn_L_about (I : pd_I) (J : pd_J) (Z : pd_R) (n : Nat) (p1 : Int32) (p2 : Int32) : Option (Int32 × pd_J) := pd_bc (fn_X11_about I Z n p1 p2) (fun ze => if ze = "java/lang/IndexOutOfBoundsException" then some (1, J) else (if ze = "java/util/NoSuchElementException" then some (2, J) else (none))) fun zr1 => pd_gd (pd_in 0 1) (pd_let (pd_uj J 132 (0 : Int32).toNatClampNeg zr1.toInt64) fun zJ1 => some (0, zJ1))
set_option maxRecDepth 100000 in
set_option maxHeartbeats 4000000 in
theorem em_L_about {l : Launch} {D : va_G} {tc : Nat → ClassId} (hst : l.stackTraces = false) {I : pd_I} {J : pd_J} {Z : pd_R} {n : Nat} {p1 : Int32} {p2 : Int32} (hn : 133 ≤ n)  {out : Int32 × pd_J} (hF : fn_L_about I J Z n p1 p2 = some out) :
    pd_M l D tc yL_about (.codeWith yL_about cL_about 5 (Option.some Jvm.ClassFile.FieldType.int) [(0, 10, 13, 13), (0, 10, 17, 21)]) rm_L_about [.ref 0, .int p1, .int p2, .ref 132] I J (pd_RF Z) n (.ok (some (.int out.1))) I out.2 (pd_RF Z) n := by
  refine pd_openH (own := "PathDecoderLaw") (ls0 := [some (.ref 0), some (.int p1), some (.int p2), some (.ref 132), none]) (by decide) rfl (Nat.le_of_ble_eq_true rfl) rfl rfl hst (fun cx hl hD htc C hE htab => ?_)
  subst hl hD htc
  unfold fn_L_about at hF
  refine pd_aload_n C dL_about_0 rfl rfl ?_
  refine pd_iconst (v := 0) C dL_about_1 (by decide) ?_
  refine pd_aload_n C dL_about_2 rfl rfl ?_
  refine pd_iload_n C dL_about_3 rfl rfl ?_
  refine pd_iload_n C dL_about_4 rfl rfl ?_
  rcases pd_bc_some hF with ⟨e9, zh1, hF⟩ | ⟨zr1, zh1, hF⟩
  · have hF := hF
    by_cases he0 : e9 = "java/lang/IndexOutOfBoundsException"
    · subst he0
      have hF := pd_t rfl hF
      refine pd_callVX C [.int p1, .int p2] [.int 0, .ref 132] (em_X11_about (pd_C_st C) hn  zh1) mw_X11_about wd_5_106 rfl (by decide) (pd_lt (by decide) hn) sh_0 ⟨by decide, by decide, by decide, by decide⟩ rfl (Nat.le_of_ble_eq_true rfl) dL_about_5 ?_
      refine pd_catch0 (hh := [(0, 10, 13, 13), (0, 10, 17, 21)]) (pre := []) (x := (0, 10, 13, 13)) (suf := [(0, 10, 17, 21)]) (i := 4) (ls' := [some (.ref 0), some (.int p1), some (.int p2), some (.ref 132), none]) C htab rfl (fun z hz => absurd hz List.not_mem_nil) (by decide) (by decide) wd_2_82 (by decide) (Or.inl ⟨dL_about_13, rfl⟩) (Nat.le_of_ble_eq_true rfl) rfl rfl ?_
      refine pd_iconst (v := 1) C dL_about_15 (by decide) ?_
      cases hF
      exact pd_iret C hE rfl rfl rfl ⟨by decide, by decide⟩ dL_about_16
    have hF := pd_f he0 hF
    by_cases he1 : e9 = "java/util/NoSuchElementException"
    · subst he1
      have hF := pd_t rfl hF
      refine pd_callVX C [.int p1, .int p2] [.int 0, .ref 132] (em_X11_about (pd_C_st C) hn  zh1) mw_X11_about wd_5_106 rfl (by decide) (pd_lt (by decide) hn) sh_0 ⟨by decide, by decide, by decide, by decide⟩ rfl (Nat.le_of_ble_eq_true rfl) dL_about_5 ?_
      refine pd_catch0 (hh := [(0, 10, 13, 13), (0, 10, 17, 21)]) (pre := [(0, 10, 13, 13)]) (x := (0, 10, 17, 21)) (suf := []) (i := 4) (ls' := [some (.ref 0), some (.int p1), some (.int p2), some (.ref 132), none]) C htab rfl (List.forall_mem_cons.mpr ⟨⟨by decide, "java/lang/IndexOutOfBoundsException", wd_2_82, by decide⟩, (fun _ h => absurd h List.not_mem_nil)⟩) (by decide) (by decide) wd_2_195 (by decide) (Or.inl ⟨dL_about_17, rfl⟩) (Nat.le_of_ble_eq_true rfl) rfl rfl ?_
      refine pd_iconst (v := 2) C dL_about_19 (by decide) ?_
      cases hF
      exact pd_iret C hE rfl rfl rfl ⟨by decide, by decide⟩ dL_about_20
    have hF := pd_f he1 hF
    cases hF
  refine pd_callV C [.int p1, .int p2] [.int 0, .ref 132] (em_X11_about (pd_C_st C) hn  zh1) mw_X11_about wd_5_106 rfl (by decide) (pd_lt (by decide) hn) sh_0 ⟨by decide, by decide, by decide, by decide⟩ rfl (Nat.le_of_ble_eq_true rfl) pd_oldL_same (fun _ _ => pd_old_same _) dL_about_5 (stk' := [.int zr1, .int 0, .ref 132]) rfl ?_
  refine pd_i2l C dL_about_8 ?_
  obtain ⟨zg1, hF⟩ := pd_gd_some hF
  refine pd_last C (pd_lt (by decide) hn) sh_132 zg1 dL_about_9 ?_
  refine pd_memJ (fun zJ1 hzJ1 => ?_)
  have hF := pd_let_at hF hzJ1
  refine pd_goto (tgt := 21) C dL_about_10 (by decide) ?_
  refine pd_iconst (v := 0) C dL_about_21 (by decide) ?_
  cases hF
  exact pd_iret C hE rfl rfl rfl ⟨by decide, by decide⟩ dL_about_22

