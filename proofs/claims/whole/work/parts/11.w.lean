def fn_X11_rowOf (Z : pd_R) (n : Nat) (p0 : Int32) : Option (Except String (Nat)) := pd_bd (pd_bd (if p0 < 0 then some false else (if 16 ≤ p0 then some false else (some true))) fun zc1 => if zc1 = true then pd_gd (pd_in p0 16) (some (pd_R0 1 p0.toNatClampNeg)) else (some none)) fun (zo1 : Option Nat) => match zo1 with | none => some (.error "java/lang/IndexOutOfBoundsException") | some zq1 => pd_gd (pd_isRow zq1) (some (.ok zq1))
set_option maxRecDepth 100000 in
set_option maxHeartbeats 4000000 in
theorem em_X11_rowOf {l : Launch} {D : va_G} {tc : Nat → ClassId} (hst : l.stackTraces = false) {I : pd_I} {J : pd_J} {Z : pd_R} {n : Nat} {p0 : Int32} (hn : 133 ≤ n)  {out : Except String (Nat)} (hF : fn_X11_rowOf Z n p0 = some out) :
    pd_M l D tc yX11_rowOf (.code yX11_rowOf cX11_rowOf 3 (Option.some (Jvm.ClassFile.FieldType.object "PathDecoder$Row"))) rm_X11_rowOf [.ref 0, .int p0] I J (pd_RF Z) n (pd_oo (fun (p : Nat) => some (.ref p)) out) I J (pd_RF Z) n := by
  refine pd_open (own := "PathDecoder") (ls0 := [some (.ref 0), some (.int p0), none]) (by decide) rfl (Nat.le_of_ble_eq_true rfl) rfl rfl hst (fun cx hl hD htc C hE htab hnm => ?_)
  subst hl hD htc
  unfold fn_X11_rowOf at hF
  refine pd_iload_n C dX11_rowOf_0 rfl rfl ?_
  obtain ⟨zo1, hS, hF⟩ := pd_bd_some hF
  have hJ20 : pd_V cx 0 0 20 [none, none, none] [pd_rv zo1] I J (pd_RF Z) n := by
    refine pd_ostore_n (ls' := [none, none, some (pd_rv zo1)]) C dX11_rowOf_20 rfl (Nat.le_of_ble_eq_true rfl) rfl rfl ?_
    refine pd_oload_n C dX11_rowOf_21 rfl rfl ?_
    cases zo1 with
    | none =>
      refine pd_ifnonnullN C dX11_rowOf_22 ?_
      cases hF
      exact pd_throwW (ik := 347) C hE rfl htab pd_tw2 wd_2_92 wd_1_16 (List.mem_of_getElem? (i := 0) rfl) dX11_rowOf_25 dX11_rowOf_28 dX11_rowOf_29 dX11_rowOf_32 dX11_rowOf_35 ⟨by decide, Nat.le_of_ble_eq_true rfl, by decide, by decide⟩
    | some zq1 =>
      obtain ⟨zg1, hF⟩ := pd_gd_some hF
      refine pd_ifnonnull (x := zq1) (tgt := 36) C dX11_rowOf_22 (by decide) ?_
      refine pd_aload_n C dX11_rowOf_36 rfl rfl ?_
      cases hF
      exact pd_aret C hE rfl ⟨by decide, by decide⟩ dX11_rowOf_37
  replace hF := hS
  clear hS
  obtain ⟨zc1, hS, hF⟩ := pd_bd_some hF
  have hTzc1 : zc1 = true → pd_V cx 0 0 10 [some (.ref 0), some (.int p0), none] [] I J (pd_RF Z) n := by
    intro hc
    have hF := pd_t hc hF
    refine pd_aload_n C dX11_rowOf_10 rfl rfl ?_
    refine gr_11_0 C wd_2_32 (pd_lt (by decide) hn) sh_0 (rf_0_0 _) dX11_rowOf_11 ?_
    refine pd_iload_n C dX11_rowOf_14 rfl rfl ?_
    obtain ⟨zg2, hF⟩ := pd_gd_some hF
    refine pd_aaldO C (pd_lt (by decide) hn) sh_1 (by decide) zg2 (pd_RF_stat rfl) dX11_rowOf_15 ?_
    refine pd_goto (tgt := 20) C dX11_rowOf_16 (by decide) ?_
    refine pd_wk (ls' := [none, none, none]) True.intro ?_
    have hF := hF.symm
    cases hF
    exact hJ20
  have hEzc1 : zc1 = false → pd_V cx 0 0 19 [some (.ref 0), some (.int p0), none] [] I J (pd_RF Z) n := by
    intro hc
    have hF := pd_bf hc hF
    refine pd_null C dX11_rowOf_19 ?_
    refine pd_wk (ls' := [none, none, none]) True.intro ?_
    have hF := hF.symm
    cases hF
    exact hJ20
  replace hF := hS
  clear hS
  refine pd_if_lt (tgt := 19) C dX11_rowOf_1 (by decide) (fun zc3 => ?_) (fun zc3 => ?_)
  · have hF := pd_t zc3 hF
    cases hF
    exact hEzc1 rfl
  · have hF := pd_f zc3 hF
    refine pd_iload_n C dX11_rowOf_4 rfl rfl ?_
    refine pd_bipush (v := 16) C dX11_rowOf_5 (by decide) ?_
    refine pd_icmp_ge (tgt := 19) C dX11_rowOf_7 (by decide) (fun zc2 => ?_) (fun zc2 => ?_)
    · have hF := pd_t zc2 hF
      cases hF
      exact hEzc1 rfl
    · have hF := pd_f zc2 hF
      cases hF
      exact hTzc1 rfl

def fn_X4_isMissing (I : pd_I) (a : Nat) : Option Int32 := pd_bd (if (I a 1) = (-1) then some 1 else (some 0)) fun (zx1 : Int32) => pd_gd (pd_bo zx1) (some zx1)
set_option maxRecDepth 100000 in
set_option maxHeartbeats 4000000 in
theorem em_X4_isMissing {l : Launch} {D : va_G} {tc : Nat → ClassId} (hst : l.stackTraces = false) {I : pd_I} {J : pd_J} {Z : pd_R} {n : Nat} {a : Nat} (hn : 133 ≤ n) (ha : pd_isRow a = true) {out : Int32} (hF : fn_X4_isMissing I a = some out) :
    pd_M l D tc yX4_isMissing (.code yX4_isMissing cX4_isMissing 1 (Option.some Jvm.ClassFile.FieldType.boolean)) rm_X4_isMissing [.ref a] I J (pd_RF Z) n (.ok (some (.int out))) I J (pd_RF Z) n := by
  refine pd_open (own := "PathDecoder$Row") (ls0 := [some (.ref a)]) (by decide) rfl (Nat.le_of_ble_eq_true rfl) rfl rfl hst (fun cx hl hD htc C hE htab hnm => ?_)
  subst hl hD htc
  unfold fn_X4_isMissing at hF
  refine pd_aload_n C dX4_isMissing_0 rfl rfl ?_
  refine gi_4_1 C wd_2_25 (pd_row_lt ha hn) (pd_row_sh ha) dX4_isMissing_1 ?_
  refine pd_iconst (v := (-1)) C dX4_isMissing_4 (by decide) ?_
  obtain ⟨zx1, hS, hF⟩ := pd_bd_some hF
  have hJ13 : pd_V cx 0 0 13 [none] [.int zx1] I J (pd_RF Z) n := by
    obtain ⟨zg1, hF⟩ := pd_gd_some hF
    cases hF
    exact pd_iret C hE rfl rfl (pd_bo_nar zg1) ⟨by decide, by decide⟩ dX4_isMissing_13
  replace hF := hS
  clear hS
  refine pd_icmp_ne (tgt := 12) C dX4_isMissing_5 (by decide) (fun zc1 => ?_) (fun zc1 => ?_)
  · have hF := pd_f zc1 hF
    refine pd_iconst (v := 0) C dX4_isMissing_12 (by decide) ?_
    refine pd_wk (ls' := [none]) True.intro ?_
    have hF := hF.symm
    cases hF
    exact hJ13
  · have hF := pd_t zc1 hF
    refine pd_iconst (v := 1) C dX4_isMissing_8 (by decide) ?_
    refine pd_goto (tgt := 13) C dX4_isMissing_9 (by decide) ?_
    refine pd_wk (ls' := [none]) True.intro ?_
    have hF := hF.symm
    cases hF
    exact hJ13

def fn_X11_bounded (p0 : Int32) (p1 : Int32) (p2 : Int32) : Option Int32 := some (pd_max p1 (pd_min p2 p0))
set_option maxRecDepth 100000 in
set_option maxHeartbeats 4000000 in
theorem em_X11_bounded {l : Launch} {D : va_G} {tc : Nat → ClassId} (hst : l.stackTraces = false) {I : pd_I} {J : pd_J} {Z : pd_R} {n : Nat} {p0 : Int32} {p1 : Int32} {p2 : Int32} (hn : 133 ≤ n)  {out : Int32} (hF : fn_X11_bounded p0 p1 p2 = some out) :
    pd_M l D tc yX11_bounded (.code yX11_bounded cX11_bounded 3 (Option.some Jvm.ClassFile.FieldType.int)) rm_X11_bounded [.int p0, .int p1, .int p2] I J (pd_RF Z) n (.ok (some (.int out))) I J (pd_RF Z) n := by
  refine pd_open (own := "PathDecoder") (ls0 := [some (.int p0), some (.int p1), some (.int p2)]) (by decide) rfl (Nat.le_of_ble_eq_true rfl) rfl rfl hst (fun cx hl hD htc C hE htab hnm => ?_)
  subst hl hD htc
  unfold fn_X11_bounded at hF
  refine pd_iload_n C dX11_bounded_0 rfl rfl ?_
  refine pd_iload_n C dX11_bounded_1 rfl rfl ?_
  refine pd_iload_n C dX11_bounded_2 rfl rfl ?_
  refine pd_mmin C wd_2_186 wd_2_187 wd_1_18 wd_2_188 ⟨by decide, Nat.le_of_ble_eq_true rfl, by decide, by decide⟩ dX11_bounded_3 ?_
  refine pd_mmax C wd_2_189 wd_2_190 wd_1_18 wd_2_191 ⟨by decide, Nat.le_of_ble_eq_true rfl, by decide, by decide⟩ dX11_bounded_6 ?_
  cases hF
  exact pd_iret C hE rfl rfl rfl ⟨by decide, by decide⟩ dX11_bounded_9

def fl_X4_begin_14 {O : Type} (a : Nat) (kont : pd_I → Option O) : Nat → Int32 → pd_I → Option O
  | 0, _, _ => none
  | fu + 1, zx1, zI2 => if (zI2 a 1) ≤ zx1 then kont zI2 else (pd_gd (pd_in zx1 600) (pd_let (pd_ui zI2 (a + 1) zx1.toNatClampNeg ((0 : Int32).toInt16.toInt32)) fun zI4 => pd_let (zx1 + 1) fun zv1 => fl_X4_begin_14 a kont fu zv1 zI4))
set_option maxRecDepth 100000 in
set_option maxHeartbeats 4000000 in
theorem el_X4_begin_14 {cx : pd_X} (C : pd_C cx "PathDecoder$Row" cX4_begin rm_X4_begin) {a : Nat} {J : pd_J} {Z : pd_R} {n : Nat} (hn : 133 ≤ n) (ha : pd_isRow a = true) {O : Type} {kont : pd_I → Option O} {out : O} (K : ∀ (zI3 : pd_I), kont zI3 = some out → pd_V cx 0 0 35 [none, none, none] [] zI3 J (pd_RF Z) n) :
    ∀ (fu : Nat) (zx1 : Int32) (zI2 : pd_I), fl_X4_begin_14 a kont fu zx1 zI2 = some out → pd_V cx 0 0 14 [some (.ref a), none, some (.int zx1)] [] zI2 J (pd_RF Z) n := by
  intro fu
  induction fu with
  | zero => intro zx1 zI2 hF; rw [fl_X4_begin_14] at hF; cases hF
  | succ fu ih =>
    intro zx1 zI2 hF
    rw [fl_X4_begin_14] at hF
    refine pd_iload_n C dX4_begin_14 rfl rfl ?_
    refine pd_aload_n C dX4_begin_15 rfl rfl ?_
    refine gi_4_1 C wd_2_25 (pd_row_lt ha hn) (pd_row_sh ha) dX4_begin_16 ?_
    refine pd_icmp_ge (tgt := 35) C dX4_begin_19 (by decide) (fun zc1 => ?_) (fun zc1 => ?_)
    · have hF := pd_t zc1 hF
      refine pd_wk (ls' := [none, none, none]) True.intro ?_
      exact K _ hF
    · have hF := pd_f zc1 hF
      refine pd_aload_n C dX4_begin_22 rfl rfl ?_
      refine gr_4_0 C wd_2_24 (pd_row_lt ha hn) (pd_row_sh ha) (pd_row_rf ha) dX4_begin_23 ?_
      refine pd_iload_n C dX4_begin_26 rfl rfl ?_
      refine pd_iconst (v := 0) C dX4_begin_27 (by decide) ?_
      obtain ⟨zg1, hF⟩ := pd_gd_some hF
      refine pd_sast C (pd_row_lt1 ha hn) (pd_row_sh1 ha) zg1 dX4_begin_28 ?_
      refine pd_memI (fun zI4 hzI4 => ?_)
      have hF := pd_let_at hF hzI4
      refine pd_iincG (zz := 1) C dX4_begin_29 rfl (by decide) rfl (fun zv1 hzv1 => ?_)
      have hF := pd_let_at hF hzv1
      refine pd_lsE (ls' := [some (.ref a), none, some (.int zv1)]) rfl ?_
      refine pd_goto (tgt := 14) C dX4_begin_32 (by decide) ?_
      exact ih _ _ hF
def fn_X4_begin (I : pd_I) (a : Nat) (p0 : Int32) : Option pd_I := pd_bd (fn_X11_bounded p0 0 600) fun zr1 => pd_let (pd_ui I a 1 zr1) fun zI1 => fl_X4_begin_14 a (fun zI3 => some zI3) pd_FU 0 zI1
set_option maxRecDepth 100000 in
set_option maxHeartbeats 4000000 in
theorem em_X4_begin {l : Launch} {D : va_G} {tc : Nat → ClassId} (hst : l.stackTraces = false) {I : pd_I} {J : pd_J} {Z : pd_R} {n : Nat} {a : Nat} {p0 : Int32} (hn : 133 ≤ n) (ha : pd_isRow a = true) {out : pd_I} (hF : fn_X4_begin I a p0 = some out) :
    pd_M l D tc yX4_begin (.code yX4_begin cX4_begin 3 (Option.none : Option Jvm.ClassFile.FieldType)) rm_X4_begin [.ref a, .int p0] I J (pd_RF Z) n (.ok (none)) out J (pd_RF Z) n := by
  refine pd_open (own := "PathDecoder$Row") (ls0 := [some (.ref a), some (.int p0), none]) (by decide) rfl (Nat.le_of_ble_eq_true rfl) rfl rfl hst (fun cx hl hD htc C hE htab hnm => ?_)
  subst hl hD htc
  unfold fn_X4_begin at hF
  refine pd_aload_n C dX4_begin_0 rfl rfl ?_
  refine pd_iload_n C dX4_begin_1 rfl rfl ?_
  refine pd_iconst (v := 0) C dX4_begin_2 (by decide) ?_
  refine pd_sipush (v := 600) C dX4_begin_3 (by decide) ?_
  obtain ⟨zr1, zh1, hF⟩ := pd_bd_some hF
  refine pd_callM C [.int p0, .int 0, .int 600] [.ref a] (em_X11_bounded (pd_C_st C) hn  zh1) mw_X11_bounded (List.mem_of_getElem? (i := 4) rfl) ⟨by decide, by decide, by decide, by decide⟩ rfl (Nat.le_of_ble_eq_true rfl) pd_oldL_same (fun _ _ => pd_old_same _) dX4_begin_6 (stk' := [.int zr1, .ref a]) rfl ?_
  refine pi_4_1 C wd_2_25 rfl rfl (pd_row_lt ha hn) (pd_row_sh ha) dX4_begin_9 ?_
  refine pd_memI (fun zI1 hzI1 => ?_)
  have hF := pd_let_at hF hzI1
  refine pd_iconst (v := 0) C dX4_begin_12 (by decide) ?_
  refine pd_istore_n (ls' := [some (.ref a), some (.int p0), some (.int 0)]) C dX4_begin_13 rfl (Nat.le_of_ble_eq_true rfl) rfl rfl ?_
  refine pd_wk (ls' := [some (.ref a), none, some (.int 0)]) (And.intro rfl (And.intro rfl True.intro)) ?_
  refine el_X4_begin_14 C hn ha (fun zI3 hF => ?_) pd_FU _ _ hF
  cases hF
  exact pd_vret C hE rfl ⟨by decide, by decide⟩ dX4_begin_35

def fn_X11_row (I : pd_I) (Z : pd_R) (n : Nat) (p0 : Int32) (p1 : Int32) : Option (Except String (Int32 × pd_I)) := pd_bx (fn_X11_rowOf Z n p0) fun zq1 => pd_gd (pd_isRow zq1) (pd_bd (if p1 < 0 then some false else (if p1 ≤ 600 then some true else (some false))) fun zc1 => if zc1 = true then pd_bd (fn_X4_isMissing I zq1) fun zr1 => pd_bd (fn_X4_begin I zq1 p1) fun zI1 => pd_gd (pd_bo zr1) (some (.ok (zr1, zI1))) else (some (.error "java/lang/IllegalArgumentException")))
set_option maxRecDepth 100000 in
set_option maxHeartbeats 4000000 in
theorem em_X11_row {l : Launch} {D : va_G} {tc : Nat → ClassId} (hst : l.stackTraces = false) {I : pd_I} {J : pd_J} {Z : pd_R} {n : Nat} {p0 : Int32} {p1 : Int32} (hn : 133 ≤ n)  {out : Except String (Int32 × pd_I)} (hF : fn_X11_row I Z n p0 p1 = some out) :
    pd_M l D tc yX11_row (.code yX11_row cX11_row 5 (Option.some Jvm.ClassFile.FieldType.boolean)) rm_X11_row [.ref 0, .int p0, .int p1] I J (pd_RF Z) n (pd_oo (fun (p : Int32 × pd_I) => some (.int p.1)) out) (pd_os (fun (p : Int32 × pd_I) => p.2) I out) J (pd_RF Z) n := by
  refine pd_open (own := "PathDecoder") (ls0 := [some (.ref 0), some (.int p0), some (.int p1), none, none]) (by decide) rfl (Nat.le_of_ble_eq_true rfl) rfl rfl hst (fun cx hl hD htc C hE htab hnm => ?_)
  subst hl hD htc
  unfold fn_X11_row at hF
  refine pd_aload_n C dX11_row_0 rfl rfl ?_
  refine pd_iload_n C dX11_row_1 rfl rfl ?_
  rcases pd_bx_some hF with ⟨e9, zh1, he9⟩ | ⟨zq1, zh1, hF⟩
  · subst he9
    exact pd_callVX C [.int p0] [] (em_X11_rowOf (pd_C_st C) hn  zh1) mw_X11_rowOf wd_2_88 rfl (by decide) (pd_lt (by decide) hn) sh_0 ⟨by decide, by decide, by decide, by decide⟩ rfl (Nat.le_of_ble_eq_true rfl) dX11_row_2 (pd_prop C hE rfl htab ⟨by decide, by decide⟩)
  obtain ⟨zg1, hF⟩ := pd_gd_some hF
  refine pd_callV C [.int p0] [] (em_X11_rowOf (pd_C_st C) hn  zh1) mw_X11_rowOf wd_2_88 rfl (by decide) (pd_lt (by decide) hn) sh_0 ⟨by decide, by decide, by decide, by decide⟩ rfl (Nat.le_of_ble_eq_true rfl) pd_oldL_same (fun _ _ => pd_old_same _) dX11_row_2 (stk' := [.ref zq1]) rfl ?_
  refine pd_astore_n (ls' := [some (.ref 0), some (.int p0), some (.int p1), some (.ref zq1), none]) C dX11_row_5 rfl (Nat.le_of_ble_eq_true rfl) rfl rfl ?_
  refine pd_iload_n C dX11_row_6 rfl rfl ?_
  obtain ⟨zc1, hS, hF⟩ := pd_bd_some hF
  have hTzc1 : zc1 = true → pd_V cx 1 6 27 [some (.ref 0), some (.int p0), some (.int p1), some (.ref zq1), none] [] I J (pd_RF Z) n := by
    intro hc
    have hF := pd_t hc hF
    refine pd_aload_n C dX11_row_27 rfl rfl ?_
    obtain ⟨zr1, zh2, hF⟩ := pd_bd_some hF
    refine pd_callV C [] [] (em_X4_isMissing (pd_C_st C) hn zg1 zh2) mw_X4_isMissing wd_2_175 rfl (by decide) (pd_row_lt zg1 hn) (pd_row_sh zg1) ⟨by decide, by decide, by decide, by decide⟩ rfl (Nat.le_of_ble_eq_true rfl) pd_oldL_same (fun _ _ => pd_old_same _) dX11_row_28 (stk' := [.int zr1]) rfl ?_
    refine pd_istore (ls' := [some (.ref 0), some (.int p0), some (.int p1), some (.ref zq1), some (.int zr1)]) C dX11_row_31 (Nat.le_of_ble_eq_true rfl) rfl rfl ?_
    refine pd_aload_n C dX11_row_33 rfl rfl ?_
    refine pd_iload_n C dX11_row_34 rfl rfl ?_
    obtain ⟨zI1, zh3, hF⟩ := pd_bd_some hF
    refine pd_callV C [.int p1] [] (em_X4_begin (pd_C_st C) hn zg1 zh3) mw_X4_begin wd_2_179 rfl (by decide) (pd_row_lt zg1 hn) (pd_row_sh zg1) ⟨by decide, by decide, by decide, by decide⟩ rfl (Nat.le_of_ble_eq_true rfl) pd_oldL_same (fun _ _ => pd_old_same _) dX11_row_35 (stk' := []) rfl ?_
    refine pd_iload C dX11_row_38 rfl ?_
    obtain ⟨zg2, hF⟩ := pd_gd_some hF
    cases hF
    exact pd_iret C hE rfl rfl (pd_bo_nar zg2) ⟨by decide, by decide⟩ dX11_row_40
  have hEzc1 : zc1 = false → pd_V cx 1 6 17 [some (.ref 0), some (.int p0), some (.int p1), some (.ref zq1), none] [] I J (pd_RF Z) n := by
    intro hc
    have hF := pd_bf hc hF
    cases hF
    exact pd_throw (ik := 103) C hE rfl htab pd_tw1 wd_2_159 wd_1_17 (List.mem_of_getElem? (i := 1) rfl) dX11_row_17 dX11_row_20 dX11_row_21 dX11_row_23 dX11_row_26 ⟨by decide, Nat.le_of_ble_eq_true rfl, by decide, by decide⟩
  replace hF := hS
  clear hS
  refine pd_if_lt (tgt := 17) C dX11_row_7 (by decide) (fun zc3 => ?_) (fun zc3 => ?_)
  · have hF := pd_t zc3 hF
    cases hF
    exact hEzc1 rfl
  · have hF := pd_f zc3 hF
    refine pd_iload_n C dX11_row_10 rfl rfl ?_
    refine pd_sipush (v := 600) C dX11_row_11 (by decide) ?_
    refine pd_icmp_le (tgt := 27) C dX11_row_14 (by decide) (fun zc2 => ?_) (fun zc2 => ?_)
    · have hF := pd_t zc2 hF
      cases hF
      exact hTzc1 rfl
    · have hF := pd_f zc2 hF
      cases hF
      exact hEzc1 rfl

def fn_X11_rowThere (I : pd_I) (Z : pd_R) (n : Nat) (p0 : Int32) : Option (Except String (Nat)) := pd_bx (fn_X11_rowOf Z n p0) fun zq1 => pd_gd (pd_isRow zq1) (pd_bd (fn_X4_isMissing I zq1) fun zr1 => if zr1 = 0 then some (.ok zq1) else (some (.error "java/util/NoSuchElementException")))
set_option maxRecDepth 100000 in
set_option maxHeartbeats 4000000 in
theorem em_X11_rowThere {l : Launch} {D : va_G} {tc : Nat → ClassId} (hst : l.stackTraces = false) {I : pd_I} {J : pd_J} {Z : pd_R} {n : Nat} {p0 : Int32} (hn : 133 ≤ n)  {out : Except String (Nat)} (hF : fn_X11_rowThere I Z n p0 = some out) :
    pd_M l D tc yX11_rowThere (.code yX11_rowThere cX11_rowThere 3 (Option.some (Jvm.ClassFile.FieldType.object "PathDecoder$Row"))) rm_X11_rowThere [.ref 0, .int p0] I J (pd_RF Z) n (pd_oo (fun (p : Nat) => some (.ref p)) out) I J (pd_RF Z) n := by
  refine pd_open (own := "PathDecoder") (ls0 := [some (.ref 0), some (.int p0), none]) (by decide) rfl (Nat.le_of_ble_eq_true rfl) rfl rfl hst (fun cx hl hD htc C hE htab hnm => ?_)
  subst hl hD htc
  unfold fn_X11_rowThere at hF
  refine pd_aload_n C dX11_rowThere_0 rfl rfl ?_
  refine pd_iload_n C dX11_rowThere_1 rfl rfl ?_
  rcases pd_bx_some hF with ⟨e9, zh1, he9⟩ | ⟨zq1, zh1, hF⟩
  · subst he9
    exact pd_callVX C [.int p0] [] (em_X11_rowOf (pd_C_st C) hn  zh1) mw_X11_rowOf wd_2_88 rfl (by decide) (pd_lt (by decide) hn) sh_0 ⟨by decide, by decide, by decide, by decide⟩ rfl (Nat.le_of_ble_eq_true rfl) dX11_rowThere_2 (pd_prop C hE rfl htab ⟨by decide, by decide⟩)
  obtain ⟨zg1, hF⟩ := pd_gd_some hF
  refine pd_callV C [.int p0] [] (em_X11_rowOf (pd_C_st C) hn  zh1) mw_X11_rowOf wd_2_88 rfl (by decide) (pd_lt (by decide) hn) sh_0 ⟨by decide, by decide, by decide, by decide⟩ rfl (Nat.le_of_ble_eq_true rfl) pd_oldL_same (fun _ _ => pd_old_same _) dX11_rowThere_2 (stk' := [.ref zq1]) rfl ?_
  refine pd_astore_n (ls' := [some (.ref 0), some (.int p0), some (.ref zq1)]) C dX11_rowThere_5 rfl (Nat.le_of_ble_eq_true rfl) rfl rfl ?_
  refine pd_aload_n C dX11_rowThere_6 rfl rfl ?_
  obtain ⟨zr1, zh2, hF⟩ := pd_bd_some hF
  refine pd_callV C [] [] (em_X4_isMissing (pd_C_st C) hn zg1 zh2) mw_X4_isMissing wd_2_175 rfl (by decide) (pd_row_lt zg1 hn) (pd_row_sh zg1) ⟨by decide, by decide, by decide, by decide⟩ rfl (Nat.le_of_ble_eq_true rfl) pd_oldL_same (fun _ _ => pd_old_same _) dX11_rowThere_7 (stk' := [.int zr1]) rfl ?_
  refine pd_if_eq (tgt := 24) C dX11_rowThere_10 (by decide) (fun zc1 => ?_) (fun zc1 => ?_)
  · have hF := pd_t zc1 hF
    refine pd_aload_n C dX11_rowThere_24 rfl rfl ?_
    cases hF
    exact pd_aret C hE rfl ⟨by decide, by decide⟩ dX11_rowThere_25
  · have hF := pd_f zc1 hF
    cases hF
    exact pd_throwNW (ik := 167) C hE rfl htab pd_tw3 wd_2_209 wd_1_19 (List.mem_of_getElem? (i := 3) rfl) dX11_rowThere_13 dX11_rowThere_16 dX11_rowThere_17 dX11_rowThere_20 dX11_rowThere_23 ⟨by decide, Nat.le_of_ble_eq_true rfl, by decide, by decide⟩

def fn_X4_has (I : pd_I) (a : Nat) (p0 : Int32) : Option Int32 := pd_bd (pd_bd (if p0 < 0 then some false else (if (I a 1) ≤ p0 then some false else (some true))) fun zc1 => if zc1 = true then some 1 else (some 0)) fun (zx1 : Int32) => pd_gd (pd_bo zx1) (some zx1)
set_option maxRecDepth 100000 in
set_option maxHeartbeats 4000000 in
theorem em_X4_has {l : Launch} {D : va_G} {tc : Nat → ClassId} (hst : l.stackTraces = false) {I : pd_I} {J : pd_J} {Z : pd_R} {n : Nat} {a : Nat} {p0 : Int32} (hn : 133 ≤ n) (ha : pd_isRow a = true) {out : Int32} (hF : fn_X4_has I a p0 = some out) :
    pd_M l D tc yX4_has (.code yX4_has cX4_has 2 (Option.some Jvm.ClassFile.FieldType.boolean)) rm_X4_has [.ref a, .int p0] I J (pd_RF Z) n (.ok (some (.int out))) I J (pd_RF Z) n := by
  refine pd_open (own := "PathDecoder$Row") (ls0 := [some (.ref a), some (.int p0)]) (by decide) rfl (Nat.le_of_ble_eq_true rfl) rfl rfl hst (fun cx hl hD htc C hE htab hnm => ?_)
  subst hl hD htc
  unfold fn_X4_has at hF
  refine pd_iload_n C dX4_has_0 rfl rfl ?_
  obtain ⟨zx1, hS, hF⟩ := pd_bd_some hF
  have hJ17 : pd_V cx 0 0 17 [none, none] [.int zx1] I J (pd_RF Z) n := by
    obtain ⟨zg1, hF⟩ := pd_gd_some hF
    cases hF
    exact pd_iret C hE rfl rfl (pd_bo_nar zg1) ⟨by decide, by decide⟩ dX4_has_17
  replace hF := hS
  clear hS
  obtain ⟨zc1, hS, hF⟩ := pd_bd_some hF
  have hTzc1 : zc1 = true → pd_V cx 0 0 12 [some (.ref a), some (.int p0)] [] I J (pd_RF Z) n := by
    intro hc
    have hF := pd_t hc hF
    refine pd_iconst (v := 1) C dX4_has_12 (by decide) ?_
    refine pd_goto (tgt := 17) C dX4_has_13 (by decide) ?_
    refine pd_wk (ls' := [none, none]) True.intro ?_
    have hF := hF.symm
    cases hF
    exact hJ17
  have hEzc1 : zc1 = false → pd_V cx 0 0 16 [some (.ref a), some (.int p0)] [] I J (pd_RF Z) n := by
    intro hc
    have hF := pd_bf hc hF
    refine pd_iconst (v := 0) C dX4_has_16 (by decide) ?_
    refine pd_wk (ls' := [none, none]) True.intro ?_
    have hF := hF.symm
    cases hF
    exact hJ17
  replace hF := hS
  clear hS
  refine pd_if_lt (tgt := 16) C dX4_has_1 (by decide) (fun zc3 => ?_) (fun zc3 => ?_)
  · have hF := pd_t zc3 hF
    cases hF
    exact hEzc1 rfl
  · have hF := pd_f zc3 hF
    refine pd_iload_n C dX4_has_4 rfl rfl ?_
    refine pd_aload_n C dX4_has_5 rfl rfl ?_
    refine gi_4_1 C wd_2_25 (pd_row_lt ha hn) (pd_row_sh ha) dX4_has_6 ?_
    refine pd_icmp_ge (tgt := 16) C dX4_has_9 (by decide) (fun zc2 => ?_) (fun zc2 => ?_)
    · have hF := pd_t zc2 hF
      cases hF
      exact hEzc1 rfl
    · have hF := pd_f zc2 hF
      cases hF
      exact hTzc1 rfl

def fn_X11_rowWithNumber (I : pd_I) (Z : pd_R) (n : Nat) (p0 : Int32) (p1 : Int32) : Option (Except String (Nat)) := pd_bx (fn_X11_rowThere I Z n p0) fun zq1 => pd_gd (pd_isRow zq1) (pd_bd (fn_X4_has I zq1 p1) fun zr1 => if zr1 = 0 then some (.error "java/lang/IndexOutOfBoundsException") else (some (.ok zq1)))
set_option maxRecDepth 100000 in
set_option maxHeartbeats 4000000 in
theorem em_X11_rowWithNumber {l : Launch} {D : va_G} {tc : Nat → ClassId} (hst : l.stackTraces = false) {I : pd_I} {J : pd_J} {Z : pd_R} {n : Nat} {p0 : Int32} {p1 : Int32} (hn : 133 ≤ n)  {out : Except String (Nat)} (hF : fn_X11_rowWithNumber I Z n p0 p1 = some out) :
    pd_M l D tc yX11_rowWithNumber (.code yX11_rowWithNumber cX11_rowWithNumber 4 (Option.some (Jvm.ClassFile.FieldType.object "PathDecoder$Row"))) rm_X11_rowWithNumber [.ref 0, .int p0, .int p1] I J (pd_RF Z) n (pd_oo (fun (p : Nat) => some (.ref p)) out) I J (pd_RF Z) n := by
  refine pd_open (own := "PathDecoder") (ls0 := [some (.ref 0), some (.int p0), some (.int p1), none]) (by decide) rfl (Nat.le_of_ble_eq_true rfl) rfl rfl hst (fun cx hl hD htc C hE htab hnm => ?_)
  subst hl hD htc
  unfold fn_X11_rowWithNumber at hF
  refine pd_aload_n C dX11_rowWithNumber_0 rfl rfl ?_
  refine pd_iload_n C dX11_rowWithNumber_1 rfl rfl ?_
  rcases pd_bx_some hF with ⟨e9, zh1, he9⟩ | ⟨zq1, zh1, hF⟩
  · subst he9
    exact pd_callVX C [.int p0] [] (em_X11_rowThere (pd_C_st C) hn  zh1) mw_X11_rowThere wd_2_205 rfl (by decide) (pd_lt (by decide) hn) sh_0 ⟨by decide, by decide, by decide, by decide⟩ rfl (Nat.le_of_ble_eq_true rfl) dX11_rowWithNumber_2 (pd_prop C hE rfl htab ⟨by decide, by decide⟩)
  obtain ⟨zg1, hF⟩ := pd_gd_some hF
  refine pd_callV C [.int p0] [] (em_X11_rowThere (pd_C_st C) hn  zh1) mw_X11_rowThere wd_2_205 rfl (by decide) (pd_lt (by decide) hn) sh_0 ⟨by decide, by decide, by decide, by decide⟩ rfl (Nat.le_of_ble_eq_true rfl) pd_oldL_same (fun _ _ => pd_old_same _) dX11_rowWithNumber_2 (stk' := [.ref zq1]) rfl ?_
  refine pd_astore_n (ls' := [some (.ref 0), some (.int p0), some (.int p1), some (.ref zq1)]) C dX11_rowWithNumber_5 rfl (Nat.le_of_ble_eq_true rfl) rfl rfl ?_
  refine pd_aload_n C dX11_rowWithNumber_6 rfl rfl ?_
  refine pd_iload_n C dX11_rowWithNumber_7 rfl rfl ?_
  obtain ⟨zr1, zh2, hF⟩ := pd_bd_some hF
  refine pd_callV C [.int p1] [] (em_X4_has (pd_C_st C) hn zg1 zh2) mw_X4_has wd_2_225 rfl (by decide) (pd_row_lt zg1 hn) (pd_row_sh zg1) ⟨by decide, by decide, by decide, by decide⟩ rfl (Nat.le_of_ble_eq_true rfl) pd_oldL_same (fun _ _ => pd_old_same _) dX11_rowWithNumber_8 (stk' := [.int zr1]) rfl ?_
  refine pd_if_ne (tgt := 25) C dX11_rowWithNumber_11 (by decide) (fun zc1 => ?_) (fun zc1 => ?_)
  · have hF := pd_f zc1 hF
    refine pd_aload_n C dX11_rowWithNumber_25 rfl rfl ?_
    cases hF
    exact pd_aret C hE rfl ⟨by decide, by decide⟩ dX11_rowWithNumber_26
  · have hF := pd_t zc1 hF
    cases hF
    exact pd_throwW (ik := 347) C hE rfl htab pd_tw2 wd_2_92 wd_1_16 (List.mem_of_getElem? (i := 4) rfl) dX11_rowWithNumber_14 dX11_rowWithNumber_17 dX11_rowWithNumber_18 dX11_rowWithNumber_21 dX11_rowWithNumber_24 ⟨by decide, Nat.le_of_ble_eq_true rfl, by decide, by decide⟩

def fn_X4_numberAt (I : pd_I) (a : Nat) (p0 : Int32) : Option Int32 := pd_bd (fn_X4_has I a p0) fun zr1 => pd_bd (if zr1 = 0 then some 0 else (pd_gd (pd_in p0 600) (some (I (a + 1) p0.toNatClampNeg)))) fun (zx1 : Int32) => some zx1
set_option maxRecDepth 100000 in
set_option maxHeartbeats 4000000 in
theorem em_X4_numberAt {l : Launch} {D : va_G} {tc : Nat → ClassId} (hst : l.stackTraces = false) {I : pd_I} {J : pd_J} {Z : pd_R} {n : Nat} {a : Nat} {p0 : Int32} (hn : 133 ≤ n) (ha : pd_isRow a = true) {out : Int32} (hF : fn_X4_numberAt I a p0 = some out) :
    pd_M l D tc yX4_numberAt (.code yX4_numberAt cX4_numberAt 2 (Option.some Jvm.ClassFile.FieldType.int)) rm_X4_numberAt [.ref a, .int p0] I J (pd_RF Z) n (.ok (some (.int out))) I J (pd_RF Z) n := by
  refine pd_open (own := "PathDecoder$Row") (ls0 := [some (.ref a), some (.int p0)]) (by decide) rfl (Nat.le_of_ble_eq_true rfl) rfl rfl hst (fun cx hl hD htc C hE htab hnm => ?_)
  subst hl hD htc
  unfold fn_X4_numberAt at hF
  refine pd_aload_n C dX4_numberAt_0 rfl rfl ?_
  refine pd_iload_n C dX4_numberAt_1 rfl rfl ?_
  obtain ⟨zr1, zh1, hF⟩ := pd_bd_some hF
  refine pd_callV C [.int p0] [] (em_X4_has (pd_C_st C) hn ha zh1) mw_X4_has wd_2_234 rfl (by decide) (pd_row_lt ha hn) (pd_row_sh ha) ⟨by decide, by decide, by decide, by decide⟩ rfl (Nat.le_of_ble_eq_true rfl) pd_oldL_same (fun _ _ => pd_old_same _) dX4_numberAt_2 (stk' := [.int zr1]) rfl ?_
  obtain ⟨zx1, hS, hF⟩ := pd_bd_some hF
  have hJ18 : pd_V cx 0 0 18 [none, none] [.int zx1] I J (pd_RF Z) n := by
    cases hF
    exact pd_iret C hE rfl rfl rfl ⟨by decide, by decide⟩ dX4_numberAt_18
  replace hF := hS
  clear hS
  refine pd_if_eq (tgt := 17) C dX4_numberAt_5 (by decide) (fun zc1 => ?_) (fun zc1 => ?_)
  · have hF := pd_t zc1 hF
    refine pd_iconst (v := 0) C dX4_numberAt_17 (by decide) ?_
    refine pd_wk (ls' := [none, none]) True.intro ?_
    have hF := hF.symm
    cases hF
    exact hJ18
  · have hF := pd_f zc1 hF
    refine pd_aload_n C dX4_numberAt_8 rfl rfl ?_
    refine gr_4_0 C wd_2_24 (pd_row_lt ha hn) (pd_row_sh ha) (pd_row_rf ha) dX4_numberAt_9 ?_
    refine pd_iload_n C dX4_numberAt_12 rfl rfl ?_
    obtain ⟨zg1, hF⟩ := pd_gd_some hF
    refine pd_sald C (pd_row_lt1 ha hn) (pd_row_sh1 ha) zg1 dX4_numberAt_13 ?_
    refine pd_goto (tgt := 18) C dX4_numberAt_14 (by decide) ?_
    refine pd_wk (ls' := [none, none]) True.intro ?_
    have hF := hF.symm
    cases hF
    exact hJ18

def fn_X4_change (I : pd_I) (a : Nat) (p0 : Int32) (p1 : Int32) : Option pd_I := pd_bd (fn_X4_has I a p0) fun zr1 => pd_bd (if zr1 = 0 then some I else (pd_gd (pd_in p0 600) (pd_let (pd_ui I (a + 1) p0.toNatClampNeg (p1.toInt16.toInt32.toInt16.toInt32)) fun zI2 => some zI2))) fun (zI1 : pd_I) => some zI1
set_option maxRecDepth 100000 in
set_option maxHeartbeats 4000000 in
theorem em_X4_change {l : Launch} {D : va_G} {tc : Nat → ClassId} (hst : l.stackTraces = false) {I : pd_I} {J : pd_J} {Z : pd_R} {n : Nat} {a : Nat} {p0 : Int32} {p1 : Int32} (hn : 133 ≤ n) (ha : pd_isRow a = true) {out : pd_I} (hF : fn_X4_change I a p0 p1 = some out) :
    pd_M l D tc yX4_change (.code yX4_change cX4_change 3 (Option.none : Option Jvm.ClassFile.FieldType)) rm_X4_change [.ref a, .int p0, .int p1] I J (pd_RF Z) n (.ok (none)) out J (pd_RF Z) n := by
  refine pd_open (own := "PathDecoder$Row") (ls0 := [some (.ref a), some (.int p0), some (.int p1)]) (by decide) rfl (Nat.le_of_ble_eq_true rfl) rfl rfl hst (fun cx hl hD htc C hE htab hnm => ?_)
  subst hl hD htc
  unfold fn_X4_change at hF
  refine pd_aload_n C dX4_change_0 rfl rfl ?_
  refine pd_iload_n C dX4_change_1 rfl rfl ?_
  obtain ⟨zr1, zh1, hF⟩ := pd_bd_some hF
  refine pd_callV C [.int p0] [] (em_X4_has (pd_C_st C) hn ha zh1) mw_X4_has wd_2_234 rfl (by decide) (pd_row_lt ha hn) (pd_row_sh ha) ⟨by decide, by decide, by decide, by decide⟩ rfl (Nat.le_of_ble_eq_true rfl) pd_oldL_same (fun _ _ => pd_old_same _) dX4_change_2 (stk' := [.int zr1]) rfl ?_
  obtain ⟨zI1, hS, hF⟩ := pd_bd_some hF
  have hJ16 : pd_V cx 0 0 16 [none, none, none] [] zI1 J (pd_RF Z) n := by
    cases hF
    exact pd_vret C hE rfl ⟨by decide, by decide⟩ dX4_change_16
  replace hF := hS
  clear hS
  refine pd_if_eq (tgt := 16) C dX4_change_5 (by decide) (fun zc1 => ?_) (fun zc1 => ?_)
  · have hF := pd_t zc1 hF
    refine pd_wk (ls' := [none, none, none]) True.intro ?_
    have hF := hF.symm
    cases hF
    exact hJ16
  · have hF := pd_f zc1 hF
    refine pd_aload_n C dX4_change_8 rfl rfl ?_
    refine gr_4_0 C wd_2_24 (pd_row_lt ha hn) (pd_row_sh ha) (pd_row_rf ha) dX4_change_9 ?_
    refine pd_iload_n C dX4_change_12 rfl rfl ?_
    refine pd_iload_n C dX4_change_13 rfl rfl ?_
    refine pd_i2s C dX4_change_14 ?_
    obtain ⟨zg1, hF⟩ := pd_gd_some hF
    refine pd_sast C (pd_row_lt1 ha hn) (pd_row_sh1 ha) zg1 dX4_change_15 ?_
    refine pd_memI (fun zI2 hzI2 => ?_)
    have hF := pd_let_at hF hzI2
    refine pd_wk (ls' := [none, none, none]) True.intro ?_
    have hF := hF.symm
    cases hF
    exact hJ16

def fn_X11_put (I : pd_I) (Z : pd_R) (n : Nat) (p0 : Int32) (p1 : Int32) (p2 : Int32) : Option (Except String (Int32 × pd_I)) := pd_bd (if p2 < (-32) then some false else (if p2 ≤ 31 then some true else (some false))) fun zc1 => if zc1 = true then pd_bx (fn_X11_rowWithNumber I Z n p0 p1) fun zq1 => pd_gd (pd_isRow zq1) (pd_bd (fn_X4_numberAt I zq1 p1) fun zr1 => pd_bd (fn_X4_change I zq1 p1 p2) fun zI1 => some (.ok (zr1, zI1))) else (some (.error "java/lang/IllegalArgumentException"))
set_option maxRecDepth 100000 in
set_option maxHeartbeats 4000000 in
theorem em_X11_put {l : Launch} {D : va_G} {tc : Nat → ClassId} (hst : l.stackTraces = false) {I : pd_I} {J : pd_J} {Z : pd_R} {n : Nat} {p0 : Int32} {p1 : Int32} {p2 : Int32} (hn : 133 ≤ n)  {out : Except String (Int32 × pd_I)} (hF : fn_X11_put I Z n p0 p1 p2 = some out) :
    pd_M l D tc yX11_put (.code yX11_put cX11_put 6 (Option.some Jvm.ClassFile.FieldType.int)) rm_X11_put [.ref 0, .int p0, .int p1, .int p2] I J (pd_RF Z) n (pd_oo (fun (p : Int32 × pd_I) => some (.int p.1)) out) (pd_os (fun (p : Int32 × pd_I) => p.2) I out) J (pd_RF Z) n := by
  refine pd_open (own := "PathDecoder") (ls0 := [some (.ref 0), some (.int p0), some (.int p1), some (.int p2), none, none]) (by decide) rfl (Nat.le_of_ble_eq_true rfl) rfl rfl hst (fun cx hl hD htc C hE htab hnm => ?_)
  subst hl hD htc
  unfold fn_X11_put at hF
  refine pd_iload_n C dX11_put_0 rfl rfl ?_
  refine pd_bipush (v := (-32)) C dX11_put_1 (by decide) ?_
  obtain ⟨zc1, hS, hF⟩ := pd_bd_some hF
  have hTzc1 : zc1 = true → pd_V cx 0 0 22 [some (.ref 0), some (.int p0), some (.int p1), some (.int p2), none, none] [] I J (pd_RF Z) n := by
    intro hc
    have hF := pd_t hc hF
    refine pd_aload_n C dX11_put_22 rfl rfl ?_
    refine pd_iload_n C dX11_put_23 rfl rfl ?_
    refine pd_iload_n C dX11_put_24 rfl rfl ?_
    rcases pd_bx_some hF with ⟨e9, zh1, he9⟩ | ⟨zq1, zh1, hF⟩
    · subst he9
      exact pd_callVX C [.int p0, .int p1] [] (em_X11_rowWithNumber (pd_C_st C) hn  zh1) mw_X11_rowWithNumber wd_2_201 rfl (by decide) (pd_lt (by decide) hn) sh_0 ⟨by decide, by decide, by decide, by decide⟩ rfl (Nat.le_of_ble_eq_true rfl) dX11_put_25 (pd_prop C hE rfl htab ⟨by decide, by decide⟩)
    obtain ⟨zg1, hF⟩ := pd_gd_some hF
    refine pd_callV C [.int p0, .int p1] [] (em_X11_rowWithNumber (pd_C_st C) hn  zh1) mw_X11_rowWithNumber wd_2_201 rfl (by decide) (pd_lt (by decide) hn) sh_0 ⟨by decide, by decide, by decide, by decide⟩ rfl (Nat.le_of_ble_eq_true rfl) pd_oldL_same (fun _ _ => pd_old_same _) dX11_put_25 (stk' := [.ref zq1]) rfl ?_
    refine pd_astore (ls' := [some (.ref 0), some (.int p0), some (.int p1), some (.int p2), some (.ref zq1), none]) C dX11_put_28 (Nat.le_of_ble_eq_true rfl) rfl rfl ?_
    refine pd_aload C dX11_put_30 rfl ?_
    refine pd_iload_n C dX11_put_32 rfl rfl ?_
    obtain ⟨zr1, zh2, hF⟩ := pd_bd_some hF
    refine pd_callV C [.int p1] [] (em_X4_numberAt (pd_C_st C) hn zg1 zh2) mw_X4_numberAt wd_2_230 rfl (by decide) (pd_row_lt zg1 hn) (pd_row_sh zg1) ⟨by decide, by decide, by decide, by decide⟩ rfl (Nat.le_of_ble_eq_true rfl) pd_oldL_same (fun _ _ => pd_old_same _) dX11_put_33 (stk' := [.int zr1]) rfl ?_
    refine pd_istore (ls' := [some (.ref 0), some (.int p0), some (.int p1), some (.int p2), some (.ref zq1), some (.int zr1)]) C dX11_put_36 (Nat.le_of_ble_eq_true rfl) rfl rfl ?_
    refine pd_aload C dX11_put_38 rfl ?_
    refine pd_iload_n C dX11_put_40 rfl rfl ?_
    refine pd_iload_n C dX11_put_41 rfl rfl ?_
    obtain ⟨zI1, zh3, hF⟩ := pd_bd_some hF
    refine pd_callV C [.int p1, .int p2] [] (em_X4_change (pd_C_st C) hn zg1 zh3) mw_X4_change wd_2_235 rfl (by decide) (pd_row_lt zg1 hn) (pd_row_sh zg1) ⟨by decide, by decide, by decide, by decide⟩ rfl (Nat.le_of_ble_eq_true rfl) pd_oldL_same (fun _ _ => pd_old_same _) dX11_put_42 (stk' := []) rfl ?_
    refine pd_iload C dX11_put_45 rfl ?_
    cases hF
    exact pd_iret C hE rfl rfl rfl ⟨by decide, by decide⟩ dX11_put_47
  have hEzc1 : zc1 = false → pd_V cx 0 0 12 [some (.ref 0), some (.int p0), some (.int p1), some (.int p2), none, none] [] I J (pd_RF Z) n := by
    intro hc
    have hF := pd_bf hc hF
    cases hF
    exact pd_throw (ik := 103) C hE rfl htab pd_tw1 wd_2_159 wd_1_17 (List.mem_of_getElem? (i := 2) rfl) dX11_put_12 dX11_put_15 dX11_put_16 dX11_put_18 dX11_put_21 ⟨by decide, Nat.le_of_ble_eq_true rfl, by decide, by decide⟩
  replace hF := hS
  clear hS
  refine pd_icmp_lt (tgt := 12) C dX11_put_3 (by decide) (fun zc3 => ?_) (fun zc3 => ?_)
  · have hF := pd_t zc3 hF
    cases hF
    exact hEzc1 rfl
  · have hF := pd_f zc3 hF
    refine pd_iload_n C dX11_put_6 rfl rfl ?_
    refine pd_bipush (v := 31) C dX11_put_7 (by decide) ?_
    refine pd_icmp_le (tgt := 22) C dX11_put_9 (by decide) (fun zc2 => ?_) (fun zc2 => ?_)
    · have hF := pd_t zc2 hF
      cases hF
      exact hTzc1 rfl
    · have hF := pd_f zc2 hF
      cases hF
      exact hEzc1 rfl

def fn_X4_size (I : pd_I) (a : Nat) : Option Int32 := some (I a 1)
set_option maxRecDepth 100000 in
set_option maxHeartbeats 4000000 in
theorem em_X4_size {l : Launch} {D : va_G} {tc : Nat → ClassId} (hst : l.stackTraces = false) {I : pd_I} {J : pd_J} {Z : pd_R} {n : Nat} {a : Nat} (hn : 133 ≤ n) (ha : pd_isRow a = true) {out : Int32} (hF : fn_X4_size I a = some out) :
    pd_M l D tc yX4_size (.code yX4_size cX4_size 1 (Option.some Jvm.ClassFile.FieldType.int)) rm_X4_size [.ref a] I J (pd_RF Z) n (.ok (some (.int out))) I J (pd_RF Z) n := by
  refine pd_open (own := "PathDecoder$Row") (ls0 := [some (.ref a)]) (by decide) rfl (Nat.le_of_ble_eq_true rfl) rfl rfl hst (fun cx hl hD htc C hE htab hnm => ?_)
  subst hl hD htc
  unfold fn_X4_size at hF
  refine pd_aload_n C dX4_size_0 rfl rfl ?_
  refine gi_4_1 C wd_2_25 (pd_row_lt ha hn) (pd_row_sh ha) dX4_size_1 ?_
  cases hF
  exact pd_iret C hE rfl rfl rfl ⟨by decide, by decide⟩ dX4_size_4

def fl_X11_five_13 {O : Type} (p1 : Int32) (p2 : Int32) (p3 : Int32) (zq1 : Nat) (kont : Int32 → pd_I → Option O) : Nat → Int32 → Int32 → pd_I → Option O
  | 0, _, _, _ => none
  | fu + 1, zx1, zx2, zI1 => if 5 ≤ zx2 then kont zx1 zI1 else (pd_let (p1.toInt64 + zx2.toInt64) fun zw1 => pd_bd2 (if (lg_cmp zw1 0) < 0 then some (zx1, zI1) else (pd_bd (fn_X4_size zI1 zq1) fun zr1 => if 0 ≤ (lg_cmp zw1 zr1.toInt64) then some (zx1, zI1) else (pd_bd (if 4 ≤ zx2 then some p3.toInt8.toInt32 else (some ((p2 >>> ((24 - (8 * zx2)) &&& 31)).toInt8.toInt32))) fun (zx5 : Int32) => pd_bd (fn_X11_bounded zx5 (-32) 31) fun zr2 => pd_bd (fn_X4_change zI1 zq1 zw1.toInt32 zr2) fun zI4 => pd_let (zx1 + 1) fun zv2 => some (zv2, zI4)))) fun (zx4 : Int32) (zI3 : pd_I) => pd_let (zx2 + 1) fun zv1 => fl_X11_five_13 p1 p2 p3 zq1 kont fu zx4 zv1 zI3)
set_option maxRecDepth 100000 in
set_option maxHeartbeats 4000000 in
theorem el_X11_five_13 {cx : pd_X} (C : pd_C cx "PathDecoder" cX11_five rm_X11_five) {p1 : Int32} {p2 : Int32} {p3 : Int32} {zq1 : Nat} {J : pd_J} {Z : pd_R} {n : Nat} (hn : 133 ≤ n) (zg1 : pd_isRow zq1 = true) {O : Type} {kont : Int32 → pd_I → Option O} {out : O} (K : ∀ (zx3 : Int32) (zI2 : pd_I), kont zx3 zI2 = some out → pd_V cx 2 12 97 [none, none, none, none, none, none, some (.int zx3), none, none, none, none] [] zI2 J (pd_RF Z) n) :
    ∀ (fu : Nat) (zx1 : Int32) (zx2 : Int32) (zI1 : pd_I), fl_X11_five_13 p1 p2 p3 zq1 kont fu zx1 zx2 zI1 = some out → pd_V cx 2 12 13 [none, none, some (.int p1), some (.int p2), some (.int p3), some (.ref zq1), some (.int zx1), some (.int zx2), none, none, none] [] zI1 J (pd_RF Z) n := by
  intro fu
  induction fu with
  | zero => intro zx1 zx2 zI1 hF; rw [fl_X11_five_13] at hF; cases hF
  | succ fu ih =>
    intro zx1 zx2 zI1 hF
    rw [fl_X11_five_13] at hF
    refine pd_iload C dX11_five_13 rfl ?_
    refine pd_iconst (v := 5) C dX11_five_15 (by decide) ?_
    refine pd_icmp_ge (tgt := 97) C dX11_five_16 (by decide) (fun zc4 => ?_) (fun zc4 => ?_)
    · have hF := pd_t zc4 hF
      refine pd_wk (ls' := [none, none, none, none, none, none, some (.int zx1), none, none, none, none]) (And.intro rfl True.intro) ?_
      exact K _ _ hF
    · have hF := pd_f zc4 hF
      refine pd_iload_n C dX11_five_19 rfl rfl ?_
      refine pd_i2l C dX11_five_20 ?_
      refine pd_iload C dX11_five_21 rfl ?_
      refine pd_i2l C dX11_five_23 ?_
      refine pd_ladd C dX11_five_24 ?_
      refine pd_topl (fun zw1 hzw1 => ?_)
      have hF := pd_let_at hF hzw1
      refine pd_lstore (ls' := [none, none, some (.int p1), some (.int p2), some (.int p3), some (.ref zq1), some (.int zx1), some (.int zx2), some (.long zw1), none, none]) C dX11_five_25 (Nat.le_of_ble_eq_true rfl) rfl rfl ?_
      refine pd_lload C dX11_five_27 rfl ?_
      refine pd_lconst (v := 0) C dX11_five_29 (by decide) ?_
      refine pd_lcmp C dX11_five_30 ?_
      obtain ⟨zx4, zI3, hS, hF⟩ := pd_bd2_some hF
      have hJ91 : pd_V cx 2 12 91 [none, none, some (.int p1), some (.int p2), some (.int p3), some (.ref zq1), some (.int zx4), some (.int zx2), none, none, none] [] zI3 J (pd_RF Z) n := by
        refine pd_iincG (zz := 1) C dX11_five_91 rfl (by decide) rfl (fun zv1 hzv1 => ?_)
        have hF := pd_let_at hF hzv1
        refine pd_lsE (ls' := [none, none, some (.int p1), some (.int p2), some (.int p3), some (.ref zq1), some (.int zx4), some (.int zv1), none, none, none]) rfl ?_
        refine pd_goto (tgt := 13) C dX11_five_94 (by decide) ?_
        exact ih _ _ _ hF
      replace hF := hS
      clear hS
      refine pd_if_lt (tgt := 91) C dX11_five_31 (by decide) (fun zc3 => ?_) (fun zc3 => ?_)
      · have hF := pd_t zc3 hF
        refine pd_wk (ls' := [none, none, some (.int p1), some (.int p2), some (.int p3), some (.ref zq1), some (.int zx1), some (.int zx2), none, none, none]) (And.intro rfl (And.intro rfl (And.intro rfl (And.intro rfl (And.intro rfl (And.intro rfl True.intro)))))) ?_
        have hF := hF.symm
        cases hF
        exact hJ91
      · have hF := pd_f zc3 hF
        refine pd_lload C dX11_five_34 rfl ?_
        refine pd_aload C dX11_five_36 rfl ?_
        obtain ⟨zr1, zh2, hF⟩ := pd_bd_some hF
        refine pd_callV C [] [.long zw1] (em_X4_size (pd_C_st C) hn zg1 zh2) mw_X4_size wd_3_6 rfl (by decide) (pd_row_lt zg1 hn) (pd_row_sh zg1) ⟨by decide, by decide, by decide, by decide⟩ rfl (Nat.le_of_ble_eq_true rfl) pd_oldL_same (fun _ _ => pd_old_same _) dX11_five_38 (stk' := [.int zr1, .long zw1]) rfl ?_
        refine pd_i2l C dX11_five_41 ?_
        refine pd_lcmp C dX11_five_42 ?_
        refine pd_if_ge (tgt := 91) C dX11_five_43 (by decide) (fun zc2 => ?_) (fun zc2 => ?_)
        · have hF := pd_t zc2 hF
          refine pd_wk (ls' := [none, none, some (.int p1), some (.int p2), some (.int p3), some (.ref zq1), some (.int zx1), some (.int zx2), none, none, none]) (And.intro rfl (And.intro rfl (And.intro rfl (And.intro rfl (And.intro rfl (And.intro rfl True.intro)))))) ?_
          have hF := hF.symm
          cases hF
          exact hJ91
        · have hF := pd_f zc2 hF
          refine pd_iload C dX11_five_46 rfl ?_
          refine pd_iconst (v := 4) C dX11_five_48 (by decide) ?_
          obtain ⟨zx5, hS, hF⟩ := pd_bd_some hF
          have hJ69 : pd_V cx 2 12 69 [none, none, some (.int p1), some (.int p2), some (.int p3), some (.ref zq1), some (.int zx1), some (.int zx2), some (.long zw1), none, none] [.int zx5] zI1 J (pd_RF Z) n := by
            refine pd_istore (ls' := [none, none, some (.int p1), some (.int p2), some (.int p3), some (.ref zq1), some (.int zx1), some (.int zx2), some (.long zw1), none, some (.int zx5)]) C dX11_five_69 (Nat.le_of_ble_eq_true rfl) rfl rfl ?_
            refine pd_aload C dX11_five_71 rfl ?_
            refine pd_lload C dX11_five_73 rfl ?_
            refine pd_l2i C dX11_five_75 ?_
            refine pd_iload C dX11_five_76 rfl ?_
            refine pd_bipush (v := (-32)) C dX11_five_78 (by decide) ?_
            refine pd_bipush (v := 31) C dX11_five_80 (by decide) ?_
            obtain ⟨zr2, zh3, hF⟩ := pd_bd_some hF
            refine pd_callS C [.int zx5, .int (-32), .int 31] [.int zw1.toInt32, .ref zq1] (em_X11_bounded (pd_C_st C) hn  zh3) mw_X11_bounded wd_3_10 ⟨by decide, by decide, by decide, by decide⟩ rfl (Nat.le_of_ble_eq_true rfl) pd_oldL_same (fun _ _ => pd_old_same _) dX11_five_82 (stk' := [.int zr2, .int zw1.toInt32, .ref zq1]) rfl ?_
            obtain ⟨zI4, zh4, hF⟩ := pd_bd_some hF
            refine pd_callV C [.int zw1.toInt32, .int zr2] [] (em_X4_change (pd_C_st C) hn zg1 zh4) mw_X4_change wd_2_235 rfl (by decide) (pd_row_lt zg1 hn) (pd_row_sh zg1) ⟨by decide, by decide, by decide, by decide⟩ rfl (Nat.le_of_ble_eq_true rfl) pd_oldL_same (fun _ _ => pd_old_same _) dX11_five_85 (stk' := []) rfl ?_
            refine pd_iincG (zz := 1) C dX11_five_88 rfl (by decide) rfl (fun zv2 hzv2 => ?_)
            have hF := pd_let_at hF hzv2
            refine pd_lsE (ls' := [none, none, some (.int p1), some (.int p2), some (.int p3), some (.ref zq1), some (.int zv2), some (.int zx2), some (.long zw1), none, some (.int zx5)]) rfl ?_
            refine pd_wk (ls' := [none, none, some (.int p1), some (.int p2), some (.int p3), some (.ref zq1), some (.int zv2), some (.int zx2), none, none, none]) (And.intro rfl (And.intro rfl (And.intro rfl (And.intro rfl (And.intro rfl (And.intro rfl True.intro)))))) ?_
            have hF := hF.symm
            cases hF
            exact hJ91
          replace hF := hS
          clear hS
          refine pd_icmp_ge (tgt := 66) C dX11_five_49 (by decide) (fun zc1 => ?_) (fun zc1 => ?_)
          · have hF := pd_t zc1 hF
            refine pd_iload C dX11_five_66 rfl ?_
            refine pd_i2b C dX11_five_68 ?_
            have hF := hF.symm
            cases hF
            exact hJ69
          · have hF := pd_f zc1 hF
            refine pd_iload_n C dX11_five_52 rfl rfl ?_
            refine pd_bipush (v := 24) C dX11_five_53 (by decide) ?_
            refine pd_bipush (v := 8) C dX11_five_55 (by decide) ?_
            refine pd_iload C dX11_five_57 rfl ?_
            refine pd_imul C dX11_five_59 ?_
            refine pd_isub C dX11_five_60 ?_
            refine pd_ishr C dX11_five_61 ?_
            refine pd_i2b C dX11_five_62 ?_
            refine pd_goto (tgt := 69) C dX11_five_63 (by decide) ?_
            have hF := hF.symm
            cases hF
            exact hJ69
def fn_X11_five (I : pd_I) (Z : pd_R) (n : Nat) (p0 : Int32) (p1 : Int32) (p2 : Int32) (p3 : Int32) : Option (Except String (Int32 × pd_I)) := pd_bx (fn_X11_rowThere I Z n p0) fun zq1 => pd_gd (pd_isRow zq1) (fl_X11_five_13 p1 p2 p3 zq1 (fun zx3 zI2 => some (.ok (zx3, zI2))) pd_FU 0 0 I)
set_option maxRecDepth 100000 in
set_option maxHeartbeats 4000000 in
theorem em_X11_five {l : Launch} {D : va_G} {tc : Nat → ClassId} (hst : l.stackTraces = false) {I : pd_I} {J : pd_J} {Z : pd_R} {n : Nat} {p0 : Int32} {p1 : Int32} {p2 : Int32} {p3 : Int32} (hn : 133 ≤ n)  {out : Except String (Int32 × pd_I)} (hF : fn_X11_five I Z n p0 p1 p2 p3 = some out) :
    pd_M l D tc yX11_five (.code yX11_five cX11_five 11 (Option.some Jvm.ClassFile.FieldType.int)) rm_X11_five [.ref 0, .int p0, .int p1, .int p2, .int p3] I J (pd_RF Z) n (pd_oo (fun (p : Int32 × pd_I) => some (.int p.1)) out) (pd_os (fun (p : Int32 × pd_I) => p.2) I out) J (pd_RF Z) n := by
  refine pd_open (own := "PathDecoder") (ls0 := [some (.ref 0), some (.int p0), some (.int p1), some (.int p2), some (.int p3), none, none, none, none, none, none]) (by decide) rfl (Nat.le_of_ble_eq_true rfl) rfl rfl hst (fun cx hl hD htc C hE htab hnm => ?_)
  subst hl hD htc
  unfold fn_X11_five at hF
  refine pd_aload_n C dX11_five_0 rfl rfl ?_
  refine pd_iload_n C dX11_five_1 rfl rfl ?_
  rcases pd_bx_some hF with ⟨e9, zh1, he9⟩ | ⟨zq1, zh1, hF⟩
  · subst he9
    exact pd_callVX C [.int p0] [] (em_X11_rowThere (pd_C_st C) hn  zh1) mw_X11_rowThere wd_2_205 rfl (by decide) (pd_lt (by decide) hn) sh_0 ⟨by decide, by decide, by decide, by decide⟩ rfl (Nat.le_of_ble_eq_true rfl) dX11_five_2 (pd_prop C hE rfl htab ⟨by decide, by decide⟩)
  obtain ⟨zg1, hF⟩ := pd_gd_some hF
  refine pd_callV C [.int p0] [] (em_X11_rowThere (pd_C_st C) hn  zh1) mw_X11_rowThere wd_2_205 rfl (by decide) (pd_lt (by decide) hn) sh_0 ⟨by decide, by decide, by decide, by decide⟩ rfl (Nat.le_of_ble_eq_true rfl) pd_oldL_same (fun _ _ => pd_old_same _) dX11_five_2 (stk' := [.ref zq1]) rfl ?_
  refine pd_astore (ls' := [some (.ref 0), some (.int p0), some (.int p1), some (.int p2), some (.int p3), some (.ref zq1), none, none, none, none, none]) C dX11_five_5 (Nat.le_of_ble_eq_true rfl) rfl rfl ?_
  refine pd_iconst (v := 0) C dX11_five_7 (by decide) ?_
  refine pd_istore (ls' := [some (.ref 0), some (.int p0), some (.int p1), some (.int p2), some (.int p3), some (.ref zq1), some (.int 0), none, none, none, none]) C dX11_five_8 (Nat.le_of_ble_eq_true rfl) rfl rfl ?_
  refine pd_iconst (v := 0) C dX11_five_10 (by decide) ?_
  refine pd_istore (ls' := [some (.ref 0), some (.int p0), some (.int p1), some (.int p2), some (.int p3), some (.ref zq1), some (.int 0), some (.int 0), none, none, none]) C dX11_five_11 (Nat.le_of_ble_eq_true rfl) rfl rfl ?_
  refine pd_wk (ls' := [none, none, some (.int p1), some (.int p2), some (.int p3), some (.ref zq1), some (.int 0), some (.int 0), none, none, none]) (And.intro rfl (And.intro rfl (And.intro rfl (And.intro rfl (And.intro rfl (And.intro rfl True.intro)))))) ?_
  refine el_X11_five_13 C hn zg1 (fun zx3 zI2 hF => ?_) pd_FU _ _ _ hF
  refine pd_iload C dX11_five_97 rfl ?_
  cases hF
  exact pd_iret C hE rfl rfl rfl ⟨by decide, by decide⟩ dX11_five_99

def fn_X11_at (I : pd_I) (Z : pd_R) (n : Nat) (p0 : Int32) (p1 : Int32) : Option (Except String (Int32)) := pd_bx (fn_X11_rowWithNumber I Z n p0 p1) fun zq1 => pd_gd (pd_isRow zq1) (pd_bd (fn_X4_numberAt I zq1 p1) fun zr1 => some (.ok zr1))
set_option maxRecDepth 100000 in
set_option maxHeartbeats 4000000 in
theorem em_X11_at {l : Launch} {D : va_G} {tc : Nat → ClassId} (hst : l.stackTraces = false) {I : pd_I} {J : pd_J} {Z : pd_R} {n : Nat} {p0 : Int32} {p1 : Int32} (hn : 133 ≤ n)  {out : Except String (Int32)} (hF : fn_X11_at I Z n p0 p1 = some out) :
    pd_M l D tc yX11_at (.code yX11_at cX11_at 3 (Option.some Jvm.ClassFile.FieldType.int)) rm_X11_at [.ref 0, .int p0, .int p1] I J (pd_RF Z) n (pd_oo (fun (p : Int32) => some (.int p)) out) I J (pd_RF Z) n := by
  refine pd_open (own := "PathDecoder") (ls0 := [some (.ref 0), some (.int p0), some (.int p1)]) (by decide) rfl (Nat.le_of_ble_eq_true rfl) rfl rfl hst (fun cx hl hD htc C hE htab hnm => ?_)
  subst hl hD htc
  unfold fn_X11_at at hF
  refine pd_aload_n C dX11_at_0 rfl rfl ?_
  refine pd_iload_n C dX11_at_1 rfl rfl ?_
  refine pd_iload_n C dX11_at_2 rfl rfl ?_
  rcases pd_bx_some hF with ⟨e9, zh1, he9⟩ | ⟨zq1, zh1, hF⟩
  · subst he9
    exact pd_callVX C [.int p0, .int p1] [] (em_X11_rowWithNumber (pd_C_st C) hn  zh1) mw_X11_rowWithNumber wd_2_201 rfl (by decide) (pd_lt (by decide) hn) sh_0 ⟨by decide, by decide, by decide, by decide⟩ rfl (Nat.le_of_ble_eq_true rfl) dX11_at_3 (pd_prop C hE rfl htab ⟨by decide, by decide⟩)
  obtain ⟨zg1, hF⟩ := pd_gd_some hF
  refine pd_callV C [.int p0, .int p1] [] (em_X11_rowWithNumber (pd_C_st C) hn  zh1) mw_X11_rowWithNumber wd_2_201 rfl (by decide) (pd_lt (by decide) hn) sh_0 ⟨by decide, by decide, by decide, by decide⟩ rfl (Nat.le_of_ble_eq_true rfl) pd_oldL_same (fun _ _ => pd_old_same _) dX11_at_3 (stk' := [.ref zq1]) rfl ?_
  refine pd_iload_n C dX11_at_6 rfl rfl ?_
  obtain ⟨zr1, zh2, hF⟩ := pd_bd_some hF
  refine pd_callV C [.int p1] [] (em_X4_numberAt (pd_C_st C) hn zg1 zh2) mw_X4_numberAt wd_2_230 rfl (by decide) (pd_row_lt zg1 hn) (pd_row_sh zg1) ⟨by decide, by decide, by decide, by decide⟩ rfl (Nat.le_of_ble_eq_true rfl) pd_oldL_same (fun _ _ => pd_old_same _) dX11_at_7 (stk' := [.int zr1]) rfl ?_
  cases hF
  exact pd_iret C hE rfl rfl rfl ⟨by decide, by decide⟩ dX11_at_10

def fn_X4_shorten (I : pd_I) (a : Nat) (p0 : Int32) : Option pd_I := pd_bd (if 0 ≤ p0 then if (I a 1) ≤ p0 then some I else (pd_let (pd_ui I a 1 p0) fun zI2 => some zI2) else (pd_let (pd_ui I a 1 (-1)) fun zI3 => some zI3)) fun (zI1 : pd_I) => some zI1
set_option maxRecDepth 100000 in
set_option maxHeartbeats 4000000 in
theorem em_X4_shorten {l : Launch} {D : va_G} {tc : Nat → ClassId} (hst : l.stackTraces = false) {I : pd_I} {J : pd_J} {Z : pd_R} {n : Nat} {a : Nat} {p0 : Int32} (hn : 133 ≤ n) (ha : pd_isRow a = true) {out : pd_I} (hF : fn_X4_shorten I a p0 = some out) :
    pd_M l D tc yX4_shorten (.code yX4_shorten cX4_shorten 2 (Option.none : Option Jvm.ClassFile.FieldType)) rm_X4_shorten [.ref a, .int p0] I J (pd_RF Z) n (.ok (none)) out J (pd_RF Z) n := by
  refine pd_open (own := "PathDecoder$Row") (ls0 := [some (.ref a), some (.int p0)]) (by decide) rfl (Nat.le_of_ble_eq_true rfl) rfl rfl hst (fun cx hl hD htc C hE htab hnm => ?_)
  subst hl hD htc
  unfold fn_X4_shorten at hF
  refine pd_iload_n C dX4_shorten_0 rfl rfl ?_
  obtain ⟨zI1, hS, hF⟩ := pd_bd_some hF
  have hJ25 : pd_V cx 0 0 25 [none, none] [] zI1 J (pd_RF Z) n := by
    cases hF
    exact pd_vret C hE rfl ⟨by decide, by decide⟩ dX4_shorten_25
  replace hF := hS
  clear hS
  refine pd_if_ge (tgt := 12) C dX4_shorten_1 (by decide) (fun zc2 => ?_) (fun zc2 => ?_)
  · have hF := pd_t zc2 hF
    refine pd_iload_n C dX4_shorten_12 rfl rfl ?_
    refine pd_aload_n C dX4_shorten_13 rfl rfl ?_
    refine gi_4_1 C wd_2_25 (pd_row_lt ha hn) (pd_row_sh ha) dX4_shorten_14 ?_
    refine pd_icmp_ge (tgt := 25) C dX4_shorten_17 (by decide) (fun zc1 => ?_) (fun zc1 => ?_)
    · have hF := pd_t zc1 hF
      refine pd_wk (ls' := [none, none]) True.intro ?_
      have hF := hF.symm
      cases hF
      exact hJ25
    · have hF := pd_f zc1 hF
      refine pd_aload_n C dX4_shorten_20 rfl rfl ?_
      refine pd_iload_n C dX4_shorten_21 rfl rfl ?_
      refine pi_4_1 C wd_2_25 rfl rfl (pd_row_lt ha hn) (pd_row_sh ha) dX4_shorten_22 ?_
      refine pd_memI (fun zI2 hzI2 => ?_)
      have hF := pd_let_at hF hzI2
      refine pd_wk (ls' := [none, none]) True.intro ?_
      have hF := hF.symm
      cases hF
      exact hJ25
  · have hF := pd_f zc2 hF
    refine pd_aload_n C dX4_shorten_4 rfl rfl ?_
    refine pd_iconst (v := (-1)) C dX4_shorten_5 (by decide) ?_
    refine pi_4_1 C wd_2_25 rfl rfl (pd_row_lt ha hn) (pd_row_sh ha) dX4_shorten_6 ?_
    refine pd_memI (fun zI3 hzI3 => ?_)
    have hF := pd_let_at hF hzI3
    refine pd_goto (tgt := 25) C dX4_shorten_9 (by decide) ?_
    refine pd_wk (ls' := [none, none]) True.intro ?_
    have hF := hF.symm
    cases hF
    exact hJ25

def fn_X11_tear (I : pd_I) (Z : pd_R) (n : Nat) (p0 : Int32) (p1 : Int32) : Option (Except String (Int32 × pd_I)) := pd_bx (fn_X11_rowThere I Z n p0) fun zq1 => pd_gd (pd_isRow zq1) (pd_bd (fn_X4_size I zq1) fun zr1 => pd_bd (fn_X4_shorten I zq1 p1) fun zI1 => some (.ok (zr1, zI1)))
set_option maxRecDepth 100000 in
set_option maxHeartbeats 4000000 in
theorem em_X11_tear {l : Launch} {D : va_G} {tc : Nat → ClassId} (hst : l.stackTraces = false) {I : pd_I} {J : pd_J} {Z : pd_R} {n : Nat} {p0 : Int32} {p1 : Int32} (hn : 133 ≤ n)  {out : Except String (Int32 × pd_I)} (hF : fn_X11_tear I Z n p0 p1 = some out) :
    pd_M l D tc yX11_tear (.code yX11_tear cX11_tear 5 (Option.some Jvm.ClassFile.FieldType.int)) rm_X11_tear [.ref 0, .int p0, .int p1] I J (pd_RF Z) n (pd_oo (fun (p : Int32 × pd_I) => some (.int p.1)) out) (pd_os (fun (p : Int32 × pd_I) => p.2) I out) J (pd_RF Z) n := by
  refine pd_open (own := "PathDecoder") (ls0 := [some (.ref 0), some (.int p0), some (.int p1), none, none]) (by decide) rfl (Nat.le_of_ble_eq_true rfl) rfl rfl hst (fun cx hl hD htc C hE htab hnm => ?_)
  subst hl hD htc
  unfold fn_X11_tear at hF
  refine pd_aload_n C dX11_tear_0 rfl rfl ?_
  refine pd_iload_n C dX11_tear_1 rfl rfl ?_
  rcases pd_bx_some hF with ⟨e9, zh1, he9⟩ | ⟨zq1, zh1, hF⟩
  · subst he9
    exact pd_callVX C [.int p0] [] (em_X11_rowThere (pd_C_st C) hn  zh1) mw_X11_rowThere wd_2_205 rfl (by decide) (pd_lt (by decide) hn) sh_0 ⟨by decide, by decide, by decide, by decide⟩ rfl (Nat.le_of_ble_eq_true rfl) dX11_tear_2 (pd_prop C hE rfl htab ⟨by decide, by decide⟩)
  obtain ⟨zg1, hF⟩ := pd_gd_some hF
  refine pd_callV C [.int p0] [] (em_X11_rowThere (pd_C_st C) hn  zh1) mw_X11_rowThere wd_2_205 rfl (by decide) (pd_lt (by decide) hn) sh_0 ⟨by decide, by decide, by decide, by decide⟩ rfl (Nat.le_of_ble_eq_true rfl) pd_oldL_same (fun _ _ => pd_old_same _) dX11_tear_2 (stk' := [.ref zq1]) rfl ?_
  refine pd_astore_n (ls' := [some (.ref 0), some (.int p0), some (.int p1), some (.ref zq1), none]) C dX11_tear_5 rfl (Nat.le_of_ble_eq_true rfl) rfl rfl ?_
  refine pd_aload_n C dX11_tear_6 rfl rfl ?_
  obtain ⟨zr1, zh2, hF⟩ := pd_bd_some hF
  refine pd_callV C [] [] (em_X4_size (pd_C_st C) hn zg1 zh2) mw_X4_size wd_3_6 rfl (by decide) (pd_row_lt zg1 hn) (pd_row_sh zg1) ⟨by decide, by decide, by decide, by decide⟩ rfl (Nat.le_of_ble_eq_true rfl) pd_oldL_same (fun _ _ => pd_old_same _) dX11_tear_7 (stk' := [.int zr1]) rfl ?_
  refine pd_istore (ls' := [some (.ref 0), some (.int p0), some (.int p1), some (.ref zq1), some (.int zr1)]) C dX11_tear_10 (Nat.le_of_ble_eq_true rfl) rfl rfl ?_
  refine pd_aload_n C dX11_tear_12 rfl rfl ?_
  refine pd_iload_n C dX11_tear_13 rfl rfl ?_
  obtain ⟨zI1, zh3, hF⟩ := pd_bd_some hF
  refine pd_callV C [.int p1] [] (em_X4_shorten (pd_C_st C) hn zg1 zh3) mw_X4_shorten wd_3_25 rfl (by decide) (pd_row_lt zg1 hn) (pd_row_sh zg1) ⟨by decide, by decide, by decide, by decide⟩ rfl (Nat.le_of_ble_eq_true rfl) pd_oldL_same (fun _ _ => pd_old_same _) dX11_tear_14 (stk' := []) rfl ?_
  refine pd_iload C dX11_tear_17 rfl ?_
  cases hF
  exact pd_iret C hE rfl rfl rfl ⟨by decide, by decide⟩ dX11_tear_19

def fn_X3_setCosts (I : pd_I) (p0 : Int32) (p1 : Int32) (p2 : Int32) : Option (Int32 × pd_I) := pd_gd (pd_in (p0 - (-32)) 64) (pd_gd (pd_in (p0 - (-32)) 64) (pd_let ((I 7 (p0 - (-32)).toNatClampNeg) + (I 8 (p0 - (-32)).toNatClampNeg)) fun zv1 => pd_gd (pd_in (p0 - (-32)) 64) (pd_let (pd_ui I 7 (p0 - (-32)).toNatClampNeg p1) fun zI1 => pd_gd (pd_in (p0 - (-32)) 64) (pd_let (pd_ui zI1 8 (p0 - (-32)).toNatClampNeg p2) fun zI2 => some (zv1, zI2)))))
set_option maxRecDepth 100000 in
set_option maxHeartbeats 4000000 in
theorem em_X3_setCosts {l : Launch} {D : va_G} {tc : Nat → ClassId} (hst : l.stackTraces = false) {I : pd_I} {J : pd_J} {Z : pd_R} {n : Nat} {p0 : Int32} {p1 : Int32} {p2 : Int32} (hn : 133 ≤ n)  {out : Int32 × pd_I} (hF : fn_X3_setCosts I p0 p1 p2 = some out) :
    pd_M l D tc yX3_setCosts (.code yX3_setCosts cX3_setCosts 5 (Option.some Jvm.ClassFile.FieldType.int)) rm_X3_setCosts [.ref 6, .int p0, .int p1, .int p2] I J (pd_RF Z) n (.ok (some (.int out.1))) out.2 J (pd_RF Z) n := by
  refine pd_open (own := "PathDecoder$Received") (ls0 := [some (.ref 6), some (.int p0), some (.int p1), some (.int p2), none]) (by decide) rfl (Nat.le_of_ble_eq_true rfl) rfl rfl hst (fun cx hl hD htc C hE htab hnm => ?_)
  subst hl hD htc
  unfold fn_X3_setCosts at hF
  refine pd_aload_n C dX3_setCosts_0 rfl rfl ?_
  refine gr_3_0 C wd_1_55 (pd_lt (by decide) hn) sh_6 (rf_6_0 _) dX3_setCosts_1 ?_
  refine pd_iload_n C dX3_setCosts_4 rfl rfl ?_
  refine pd_bipush (v := (-32)) C dX3_setCosts_5 (by decide) ?_
  refine pd_isub C dX3_setCosts_7 ?_
  obtain ⟨zg1, hF⟩ := pd_gd_some hF
  refine pd_iald C (pd_lt (by decide) hn) sh_7 zg1 dX3_setCosts_8 ?_
  refine pd_aload_n C dX3_setCosts_9 rfl rfl ?_
  refine gr_3_1 C wd_1_56 (pd_lt (by decide) hn) sh_6 (rf_6_1 _) dX3_setCosts_10 ?_
  refine pd_iload_n C dX3_setCosts_13 rfl rfl ?_
  refine pd_bipush (v := (-32)) C dX3_setCosts_14 (by decide) ?_
  refine pd_isub C dX3_setCosts_16 ?_
  obtain ⟨zg2, hF⟩ := pd_gd_some hF
  refine pd_iald C (pd_lt (by decide) hn) sh_8 zg2 dX3_setCosts_17 ?_
  refine pd_iadd C dX3_setCosts_18 ?_
  refine pd_topi (fun zv1 hzv1 => ?_)
  have hF := pd_let_at hF hzv1
  refine pd_istore (ls' := [some (.ref 6), some (.int p0), some (.int p1), some (.int p2), some (.int zv1)]) C dX3_setCosts_19 (Nat.le_of_ble_eq_true rfl) rfl rfl ?_
  refine pd_aload_n C dX3_setCosts_21 rfl rfl ?_
  refine gr_3_0 C wd_1_55 (pd_lt (by decide) hn) sh_6 (rf_6_0 _) dX3_setCosts_22 ?_
  refine pd_iload_n C dX3_setCosts_25 rfl rfl ?_
  refine pd_bipush (v := (-32)) C dX3_setCosts_26 (by decide) ?_
  refine pd_isub C dX3_setCosts_28 ?_
  refine pd_iload_n C dX3_setCosts_29 rfl rfl ?_
  obtain ⟨zg3, hF⟩ := pd_gd_some hF
  refine pd_iast C (pd_lt (by decide) hn) sh_7 zg3 dX3_setCosts_30 ?_
  refine pd_memI (fun zI1 hzI1 => ?_)
  have hF := pd_let_at hF hzI1
  refine pd_aload_n C dX3_setCosts_31 rfl rfl ?_
  refine gr_3_1 C wd_1_56 (pd_lt (by decide) hn) sh_6 (rf_6_1 _) dX3_setCosts_32 ?_
  refine pd_iload_n C dX3_setCosts_35 rfl rfl ?_
  refine pd_bipush (v := (-32)) C dX3_setCosts_36 (by decide) ?_
  refine pd_isub C dX3_setCosts_38 ?_
  refine pd_iload_n C dX3_setCosts_39 rfl rfl ?_
  obtain ⟨zg4, hF⟩ := pd_gd_some hF
  refine pd_iast C (pd_lt (by decide) hn) sh_8 zg4 dX3_setCosts_40 ?_
  refine pd_memI (fun zI2 hzI2 => ?_)
  have hF := pd_let_at hF hzI2
  refine pd_iload C dX3_setCosts_41 rfl ?_
  cases hF
  exact pd_iret C hE rfl rfl rfl ⟨by decide, by decide⟩ dX3_setCosts_43

def fn_X11_noise (I : pd_I) (p0 : Int32) (p1 : Int32) (p2 : Int32) : Option (Except String (Int32 × pd_I)) := pd_jn (fun (_ : Unit) => some (.error "java/lang/IllegalArgumentException")) fun zj1 => if p0 < (-32) then zj1 () else (if p0 ≤ 31 then pd_bd (if p1 < 0 then some false else (if 1000 < p1 then some false else (if p2 < 0 then some false else (if p2 ≤ 1000 then some true else (some false))))) fun zc1 => if zc1 = true then pd_bd2 (fn_X3_setCosts I p0 p1 p2) fun zr1 zI1 => some (.ok (zr1, zI1)) else (some (.error "java/lang/IllegalArgumentException")) else (zj1 ()))
set_option maxRecDepth 100000 in
set_option maxHeartbeats 4000000 in
theorem em_X11_noise {l : Launch} {D : va_G} {tc : Nat → ClassId} (hst : l.stackTraces = false) {I : pd_I} {J : pd_J} {Z : pd_R} {n : Nat} {p0 : Int32} {p1 : Int32} {p2 : Int32} (hn : 133 ≤ n)  {out : Except String (Int32 × pd_I)} (hF : fn_X11_noise I p0 p1 p2 = some out) :
    pd_M l D tc yX11_noise (.code yX11_noise cX11_noise 4 (Option.some Jvm.ClassFile.FieldType.int)) rm_X11_noise [.ref 0, .int p0, .int p1, .int p2] I J (pd_RF Z) n (pd_oo (fun (p : Int32 × pd_I) => some (.int p.1)) out) (pd_os (fun (p : Int32 × pd_I) => p.2) I out) J (pd_RF Z) n := by
  refine pd_open (own := "PathDecoder") (ls0 := [some (.ref 0), some (.int p0), some (.int p1), some (.int p2)]) (by decide) rfl (Nat.le_of_ble_eq_true rfl) rfl rfl hst (fun cx hl hD htc C hE htab hnm => ?_)
  subst hl hD htc
  unfold fn_X11_noise at hF
  refine pd_iload_n C dX11_noise_0 rfl rfl ?_
  refine pd_bipush (v := (-32)) C dX11_noise_1 (by decide) ?_
  refine pd_jn_use hF (fun j => ∀ (_u : Unit), j _u = some out → pd_V cx 0 0 12 [none, none, none, none] [] I J (pd_RF Z) n) (fun _u hF => ?_) (fun zj1 hzj1 hF => ?_)
  · cases hF
    exact pd_throw (ik := 103) C hE rfl htab pd_tw1 wd_2_159 wd_1_17 (List.mem_of_getElem? (i := 2) rfl) dX11_noise_12 dX11_noise_15 dX11_noise_16 dX11_noise_18 dX11_noise_21 ⟨by decide, Nat.le_of_ble_eq_true rfl, by decide, by decide⟩
  · refine pd_icmp_lt (tgt := 12) C dX11_noise_3 (by decide) (fun zc7 => ?_) (fun zc7 => ?_)
    · have hF := pd_t zc7 hF
      refine pd_wk (ls' := [none, none, none, none]) True.intro ?_
      exact hzj1 _ hF
    · have hF := pd_f zc7 hF
      refine pd_iload_n C dX11_noise_6 rfl rfl ?_
      refine pd_bipush (v := 31) C dX11_noise_7 (by decide) ?_
      refine pd_icmp_le (tgt := 22) C dX11_noise_9 (by decide) (fun zc6 => ?_) (fun zc6 => ?_)
      · have hF := pd_t zc6 hF
        refine pd_iload_n C dX11_noise_22 rfl rfl ?_
        obtain ⟨zc1, hS, hF⟩ := pd_bd_some hF
        have hTzc1 : zc1 = true → pd_V cx 0 0 54 [some (.ref 0), some (.int p0), some (.int p1), some (.int p2)] [] I J (pd_RF Z) n := by
          intro hc
          have hF := pd_t hc hF
          refine pd_aload_n C dX11_noise_54 rfl rfl ?_
          refine gr_11_4 C wd_2_36 (pd_lt (by decide) hn) sh_0 (rf_0_4 _) dX11_noise_55 ?_
          refine pd_iload_n C dX11_noise_58 rfl rfl ?_
          refine pd_iload_n C dX11_noise_59 rfl rfl ?_
          refine pd_iload_n C dX11_noise_60 rfl rfl ?_
          obtain ⟨zr1, zI1, zh1, hF⟩ := pd_bd2_some hF
          refine pd_callV C [.int p0, .int p1, .int p2] [] (em_X3_setCosts (pd_C_st C) hn  zh1) mw_X3_setCosts wd_3_37 rfl (by decide) (pd_lt (by decide) hn) sh_6 ⟨by decide, by decide, by decide, by decide⟩ rfl (Nat.le_of_ble_eq_true rfl) pd_oldL_same (fun _ _ => pd_old_same _) dX11_noise_61 (stk' := [.int zr1]) rfl ?_
          cases hF
          exact pd_iret C hE rfl rfl rfl ⟨by decide, by decide⟩ dX11_noise_64
        have hEzc1 : zc1 = false → pd_V cx 0 0 44 [some (.ref 0), some (.int p0), some (.int p1), some (.int p2)] [] I J (pd_RF Z) n := by
          intro hc
          have hF := pd_bf hc hF
          cases hF
          exact pd_throw (ik := 103) C hE rfl htab pd_tw1 wd_2_159 wd_1_17 (List.mem_of_getElem? (i := 5) rfl) dX11_noise_44 dX11_noise_47 dX11_noise_48 dX11_noise_50 dX11_noise_53 ⟨by decide, Nat.le_of_ble_eq_true rfl, by decide, by decide⟩
        replace hF := hS
        clear hS
        refine pd_if_lt (tgt := 44) C dX11_noise_23 (by decide) (fun zc5 => ?_) (fun zc5 => ?_)
        · have hF := pd_t zc5 hF
          cases hF
          exact hEzc1 rfl
        · have hF := pd_f zc5 hF
          refine pd_iload_n C dX11_noise_26 rfl rfl ?_
          refine pd_sipush (v := 1000) C dX11_noise_27 (by decide) ?_
          refine pd_icmp_gt (tgt := 44) C dX11_noise_30 (by decide) (fun zc4 => ?_) (fun zc4 => ?_)
          · have hF := pd_t zc4 hF
            cases hF
            exact hEzc1 rfl
          · have hF := pd_f zc4 hF
            refine pd_iload_n C dX11_noise_33 rfl rfl ?_
            refine pd_if_lt (tgt := 44) C dX11_noise_34 (by decide) (fun zc3 => ?_) (fun zc3 => ?_)
            · have hF := pd_t zc3 hF
              cases hF
              exact hEzc1 rfl
            · have hF := pd_f zc3 hF
              refine pd_iload_n C dX11_noise_37 rfl rfl ?_
              refine pd_sipush (v := 1000) C dX11_noise_38 (by decide) ?_
              refine pd_icmp_le (tgt := 54) C dX11_noise_41 (by decide) (fun zc2 => ?_) (fun zc2 => ?_)
              · have hF := pd_t zc2 hF
                cases hF
                exact hTzc1 rfl
              · have hF := pd_f zc2 hF
                cases hF
                exact hEzc1 rfl
      · have hF := pd_f zc6 hF
        refine pd_wk (ls' := [none, none, none, none]) True.intro ?_
        exact hzj1 _ hF

def fn_X11_codeOf (I : pd_I) (Z : pd_R) (n : Nat) (p0 : Int32) : Option (Except String (Nat)) := pd_bd (pd_bd (if p0 < 0 then some false else (if (I 0 2) ≤ p0 then some false else (some true))) fun zc1 => if zc1 = true then pd_gd (pd_in p0 12) (some (Z 2 p0.toNatClampNeg)) else (some none)) fun (zo1 : Option Nat) => match zo1 with | none => some (.error "java/lang/IndexOutOfBoundsException") | some zq1 => pd_gd (pd_isCode zq1 n) (some (.ok zq1))
set_option maxRecDepth 100000 in
set_option maxHeartbeats 4000000 in
theorem em_X11_codeOf {l : Launch} {D : va_G} {tc : Nat → ClassId} (hst : l.stackTraces = false) {I : pd_I} {J : pd_J} {Z : pd_R} {n : Nat} {p0 : Int32} (hn : 133 ≤ n)  {out : Except String (Nat)} (hF : fn_X11_codeOf I Z n p0 = some out) :
    pd_M l D tc yX11_codeOf (.code yX11_codeOf cX11_codeOf 3 (Option.some (Jvm.ClassFile.FieldType.object "PathDecoder$Code"))) rm_X11_codeOf [.ref 0, .int p0] I J (pd_RF Z) n (pd_oo (fun (p : Nat) => some (.ref p)) out) I J (pd_RF Z) n := by
  refine pd_open (own := "PathDecoder") (ls0 := [some (.ref 0), some (.int p0), none]) (by decide) rfl (Nat.le_of_ble_eq_true rfl) rfl rfl hst (fun cx hl hD htc C hE htab hnm => ?_)
  subst hl hD htc
  unfold fn_X11_codeOf at hF
  refine pd_iload_n C dX11_codeOf_0 rfl rfl ?_
  obtain ⟨zo1, hS, hF⟩ := pd_bd_some hF
  have hJ22 : pd_V cx 0 0 22 [none, none, none] [pd_rv zo1] I J (pd_RF Z) n := by
    refine pd_ostore_n (ls' := [none, none, some (pd_rv zo1)]) C dX11_codeOf_22 rfl (Nat.le_of_ble_eq_true rfl) rfl rfl ?_
    refine pd_oload_n C dX11_codeOf_23 rfl rfl ?_
    cases zo1 with
    | none =>
      refine pd_ifnonnullN C dX11_codeOf_24 ?_
      cases hF
      exact pd_throwW (ik := 347) C hE rfl htab pd_tw2 wd_2_92 wd_1_16 (List.mem_of_getElem? (i := 9) rfl) dX11_codeOf_27 dX11_codeOf_30 dX11_codeOf_31 dX11_codeOf_34 dX11_codeOf_37 ⟨by decide, Nat.le_of_ble_eq_true rfl, by decide, by decide⟩
    | some zq1 =>
      obtain ⟨zg1, hF⟩ := pd_gd_some hF
      refine pd_ifnonnull (x := zq1) (tgt := 38) C dX11_codeOf_24 (by decide) ?_
      refine pd_aload_n C dX11_codeOf_38 rfl rfl ?_
      cases hF
      exact pd_aret C hE rfl ⟨by decide, by decide⟩ dX11_codeOf_39
  replace hF := hS
  clear hS
  obtain ⟨zc1, hS, hF⟩ := pd_bd_some hF
  have hTzc1 : zc1 = true → pd_V cx 0 0 12 [some (.ref 0), some (.int p0), none] [] I J (pd_RF Z) n := by
    intro hc
    have hF := pd_t hc hF
    refine pd_aload_n C dX11_codeOf_12 rfl rfl ?_
    refine gr_11_1 C wd_2_33 (pd_lt (by decide) hn) sh_0 (rf_0_1 _) dX11_codeOf_13 ?_
    refine pd_iload_n C dX11_codeOf_16 rfl rfl ?_
    obtain ⟨zg2, hF⟩ := pd_gd_some hF
    refine pd_aaldO C (pd_lt (by decide) hn) sh_2 (by decide) zg2 (pd_RF_dyn rfl) dX11_codeOf_17 ?_
    refine pd_goto (tgt := 22) C dX11_codeOf_18 (by decide) ?_
    refine pd_wk (ls' := [none, none, none]) True.intro ?_
    have hF := hF.symm
    cases hF
    exact hJ22
  have hEzc1 : zc1 = false → pd_V cx 0 0 21 [some (.ref 0), some (.int p0), none] [] I J (pd_RF Z) n := by
    intro hc
    have hF := pd_bf hc hF
    refine pd_null C dX11_codeOf_21 ?_
    refine pd_wk (ls' := [none, none, none]) True.intro ?_
    have hF := hF.symm
    cases hF
    exact hJ22
  replace hF := hS
  clear hS
  refine pd_if_lt (tgt := 21) C dX11_codeOf_1 (by decide) (fun zc3 => ?_) (fun zc3 => ?_)
  · have hF := pd_t zc3 hF
    cases hF
    exact hEzc1 rfl
  · have hF := pd_f zc3 hF
    refine pd_iload_n C dX11_codeOf_4 rfl rfl ?_
    refine pd_aload_n C dX11_codeOf_5 rfl rfl ?_
    refine gi_11_2 C wd_2_34 (pd_lt (by decide) hn) sh_0 dX11_codeOf_6 ?_
    refine pd_icmp_ge (tgt := 21) C dX11_codeOf_9 (by decide) (fun zc2 => ?_) (fun zc2 => ?_)
    · have hF := pd_t zc2 hF
      cases hF
      exact hEzc1 rfl
    · have hF := pd_f zc2 hF
      cases hF
      exact hTzc1 rfl

def fn_X0_isFed (I : pd_I) (a : Nat) : Option Int32 := pd_bd (if (I a 0) < 1 then some 0 else (some 1)) fun (zx1 : Int32) => pd_gd (pd_bo zx1) (some zx1)
set_option maxRecDepth 100000 in
set_option maxHeartbeats 4000000 in
theorem em_X0_isFed {l : Launch} {D : va_G} {tc : Nat → ClassId} (hst : l.stackTraces = false) {I : pd_I} {J : pd_J} {Z : pd_R} {n : Nat} {a : Nat} (hn : 133 ≤ n) (ha : pd_isCode a n = true) {out : Int32} (hF : fn_X0_isFed I a = some out) :
    pd_M l D tc yX0_isFed (.code yX0_isFed cX0_isFed 1 (Option.some Jvm.ClassFile.FieldType.boolean)) rm_X0_isFed [.ref a] I J (pd_RF Z) n (.ok (some (.int out))) I J (pd_RF Z) n := by
  refine pd_open (own := "PathDecoder$Code") (ls0 := [some (.ref a)]) (by decide) rfl (Nat.le_of_ble_eq_true rfl) rfl rfl hst (fun cx hl hD htc C hE htab hnm => ?_)
  subst hl hD htc
  unfold fn_X0_isFed at hF
  refine pd_aload_n C dX0_isFed_0 rfl rfl ?_
  refine gi_0_0 C wd_3_56 (pd_code_lt ha) (pd_code_sh ha) dX0_isFed_1 ?_
  refine pd_iconst (v := 1) C dX0_isFed_4 (by decide) ?_
  obtain ⟨zx1, hS, hF⟩ := pd_bd_some hF
  have hJ13 : pd_V cx 0 0 13 [none] [.int zx1] I J (pd_RF Z) n := by
    obtain ⟨zg1, hF⟩ := pd_gd_some hF
    cases hF
    exact pd_iret C hE rfl rfl (pd_bo_nar zg1) ⟨by decide, by decide⟩ dX0_isFed_13
  replace hF := hS
  clear hS
  refine pd_icmp_lt (tgt := 12) C dX0_isFed_5 (by decide) (fun zc1 => ?_) (fun zc1 => ?_)
  · have hF := pd_t zc1 hF
    refine pd_iconst (v := 0) C dX0_isFed_12 (by decide) ?_
    refine pd_wk (ls' := [none]) True.intro ?_
    have hF := hF.symm
    cases hF
    exact hJ13
  · have hF := pd_f zc1 hF
    refine pd_iconst (v := 1) C dX0_isFed_8 (by decide) ?_
    refine pd_goto (tgt := 13) C dX0_isFed_9 (by decide) ?_
    refine pd_wk (ls' := [none]) True.intro ?_
    have hF := hF.symm
    cases hF
    exact hJ13

def fn_X11_demandBits (p0 : Int32) (p1 : Int32) : Option (Except String (Unit)) := pd_bd (if p0 < 0 then some false else (if p0 < ((1 : Int32) <<< (p1 &&& 31)) then some true else (some false))) fun zc1 => if zc1 = true then some (.ok ()) else (some (.error "java/lang/IllegalArgumentException"))
set_option maxRecDepth 100000 in
set_option maxHeartbeats 4000000 in
theorem em_X11_demandBits {l : Launch} {D : va_G} {tc : Nat → ClassId} (hst : l.stackTraces = false) {I : pd_I} {J : pd_J} {Z : pd_R} {n : Nat} {p0 : Int32} {p1 : Int32} (hn : 133 ≤ n)  {out : Except String (Unit)} (hF : fn_X11_demandBits p0 p1 = some out) :
    pd_M l D tc yX11_demandBits (.code yX11_demandBits cX11_demandBits 2 (Option.none : Option Jvm.ClassFile.FieldType)) rm_X11_demandBits [.int p0, .int p1] I J (pd_RF Z) n (pd_oo (fun (p : Unit) => none) out) I J (pd_RF Z) n := by
  refine pd_open (own := "PathDecoder") (ls0 := [some (.int p0), some (.int p1)]) (by decide) rfl (Nat.le_of_ble_eq_true rfl) rfl rfl hst (fun cx hl hD htc C hE htab hnm => ?_)
  subst hl hD htc
  unfold fn_X11_demandBits at hF
  refine pd_iload_n C dX11_demandBits_0 rfl rfl ?_
  obtain ⟨zc1, hS, hF⟩ := pd_bd_some hF
  have hTzc1 : zc1 = true → pd_V cx 0 0 22 [some (.int p0), some (.int p1)] [] I J (pd_RF Z) n := by
    intro hc
    have hF := pd_t hc hF
    cases hF
    exact pd_vret C hE rfl ⟨by decide, by decide⟩ dX11_demandBits_22
  have hEzc1 : zc1 = false → pd_V cx 0 0 11 [some (.int p0), some (.int p1)] [] I J (pd_RF Z) n := by
    intro hc
    have hF := pd_bf hc hF
    cases hF
    exact pd_throwW (ik := 103) C hE rfl htab pd_tw1 wd_2_159 wd_1_17 (List.mem_of_getElem? (i := 12) rfl) dX11_demandBits_11 dX11_demandBits_14 dX11_demandBits_15 dX11_demandBits_18 dX11_demandBits_21 ⟨by decide, Nat.le_of_ble_eq_true rfl, by decide, by decide⟩
  replace hF := hS
  clear hS
  refine pd_if_lt (tgt := 11) C dX11_demandBits_1 (by decide) (fun zc3 => ?_) (fun zc3 => ?_)
  · have hF := pd_t zc3 hF
    cases hF
    exact hEzc1 rfl
  · have hF := pd_f zc3 hF
    refine pd_iload_n C dX11_demandBits_4 rfl rfl ?_
    refine pd_iconst (v := 1) C dX11_demandBits_5 (by decide) ?_
    refine pd_iload_n C dX11_demandBits_6 rfl rfl ?_
    refine pd_ishl C dX11_demandBits_7 ?_
    refine pd_icmp_lt (tgt := 22) C dX11_demandBits_8 (by decide) (fun zc2 => ?_) (fun zc2 => ?_)
    · have hF := pd_t zc2 hF
      cases hF
      exact hTzc1 rfl
    · have hF := pd_f zc2 hF
      cases hF
      exact hEzc1 rfl

def fn_X11_tap (I : pd_I) (Z : pd_R) (n : Nat) (p0 : Int32) (p1 : Int32) (p2 : Int32) : Option (Except String (Int32 × pd_I)) := pd_bx (fn_X11_codeOf I Z n p0) fun zq1 => pd_gd (pd_isCode zq1 n) (pd_jn (fun (_ : Unit) => pd_bd (if p1 < (-1) then some false else (if p1 < (I zq1 2) then some true else (some false))) fun zc1 => if zc1 = true then pd_bd (if p1 = (-1) then some (I zq1 1) else (some (1 + (I zq1 1)))) fun (zx1 : Int32) => pd_bx (fn_X11_demandBits p2 zx1) fun _ => pd_bd2 (if p1 = (-1) then pd_let (I zq1 4) fun zv2 => pd_let (pd_ui I zq1 4 p2) fun zI3 => some (zv2, zI3) else (pd_gd (pd_in p1 4) (pd_let (I (zq1 + 1) p1.toNatClampNeg) fun zv1 => pd_gd (pd_in p1 4) (pd_let (pd_ui I (zq1 + 1) p1.toNatClampNeg p2) fun zI2 => some (zv1, zI2))))) fun (zx2 : Int32) (zI1 : pd_I) => some (.ok (zx2, zI1)) else (some (.error "java/util/NoSuchElementException"))) fun zj1 => pd_bd (if p1 = (-1) then pd_bd (fn_X0_isFed I zq1) fun zr1 => if zr1 = 0 then some true else (some false) else (some false)) fun zc6 => if zc6 = true then some (.error "java/util/NoSuchElementException") else (zj1 ()))
set_option maxRecDepth 100000 in
set_option maxHeartbeats 4000000 in
theorem em_X11_tap {l : Launch} {D : va_G} {tc : Nat → ClassId} (hst : l.stackTraces = false) {I : pd_I} {J : pd_J} {Z : pd_R} {n : Nat} {p0 : Int32} {p1 : Int32} {p2 : Int32} (hn : 133 ≤ n)  {out : Except String (Int32 × pd_I)} (hF : fn_X11_tap I Z n p0 p1 p2 = some out) :
    pd_M l D tc yX11_tap (.code yX11_tap cX11_tap 6 (Option.some Jvm.ClassFile.FieldType.int)) rm_X11_tap [.ref 0, .int p0, .int p1, .int p2] I J (pd_RF Z) n (pd_oo (fun (p : Int32 × pd_I) => some (.int p.1)) out) (pd_os (fun (p : Int32 × pd_I) => p.2) I out) J (pd_RF Z) n := by
  refine pd_open (own := "PathDecoder") (ls0 := [some (.ref 0), some (.int p0), some (.int p1), some (.int p2), none, none]) (by decide) rfl (Nat.le_of_ble_eq_true rfl) rfl rfl hst (fun cx hl hD htc C hE htab hnm => ?_)
  subst hl hD htc
  unfold fn_X11_tap at hF
  refine pd_aload_n C dX11_tap_0 rfl rfl ?_
  refine pd_iload_n C dX11_tap_1 rfl rfl ?_
  rcases pd_bx_some hF with ⟨e9, zh1, he9⟩ | ⟨zq1, zh1, hF⟩
  · subst he9
    exact pd_callVX C [.int p0] [] (em_X11_codeOf (pd_C_st C) hn  zh1) mw_X11_codeOf wd_3_100 rfl (by decide) (pd_lt (by decide) hn) sh_0 ⟨by decide, by decide, by decide, by decide⟩ rfl (Nat.le_of_ble_eq_true rfl) dX11_tap_2 (pd_prop C hE rfl htab ⟨by decide, by decide⟩)
  obtain ⟨zg1, hF⟩ := pd_gd_some hF
  refine pd_callV C [.int p0] [] (em_X11_codeOf (pd_C_st C) hn  zh1) mw_X11_codeOf wd_3_100 rfl (by decide) (pd_lt (by decide) hn) sh_0 ⟨by decide, by decide, by decide, by decide⟩ rfl (Nat.le_of_ble_eq_true rfl) pd_oldL_same (fun _ _ => pd_old_same _) dX11_tap_2 (stk' := [.ref zq1]) rfl ?_
  refine pd_astore (ls' := [some (.ref 0), some (.int p0), some (.int p1), some (.int p2), some (.ref zq1), none]) C dX11_tap_5 (Nat.le_of_ble_eq_true rfl) rfl rfl ?_
  refine pd_iload_n C dX11_tap_7 rfl rfl ?_
  refine pd_iconst (v := (-1)) C dX11_tap_8 (by decide) ?_
  refine pd_jn_use hF (fun j => ∀ (_u : Unit), j _u = some out → pd_V cx 1 6 30 [none, none, some (.int p1), some (.int p2), some (.ref zq1), none] [] I J (pd_RF Z) n) (fun _u hF => ?_) (fun zj1 hzj1 hF => ?_)
  · refine pd_iload_n C dX11_tap_30 rfl rfl ?_
    refine pd_iconst (v := (-1)) C dX11_tap_31 (by decide) ?_
    obtain ⟨zc1, hS, hF⟩ := pd_bd_some hF
    have hTzc1 : zc1 = true → pd_V cx 1 6 54 [none, none, some (.int p1), some (.int p2), some (.ref zq1), none] [] I J (pd_RF Z) n := by
      intro hc
      have hF := pd_t hc hF
      refine pd_iload_n C dX11_tap_54 rfl rfl ?_
      refine pd_iload_n C dX11_tap_55 rfl rfl ?_
      refine pd_iconst (v := (-1)) C dX11_tap_56 (by decide) ?_
      obtain ⟨zx1, hS, hF⟩ := pd_bd_some hF
      have hJ75 : pd_V cx 1 6 75 [none, none, some (.int p1), some (.int p2), some (.ref zq1), none] [.int zx1, .int p2] I J (pd_RF Z) n := by
        rcases pd_bx_some hF with ⟨e9, zh2, he9⟩ | ⟨_, zh2, hF⟩
        · subst he9
          exact pd_callSX C [.int p2, .int zx1] [] (em_X11_demandBits (pd_C_st C) hn  zh2) mw_X11_demandBits wd_3_111 ⟨by decide, by decide, by decide, by decide⟩ rfl (Nat.le_of_ble_eq_true rfl) dX11_tap_75 (pd_prop C hE rfl htab ⟨by decide, by decide⟩)
        refine pd_callS C [.int p2, .int zx1] [] (em_X11_demandBits (pd_C_st C) hn  zh2) mw_X11_demandBits wd_3_111 ⟨by decide, by decide, by decide, by decide⟩ rfl (Nat.le_of_ble_eq_true rfl) pd_oldL_same (fun _ _ => pd_old_same _) dX11_tap_75 (stk' := []) rfl ?_
        refine pd_iload_n C dX11_tap_78 rfl rfl ?_
        refine pd_iconst (v := (-1)) C dX11_tap_79 (by decide) ?_
        obtain ⟨zx2, zI1, hS, hF⟩ := pd_bd2_some hF
        have hJ116 : pd_V cx 2 12 116 [none, none, none, none, none, some (.int zx2)] [] zI1 J (pd_RF Z) n := by
          refine pd_iload C dX11_tap_116 rfl ?_
          cases hF
          exact pd_iret C hE rfl rfl rfl ⟨by decide, by decide⟩ dX11_tap_118
        replace hF := hS
        clear hS
        refine pd_icmp_ne (tgt := 99) C dX11_tap_80 (by decide) (fun zc2 => ?_) (fun zc2 => ?_)
        · have hF := pd_f zc2 hF
          refine pd_aload C dX11_tap_99 rfl ?_
          refine gr_0_3 C wd_3_68 (pd_code_lt zg1) (pd_code_sh zg1) (pd_code_rf3 zg1) dX11_tap_101 ?_
          refine pd_iload_n C dX11_tap_104 rfl rfl ?_
          obtain ⟨zg2, hF⟩ := pd_gd_some hF
          refine pd_iald C (pd_code_lt1 zg1) (pd_code_sh1 zg1) zg2 dX11_tap_105 ?_
          refine pd_topi (fun zv1 hzv1 => ?_)
          have hF := pd_let_at hF hzv1
          refine pd_istore (ls' := [none, none, some (.int p1), some (.int p2), some (.ref zq1), some (.int zv1)]) C dX11_tap_106 (Nat.le_of_ble_eq_true rfl) rfl rfl ?_
          refine pd_aload C dX11_tap_108 rfl ?_
          refine gr_0_3 C wd_3_68 (pd_code_lt zg1) (pd_code_sh zg1) (pd_code_rf3 zg1) dX11_tap_110 ?_
          refine pd_iload_n C dX11_tap_113 rfl rfl ?_
          refine pd_iload_n C dX11_tap_114 rfl rfl ?_
          obtain ⟨zg3, hF⟩ := pd_gd_some hF
          refine pd_iast C (pd_code_lt1 zg1) (pd_code_sh1 zg1) zg3 dX11_tap_115 ?_
          refine pd_memI (fun zI2 hzI2 => ?_)
          have hF := pd_let_at hF hzI2
          refine pd_wk (ls' := [none, none, none, none, none, some (.int zv1)]) (And.intro rfl True.intro) ?_
          have hF := hF.symm
          cases hF
          exact hJ116
        · have hF := pd_t zc2 hF
          refine pd_aload C dX11_tap_83 rfl ?_
          refine gi_0_4 C wd_3_70 (pd_code_lt zg1) (pd_code_sh zg1) dX11_tap_85 ?_
          refine pd_topi (fun zv2 hzv2 => ?_)
          have hF := pd_let_at hF hzv2
          refine pd_istore (ls' := [none, none, some (.int p1), some (.int p2), some (.ref zq1), some (.int zv2)]) C dX11_tap_88 (Nat.le_of_ble_eq_true rfl) rfl rfl ?_
          refine pd_aload C dX11_tap_90 rfl ?_
          refine pd_iload_n C dX11_tap_92 rfl rfl ?_
          refine pi_0_4 C wd_3_70 rfl rfl (pd_code_lt zg1) (pd_code_sh zg1) dX11_tap_93 ?_
          refine pd_memI (fun zI3 hzI3 => ?_)
          have hF := pd_let_at hF hzI3
          refine pd_goto (tgt := 116) C dX11_tap_96 (by decide) ?_
          refine pd_wk (ls' := [none, none, none, none, none, some (.int zv2)]) (And.intro rfl True.intro) ?_
          have hF := hF.symm
          cases hF
          exact hJ116
      replace hF := hS
      clear hS
      refine pd_icmp_ne (tgt := 68) C dX11_tap_57 (by decide) (fun zc3 => ?_) (fun zc3 => ?_)
      · have hF := pd_f zc3 hF
        refine pd_iconst (v := 1) C dX11_tap_68 (by decide) ?_
        refine pd_aload C dX11_tap_69 rfl ?_
        refine gi_0_1 C wd_3_62 (pd_code_lt zg1) (pd_code_sh zg1) dX11_tap_71 ?_
        refine pd_iadd C dX11_tap_74 ?_
        have hF := hF.symm
        cases hF
        exact hJ75
      · have hF := pd_t zc3 hF
        refine pd_aload C dX11_tap_60 rfl ?_
        refine gi_0_1 C wd_3_62 (pd_code_lt zg1) (pd_code_sh zg1) dX11_tap_62 ?_
        refine pd_goto (tgt := 75) C dX11_tap_65 (by decide) ?_
        have hF := hF.symm
        cases hF
        exact hJ75
    have hEzc1 : zc1 = false → pd_V cx 1 6 44 [none, none, some (.int p1), some (.int p2), some (.ref zq1), none] [] I J (pd_RF Z) n := by
      intro hc
      have hF := pd_bf hc hF
      cases hF
      exact pd_throwN (ik := 167) C hE rfl htab pd_tw3 wd_2_209 wd_1_19 (List.mem_of_getElem? (i := 11) rfl) dX11_tap_44 dX11_tap_47 dX11_tap_48 dX11_tap_50 dX11_tap_53 ⟨by decide, Nat.le_of_ble_eq_true rfl, by decide, by decide⟩
    replace hF := hS
    clear hS
    refine pd_icmp_lt (tgt := 44) C dX11_tap_32 (by decide) (fun zc5 => ?_) (fun zc5 => ?_)
    · have hF := pd_t zc5 hF
      cases hF
      exact hEzc1 rfl
    · have hF := pd_f zc5 hF
      refine pd_iload_n C dX11_tap_35 rfl rfl ?_
      refine pd_aload C dX11_tap_36 rfl ?_
      refine gi_0_2 C wd_3_66 (pd_code_lt zg1) (pd_code_sh zg1) dX11_tap_38 ?_
      refine pd_icmp_lt (tgt := 54) C dX11_tap_41 (by decide) (fun zc4 => ?_) (fun zc4 => ?_)
      · have hF := pd_t zc4 hF
        cases hF
        exact hTzc1 rfl
      · have hF := pd_f zc4 hF
        cases hF
        exact hEzc1 rfl
  · obtain ⟨zc6, hS, hF⟩ := pd_bd_some hF
    have hTzc6 : zc6 = true → pd_V cx 1 6 20 [some (.ref 0), some (.int p0), some (.int p1), some (.int p2), some (.ref zq1), none] [] I J (pd_RF Z) n := by
      intro hc
      have hF := pd_t hc hF
      cases hF
      exact pd_throwN (ik := 167) C hE rfl htab pd_tw3 wd_2_209 wd_1_19 (List.mem_of_getElem? (i := 10) rfl) dX11_tap_20 dX11_tap_23 dX11_tap_24 dX11_tap_26 dX11_tap_29 ⟨by decide, Nat.le_of_ble_eq_true rfl, by decide, by decide⟩
    have hEzc6 : zc6 = false → pd_V cx 1 6 30 [some (.ref 0), some (.int p0), some (.int p1), some (.int p2), some (.ref zq1), none] [] I J (pd_RF Z) n := by
      intro hc
      have hF := pd_bf hc hF
      refine pd_wk (ls' := [none, none, some (.int p1), some (.int p2), some (.ref zq1), none]) (And.intro rfl (And.intro rfl (And.intro rfl True.intro))) ?_
      exact hzj1 _ hF
    replace hF := hS
    clear hS
    refine pd_icmp_ne (tgt := 30) C dX11_tap_9 (by decide) (fun zc8 => ?_) (fun zc8 => ?_)
    · have hF := pd_f zc8 hF
      cases hF
      exact hEzc6 rfl
    · have hF := pd_t zc8 hF
      refine pd_aload C dX11_tap_12 rfl ?_
      obtain ⟨zr1, zh3, hF⟩ := pd_bd_some hF
      refine pd_callV C [] [] (em_X0_isFed (pd_C_st C) hn zg1 zh3) mw_X0_isFed wd_3_105 rfl (by decide) (pd_code_lt zg1) (pd_code_sh zg1) ⟨by decide, by decide, by decide, by decide⟩ rfl (Nat.le_of_ble_eq_true rfl) pd_oldL_same (fun _ _ => pd_old_same _) dX11_tap_14 (stk' := [.int zr1]) rfl ?_
      refine pd_if_ne (tgt := 30) C dX11_tap_17 (by decide) (fun zc7 => ?_) (fun zc7 => ?_)
      · have hF := pd_f zc7 hF
        cases hF
        exact hEzc6 rfl
      · have hF := pd_t zc7 hF
        cases hF
        exact hTzc6 rfl

def fn_X0_isCut (I : pd_I) (a : Nat) : Option Int32 := pd_bd (if (I a 0) < 2 then some 0 else (some 1)) fun (zx1 : Int32) => pd_gd (pd_bo zx1) (some zx1)
set_option maxRecDepth 100000 in
set_option maxHeartbeats 4000000 in
theorem em_X0_isCut {l : Launch} {D : va_G} {tc : Nat → ClassId} (hst : l.stackTraces = false) {I : pd_I} {J : pd_J} {Z : pd_R} {n : Nat} {a : Nat} (hn : 133 ≤ n) (ha : pd_isCode a n = true) {out : Int32} (hF : fn_X0_isCut I a = some out) :
    pd_M l D tc yX0_isCut (.code yX0_isCut cX0_isCut 1 (Option.some Jvm.ClassFile.FieldType.boolean)) rm_X0_isCut [.ref a] I J (pd_RF Z) n (.ok (some (.int out))) I J (pd_RF Z) n := by
  refine pd_open (own := "PathDecoder$Code") (ls0 := [some (.ref a)]) (by decide) rfl (Nat.le_of_ble_eq_true rfl) rfl rfl hst (fun cx hl hD htc C hE htab hnm => ?_)
  subst hl hD htc
  unfold fn_X0_isCut at hF
  refine pd_aload_n C dX0_isCut_0 rfl rfl ?_
  refine gi_0_0 C wd_3_56 (pd_code_lt ha) (pd_code_sh ha) dX0_isCut_1 ?_
  refine pd_iconst (v := 2) C dX0_isCut_4 (by decide) ?_
  obtain ⟨zx1, hS, hF⟩ := pd_bd_some hF
  have hJ13 : pd_V cx 0 0 13 [none] [.int zx1] I J (pd_RF Z) n := by
    obtain ⟨zg1, hF⟩ := pd_gd_some hF
    cases hF
    exact pd_iret C hE rfl rfl (pd_bo_nar zg1) ⟨by decide, by decide⟩ dX0_isCut_13
  replace hF := hS
  clear hS
  refine pd_icmp_lt (tgt := 12) C dX0_isCut_5 (by decide) (fun zc1 => ?_) (fun zc1 => ?_)
  · have hF := pd_t zc1 hF
    refine pd_iconst (v := 0) C dX0_isCut_12 (by decide) ?_
    refine pd_wk (ls' := [none]) True.intro ?_
    have hF := hF.symm
    cases hF
    exact hJ13
  · have hF := pd_f zc1 hF
    refine pd_iconst (v := 1) C dX0_isCut_8 (by decide) ?_
    refine pd_goto (tgt := 13) C dX0_isCut_9 (by decide) ?_
    refine pd_wk (ls' := [none]) True.intro ?_
    have hF := hF.symm
    cases hF
    exact hJ13

def fn_X0_width (I : pd_I) (a : Nat) : Option Int32 := pd_bd (if (I a 0) = 5 then some ((2 * (I a 2)) - 1) else (some (I a 2))) fun (zx1 : Int32) => some zx1
set_option maxRecDepth 100000 in
set_option maxHeartbeats 4000000 in
theorem em_X0_width {l : Launch} {D : va_G} {tc : Nat → ClassId} (hst : l.stackTraces = false) {I : pd_I} {J : pd_J} {Z : pd_R} {n : Nat} {a : Nat} (hn : 133 ≤ n) (ha : pd_isCode a n = true) {out : Int32} (hF : fn_X0_width I a = some out) :
    pd_M l D tc yX0_width (.code yX0_width cX0_width 1 (Option.some Jvm.ClassFile.FieldType.int)) rm_X0_width [.ref a] I J (pd_RF Z) n (.ok (some (.int out))) I J (pd_RF Z) n := by
  refine pd_open (own := "PathDecoder$Code") (ls0 := [some (.ref a)]) (by decide) rfl (Nat.le_of_ble_eq_true rfl) rfl rfl hst (fun cx hl hD htc C hE htab hnm => ?_)
  subst hl hD htc
  unfold fn_X0_width at hF
  refine pd_aload_n C dX0_width_0 rfl rfl ?_
  refine gi_0_0 C wd_3_56 (pd_code_lt ha) (pd_code_sh ha) dX0_width_1 ?_
  refine pd_iconst (v := 5) C dX0_width_4 (by decide) ?_
  obtain ⟨zx1, hS, hF⟩ := pd_bd_some hF
  have hJ23 : pd_V cx 0 0 23 [none] [.int zx1] I J (pd_RF Z) n := by
    cases hF
    exact pd_iret C hE rfl rfl rfl ⟨by decide, by decide⟩ dX0_width_23
  replace hF := hS
  clear hS
  refine pd_icmp_ne (tgt := 19) C dX0_width_5 (by decide) (fun zc1 => ?_) (fun zc1 => ?_)
  · have hF := pd_f zc1 hF
    refine pd_aload_n C dX0_width_19 rfl rfl ?_
    refine gi_0_2 C wd_3_63 (pd_code_lt ha) (pd_code_sh ha) dX0_width_20 ?_
    refine pd_wk (ls' := [none]) True.intro ?_
    have hF := hF.symm
    cases hF
    exact hJ23
  · have hF := pd_t zc1 hF
    refine pd_iconst (v := 2) C dX0_width_8 (by decide) ?_
    refine pd_aload_n C dX0_width_9 rfl rfl ?_
    refine gi_0_2 C wd_3_63 (pd_code_lt ha) (pd_code_sh ha) dX0_width_10 ?_
    refine pd_imul C dX0_width_13 ?_
    refine pd_iconst (v := 1) C dX0_width_14 (by decide) ?_
    refine pd_isub C dX0_width_15 ?_
    refine pd_goto (tgt := 23) C dX0_width_16 (by decide) ?_
    refine pd_wk (ls' := [none]) True.intro ?_
    have hF := hF.symm
    cases hF
    exact hJ23

def fl_X0_setKeep_10 {O : Type} (a : Nat) (kont : pd_I → Option O) : Nat → Int32 → pd_I → Option O
  | 0, _, _ => none
  | fu + 1, zx1, zI1 => if 8 ≤ zx1 then kont zI1 else (pd_gd (pd_in zx1 8) (pd_let (pd_ui zI1 (a + 2) zx1.toNatClampNeg 0) fun zI3 => pd_let (zx1 + 1) fun zv2 => fl_X0_setKeep_10 a kont fu zv2 zI3))
set_option maxRecDepth 100000 in
set_option maxHeartbeats 4000000 in
theorem el_X0_setKeep_10 {cx : pd_X} (C : pd_C cx "PathDecoder$Code" cX0_setKeep rm_X0_setKeep) {a : Nat} {p0 : Int32} {p1 : Int32} {p2 : Int32} {J : pd_J} {Z : pd_R} {n : Nat} (hn : 133 ≤ n) (ha : pd_isCode a n = true) {O : Type} {kont : pd_I → Option O} {out : O} (K : ∀ (zI2 : pd_I), kont zI2 = some out → pd_V cx 0 0 31 [some (.ref a), some (.int p0), some (.int p1), some (.int p2), none] [] zI2 J (pd_RF Z) n) :
    ∀ (fu : Nat) (zx1 : Int32) (zI1 : pd_I), fl_X0_setKeep_10 a kont fu zx1 zI1 = some out → pd_V cx 0 0 10 [some (.ref a), some (.int p0), some (.int p1), some (.int p2), some (.int zx1)] [] zI1 J (pd_RF Z) n := by
  intro fu
  induction fu with
  | zero => intro zx1 zI1 hF; rw [fl_X0_setKeep_10] at hF; cases hF
  | succ fu ih =>
    intro zx1 zI1 hF
    rw [fl_X0_setKeep_10] at hF
    refine pd_iload C dX0_setKeep_10 rfl ?_
    refine pd_bipush (v := 8) C dX0_setKeep_12 (by decide) ?_
    refine pd_icmp_ge (tgt := 31) C dX0_setKeep_14 (by decide) (fun zc1 => ?_) (fun zc1 => ?_)
    · have hF := pd_t zc1 hF
      refine pd_wk (ls' := [some (.ref a), some (.int p0), some (.int p1), some (.int p2), none]) (And.intro rfl (And.intro rfl (And.intro rfl (And.intro rfl True.intro)))) ?_
      exact K _ hF
    · have hF := pd_f zc1 hF
      refine pd_aload_n C dX0_setKeep_17 rfl rfl ?_
      refine gr_0_7 C wd_3_75 (pd_code_lt ha) (pd_code_sh ha) (pd_code_rf7 ha) dX0_setKeep_18 ?_
      refine pd_iload C dX0_setKeep_21 rfl ?_
      refine pd_iconst (v := 0) C dX0_setKeep_23 (by decide) ?_
      obtain ⟨zg1, hF⟩ := pd_gd_some hF
      refine pd_iast C (pd_code_lt2 ha) (pd_code_sh2 ha) zg1 dX0_setKeep_24 ?_
      refine pd_memI (fun zI3 hzI3 => ?_)
      have hF := pd_let_at hF hzI3
      refine pd_iincG (zz := 1) C dX0_setKeep_25 rfl (by decide) rfl (fun zv2 hzv2 => ?_)
      have hF := pd_let_at hF hzv2
      refine pd_lsE (ls' := [some (.ref a), some (.int p0), some (.int p1), some (.int p2), some (.int zv2)]) rfl ?_
      refine pd_goto (tgt := 10) C dX0_setKeep_28 (by decide) ?_
      exact ih _ _ hF
def fn_X0_setKeep (I : pd_I) (a : Nat) (p0 : Int32) (p1 : Int32) (p2 : Int32) : Option pd_I := pd_let (pd_min p0 (I a 5)) fun zv1 => fl_X0_setKeep_10 a (fun zI2 => pd_let (pd_ui zI2 a 5 p0) fun zI4 => pd_gd (pd_in p1 8) (pd_let (pd_ui zI4 (a + 2) p1.toNatClampNeg p2) fun zI5 => some zI5)) pd_FU zv1 I
set_option maxRecDepth 100000 in
set_option maxHeartbeats 4000000 in
theorem em_X0_setKeep {l : Launch} {D : va_G} {tc : Nat → ClassId} (hst : l.stackTraces = false) {I : pd_I} {J : pd_J} {Z : pd_R} {n : Nat} {a : Nat} {p0 : Int32} {p1 : Int32} {p2 : Int32} (hn : 133 ≤ n) (ha : pd_isCode a n = true) {out : pd_I} (hF : fn_X0_setKeep I a p0 p1 p2 = some out) :
    pd_M l D tc yX0_setKeep (.code yX0_setKeep cX0_setKeep 5 (Option.none : Option Jvm.ClassFile.FieldType)) rm_X0_setKeep [.ref a, .int p0, .int p1, .int p2] I J (pd_RF Z) n (.ok (none)) out J (pd_RF Z) n := by
  refine pd_open (own := "PathDecoder$Code") (ls0 := [some (.ref a), some (.int p0), some (.int p1), some (.int p2), none]) (by decide) rfl (Nat.le_of_ble_eq_true rfl) rfl rfl hst (fun cx hl hD htc C hE htab hnm => ?_)
  subst hl hD htc
  unfold fn_X0_setKeep at hF
  refine pd_iload_n C dX0_setKeep_0 rfl rfl ?_
  refine pd_aload_n C dX0_setKeep_1 rfl rfl ?_
  refine gi_0_5 C wd_3_71 (pd_code_lt ha) (pd_code_sh ha) dX0_setKeep_2 ?_
  refine pd_mmin C wd_3_137 wd_2_187 wd_1_18 wd_2_188 ⟨by decide, Nat.le_of_ble_eq_true rfl, by decide, by decide⟩ dX0_setKeep_5 ?_
  refine pd_topi (fun zv1 hzv1 => ?_)
  have hF := pd_let_at hF hzv1
  refine pd_istore (ls' := [some (.ref a), some (.int p0), some (.int p1), some (.int p2), some (.int zv1)]) C dX0_setKeep_8 (Nat.le_of_ble_eq_true rfl) rfl rfl ?_
  refine el_X0_setKeep_10 C hn ha (fun zI2 hF => ?_) pd_FU _ _ hF
  refine pd_aload_n C dX0_setKeep_31 rfl rfl ?_
  refine pd_iload_n C dX0_setKeep_32 rfl rfl ?_
  refine pi_0_5 C wd_3_71 rfl rfl (pd_code_lt ha) (pd_code_sh ha) dX0_setKeep_33 ?_
  refine pd_memI (fun zI4 hzI4 => ?_)
  have hF := pd_let_at hF hzI4
  refine pd_aload_n C dX0_setKeep_36 rfl rfl ?_
  refine gr_0_7 C wd_3_75 (pd_code_lt ha) (pd_code_sh ha) (pd_code_rf7 ha) dX0_setKeep_37 ?_
  refine pd_iload_n C dX0_setKeep_40 rfl rfl ?_
  refine pd_iload_n C dX0_setKeep_41 rfl rfl ?_
  obtain ⟨zg2, hF⟩ := pd_gd_some hF
  refine pd_iast C (pd_code_lt2 ha) (pd_code_sh2 ha) zg2 dX0_setKeep_42 ?_
  refine pd_memI (fun zI5 hzI5 => ?_)
  have hF := pd_let_at hF hzI5
  cases hF
  exact pd_vret C hE rfl ⟨by decide, by decide⟩ dX0_setKeep_43

def fn_X11_keep (I : pd_I) (Z : pd_R) (n : Nat) (p0 : Int32) (p1 : Int32) (p2 : Int32) (p3 : Int32) : Option (Except String (Int32 × pd_I)) := pd_bx (fn_X11_codeOf I Z n p0) fun zq1 => pd_gd (pd_isCode zq1 n) (pd_bd (fn_X0_isCut I zq1) fun zr1 => if zr1 = 0 then some (.error "java/util/NoSuchElementException") else (pd_jn (fun (_ : Unit) => some (.error "java/lang/IllegalArgumentException")) fun zj1 => if p1 < 1 then zj1 () else (if p1 ≤ 8 then pd_bd (if p2 < 0 then some false else (if p2 < p1 then some true else (some false))) fun zc1 => if zc1 = true then pd_bd (fn_X0_width I zq1) fun zr2 => pd_bx (fn_X11_demandBits p3 zr2) fun _ => pd_let (I zq1 5) fun zv1 => pd_bd (fn_X0_setKeep I zq1 p1 p2 p3) fun zI1 => some (.ok (zv1, zI1)) else (some (.error "java/lang/IllegalArgumentException")) else (zj1 ()))))
set_option maxRecDepth 100000 in
set_option maxHeartbeats 4000000 in
theorem em_X11_keep {l : Launch} {D : va_G} {tc : Nat → ClassId} (hst : l.stackTraces = false) {I : pd_I} {J : pd_J} {Z : pd_R} {n : Nat} {p0 : Int32} {p1 : Int32} {p2 : Int32} {p3 : Int32} (hn : 133 ≤ n)  {out : Except String (Int32 × pd_I)} (hF : fn_X11_keep I Z n p0 p1 p2 p3 = some out) :
    pd_M l D tc yX11_keep (.code yX11_keep cX11_keep 7 (Option.some Jvm.ClassFile.FieldType.int)) rm_X11_keep [.ref 0, .int p0, .int p1, .int p2, .int p3] I J (pd_RF Z) n (pd_oo (fun (p : Int32 × pd_I) => some (.int p.1)) out) (pd_os (fun (p : Int32 × pd_I) => p.2) I out) J (pd_RF Z) n := by
  refine pd_open (own := "PathDecoder") (ls0 := [some (.ref 0), some (.int p0), some (.int p1), some (.int p2), some (.int p3), none, none]) (by decide) rfl (Nat.le_of_ble_eq_true rfl) rfl rfl hst (fun cx hl hD htc C hE htab hnm => ?_)
  subst hl hD htc
  unfold fn_X11_keep at hF
  refine pd_aload_n C dX11_keep_0 rfl rfl ?_
  refine pd_iload_n C dX11_keep_1 rfl rfl ?_
  rcases pd_bx_some hF with ⟨e9, zh1, he9⟩ | ⟨zq1, zh1, hF⟩
  · subst he9
    exact pd_callVX C [.int p0] [] (em_X11_codeOf (pd_C_st C) hn  zh1) mw_X11_codeOf wd_3_100 rfl (by decide) (pd_lt (by decide) hn) sh_0 ⟨by decide, by decide, by decide, by decide⟩ rfl (Nat.le_of_ble_eq_true rfl) dX11_keep_2 (pd_prop C hE rfl htab ⟨by decide, by decide⟩)
  obtain ⟨zg1, hF⟩ := pd_gd_some hF
  refine pd_callV C [.int p0] [] (em_X11_codeOf (pd_C_st C) hn  zh1) mw_X11_codeOf wd_3_100 rfl (by decide) (pd_lt (by decide) hn) sh_0 ⟨by decide, by decide, by decide, by decide⟩ rfl (Nat.le_of_ble_eq_true rfl) pd_oldL_same (fun _ _ => pd_old_same _) dX11_keep_2 (stk' := [.ref zq1]) rfl ?_
  refine pd_astore (ls' := [some (.ref 0), some (.int p0), some (.int p1), some (.int p2), some (.int p3), some (.ref zq1), none]) C dX11_keep_5 (Nat.le_of_ble_eq_true rfl) rfl rfl ?_
  refine pd_aload C dX11_keep_7 rfl ?_
  obtain ⟨zr1, zh2, hF⟩ := pd_bd_some hF
  refine pd_callV C [] [] (em_X0_isCut (pd_C_st C) hn zg1 zh2) mw_X0_isCut wd_3_122 rfl (by decide) (pd_code_lt zg1) (pd_code_sh zg1) ⟨by decide, by decide, by decide, by decide⟩ rfl (Nat.le_of_ble_eq_true rfl) pd_oldL_same (fun _ _ => pd_old_same _) dX11_keep_9 (stk' := [.int zr1]) rfl ?_
  refine pd_if_ne (tgt := 25) C dX11_keep_12 (by decide) (fun zc6 => ?_) (fun zc6 => ?_)
  · have hF := pd_f zc6 hF
    refine pd_iload_n C dX11_keep_25 rfl rfl ?_
    refine pd_iconst (v := 1) C dX11_keep_26 (by decide) ?_
    refine pd_jn_use hF (fun j => ∀ (_u : Unit), j _u = some out → pd_V cx 1 6 36 [none, none, none, none, none, none, none] [] I J (pd_RF Z) n) (fun _u hF => ?_) (fun zj1 hzj1 hF => ?_)
    · cases hF
      exact pd_throw (ik := 103) C hE rfl htab pd_tw1 wd_2_159 wd_1_17 (List.mem_of_getElem? (i := 14) rfl) dX11_keep_36 dX11_keep_39 dX11_keep_40 dX11_keep_42 dX11_keep_45 ⟨by decide, Nat.le_of_ble_eq_true rfl, by decide, by decide⟩
    · refine pd_icmp_lt (tgt := 36) C dX11_keep_27 (by decide) (fun zc5 => ?_) (fun zc5 => ?_)
      · have hF := pd_t zc5 hF
        refine pd_wk (ls' := [none, none, none, none, none, none, none]) True.intro ?_
        exact hzj1 _ hF
      · have hF := pd_f zc5 hF
        refine pd_iload_n C dX11_keep_30 rfl rfl ?_
        refine pd_bipush (v := 8) C dX11_keep_31 (by decide) ?_
        refine pd_icmp_le (tgt := 46) C dX11_keep_33 (by decide) (fun zc4 => ?_) (fun zc4 => ?_)
        · have hF := pd_t zc4 hF
          refine pd_iload_n C dX11_keep_46 rfl rfl ?_
          obtain ⟨zc1, hS, hF⟩ := pd_bd_some hF
          have hTzc1 : zc1 = true → pd_V cx 1 6 65 [some (.ref 0), some (.int p0), some (.int p1), some (.int p2), some (.int p3), some (.ref zq1), none] [] I J (pd_RF Z) n := by
            intro hc
            have hF := pd_t hc hF
            refine pd_iload C dX11_keep_65 rfl ?_
            refine pd_aload C dX11_keep_67 rfl ?_
            obtain ⟨zr2, zh3, hF⟩ := pd_bd_some hF
            refine pd_callV C [] [.int p3] (em_X0_width (pd_C_st C) hn zg1 zh3) mw_X0_width wd_3_129 rfl (by decide) (pd_code_lt zg1) (pd_code_sh zg1) ⟨by decide, by decide, by decide, by decide⟩ rfl (Nat.le_of_ble_eq_true rfl) pd_oldL_same (fun _ _ => pd_old_same _) dX11_keep_69 (stk' := [.int zr2, .int p3]) rfl ?_
            rcases pd_bx_some hF with ⟨e9, zh4, he9⟩ | ⟨_, zh4, hF⟩
            · subst he9
              exact pd_callSX C [.int p3, .int zr2] [] (em_X11_demandBits (pd_C_st C) hn  zh4) mw_X11_demandBits wd_3_111 ⟨by decide, by decide, by decide, by decide⟩ rfl (Nat.le_of_ble_eq_true rfl) dX11_keep_72 (pd_prop C hE rfl htab ⟨by decide, by decide⟩)
            refine pd_callS C [.int p3, .int zr2] [] (em_X11_demandBits (pd_C_st C) hn  zh4) mw_X11_demandBits wd_3_111 ⟨by decide, by decide, by decide, by decide⟩ rfl (Nat.le_of_ble_eq_true rfl) pd_oldL_same (fun _ _ => pd_old_same _) dX11_keep_72 (stk' := []) rfl ?_
            refine pd_aload C dX11_keep_75 rfl ?_
            refine gi_0_5 C wd_3_72 (pd_code_lt zg1) (pd_code_sh zg1) dX11_keep_77 ?_
            refine pd_topi (fun zv1 hzv1 => ?_)
            have hF := pd_let_at hF hzv1
            refine pd_istore (ls' := [some (.ref 0), some (.int p0), some (.int p1), some (.int p2), some (.int p3), some (.ref zq1), some (.int zv1)]) C dX11_keep_80 (Nat.le_of_ble_eq_true rfl) rfl rfl ?_
            refine pd_aload C dX11_keep_82 rfl ?_
            refine pd_iload_n C dX11_keep_84 rfl rfl ?_
            refine pd_iload_n C dX11_keep_85 rfl rfl ?_
            refine pd_iload C dX11_keep_86 rfl ?_
            obtain ⟨zI1, zh5, hF⟩ := pd_bd_some hF
            refine pd_callV C [.int p1, .int p2, .int p3] [] (em_X0_setKeep (pd_C_st C) hn zg1 zh5) mw_X0_setKeep wd_3_133 rfl (by decide) (pd_code_lt zg1) (pd_code_sh zg1) ⟨by decide, by decide, by decide, by decide⟩ rfl (Nat.le_of_ble_eq_true rfl) pd_oldL_same (fun _ _ => pd_old_same _) dX11_keep_88 (stk' := []) rfl ?_
            refine pd_iload C dX11_keep_91 rfl ?_
            cases hF
            exact pd_iret C hE rfl rfl rfl ⟨by decide, by decide⟩ dX11_keep_93
          have hEzc1 : zc1 = false → pd_V cx 1 6 55 [some (.ref 0), some (.int p0), some (.int p1), some (.int p2), some (.int p3), some (.ref zq1), none] [] I J (pd_RF Z) n := by
            intro hc
            have hF := pd_bf hc hF
            cases hF
            exact pd_throw (ik := 103) C hE rfl htab pd_tw1 wd_2_159 wd_1_17 (List.mem_of_getElem? (i := 15) rfl) dX11_keep_55 dX11_keep_58 dX11_keep_59 dX11_keep_61 dX11_keep_64 ⟨by decide, Nat.le_of_ble_eq_true rfl, by decide, by decide⟩
          replace hF := hS
          clear hS
          refine pd_if_lt (tgt := 55) C dX11_keep_47 (by decide) (fun zc3 => ?_) (fun zc3 => ?_)
          · have hF := pd_t zc3 hF
            cases hF
            exact hEzc1 rfl
          · have hF := pd_f zc3 hF
            refine pd_iload_n C dX11_keep_50 rfl rfl ?_
            refine pd_iload_n C dX11_keep_51 rfl rfl ?_
            refine pd_icmp_lt (tgt := 65) C dX11_keep_52 (by decide) (fun zc2 => ?_) (fun zc2 => ?_)
            · have hF := pd_t zc2 hF
              cases hF
              exact hTzc1 rfl
            · have hF := pd_f zc2 hF
              cases hF
              exact hEzc1 rfl
        · have hF := pd_f zc4 hF
          refine pd_wk (ls' := [none, none, none, none, none, none, none]) True.intro ?_
          exact hzj1 _ hF
  · have hF := pd_t zc6 hF
    cases hF
    exact pd_throwN (ik := 167) C hE rfl htab pd_tw3 wd_2_209 wd_1_19 (List.mem_of_getElem? (i := 13) rfl) dX11_keep_15 dX11_keep_18 dX11_keep_19 dX11_keep_21 dX11_keep_24 ⟨by decide, Nat.le_of_ble_eq_true rfl, by decide, by decide⟩

def fn_X11_stride (I : pd_I) (Z : pd_R) (n : Nat) (p0 : Int32) (p1 : Int32) : Option (Except String (Int32 × pd_I)) := pd_bx (fn_X11_codeOf I Z n p0) fun zq1 => pd_gd (pd_isCode zq1 n) (if (I zq1 0) = 5 then pd_bd (if p1 < 1 then some false else (if p1 ≤ 199 then some true else (some false))) fun zc1 => if zc1 = true then pd_let (I zq1 6) fun zv1 => pd_let (pd_ui I zq1 6 p1) fun zI1 => some (.ok (zv1, zI1)) else (some (.error "java/lang/IllegalArgumentException")) else (some (.error "java/util/NoSuchElementException")))
set_option maxRecDepth 100000 in
set_option maxHeartbeats 4000000 in
theorem em_X11_stride {l : Launch} {D : va_G} {tc : Nat → ClassId} (hst : l.stackTraces = false) {I : pd_I} {J : pd_J} {Z : pd_R} {n : Nat} {p0 : Int32} {p1 : Int32} (hn : 133 ≤ n)  {out : Except String (Int32 × pd_I)} (hF : fn_X11_stride I Z n p0 p1 = some out) :
    pd_M l D tc yX11_stride (.code yX11_stride cX11_stride 5 (Option.some Jvm.ClassFile.FieldType.int)) rm_X11_stride [.ref 0, .int p0, .int p1] I J (pd_RF Z) n (pd_oo (fun (p : Int32 × pd_I) => some (.int p.1)) out) (pd_os (fun (p : Int32 × pd_I) => p.2) I out) J (pd_RF Z) n := by
  refine pd_open (own := "PathDecoder") (ls0 := [some (.ref 0), some (.int p0), some (.int p1), none, none]) (by decide) rfl (Nat.le_of_ble_eq_true rfl) rfl rfl hst (fun cx hl hD htc C hE htab hnm => ?_)
  subst hl hD htc
  unfold fn_X11_stride at hF
  refine pd_aload_n C dX11_stride_0 rfl rfl ?_
  refine pd_iload_n C dX11_stride_1 rfl rfl ?_
  rcases pd_bx_some hF with ⟨e9, zh1, he9⟩ | ⟨zq1, zh1, hF⟩
  · subst he9
    exact pd_callVX C [.int p0] [] (em_X11_codeOf (pd_C_st C) hn  zh1) mw_X11_codeOf wd_3_100 rfl (by decide) (pd_lt (by decide) hn) sh_0 ⟨by decide, by decide, by decide, by decide⟩ rfl (Nat.le_of_ble_eq_true rfl) dX11_stride_2 (pd_prop C hE rfl htab ⟨by decide, by decide⟩)
  obtain ⟨zg1, hF⟩ := pd_gd_some hF
  refine pd_callV C [.int p0] [] (em_X11_codeOf (pd_C_st C) hn  zh1) mw_X11_codeOf wd_3_100 rfl (by decide) (pd_lt (by decide) hn) sh_0 ⟨by decide, by decide, by decide, by decide⟩ rfl (Nat.le_of_ble_eq_true rfl) pd_oldL_same (fun _ _ => pd_old_same _) dX11_stride_2 (stk' := [.ref zq1]) rfl ?_
  refine pd_astore_n (ls' := [some (.ref 0), some (.int p0), some (.int p1), some (.ref zq1), none]) C dX11_stride_5 rfl (Nat.le_of_ble_eq_true rfl) rfl rfl ?_
  refine pd_aload_n C dX11_stride_6 rfl rfl ?_
  refine gi_0_0 C wd_3_60 (pd_code_lt zg1) (pd_code_sh zg1) dX11_stride_7 ?_
  refine pd_iconst (v := 5) C dX11_stride_10 (by decide) ?_
  refine pd_icmp_eq (tgt := 24) C dX11_stride_11 (by decide) (fun zc4 => ?_) (fun zc4 => ?_)
  · have hF := pd_t zc4 hF
    refine pd_iload_n C dX11_stride_24 rfl rfl ?_
    refine pd_iconst (v := 1) C dX11_stride_25 (by decide) ?_
    obtain ⟨zc1, hS, hF⟩ := pd_bd_some hF
    have hTzc1 : zc1 = true → pd_V cx 1 6 46 [some (.ref 0), some (.int p0), some (.int p1), some (.ref zq1), none] [] I J (pd_RF Z) n := by
      intro hc
      have hF := pd_t hc hF
      refine pd_aload_n C dX11_stride_46 rfl rfl ?_
      refine gi_0_6 C wd_3_74 (pd_code_lt zg1) (pd_code_sh zg1) dX11_stride_47 ?_
      refine pd_topi (fun zv1 hzv1 => ?_)
      have hF := pd_let_at hF hzv1
      refine pd_istore (ls' := [some (.ref 0), some (.int p0), some (.int p1), some (.ref zq1), some (.int zv1)]) C dX11_stride_50 (Nat.le_of_ble_eq_true rfl) rfl rfl ?_
      refine pd_aload_n C dX11_stride_52 rfl rfl ?_
      refine pd_iload_n C dX11_stride_53 rfl rfl ?_
      refine pi_0_6 C wd_3_74 rfl rfl (pd_code_lt zg1) (pd_code_sh zg1) dX11_stride_54 ?_
      refine pd_memI (fun zI1 hzI1 => ?_)
      have hF := pd_let_at hF hzI1
      refine pd_iload C dX11_stride_57 rfl ?_
      cases hF
      exact pd_iret C hE rfl rfl rfl ⟨by decide, by decide⟩ dX11_stride_59
    have hEzc1 : zc1 = false → pd_V cx 1 6 36 [some (.ref 0), some (.int p0), some (.int p1), some (.ref zq1), none] [] I J (pd_RF Z) n := by
      intro hc
      have hF := pd_bf hc hF
      cases hF
      exact pd_throw (ik := 103) C hE rfl htab pd_tw1 wd_2_159 wd_1_17 (List.mem_of_getElem? (i := 17) rfl) dX11_stride_36 dX11_stride_39 dX11_stride_40 dX11_stride_42 dX11_stride_45 ⟨by decide, Nat.le_of_ble_eq_true rfl, by decide, by decide⟩
    replace hF := hS
    clear hS
    refine pd_icmp_lt (tgt := 36) C dX11_stride_26 (by decide) (fun zc3 => ?_) (fun zc3 => ?_)
    · have hF := pd_t zc3 hF
      cases hF
      exact hEzc1 rfl
    · have hF := pd_f zc3 hF
      refine pd_iload_n C dX11_stride_29 rfl rfl ?_
      refine pd_sipush (v := 199) C dX11_stride_30 (by decide) ?_
      refine pd_icmp_le (tgt := 46) C dX11_stride_33 (by decide) (fun zc2 => ?_) (fun zc2 => ?_)
      · have hF := pd_t zc2 hF
        cases hF
        exact hTzc1 rfl
      · have hF := pd_f zc2 hF
        cases hF
        exact hEzc1 rfl
  · have hF := pd_f zc4 hF
    cases hF
    exact pd_throwN (ik := 167) C hE rfl htab pd_tw3 wd_2_209 wd_1_19 (List.mem_of_getElem? (i := 16) rfl) dX11_stride_14 dX11_stride_17 dX11_stride_18 dX11_stride_20 dX11_stride_23 ⟨by decide, Nat.le_of_ble_eq_true rfl, by decide, by decide⟩

def fn_X11_demandBitCount (p0 : Int32) : Option (Except String (Unit)) := pd_bd (if p0 < 1 then some false else (if p0 ≤ 200 then some true else (some false))) fun zc1 => if zc1 = true then some (.ok ()) else (some (.error "java/lang/IllegalArgumentException"))
set_option maxRecDepth 100000 in
set_option maxHeartbeats 4000000 in
theorem em_X11_demandBitCount {l : Launch} {D : va_G} {tc : Nat → ClassId} (hst : l.stackTraces = false) {I : pd_I} {J : pd_J} {Z : pd_R} {n : Nat} {p0 : Int32} (hn : 133 ≤ n)  {out : Except String (Unit)} (hF : fn_X11_demandBitCount p0 = some out) :
    pd_M l D tc yX11_demandBitCount (.code yX11_demandBitCount cX11_demandBitCount 1 (Option.none : Option Jvm.ClassFile.FieldType)) rm_X11_demandBitCount [.int p0] I J (pd_RF Z) n (pd_oo (fun (p : Unit) => none) out) I J (pd_RF Z) n := by
  refine pd_open (own := "PathDecoder") (ls0 := [some (.int p0)]) (by decide) rfl (Nat.le_of_ble_eq_true rfl) rfl rfl hst (fun cx hl hD htc C hE htab hnm => ?_)
  subst hl hD htc
  unfold fn_X11_demandBitCount at hF
  refine pd_iload_n C dX11_demandBitCount_0 rfl rfl ?_
  refine pd_iconst (v := 1) C dX11_demandBitCount_1 (by decide) ?_
  obtain ⟨zc1, hS, hF⟩ := pd_bd_some hF
  have hTzc1 : zc1 = true → pd_V cx 0 0 23 [some (.int p0)] [] I J (pd_RF Z) n := by
    intro hc
    have hF := pd_t hc hF
    cases hF
    exact pd_vret C hE rfl ⟨by decide, by decide⟩ dX11_demandBitCount_23
  have hEzc1 : zc1 = false → pd_V cx 0 0 12 [some (.int p0)] [] I J (pd_RF Z) n := by
    intro hc
    have hF := pd_bf hc hF
    cases hF
    exact pd_throwW (ik := 103) C hE rfl htab pd_tw1 wd_2_159 wd_1_17 (List.mem_of_getElem? (i := 18) rfl) dX11_demandBitCount_12 dX11_demandBitCount_15 dX11_demandBitCount_16 dX11_demandBitCount_19 dX11_demandBitCount_22 ⟨by decide, Nat.le_of_ble_eq_true rfl, by decide, by decide⟩
  replace hF := hS
  clear hS
  refine pd_icmp_lt (tgt := 12) C dX11_demandBitCount_2 (by decide) (fun zc3 => ?_) (fun zc3 => ?_)
  · have hF := pd_t zc3 hF
    cases hF
    exact hEzc1 rfl
  · have hF := pd_f zc3 hF
    refine pd_iload_n C dX11_demandBitCount_5 rfl rfl ?_
    refine pd_sipush (v := 200) C dX11_demandBitCount_6 (by decide) ?_
    refine pd_icmp_le (tgt := 23) C dX11_demandBitCount_9 (by decide) (fun zc2 => ?_) (fun zc2 => ?_)
    · have hF := pd_t zc2 hF
      cases hF
      exact hTzc1 rfl
    · have hF := pd_f zc2 hF
      cases hF
      exact hEzc1 rfl

def fn_X4_bitAt (I : pd_I) (a : Nat) (p0 : Int32) : Option Int32 := pd_bd (fn_X4_numberAt I a p0) fun zr1 => some (zr1 &&& 1)
set_option maxRecDepth 100000 in
set_option maxHeartbeats 4000000 in
theorem em_X4_bitAt {l : Launch} {D : va_G} {tc : Nat → ClassId} (hst : l.stackTraces = false) {I : pd_I} {J : pd_J} {Z : pd_R} {n : Nat} {a : Nat} {p0 : Int32} (hn : 133 ≤ n) (ha : pd_isRow a = true) {out : Int32} (hF : fn_X4_bitAt I a p0 = some out) :
    pd_M l D tc yX4_bitAt (.code yX4_bitAt cX4_bitAt 2 (Option.some Jvm.ClassFile.FieldType.int)) rm_X4_bitAt [.ref a, .int p0] I J (pd_RF Z) n (.ok (some (.int out))) I J (pd_RF Z) n := by
  refine pd_open (own := "PathDecoder$Row") (ls0 := [some (.ref a), some (.int p0)]) (by decide) rfl (Nat.le_of_ble_eq_true rfl) rfl rfl hst (fun cx hl hD htc C hE htab hnm => ?_)
  subst hl hD htc
  unfold fn_X4_bitAt at hF
  refine pd_aload_n C dX4_bitAt_0 rfl rfl ?_
  refine pd_iload_n C dX4_bitAt_1 rfl rfl ?_
  obtain ⟨zr1, zh1, hF⟩ := pd_bd_some hF
  refine pd_callV C [.int p0] [] (em_X4_numberAt (pd_C_st C) hn ha zh1) mw_X4_numberAt wd_3_166 rfl (by decide) (pd_row_lt ha hn) (pd_row_sh ha) ⟨by decide, by decide, by decide, by decide⟩ rfl (Nat.le_of_ble_eq_true rfl) pd_oldL_same (fun _ _ => pd_old_same _) dX4_bitAt_2 (stk' := [.int zr1]) rfl ?_
  refine pd_iconst (v := 1) C dX4_bitAt_5 (by decide) ?_
  refine pd_iand C dX4_bitAt_6 ?_
  cases hF
  exact pd_iret C hE rfl rfl rfl ⟨by decide, by decide⟩ dX4_bitAt_7

def fn_X0_states (I : pd_I) (a : Nat) : Option Int32 := some ((1 : Int32) <<< ((I a 1) &&& 31))
set_option maxRecDepth 100000 in
set_option maxHeartbeats 4000000 in
theorem em_X0_states {l : Launch} {D : va_G} {tc : Nat → ClassId} (hst : l.stackTraces = false) {I : pd_I} {J : pd_J} {Z : pd_R} {n : Nat} {a : Nat} (hn : 133 ≤ n) (ha : pd_isCode a n = true) {out : Int32} (hF : fn_X0_states I a = some out) :
    pd_M l D tc yX0_states (.code yX0_states cX0_states 1 (Option.some Jvm.ClassFile.FieldType.int)) rm_X0_states [.ref a] I J (pd_RF Z) n (.ok (some (.int out))) I J (pd_RF Z) n := by
  refine pd_open (own := "PathDecoder$Code") (ls0 := [some (.ref a)]) (by decide) rfl (Nat.le_of_ble_eq_true rfl) rfl rfl hst (fun cx hl hD htc C hE htab hnm => ?_)
  subst hl hD htc
  unfold fn_X0_states at hF
  refine pd_iconst (v := 1) C dX0_states_0 (by decide) ?_
  refine pd_aload_n C dX0_states_1 rfl rfl ?_
  refine gi_0_1 C wd_3_61 (pd_code_lt ha) (pd_code_sh ha) dX0_states_2 ?_
  refine pd_ishl C dX0_states_5 ?_
  cases hF
  exact pd_iret C hE rfl rfl rfl ⟨by decide, by decide⟩ dX0_states_6

def fn_J6_bitCount_0f7a4 (p0 : Int32) : Option Int32 := pd_let (p0 - (((p0.toUInt32 >>> ((1 : Int32).toUInt32 &&& Int32.toUInt32 31)).toInt32) &&& 1431655765)) fun zv1 => pd_let ((zv1 &&& 858993459) + (((zv1.toUInt32 >>> ((2 : Int32).toUInt32 &&& Int32.toUInt32 31)).toInt32) &&& 858993459)) fun zv2 => pd_let ((zv2 + ((zv2.toUInt32 >>> ((4 : Int32).toUInt32 &&& Int32.toUInt32 31)).toInt32)) &&& 252645135) fun zv3 => pd_let (zv3 + ((zv3.toUInt32 >>> ((8 : Int32).toUInt32 &&& Int32.toUInt32 31)).toInt32)) fun zv4 => pd_let (zv4 + ((zv4.toUInt32 >>> ((16 : Int32).toUInt32 &&& Int32.toUInt32 31)).toInt32)) fun zv5 => some (zv5 &&& 63)
set_option maxRecDepth 100000 in
set_option maxHeartbeats 4000000 in
theorem em_J6_bitCount_0f7a4 {l : Launch} {D : va_G} {tc : Nat → ClassId} (hst : l.stackTraces = false) {I : pd_I} {J : pd_J} {Z : pd_R} {n : Nat} {p0 : Int32} (hn : 133 ≤ n)  {out : Int32} (hF : fn_J6_bitCount_0f7a4 p0 = some out) :
    pd_M l D tc yJ6_bitCount_0f7a4 (.code yJ6_bitCount_0f7a4 cJ6_bitCount_0f7a4 1 (Option.some Jvm.ClassFile.FieldType.int)) rm_J6_bitCount_0f7a4 [.int p0] I J (pd_RF Z) n (.ok (some (.int out))) I J (pd_RF Z) n := by
  refine pd_open (own := "java/lang/Integer") (ls0 := [some (.int p0)]) (by decide) rfl (Nat.le_of_ble_eq_true rfl) rfl rfl hst (fun cx hl hD htc C hE htab hnm => ?_)
  subst hl hD htc
  unfold fn_J6_bitCount_0f7a4 at hF
  refine pd_iload_n C dJ6_bitCount_0f7a4_0 rfl rfl ?_
  refine pd_iload_n C dJ6_bitCount_0f7a4_1 rfl rfl ?_
  refine pd_iconst (v := 1) C dJ6_bitCount_0f7a4_2 (by decide) ?_
  refine pd_iushr C dJ6_bitCount_0f7a4_3 ?_
  refine pd_ldc_w C wd_3_189 dJ6_bitCount_0f7a4_4 ?_
  refine pd_iand C dJ6_bitCount_0f7a4_7 ?_
  refine pd_isub C dJ6_bitCount_0f7a4_8 ?_
  refine pd_topi (fun zv1 hzv1 => ?_)
  have hF := pd_let_at hF hzv1
  refine pd_istore_n (ls' := [some (.int zv1)]) C dJ6_bitCount_0f7a4_9 rfl (Nat.le_of_ble_eq_true rfl) rfl rfl ?_
  refine pd_iload_n C dJ6_bitCount_0f7a4_10 rfl rfl ?_
  refine pd_ldc_w C wd_3_190 dJ6_bitCount_0f7a4_11 ?_
  refine pd_iand C dJ6_bitCount_0f7a4_14 ?_
  refine pd_iload_n C dJ6_bitCount_0f7a4_15 rfl rfl ?_
  refine pd_iconst (v := 2) C dJ6_bitCount_0f7a4_16 (by decide) ?_
  refine pd_iushr C dJ6_bitCount_0f7a4_17 ?_
  refine pd_ldc_w C wd_3_190 dJ6_bitCount_0f7a4_18 ?_
  refine pd_iand C dJ6_bitCount_0f7a4_21 ?_
  refine pd_iadd C dJ6_bitCount_0f7a4_22 ?_
  refine pd_topi (fun zv2 hzv2 => ?_)
  have hF := pd_let_at hF hzv2
  refine pd_istore_n (ls' := [some (.int zv2)]) C dJ6_bitCount_0f7a4_23 rfl (Nat.le_of_ble_eq_true rfl) rfl rfl ?_
  refine pd_iload_n C dJ6_bitCount_0f7a4_24 rfl rfl ?_
  refine pd_iload_n C dJ6_bitCount_0f7a4_25 rfl rfl ?_
  refine pd_iconst (v := 4) C dJ6_bitCount_0f7a4_26 (by decide) ?_
  refine pd_iushr C dJ6_bitCount_0f7a4_27 ?_
  refine pd_iadd C dJ6_bitCount_0f7a4_28 ?_
  refine pd_ldc_w C wd_3_191 dJ6_bitCount_0f7a4_29 ?_
  refine pd_iand C dJ6_bitCount_0f7a4_32 ?_
  refine pd_topi (fun zv3 hzv3 => ?_)
  have hF := pd_let_at hF hzv3
  refine pd_istore_n (ls' := [some (.int zv3)]) C dJ6_bitCount_0f7a4_33 rfl (Nat.le_of_ble_eq_true rfl) rfl rfl ?_
  refine pd_iload_n C dJ6_bitCount_0f7a4_34 rfl rfl ?_
  refine pd_iload_n C dJ6_bitCount_0f7a4_35 rfl rfl ?_
  refine pd_bipush (v := 8) C dJ6_bitCount_0f7a4_36 (by decide) ?_
  refine pd_iushr C dJ6_bitCount_0f7a4_38 ?_
  refine pd_iadd C dJ6_bitCount_0f7a4_39 ?_
  refine pd_topi (fun zv4 hzv4 => ?_)
  have hF := pd_let_at hF hzv4
  refine pd_istore_n (ls' := [some (.int zv4)]) C dJ6_bitCount_0f7a4_40 rfl (Nat.le_of_ble_eq_true rfl) rfl rfl ?_
  refine pd_iload_n C dJ6_bitCount_0f7a4_41 rfl rfl ?_
  refine pd_iload_n C dJ6_bitCount_0f7a4_42 rfl rfl ?_
  refine pd_bipush (v := 16) C dJ6_bitCount_0f7a4_43 (by decide) ?_
  refine pd_iushr C dJ6_bitCount_0f7a4_45 ?_
  refine pd_iadd C dJ6_bitCount_0f7a4_46 ?_
  refine pd_topi (fun zv5 hzv5 => ?_)
  have hF := pd_let_at hF hzv5
  refine pd_istore_n (ls' := [some (.int zv5)]) C dJ6_bitCount_0f7a4_47 rfl (Nat.le_of_ble_eq_true rfl) rfl rfl ?_
  refine pd_iload_n C dJ6_bitCount_0f7a4_48 rfl rfl ?_
  refine pd_bipush (v := 63) C dJ6_bitCount_0f7a4_49 (by decide) ?_
  refine pd_iand C dJ6_bitCount_0f7a4_51 ?_
  cases hF
  exact pd_iret C hE rfl rfl rfl ⟨by decide, by decide⟩ dJ6_bitCount_0f7a4_52

def fn_X11_parity (p0 : Int32) : Option Int32 := pd_bd (fn_J6_bitCount_0f7a4 p0) fun zr1 => some (zr1 &&& 1)
set_option maxRecDepth 100000 in
set_option maxHeartbeats 4000000 in
theorem em_X11_parity {l : Launch} {D : va_G} {tc : Nat → ClassId} (hst : l.stackTraces = false) {I : pd_I} {J : pd_J} {Z : pd_R} {n : Nat} {p0 : Int32} (hn : 133 ≤ n)  {out : Int32} (hF : fn_X11_parity p0 = some out) :
    pd_M l D tc yX11_parity (.code yX11_parity cX11_parity 1 (Option.some Jvm.ClassFile.FieldType.int)) rm_X11_parity [.int p0] I J (pd_RF Z) n (.ok (some (.int out))) I J (pd_RF Z) n := by
  refine pd_open (own := "PathDecoder") (ls0 := [some (.int p0)]) (by decide) rfl (Nat.le_of_ble_eq_true rfl) rfl rfl hst (fun cx hl hD htc C hE htab hnm => ?_)
  subst hl hD htc
  unfold fn_X11_parity at hF
  refine pd_iload_n C dX11_parity_0 rfl rfl ?_
  obtain ⟨zr1, zh1, hF⟩ := pd_bd_some hF
  refine pd_callS C [.int p0] [] (em_J6_bitCount_0f7a4 (pd_C_st C) hn  zh1) mw_J6_bitCount_0f7a4 wd_3_186 ⟨by decide, by decide, by decide, by decide⟩ rfl (Nat.le_of_ble_eq_true rfl) pd_oldL_same (fun _ _ => pd_old_same _) dX11_parity_1 (stk' := [.int zr1]) rfl ?_
  refine pd_iconst (v := 1) C dX11_parity_4 (by decide) ?_
  refine pd_iand C dX11_parity_5 ?_
  cases hF
  exact pd_iret C hE rfl rfl rfl ⟨by decide, by decide⟩ dX11_parity_6

def fn_X0_fedBack (I : pd_I) (a : Nat) (p0 : Int32) : Option Int32 := pd_bd (fn_X11_parity (p0 &&& (I a 4))) fun zr1 => some zr1
set_option maxRecDepth 100000 in
set_option maxHeartbeats 4000000 in
theorem em_X0_fedBack {l : Launch} {D : va_G} {tc : Nat → ClassId} (hst : l.stackTraces = false) {I : pd_I} {J : pd_J} {Z : pd_R} {n : Nat} {a : Nat} {p0 : Int32} (hn : 133 ≤ n) (ha : pd_isCode a n = true) {out : Int32} (hF : fn_X0_fedBack I a p0 = some out) :
    pd_M l D tc yX0_fedBack (.code yX0_fedBack cX0_fedBack 2 (Option.some Jvm.ClassFile.FieldType.int)) rm_X0_fedBack [.ref a, .int p0] I J (pd_RF Z) n (.ok (some (.int out))) I J (pd_RF Z) n := by
  refine pd_open (own := "PathDecoder$Code") (ls0 := [some (.ref a), some (.int p0)]) (by decide) rfl (Nat.le_of_ble_eq_true rfl) rfl rfl hst (fun cx hl hD htc C hE htab hnm => ?_)
  subst hl hD htc
  unfold fn_X0_fedBack at hF
  refine pd_iload_n C dX0_fedBack_0 rfl rfl ?_
  refine pd_aload_n C dX0_fedBack_1 rfl rfl ?_
  refine gi_0_4 C wd_3_69 (pd_code_lt ha) (pd_code_sh ha) dX0_fedBack_2 ?_
  refine pd_iand C dX0_fedBack_5 ?_
  obtain ⟨zr1, zh1, hF⟩ := pd_bd_some hF
  refine pd_callM C [.int (p0 &&& (I a 4))] [] (em_X11_parity (pd_C_st C) hn  zh1) mw_X11_parity (List.mem_of_getElem? (i := 5) rfl) ⟨by decide, by decide, by decide, by decide⟩ rfl (Nat.le_of_ble_eq_true rfl) pd_oldL_same (fun _ _ => pd_old_same _) dX0_fedBack_6 (stk' := [.int zr1]) rfl ?_
  cases hF
  exact pd_iret C hE rfl rfl rfl ⟨by decide, by decide⟩ dX0_fedBack_9

def fn_X0_stateAfter (I : pd_I) (a : Nat) (p0 : Int32) (p1 : Int32) : Option Int32 := pd_bd (fn_X0_fedBack I a p0) fun zr1 => pd_bd (fn_X0_states I a) fun zr2 => some (((p0 <<< (1 &&& 31)) ||| (p1 ^^^ zr1)) &&& (zr2 - 1))
set_option maxRecDepth 100000 in
set_option maxHeartbeats 4000000 in
theorem em_X0_stateAfter {l : Launch} {D : va_G} {tc : Nat → ClassId} (hst : l.stackTraces = false) {I : pd_I} {J : pd_J} {Z : pd_R} {n : Nat} {a : Nat} {p0 : Int32} {p1 : Int32} (hn : 133 ≤ n) (ha : pd_isCode a n = true) {out : Int32} (hF : fn_X0_stateAfter I a p0 p1 = some out) :
    pd_M l D tc yX0_stateAfter (.code yX0_stateAfter cX0_stateAfter 3 (Option.some Jvm.ClassFile.FieldType.int)) rm_X0_stateAfter [.ref a, .int p0, .int p1] I J (pd_RF Z) n (.ok (some (.int out))) I J (pd_RF Z) n := by
  refine pd_open (own := "PathDecoder$Code") (ls0 := [some (.ref a), some (.int p0), some (.int p1)]) (by decide) rfl (Nat.le_of_ble_eq_true rfl) rfl rfl hst (fun cx hl hD htc C hE htab hnm => ?_)
  subst hl hD htc
  unfold fn_X0_stateAfter at hF
  refine pd_iload_n C dX0_stateAfter_0 rfl rfl ?_
  refine pd_iconst (v := 1) C dX0_stateAfter_1 (by decide) ?_
  refine pd_ishl C dX0_stateAfter_2 ?_
  refine pd_iload_n C dX0_stateAfter_3 rfl rfl ?_
  refine pd_aload_n C dX0_stateAfter_4 rfl rfl ?_
  refine pd_iload_n C dX0_stateAfter_5 rfl rfl ?_
  obtain ⟨zr1, zh1, hF⟩ := pd_bd_some hF
  refine pd_callV C [.int p0] [.int p1, .int (p0 <<< (1 &&& 31))] (em_X0_fedBack (pd_C_st C) hn ha zh1) mw_X0_fedBack wd_3_179 rfl (by decide) (pd_code_lt ha) (pd_code_sh ha) ⟨by decide, by decide, by decide, by decide⟩ rfl (Nat.le_of_ble_eq_true rfl) pd_oldL_same (fun _ _ => pd_old_same _) dX0_stateAfter_6 (stk' := [.int zr1, .int p1, .int (p0 <<< (1 &&& 31))]) rfl ?_
  refine pd_ixor C dX0_stateAfter_9 ?_
  refine pd_ior C dX0_stateAfter_10 ?_
  refine pd_aload_n C dX0_stateAfter_11 rfl rfl ?_
  obtain ⟨zr2, zh2, hF⟩ := pd_bd_some hF
  refine pd_callV C [] [.int ((p0 <<< (1 &&& 31)) ||| (p1 ^^^ zr1))] (em_X0_states (pd_C_st C) hn ha zh2) mw_X0_states wd_3_192 rfl (by decide) (pd_code_lt ha) (pd_code_sh ha) ⟨by decide, by decide, by decide, by decide⟩ rfl (Nat.le_of_ble_eq_true rfl) pd_oldL_same (fun _ _ => pd_old_same _) dX0_stateAfter_12 (stk' := [.int zr2, .int ((p0 <<< (1 &&& 31)) ||| (p1 ^^^ zr1))]) rfl ?_
  refine pd_iconst (v := 1) C dX0_stateAfter_15 (by decide) ?_
  refine pd_isub C dX0_stateAfter_16 ?_
  refine pd_iand C dX0_stateAfter_17 ?_
  cases hF
  exact pd_iret C hE rfl rfl rfl ⟨by decide, by decide⟩ dX0_stateAfter_18

