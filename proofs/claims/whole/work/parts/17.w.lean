def fn_X12_right (I : pd_I) (p0 : Int32) (p1 : Int32) : Option (Int32 × pd_I) := pd_bd (pd_bd (if (I 92 0) = 0 then if p0 = 0 then some true else (some false) else (some false)) fun zc2 => if zc2 = true then pd_let (pd_ui I 92 0 p1) fun zI2 => some zI2 else (some I)) fun (zI1 : pd_I) => pd_bd (if (zI1 92 0) = 0 then some 1 else (some 0)) fun (zx1 : Int32) => pd_gd (pd_bo zx1) (some (zx1, zI1))
set_option maxRecDepth 100000 in
set_option maxHeartbeats 4000000 in
theorem em_X12_right {l : Launch} {D : va_G} {tc : Nat → ClassId} (hst : l.stackTraces = false) {I : pd_I} {J : pd_J} {Z : pd_R} {n : Nat} {p0 : Int32} {p1 : Int32} (hn : 133 ≤ n)  {out : Int32 × pd_I} (hF : fn_X12_right I p0 p1 = some out) :
    pd_M l D tc yX12_right (.code yX12_right cX12_right 3 (Option.some Jvm.ClassFile.FieldType.boolean)) rm_X12_right [.ref 92, .int p0, .int p1] I J (pd_RF Z) n (.ok (some (.int out.1))) out.2 J (pd_RF Z) n := by
  refine pd_open (own := "PathDecoderModel") (ls0 := [some (.ref 92), some (.int p0), some (.int p1)]) (by decide) rfl (Nat.le_of_ble_eq_true rfl) rfl rfl hst (fun cx hl hD htc C hE htab hnm => ?_)
  subst hl hD htc
  unfold fn_X12_right at hF
  refine pd_aload_n C dX12_right_0 rfl rfl ?_
  refine gi_12_0 C wd_5_125 (pd_lt (by decide) hn) sh_92 dX12_right_1 ?_
  obtain ⟨zI1, hS, hF⟩ := pd_bd_some hF
  have hJ16 : pd_V cx 0 0 16 [some (.ref 92), none, none] [] zI1 J (pd_RF Z) n := by
    refine pd_aload_n C dX12_right_16 rfl rfl ?_
    refine gi_12_0 C wd_5_125 (pd_lt (by decide) hn) sh_92 dX12_right_17 ?_
    obtain ⟨zx1, hS, hF⟩ := pd_bd_some hF
    have hJ28 : pd_V cx 0 0 28 [none, none, none] [.int zx1] zI1 J (pd_RF Z) n := by
      obtain ⟨zg1, hF⟩ := pd_gd_some hF
      cases hF
      exact pd_iret C hE rfl rfl (pd_bo_nar zg1) ⟨by decide, by decide⟩ dX12_right_28
    replace hF := hS
    clear hS
    refine pd_if_ne (tgt := 27) C dX12_right_20 (by decide) (fun zc1 => ?_) (fun zc1 => ?_)
    · have hF := pd_f zc1 hF
      refine pd_iconst (v := 0) C dX12_right_27 (by decide) ?_
      refine pd_wk (ls' := [none, none, none]) True.intro ?_
      have hF := hF.symm
      cases hF
      exact hJ28
    · have hF := pd_t zc1 hF
      refine pd_iconst (v := 1) C dX12_right_23 (by decide) ?_
      refine pd_goto (tgt := 28) C dX12_right_24 (by decide) ?_
      refine pd_wk (ls' := [none, none, none]) True.intro ?_
      have hF := hF.symm
      cases hF
      exact hJ28
  replace hF := hS
  clear hS
  obtain ⟨zc2, hS, hF⟩ := pd_bd_some hF
  have hTzc2 : zc2 = true → pd_V cx 0 0 11 [some (.ref 92), some (.int p0), some (.int p1)] [] I J (pd_RF Z) n := by
    intro hc
    have hF := pd_t hc hF
    refine pd_aload_n C dX12_right_11 rfl rfl ?_
    refine pd_iload_n C dX12_right_12 rfl rfl ?_
    refine pi_12_0 C wd_5_125 rfl rfl (pd_lt (by decide) hn) sh_92 dX12_right_13 ?_
    refine pd_memI (fun zI2 hzI2 => ?_)
    have hF := pd_let_at hF hzI2
    refine pd_wk (ls' := [some (.ref 92), none, none]) (And.intro rfl True.intro) ?_
    have hF := hF.symm
    cases hF
    exact hJ16
  have hEzc2 : zc2 = false → pd_V cx 0 0 16 [some (.ref 92), some (.int p0), some (.int p1)] [] I J (pd_RF Z) n := by
    intro hc
    have hF := pd_bf hc hF
    refine pd_wk (ls' := [some (.ref 92), none, none]) (And.intro rfl True.intro) ?_
    have hF := hF.symm
    cases hF
    exact hJ16
  replace hF := hS
  clear hS
  refine pd_if_ne (tgt := 16) C dX12_right_4 (by decide) (fun zc4 => ?_) (fun zc4 => ?_)
  · have hF := pd_f zc4 hF
    cases hF
    exact hEzc2 rfl
  · have hF := pd_t zc4 hF
    refine pd_iload_n C dX12_right_7 rfl rfl ?_
    refine pd_if_ne (tgt := 16) C dX12_right_8 (by decide) (fun zc3 => ?_) (fun zc3 => ?_)
    · have hF := pd_f zc3 hF
      cases hF
      exact hEzc2 rfl
    · have hF := pd_t zc3 hF
      cases hF
      exact hTzc2 rfl

def fn_X12_isRow (I : pd_I) (p0 : Int32) (p1 : Int32) : Option (Int32 × pd_I) := pd_bd (pd_bd (if p0 < 0 then some false else (if 16 ≤ p0 then some false else (some true))) fun zc1 => if zc1 = true then some 1 else (some 0)) fun (zx1 : Int32) => pd_bd2 (fn_X12_right I zx1 p1) fun zr1 zI1 => pd_gd (pd_bo zr1) (some (zr1, zI1))
set_option maxRecDepth 100000 in
set_option maxHeartbeats 4000000 in
theorem em_X12_isRow {l : Launch} {D : va_G} {tc : Nat → ClassId} (hst : l.stackTraces = false) {I : pd_I} {J : pd_J} {Z : pd_R} {n : Nat} {p0 : Int32} {p1 : Int32} (hn : 133 ≤ n)  {out : Int32 × pd_I} (hF : fn_X12_isRow I p0 p1 = some out) :
    pd_M l D tc yX12_isRow (.code yX12_isRow cX12_isRow 3 (Option.some Jvm.ClassFile.FieldType.boolean)) rm_X12_isRow [.ref 92, .int p0, .int p1] I J (pd_RF Z) n (.ok (some (.int out.1))) out.2 J (pd_RF Z) n := by
  refine pd_open (own := "PathDecoderModel") (ls0 := [some (.ref 92), some (.int p0), some (.int p1)]) (by decide) rfl (Nat.le_of_ble_eq_true rfl) rfl rfl hst (fun cx hl hD htc C hE htab hnm => ?_)
  subst hl hD htc
  unfold fn_X12_isRow at hF
  refine pd_aload_n C dX12_isRow_0 rfl rfl ?_
  refine pd_iload_n C dX12_isRow_1 rfl rfl ?_
  obtain ⟨zx1, hS, hF⟩ := pd_bd_some hF
  have hJ16 : pd_V cx 0 0 16 [none, none, some (.int p1)] [.int zx1, .ref 92] I J (pd_RF Z) n := by
    refine pd_iload_n C dX12_isRow_16 rfl rfl ?_
    obtain ⟨zr1, zI1, zh1, hF⟩ := pd_bd2_some hF
    refine pd_callV C [.int zx1, .int p1] [] (em_X12_right (pd_C_st C) hn  zh1) mw_X12_right wd_6_30 rfl (by decide) (pd_lt (by decide) hn) sh_92 ⟨by decide, by decide, by decide, by decide⟩ rfl (Nat.le_of_ble_eq_true rfl) pd_oldL_same (fun _ _ => pd_old_same _) dX12_isRow_17 (stk' := [.int zr1]) rfl ?_
    obtain ⟨zg1, hF⟩ := pd_gd_some hF
    cases hF
    exact pd_iret C hE rfl rfl (pd_bo_nar zg1) ⟨by decide, by decide⟩ dX12_isRow_20
  replace hF := hS
  clear hS
  obtain ⟨zc1, hS, hF⟩ := pd_bd_some hF
  have hTzc1 : zc1 = true → pd_V cx 0 0 11 [some (.ref 92), some (.int p0), some (.int p1)] [.ref 92] I J (pd_RF Z) n := by
    intro hc
    have hF := pd_t hc hF
    refine pd_iconst (v := 1) C dX12_isRow_11 (by decide) ?_
    refine pd_goto (tgt := 16) C dX12_isRow_12 (by decide) ?_
    refine pd_wk (ls' := [none, none, some (.int p1)]) (And.intro rfl True.intro) ?_
    have hF := hF.symm
    cases hF
    exact hJ16
  have hEzc1 : zc1 = false → pd_V cx 0 0 15 [some (.ref 92), some (.int p0), some (.int p1)] [.ref 92] I J (pd_RF Z) n := by
    intro hc
    have hF := pd_bf hc hF
    refine pd_iconst (v := 0) C dX12_isRow_15 (by decide) ?_
    refine pd_wk (ls' := [none, none, some (.int p1)]) (And.intro rfl True.intro) ?_
    have hF := hF.symm
    cases hF
    exact hJ16
  replace hF := hS
  clear hS
  refine pd_if_lt (tgt := 15) C dX12_isRow_2 (by decide) (fun zc3 => ?_) (fun zc3 => ?_)
  · have hF := pd_t zc3 hF
    cases hF
    exact hEzc1 rfl
  · have hF := pd_f zc3 hF
    refine pd_iload_n C dX12_isRow_5 rfl rfl ?_
    refine pd_bipush (v := 16) C dX12_isRow_6 (by decide) ?_
    refine pd_icmp_ge (tgt := 15) C dX12_isRow_8 (by decide) (fun zc2 => ?_) (fun zc2 => ?_)
    · have hF := pd_t zc2 hF
      cases hF
      exact hEzc1 rfl
    · have hF := pd_f zc2 hF
      cases hF
      exact hTzc1 rfl

def fl_X12_row_66 {O : Type} (p0 : Int32) (kont : pd_I → Option O) : Nat → Int32 → pd_I → Option O
  | 0, _, _ => none
  | fu + 1, zx3, zI6 => if 600 ≤ zx3 then kont zI6 else (pd_gd (pd_in ((600 * p0) + zx3) 9600) (pd_let (pd_ui zI6 94 ((600 * p0) + zx3).toNatClampNeg 0) fun zI8 => pd_let (zx3 + 1) fun zv1 => fl_X12_row_66 p0 kont fu zv1 zI8))
set_option maxRecDepth 100000 in
set_option maxHeartbeats 4000000 in
theorem el_X12_row_66 {cx : pd_X} (C : pd_C cx "PathDecoderModel" cX12_row rm_X12_row) {p0 : Int32} {zx2 : Int32} {J : pd_J} {Z : pd_R} {n : Nat} (hn : 133 ≤ n)  {O : Type} {kont : pd_I → Option O} {out : O} (K : ∀ (zI7 : pd_I), kont zI7 = some out → pd_V cx 0 0 94 [none, none, none, some (.int zx2), none] [] zI7 J (pd_RF Z) n) :
    ∀ (fu : Nat) (zx3 : Int32) (zI6 : pd_I), fl_X12_row_66 p0 kont fu zx3 zI6 = some out → pd_V cx 0 0 66 [some (.ref 92), some (.int p0), none, some (.int zx2), some (.int zx3)] [] zI6 J (pd_RF Z) n := by
  intro fu
  induction fu with
  | zero => intro zx3 zI6 hF; rw [fl_X12_row_66] at hF; cases hF
  | succ fu ih =>
    intro zx3 zI6 hF
    rw [fl_X12_row_66] at hF
    refine pd_iload C dX12_row_66 rfl ?_
    refine pd_sipush (v := 600) C dX12_row_68 (by decide) ?_
    refine pd_icmp_ge (tgt := 94) C dX12_row_71 (by decide) (fun zc1 => ?_) (fun zc1 => ?_)
    · have hF := pd_t zc1 hF
      refine pd_wk (ls' := [none, none, none, some (.int zx2), none]) (And.intro rfl True.intro) ?_
      exact K _ hF
    · have hF := pd_f zc1 hF
      refine pd_aload_n C dX12_row_74 rfl rfl ?_
      refine gr_12_2 C wd_5_127 (pd_lt (by decide) hn) sh_92 (rf_92_2 _) dX12_row_75 ?_
      refine pd_sipush (v := 600) C dX12_row_78 (by decide) ?_
      refine pd_iload_n C dX12_row_81 rfl rfl ?_
      refine pd_imul C dX12_row_82 ?_
      refine pd_iload C dX12_row_83 rfl ?_
      refine pd_iadd C dX12_row_85 ?_
      refine pd_iconst (v := 0) C dX12_row_86 (by decide) ?_
      obtain ⟨zg3, hF⟩ := pd_gd_some hF
      refine pd_iast C (pd_lt (by decide) hn) sh_94 zg3 dX12_row_87 ?_
      refine pd_memI (fun zI8 hzI8 => ?_)
      have hF := pd_let_at hF hzI8
      refine pd_iincG (zz := 1) C dX12_row_88 rfl (by decide) rfl (fun zv1 hzv1 => ?_)
      have hF := pd_let_at hF hzv1
      refine pd_lsE (ls' := [some (.ref 92), some (.int p0), none, some (.int zx2), some (.int zv1)]) rfl ?_
      refine pd_goto (tgt := 66) C dX12_row_91 (by decide) ?_
      exact ih _ _ hF
def fn_X12_row (I : pd_I) (p0 : Int32) (p1 : Int32) : Option (Int32 × pd_I) := pd_let (pd_ui I 92 0 0) fun zI1 => pd_bd2 (fn_X12_isRow zI1 p0 1) fun zr1 zI2 => pd_jn (fun (zI3 : pd_I) => some (0, zI3)) fun zj1 => if zr1 = 0 then zj1 zI2 else (pd_bd (pd_bd (if p1 < 0 then some false else (if 600 < p1 then some false else (some true))) fun zc4 => if zc4 = true then some 1 else (some 0)) fun (zx1 : Int32) => pd_bd2 (fn_X12_right zI2 zx1 2) fun zr2 zI4 => if zr2 = 0 then zj1 zI4 else (pd_gd (pd_in p0 16) (pd_bd (if (zI4 93 p0.toNatClampNeg) = (-1) then some 1 else (some 0)) fun (zx2 : Int32) => pd_gd (pd_in p0 16) (pd_let (pd_ui zI4 93 p0.toNatClampNeg p1) fun zI5 => fl_X12_row_66 p0 (fun zI7 => pd_gd (pd_bo zx2) (some (zx2, zI7))) pd_FU 0 zI5))))
set_option maxRecDepth 100000 in
set_option maxHeartbeats 4000000 in
theorem em_X12_row {l : Launch} {D : va_G} {tc : Nat → ClassId} (hst : l.stackTraces = false) {I : pd_I} {J : pd_J} {Z : pd_R} {n : Nat} {p0 : Int32} {p1 : Int32} (hn : 133 ≤ n)  {out : Int32 × pd_I} (hF : fn_X12_row I p0 p1 = some out) :
    pd_M l D tc yX12_row (.code yX12_row cX12_row 5 (Option.some Jvm.ClassFile.FieldType.boolean)) rm_X12_row [.ref 92, .int p0, .int p1] I J (pd_RF Z) n (.ok (some (.int out.1))) out.2 J (pd_RF Z) n := by
  refine pd_open (own := "PathDecoderModel") (ls0 := [some (.ref 92), some (.int p0), some (.int p1), none, none]) (by decide) rfl (Nat.le_of_ble_eq_true rfl) rfl rfl hst (fun cx hl hD htc C hE htab hnm => ?_)
  subst hl hD htc
  unfold fn_X12_row at hF
  refine pd_aload_n C dX12_row_0 rfl rfl ?_
  refine pd_iconst (v := 0) C dX12_row_1 (by decide) ?_
  refine pi_12_0 C wd_5_125 rfl rfl (pd_lt (by decide) hn) sh_92 dX12_row_2 ?_
  refine pd_memI (fun zI1 hzI1 => ?_)
  have hF := pd_let_at hF hzI1
  refine pd_aload_n C dX12_row_5 rfl rfl ?_
  refine pd_iload_n C dX12_row_6 rfl rfl ?_
  refine pd_iconst (v := 1) C dX12_row_7 (by decide) ?_
  obtain ⟨zr1, zI2, zh1, hF⟩ := pd_bd2_some hF
  refine pd_callV C [.int p0, .int 1] [] (em_X12_isRow (pd_C_st C) hn  zh1) mw_X12_isRow wd_6_26 rfl (by decide) (pd_lt (by decide) hn) sh_92 ⟨by decide, by decide, by decide, by decide⟩ rfl (Nat.le_of_ble_eq_true rfl) pd_oldL_same (fun _ _ => pd_old_same _) dX12_row_8 (stk' := [.int zr1]) rfl ?_
  refine pd_jn_use hF (fun j => ∀ (zI3 : pd_I), j zI3 = some out → pd_V cx 0 0 38 [none, none, none, none, none] [] zI3 J (pd_RF Z) n) (fun zI3 hF => ?_) (fun zj1 hzj1 hF => ?_)
  · refine pd_iconst (v := 0) C dX12_row_38 (by decide) ?_
    cases hF
    exact pd_iret C hE rfl rfl (pd_bo_nar (by decide)) ⟨by decide, by decide⟩ dX12_row_39
  · refine pd_if_eq (tgt := 38) C dX12_row_11 (by decide) (fun zc7 => ?_) (fun zc7 => ?_)
    · have hF := pd_t zc7 hF
      refine pd_wk (ls' := [none, none, none, none, none]) True.intro ?_
      exact hzj1 _ hF
    · have hF := pd_f zc7 hF
      refine pd_aload_n C dX12_row_14 rfl rfl ?_
      refine pd_iload_n C dX12_row_15 rfl rfl ?_
      obtain ⟨zx1, hS, hF⟩ := pd_bd_some hF
      have hJ31 : pd_V cx 0 0 31 [some (.ref 92), some (.int p0), some (.int p1), none, none] [.int zx1, .ref 92] zI2 J (pd_RF Z) n := by
        refine pd_iconst (v := 2) C dX12_row_31 (by decide) ?_
        obtain ⟨zr2, zI4, zh2, hF⟩ := pd_bd2_some hF
        refine pd_callV C [.int zx1, .int 2] [] (em_X12_right (pd_C_st C) hn  zh2) mw_X12_right wd_6_30 rfl (by decide) (pd_lt (by decide) hn) sh_92 ⟨by decide, by decide, by decide, by decide⟩ rfl (Nat.le_of_ble_eq_true rfl) pd_oldL_same (fun _ _ => pd_old_same _) dX12_row_32 (stk' := [.int zr2]) rfl ?_
        refine pd_if_ne (tgt := 40) C dX12_row_35 (by decide) (fun zc3 => ?_) (fun zc3 => ?_)
        · have hF := pd_f zc3 hF
          refine pd_aload_n C dX12_row_40 rfl rfl ?_
          refine gr_12_1 C wd_5_126 (pd_lt (by decide) hn) sh_92 (rf_92_1 _) dX12_row_41 ?_
          refine pd_iload_n C dX12_row_44 rfl rfl ?_
          obtain ⟨zg1, hF⟩ := pd_gd_some hF
          refine pd_iald C (pd_lt (by decide) hn) sh_93 zg1 dX12_row_45 ?_
          refine pd_iconst (v := (-1)) C dX12_row_46 (by decide) ?_
          obtain ⟨zx2, hS, hF⟩ := pd_bd_some hF
          have hJ55 : pd_V cx 0 0 55 [some (.ref 92), some (.int p0), some (.int p1), none, none] [.int zx2] zI4 J (pd_RF Z) n := by
            refine pd_istore_n (ls' := [some (.ref 92), some (.int p0), some (.int p1), some (.int zx2), none]) C dX12_row_55 rfl (Nat.le_of_ble_eq_true rfl) rfl rfl ?_
            refine pd_aload_n C dX12_row_56 rfl rfl ?_
            refine gr_12_1 C wd_5_126 (pd_lt (by decide) hn) sh_92 (rf_92_1 _) dX12_row_57 ?_
            refine pd_iload_n C dX12_row_60 rfl rfl ?_
            refine pd_iload_n C dX12_row_61 rfl rfl ?_
            obtain ⟨zg2, hF⟩ := pd_gd_some hF
            refine pd_iast C (pd_lt (by decide) hn) sh_93 zg2 dX12_row_62 ?_
            refine pd_memI (fun zI5 hzI5 => ?_)
            have hF := pd_let_at hF hzI5
            refine pd_iconst (v := 0) C dX12_row_63 (by decide) ?_
            refine pd_istore (ls' := [some (.ref 92), some (.int p0), some (.int p1), some (.int zx2), some (.int 0)]) C dX12_row_64 (Nat.le_of_ble_eq_true rfl) rfl rfl ?_
            refine pd_wk (ls' := [some (.ref 92), some (.int p0), none, some (.int zx2), some (.int 0)]) (And.intro rfl (And.intro rfl (And.intro rfl (And.intro rfl True.intro)))) ?_
            refine el_X12_row_66 C hn (fun zI7 hF => ?_) pd_FU _ _ hF
            refine pd_iload_n C dX12_row_94 rfl rfl ?_
            obtain ⟨zg4, hF⟩ := pd_gd_some hF
            cases hF
            exact pd_iret C hE rfl rfl (pd_bo_nar zg4) ⟨by decide, by decide⟩ dX12_row_95
          replace hF := hS
          clear hS
          refine pd_icmp_ne (tgt := 54) C dX12_row_47 (by decide) (fun zc2 => ?_) (fun zc2 => ?_)
          · have hF := pd_f zc2 hF
            refine pd_iconst (v := 0) C dX12_row_54 (by decide) ?_
            have hF := hF.symm
            cases hF
            exact hJ55
          · have hF := pd_t zc2 hF
            refine pd_iconst (v := 1) C dX12_row_50 (by decide) ?_
            refine pd_goto (tgt := 55) C dX12_row_51 (by decide) ?_
            have hF := hF.symm
            cases hF
            exact hJ55
        · have hF := pd_t zc3 hF
          refine pd_wk (ls' := [none, none, none, none, none]) True.intro ?_
          exact hzj1 _ hF
      replace hF := hS
      clear hS
      obtain ⟨zc4, hS, hF⟩ := pd_bd_some hF
      have hTzc4 : zc4 = true → pd_V cx 0 0 26 [some (.ref 92), some (.int p0), some (.int p1), none, none] [.ref 92] zI2 J (pd_RF Z) n := by
        intro hc
        have hF := pd_t hc hF
        refine pd_iconst (v := 1) C dX12_row_26 (by decide) ?_
        refine pd_goto (tgt := 31) C dX12_row_27 (by decide) ?_
        have hF := hF.symm
        cases hF
        exact hJ31
      have hEzc4 : zc4 = false → pd_V cx 0 0 30 [some (.ref 92), some (.int p0), some (.int p1), none, none] [.ref 92] zI2 J (pd_RF Z) n := by
        intro hc
        have hF := pd_bf hc hF
        refine pd_iconst (v := 0) C dX12_row_30 (by decide) ?_
        have hF := hF.symm
        cases hF
        exact hJ31
      replace hF := hS
      clear hS
      refine pd_if_lt (tgt := 30) C dX12_row_16 (by decide) (fun zc6 => ?_) (fun zc6 => ?_)
      · have hF := pd_t zc6 hF
        cases hF
        exact hEzc4 rfl
      · have hF := pd_f zc6 hF
        refine pd_iload_n C dX12_row_19 rfl rfl ?_
        refine pd_sipush (v := 600) C dX12_row_20 (by decide) ?_
        refine pd_icmp_gt (tgt := 30) C dX12_row_23 (by decide) (fun zc5 => ?_) (fun zc5 => ?_)
        · have hF := pd_t zc5 hF
          cases hF
          exact hEzc4 rfl
        · have hF := pd_f zc5 hF
          cases hF
          exact hTzc4 rfl

def fn_X12_isMark (p0 : Int32) : Option Int32 := pd_bd (pd_bd (if p0 < (-32) then some false else (if 31 < p0 then some false else (some true))) fun zc1 => if zc1 = true then some 1 else (some 0)) fun (zx1 : Int32) => pd_gd (pd_bo zx1) (some zx1)
set_option maxRecDepth 100000 in
set_option maxHeartbeats 4000000 in
theorem em_X12_isMark {l : Launch} {D : va_G} {tc : Nat → ClassId} (hst : l.stackTraces = false) {I : pd_I} {J : pd_J} {Z : pd_R} {n : Nat} {p0 : Int32} (hn : 133 ≤ n)  {out : Int32} (hF : fn_X12_isMark p0 = some out) :
    pd_M l D tc yX12_isMark (.code yX12_isMark cX12_isMark 1 (Option.some Jvm.ClassFile.FieldType.boolean)) rm_X12_isMark [.int p0] I J (pd_RF Z) n (.ok (some (.int out))) I J (pd_RF Z) n := by
  refine pd_open (own := "PathDecoderModel") (ls0 := [some (.int p0)]) (by decide) rfl (Nat.le_of_ble_eq_true rfl) rfl rfl hst (fun cx hl hD htc C hE htab hnm => ?_)
  subst hl hD htc
  unfold fn_X12_isMark at hF
  refine pd_iload_n C dX12_isMark_0 rfl rfl ?_
  refine pd_bipush (v := (-32)) C dX12_isMark_1 (by decide) ?_
  obtain ⟨zx1, hS, hF⟩ := pd_bd_some hF
  have hJ17 : pd_V cx 0 0 17 [none] [.int zx1] I J (pd_RF Z) n := by
    obtain ⟨zg1, hF⟩ := pd_gd_some hF
    cases hF
    exact pd_iret C hE rfl rfl (pd_bo_nar zg1) ⟨by decide, by decide⟩ dX12_isMark_17
  replace hF := hS
  clear hS
  obtain ⟨zc1, hS, hF⟩ := pd_bd_some hF
  have hTzc1 : zc1 = true → pd_V cx 0 0 12 [some (.int p0)] [] I J (pd_RF Z) n := by
    intro hc
    have hF := pd_t hc hF
    refine pd_iconst (v := 1) C dX12_isMark_12 (by decide) ?_
    refine pd_goto (tgt := 17) C dX12_isMark_13 (by decide) ?_
    refine pd_wk (ls' := [none]) True.intro ?_
    have hF := hF.symm
    cases hF
    exact hJ17
  have hEzc1 : zc1 = false → pd_V cx 0 0 16 [some (.int p0)] [] I J (pd_RF Z) n := by
    intro hc
    have hF := pd_bf hc hF
    refine pd_iconst (v := 0) C dX12_isMark_16 (by decide) ?_
    refine pd_wk (ls' := [none]) True.intro ?_
    have hF := hF.symm
    cases hF
    exact hJ17
  replace hF := hS
  clear hS
  refine pd_icmp_lt (tgt := 16) C dX12_isMark_3 (by decide) (fun zc3 => ?_) (fun zc3 => ?_)
  · have hF := pd_t zc3 hF
    cases hF
    exact hEzc1 rfl
  · have hF := pd_f zc3 hF
    refine pd_iload_n C dX12_isMark_6 rfl rfl ?_
    refine pd_bipush (v := 31) C dX12_isMark_7 (by decide) ?_
    refine pd_icmp_gt (tgt := 16) C dX12_isMark_9 (by decide) (fun zc2 => ?_) (fun zc2 => ?_)
    · have hF := pd_t zc2 hF
      cases hF
      exact hEzc1 rfl
    · have hF := pd_f zc2 hF
      cases hF
      exact hTzc1 rfl

def fn_X12_put (I : pd_I) (p0 : Int32) (p1 : Int32) (p2 : Int32) : Option (Int32 × pd_I) := pd_let (pd_ui I 92 0 0) fun zI1 => pd_bd (fn_X12_isMark p2) fun zr1 => pd_bd2 (fn_X12_right zI1 zr1 1) fun zr2 zI2 => pd_jn (fun (zI3 : pd_I) => some (0, zI3)) fun zj1 => if zr2 = 0 then zj1 zI2 else (pd_bd2 (fn_X12_isRow zI2 p0 2) fun zr3 zI4 => if zr3 = 0 then zj1 zI4 else (pd_gd (pd_in p0 16) (pd_bd (if (zI4 93 p0.toNatClampNeg) = (-1) then some 0 else (some 1)) fun (zx1 : Int32) => pd_bd2 (fn_X12_right zI4 zx1 3) fun zr4 zI5 => if zr4 = 0 then zj1 zI5 else (pd_bd (pd_bd (if p1 < 0 then some false else (pd_gd (pd_in p0 16) (if (zI5 93 p0.toNatClampNeg) ≤ p1 then some false else (some true)))) fun zc2 => if zc2 = true then some 1 else (some 0)) fun (zx2 : Int32) => pd_bd2 (fn_X12_right zI5 zx2 2) fun zr5 zI6 => if zr5 = 0 then zj1 zI6 else (pd_gd (pd_in ((600 * p0) + p1) 9600) (pd_let (zI6 94 ((600 * p0) + p1).toNatClampNeg) fun zv1 => pd_gd (pd_in ((600 * p0) + p1) 9600) (pd_let (pd_ui zI6 94 ((600 * p0) + p1).toNatClampNeg p2) fun zI7 => some (zv1, zI7))))))))
set_option maxRecDepth 100000 in
set_option maxHeartbeats 4000000 in
theorem em_X12_put {l : Launch} {D : va_G} {tc : Nat → ClassId} (hst : l.stackTraces = false) {I : pd_I} {J : pd_J} {Z : pd_R} {n : Nat} {p0 : Int32} {p1 : Int32} {p2 : Int32} (hn : 133 ≤ n)  {out : Int32 × pd_I} (hF : fn_X12_put I p0 p1 p2 = some out) :
    pd_M l D tc yX12_put (.code yX12_put cX12_put 5 (Option.some Jvm.ClassFile.FieldType.int)) rm_X12_put [.ref 92, .int p0, .int p1, .int p2] I J (pd_RF Z) n (.ok (some (.int out.1))) out.2 J (pd_RF Z) n := by
  refine pd_open (own := "PathDecoderModel") (ls0 := [some (.ref 92), some (.int p0), some (.int p1), some (.int p2), none]) (by decide) rfl (Nat.le_of_ble_eq_true rfl) rfl rfl hst (fun cx hl hD htc C hE htab hnm => ?_)
  subst hl hD htc
  unfold fn_X12_put at hF
  refine pd_aload_n C dX12_put_0 rfl rfl ?_
  refine pd_iconst (v := 0) C dX12_put_1 (by decide) ?_
  refine pi_12_0 C wd_5_125 rfl rfl (pd_lt (by decide) hn) sh_92 dX12_put_2 ?_
  refine pd_memI (fun zI1 hzI1 => ?_)
  have hF := pd_let_at hF hzI1
  refine pd_aload_n C dX12_put_5 rfl rfl ?_
  refine pd_iload_n C dX12_put_6 rfl rfl ?_
  obtain ⟨zr1, zh1, hF⟩ := pd_bd_some hF
  refine pd_callS C [.int p2] [.ref 92] (em_X12_isMark (pd_C_st C) hn  zh1) mw_X12_isMark wd_6_38 ⟨by decide, by decide, by decide, by decide⟩ rfl (Nat.le_of_ble_eq_true rfl) pd_oldL_same (fun _ _ => pd_old_same _) dX12_put_7 (stk' := [.int zr1, .ref 92]) rfl ?_
  refine pd_iconst (v := 1) C dX12_put_10 (by decide) ?_
  obtain ⟨zr2, zI2, zh2, hF⟩ := pd_bd2_some hF
  refine pd_callV C [.int zr1, .int 1] [] (em_X12_right (pd_C_st C) hn  zh2) mw_X12_right wd_6_30 rfl (by decide) (pd_lt (by decide) hn) sh_92 ⟨by decide, by decide, by decide, by decide⟩ rfl (Nat.le_of_ble_eq_true rfl) pd_oldL_same (fun _ _ => pd_old_same _) dX12_put_11 (stk' := [.int zr2]) rfl ?_
  refine pd_jn_use hF (fun j => ∀ (zI3 : pd_I), j zI3 = some out → pd_V cx 0 0 76 [none, none, none, none, none] [] zI3 J (pd_RF Z) n) (fun zI3 hF => ?_) (fun zj1 hzj1 hF => ?_)
  · refine pd_iconst (v := 0) C dX12_put_76 (by decide) ?_
    cases hF
    exact pd_iret C hE rfl rfl rfl ⟨by decide, by decide⟩ dX12_put_77
  · refine pd_if_eq (tgt := 76) C dX12_put_14 (by decide) (fun zc8 => ?_) (fun zc8 => ?_)
    · have hF := pd_t zc8 hF
      refine pd_wk (ls' := [none, none, none, none, none]) True.intro ?_
      exact hzj1 _ hF
    · have hF := pd_f zc8 hF
      refine pd_aload_n C dX12_put_17 rfl rfl ?_
      refine pd_iload_n C dX12_put_18 rfl rfl ?_
      refine pd_iconst (v := 2) C dX12_put_19 (by decide) ?_
      obtain ⟨zr3, zI4, zh3, hF⟩ := pd_bd2_some hF
      refine pd_callV C [.int p0, .int 2] [] (em_X12_isRow (pd_C_st C) hn  zh3) mw_X12_isRow wd_6_26 rfl (by decide) (pd_lt (by decide) hn) sh_92 ⟨by decide, by decide, by decide, by decide⟩ rfl (Nat.le_of_ble_eq_true rfl) pd_oldL_same (fun _ _ => pd_old_same _) dX12_put_20 (stk' := [.int zr3]) rfl ?_
      refine pd_if_eq (tgt := 76) C dX12_put_23 (by decide) (fun zc7 => ?_) (fun zc7 => ?_)
      · have hF := pd_t zc7 hF
        refine pd_wk (ls' := [none, none, none, none, none]) True.intro ?_
        exact hzj1 _ hF
      · have hF := pd_f zc7 hF
        refine pd_aload_n C dX12_put_26 rfl rfl ?_
        refine pd_aload_n C dX12_put_27 rfl rfl ?_
        refine gr_12_1 C wd_5_126 (pd_lt (by decide) hn) sh_92 (rf_92_1 _) dX12_put_28 ?_
        refine pd_iload_n C dX12_put_31 rfl rfl ?_
        obtain ⟨zg1, hF⟩ := pd_gd_some hF
        refine pd_iald C (pd_lt (by decide) hn) sh_93 zg1 dX12_put_32 ?_
        refine pd_iconst (v := (-1)) C dX12_put_33 (by decide) ?_
        obtain ⟨zx1, hS, hF⟩ := pd_bd_some hF
        have hJ42 : pd_V cx 0 0 42 [some (.ref 92), some (.int p0), some (.int p1), some (.int p2), none] [.int zx1, .ref 92] zI4 J (pd_RF Z) n := by
          refine pd_iconst (v := 3) C dX12_put_42 (by decide) ?_
          obtain ⟨zr4, zI5, zh4, hF⟩ := pd_bd2_some hF
          refine pd_callV C [.int zx1, .int 3] [] (em_X12_right (pd_C_st C) hn  zh4) mw_X12_right wd_6_30 rfl (by decide) (pd_lt (by decide) hn) sh_92 ⟨by decide, by decide, by decide, by decide⟩ rfl (Nat.le_of_ble_eq_true rfl) pd_oldL_same (fun _ _ => pd_old_same _) dX12_put_43 (stk' := [.int zr4]) rfl ?_
          refine pd_if_eq (tgt := 76) C dX12_put_46 (by decide) (fun zc5 => ?_) (fun zc5 => ?_)
          · have hF := pd_t zc5 hF
            refine pd_wk (ls' := [none, none, none, none, none]) True.intro ?_
            exact hzj1 _ hF
          · have hF := pd_f zc5 hF
            refine pd_aload_n C dX12_put_49 rfl rfl ?_
            refine pd_iload_n C dX12_put_50 rfl rfl ?_
            obtain ⟨zx2, hS, hF⟩ := pd_bd_some hF
            have hJ69 : pd_V cx 0 0 69 [some (.ref 92), some (.int p0), some (.int p1), some (.int p2), none] [.int zx2, .ref 92] zI5 J (pd_RF Z) n := by
              refine pd_iconst (v := 2) C dX12_put_69 (by decide) ?_
              obtain ⟨zr5, zI6, zh5, hF⟩ := pd_bd2_some hF
              refine pd_callV C [.int zx2, .int 2] [] (em_X12_right (pd_C_st C) hn  zh5) mw_X12_right wd_6_30 rfl (by decide) (pd_lt (by decide) hn) sh_92 ⟨by decide, by decide, by decide, by decide⟩ rfl (Nat.le_of_ble_eq_true rfl) pd_oldL_same (fun _ _ => pd_old_same _) dX12_put_70 (stk' := [.int zr5]) rfl ?_
              refine pd_if_ne (tgt := 78) C dX12_put_73 (by decide) (fun zc1 => ?_) (fun zc1 => ?_)
              · have hF := pd_f zc1 hF
                refine pd_aload_n C dX12_put_78 rfl rfl ?_
                refine gr_12_2 C wd_5_127 (pd_lt (by decide) hn) sh_92 (rf_92_2 _) dX12_put_79 ?_
                refine pd_sipush (v := 600) C dX12_put_82 (by decide) ?_
                refine pd_iload_n C dX12_put_85 rfl rfl ?_
                refine pd_imul C dX12_put_86 ?_
                refine pd_iload_n C dX12_put_87 rfl rfl ?_
                refine pd_iadd C dX12_put_88 ?_
                obtain ⟨zg2, hF⟩ := pd_gd_some hF
                refine pd_iald C (pd_lt (by decide) hn) sh_94 zg2 dX12_put_89 ?_
                refine pd_topi (fun zv1 hzv1 => ?_)
                have hF := pd_let_at hF hzv1
                refine pd_istore (ls' := [some (.ref 92), some (.int p0), some (.int p1), some (.int p2), some (.int zv1)]) C dX12_put_90 (Nat.le_of_ble_eq_true rfl) rfl rfl ?_
                refine pd_aload_n C dX12_put_92 rfl rfl ?_
                refine gr_12_2 C wd_5_127 (pd_lt (by decide) hn) sh_92 (rf_92_2 _) dX12_put_93 ?_
                refine pd_sipush (v := 600) C dX12_put_96 (by decide) ?_
                refine pd_iload_n C dX12_put_99 rfl rfl ?_
                refine pd_imul C dX12_put_100 ?_
                refine pd_iload_n C dX12_put_101 rfl rfl ?_
                refine pd_iadd C dX12_put_102 ?_
                refine pd_iload_n C dX12_put_103 rfl rfl ?_
                obtain ⟨zg3, hF⟩ := pd_gd_some hF
                refine pd_iast C (pd_lt (by decide) hn) sh_94 zg3 dX12_put_104 ?_
                refine pd_memI (fun zI7 hzI7 => ?_)
                have hF := pd_let_at hF hzI7
                refine pd_iload C dX12_put_105 rfl ?_
                cases hF
                exact pd_iret C hE rfl rfl rfl ⟨by decide, by decide⟩ dX12_put_107
              · have hF := pd_t zc1 hF
                refine pd_wk (ls' := [none, none, none, none, none]) True.intro ?_
                exact hzj1 _ hF
            replace hF := hS
            clear hS
            obtain ⟨zc2, hS, hF⟩ := pd_bd_some hF
            have hTzc2 : zc2 = true → pd_V cx 0 0 64 [some (.ref 92), some (.int p0), some (.int p1), some (.int p2), none] [.ref 92] zI5 J (pd_RF Z) n := by
              intro hc
              have hF := pd_t hc hF
              refine pd_iconst (v := 1) C dX12_put_64 (by decide) ?_
              refine pd_goto (tgt := 69) C dX12_put_65 (by decide) ?_
              have hF := hF.symm
              cases hF
              exact hJ69
            have hEzc2 : zc2 = false → pd_V cx 0 0 68 [some (.ref 92), some (.int p0), some (.int p1), some (.int p2), none] [.ref 92] zI5 J (pd_RF Z) n := by
              intro hc
              have hF := pd_bf hc hF
              refine pd_iconst (v := 0) C dX12_put_68 (by decide) ?_
              have hF := hF.symm
              cases hF
              exact hJ69
            replace hF := hS
            clear hS
            refine pd_if_lt (tgt := 68) C dX12_put_51 (by decide) (fun zc4 => ?_) (fun zc4 => ?_)
            · have hF := pd_t zc4 hF
              cases hF
              exact hEzc2 rfl
            · have hF := pd_f zc4 hF
              refine pd_iload_n C dX12_put_54 rfl rfl ?_
              refine pd_aload_n C dX12_put_55 rfl rfl ?_
              refine gr_12_1 C wd_5_126 (pd_lt (by decide) hn) sh_92 (rf_92_1 _) dX12_put_56 ?_
              refine pd_iload_n C dX12_put_59 rfl rfl ?_
              obtain ⟨zg4, hF⟩ := pd_gd_some hF
              refine pd_iald C (pd_lt (by decide) hn) sh_93 zg4 dX12_put_60 ?_
              refine pd_icmp_ge (tgt := 68) C dX12_put_61 (by decide) (fun zc3 => ?_) (fun zc3 => ?_)
              · have hF := pd_t zc3 hF
                cases hF
                exact hEzc2 rfl
              · have hF := pd_f zc3 hF
                cases hF
                exact hTzc2 rfl
        replace hF := hS
        clear hS
        refine pd_icmp_eq (tgt := 41) C dX12_put_34 (by decide) (fun zc6 => ?_) (fun zc6 => ?_)
        · have hF := pd_t zc6 hF
          refine pd_iconst (v := 0) C dX12_put_41 (by decide) ?_
          have hF := hF.symm
          cases hF
          exact hJ42
        · have hF := pd_f zc6 hF
          refine pd_iconst (v := 1) C dX12_put_37 (by decide) ?_
          refine pd_goto (tgt := 42) C dX12_put_38 (by decide) ?_
          have hF := hF.symm
          cases hF
          exact hJ42

def fl_X12_five_45 {O : Type} (p0 : Int32) (p1 : Int32) (p2 : Int32) (p3 : Int32) (kont : Int32 → pd_I → Option O) : Nat → Int32 → Int32 → pd_I → Option O
  | 0, _, _, _ => none
  | fu + 1, zx2, zx3, zI5 => if 5 ≤ zx3 then kont zx2 zI5 else (pd_let (p1.toInt64 + zx3.toInt64) fun zw1 => pd_bd2 (if (lg_cmp zw1 0) < 0 then some (zx2, zI5) else (pd_gd (pd_in p0 16) (if (lg_cmp zw1 ((zI5 93 p0.toNatClampNeg).toInt64)) < 0 then pd_bd (if zx3 = 4 then some p3 else (some (p2 >>> ((24 - (8 * zx3)) &&& 31)))) fun (zx6 : Int32) => pd_let zx6.toInt8.toInt32 fun zv2 => pd_bd (if (-32) ≤ zv2 then if zv2 ≤ 31 then some zv2 else (some 31) else (some (-32))) fun (zx7 : Int32) => pd_gd (pd_in ((600 * p0) + zw1.toInt32) 9600) (pd_let (pd_ui zI5 94 ((600 * p0) + zw1.toInt32).toNatClampNeg zx7) fun zI8 => pd_let (zx2 + 1) fun zv3 => some (zv3, zI8)) else (some (zx2, zI5))))) fun (zx5 : Int32) (zI7 : pd_I) => pd_let (zx3 + 1) fun zv1 => fl_X12_five_45 p0 p1 p2 p3 kont fu zx5 zv1 zI7)
set_option maxRecDepth 100000 in
set_option maxHeartbeats 4000000 in
theorem el_X12_five_45 {cx : pd_X} (C : pd_C cx "PathDecoderModel" cX12_five rm_X12_five) {p0 : Int32} {p1 : Int32} {p2 : Int32} {p3 : Int32} {J : pd_J} {Z : pd_R} {n : Nat} (hn : 133 ≤ n)  {O : Type} {kont : Int32 → pd_I → Option O} {out : O} (K : ∀ (zx4 : Int32) (zI6 : pd_I), kont zx4 zI6 = some out → pd_V cx 0 0 155 [none, none, none, none, none, some (.int zx4), none, none, none, none] [] zI6 J (pd_RF Z) n) :
    ∀ (fu : Nat) (zx2 : Int32) (zx3 : Int32) (zI5 : pd_I), fl_X12_five_45 p0 p1 p2 p3 kont fu zx2 zx3 zI5 = some out → pd_V cx 0 0 45 [some (.ref 92), some (.int p0), some (.int p1), some (.int p2), some (.int p3), some (.int zx2), some (.int zx3), none, none, none] [] zI5 J (pd_RF Z) n := by
  intro fu
  induction fu with
  | zero => intro zx2 zx3 zI5 hF; rw [fl_X12_five_45] at hF; cases hF
  | succ fu ih =>
    intro zx2 zx3 zI5 hF
    rw [fl_X12_five_45] at hF
    refine pd_iload C dX12_five_45 rfl ?_
    refine pd_iconst (v := 5) C dX12_five_47 (by decide) ?_
    refine pd_icmp_ge (tgt := 155) C dX12_five_48 (by decide) (fun zc6 => ?_) (fun zc6 => ?_)
    · have hF := pd_t zc6 hF
      refine pd_wk (ls' := [none, none, none, none, none, some (.int zx2), none, none, none, none]) (And.intro rfl True.intro) ?_
      exact K _ _ hF
    · have hF := pd_f zc6 hF
      refine pd_iload_n C dX12_five_51 rfl rfl ?_
      refine pd_i2l C dX12_five_52 ?_
      refine pd_iload C dX12_five_53 rfl ?_
      refine pd_i2l C dX12_five_55 ?_
      refine pd_ladd C dX12_five_56 ?_
      refine pd_topl (fun zw1 hzw1 => ?_)
      have hF := pd_let_at hF hzw1
      refine pd_lstore (ls' := [some (.ref 92), some (.int p0), some (.int p1), some (.int p2), some (.int p3), some (.int zx2), some (.int zx3), some (.long zw1), none, none]) C dX12_five_57 (Nat.le_of_ble_eq_true rfl) rfl rfl ?_
      refine pd_lload C dX12_five_59 rfl ?_
      refine pd_lconst (v := 0) C dX12_five_61 (by decide) ?_
      refine pd_lcmp C dX12_five_62 ?_
      obtain ⟨zx5, zI7, hS, hF⟩ := pd_bd2_some hF
      have hJ149 : pd_V cx 0 0 149 [some (.ref 92), some (.int p0), some (.int p1), some (.int p2), some (.int p3), some (.int zx5), some (.int zx3), none, none, none] [] zI7 J (pd_RF Z) n := by
        refine pd_iincG (zz := 1) C dX12_five_149 rfl (by decide) rfl (fun zv1 hzv1 => ?_)
        have hF := pd_let_at hF hzv1
        refine pd_lsE (ls' := [some (.ref 92), some (.int p0), some (.int p1), some (.int p2), some (.int p3), some (.int zx5), some (.int zv1), none, none, none]) rfl ?_
        refine pd_goto (tgt := 45) C dX12_five_152 (by decide) ?_
        exact ih _ _ _ hF
      replace hF := hS
      clear hS
      refine pd_if_lt (tgt := 149) C dX12_five_63 (by decide) (fun zc5 => ?_) (fun zc5 => ?_)
      · have hF := pd_t zc5 hF
        refine pd_wk (ls' := [some (.ref 92), some (.int p0), some (.int p1), some (.int p2), some (.int p3), some (.int zx2), some (.int zx3), none, none, none]) (And.intro rfl (And.intro rfl (And.intro rfl (And.intro rfl (And.intro rfl (And.intro rfl (And.intro rfl True.intro))))))) ?_
        have hF := hF.symm
        cases hF
        exact hJ149
      · have hF := pd_f zc5 hF
        refine pd_lload C dX12_five_66 rfl ?_
        refine pd_aload_n C dX12_five_68 rfl rfl ?_
        refine gr_12_1 C wd_5_126 (pd_lt (by decide) hn) sh_92 (rf_92_1 _) dX12_five_69 ?_
        refine pd_iload_n C dX12_five_72 rfl rfl ?_
        obtain ⟨zg2, hF⟩ := pd_gd_some hF
        refine pd_iald C (pd_lt (by decide) hn) sh_93 zg2 dX12_five_73 ?_
        refine pd_i2l C dX12_five_74 ?_
        refine pd_lcmp C dX12_five_75 ?_
        refine pd_if_lt (tgt := 82) C dX12_five_76 (by decide) (fun zc4 => ?_) (fun zc4 => ?_)
        · have hF := pd_t zc4 hF
          refine pd_iload C dX12_five_82 rfl ?_
          refine pd_iconst (v := 4) C dX12_five_84 (by decide) ?_
          obtain ⟨zx6, hS, hF⟩ := pd_bd_some hF
          have hJ103 : pd_V cx 0 0 103 [some (.ref 92), some (.int p0), some (.int p1), some (.int p2), some (.int p3), some (.int zx2), some (.int zx3), some (.long zw1), none, none] [.int zx6] zI5 J (pd_RF Z) n := by
            refine pd_i2b C dX12_five_103 ?_
            refine pd_topi (fun zv2 hzv2 => ?_)
            have hF := pd_let_at hF hzv2
            refine pd_istore (ls' := [some (.ref 92), some (.int p0), some (.int p1), some (.int p2), some (.int p3), some (.int zx2), some (.int zx3), some (.long zw1), none, some (.int zv2)]) C dX12_five_104 (Nat.le_of_ble_eq_true rfl) rfl rfl ?_
            refine pd_aload_n C dX12_five_106 rfl rfl ?_
            refine gr_12_2 C wd_5_127 (pd_lt (by decide) hn) sh_92 (rf_92_2 _) dX12_five_107 ?_
            refine pd_sipush (v := 600) C dX12_five_110 (by decide) ?_
            refine pd_iload_n C dX12_five_113 rfl rfl ?_
            refine pd_imul C dX12_five_114 ?_
            refine pd_lload C dX12_five_115 rfl ?_
            refine pd_l2i C dX12_five_117 ?_
            refine pd_iadd C dX12_five_118 ?_
            refine pd_iload C dX12_five_119 rfl ?_
            refine pd_bipush (v := (-32)) C dX12_five_121 (by decide) ?_
            obtain ⟨zx7, hS, hF⟩ := pd_bd_some hF
            have hJ145 : pd_V cx 0 0 145 [some (.ref 92), some (.int p0), some (.int p1), some (.int p2), some (.int p3), some (.int zx2), some (.int zx3), none, none, none] [.int zx7, .int ((600 * p0) + zw1.toInt32), .ref 94] zI5 J (pd_RF Z) n := by
              obtain ⟨zg3, hF⟩ := pd_gd_some hF
              refine pd_iast C (pd_lt (by decide) hn) sh_94 zg3 dX12_five_145 ?_
              refine pd_memI (fun zI8 hzI8 => ?_)
              have hF := pd_let_at hF hzI8
              refine pd_iincG (zz := 1) C dX12_five_146 rfl (by decide) rfl (fun zv3 hzv3 => ?_)
              have hF := pd_let_at hF hzv3
              refine pd_lsE (ls' := [some (.ref 92), some (.int p0), some (.int p1), some (.int p2), some (.int p3), some (.int zv3), some (.int zx3), none, none, none]) rfl ?_
              have hF := hF.symm
              cases hF
              exact hJ149
            replace hF := hS
            clear hS
            refine pd_icmp_ge (tgt := 131) C dX12_five_123 (by decide) (fun zc2 => ?_) (fun zc2 => ?_)
            · have hF := pd_t zc2 hF
              refine pd_iload C dX12_five_131 rfl ?_
              refine pd_bipush (v := 31) C dX12_five_133 (by decide) ?_
              refine pd_icmp_le (tgt := 143) C dX12_five_135 (by decide) (fun zc1 => ?_) (fun zc1 => ?_)
              · have hF := pd_t zc1 hF
                refine pd_iload C dX12_five_143 rfl ?_
                refine pd_wk (ls' := [some (.ref 92), some (.int p0), some (.int p1), some (.int p2), some (.int p3), some (.int zx2), some (.int zx3), none, none, none]) (And.intro rfl (And.intro rfl (And.intro rfl (And.intro rfl (And.intro rfl (And.intro rfl (And.intro rfl True.intro))))))) ?_
                have hF := hF.symm
                cases hF
                exact hJ145
              · have hF := pd_f zc1 hF
                refine pd_bipush (v := 31) C dX12_five_138 (by decide) ?_
                refine pd_goto (tgt := 145) C dX12_five_140 (by decide) ?_
                refine pd_wk (ls' := [some (.ref 92), some (.int p0), some (.int p1), some (.int p2), some (.int p3), some (.int zx2), some (.int zx3), none, none, none]) (And.intro rfl (And.intro rfl (And.intro rfl (And.intro rfl (And.intro rfl (And.intro rfl (And.intro rfl True.intro))))))) ?_
                have hF := hF.symm
                cases hF
                exact hJ145
            · have hF := pd_f zc2 hF
              refine pd_bipush (v := (-32)) C dX12_five_126 (by decide) ?_
              refine pd_goto (tgt := 145) C dX12_five_128 (by decide) ?_
              refine pd_wk (ls' := [some (.ref 92), some (.int p0), some (.int p1), some (.int p2), some (.int p3), some (.int zx2), some (.int zx3), none, none, none]) (And.intro rfl (And.intro rfl (And.intro rfl (And.intro rfl (And.intro rfl (And.intro rfl (And.intro rfl True.intro))))))) ?_
              have hF := hF.symm
              cases hF
              exact hJ145
          replace hF := hS
          clear hS
          refine pd_icmp_ne (tgt := 93) C dX12_five_85 (by decide) (fun zc3 => ?_) (fun zc3 => ?_)
          · have hF := pd_f zc3 hF
            refine pd_iload_n C dX12_five_93 rfl rfl ?_
            refine pd_bipush (v := 24) C dX12_five_94 (by decide) ?_
            refine pd_bipush (v := 8) C dX12_five_96 (by decide) ?_
            refine pd_iload C dX12_five_98 rfl ?_
            refine pd_imul C dX12_five_100 ?_
            refine pd_isub C dX12_five_101 ?_
            refine pd_ishr C dX12_five_102 ?_
            have hF := hF.symm
            cases hF
            exact hJ103
          · have hF := pd_t zc3 hF
            refine pd_iload C dX12_five_88 rfl ?_
            refine pd_goto (tgt := 103) C dX12_five_90 (by decide) ?_
            have hF := hF.symm
            cases hF
            exact hJ103
        · have hF := pd_f zc4 hF
          refine pd_goto (tgt := 149) C dX12_five_79 (by decide) ?_
          refine pd_wk (ls' := [some (.ref 92), some (.int p0), some (.int p1), some (.int p2), some (.int p3), some (.int zx2), some (.int zx3), none, none, none]) (And.intro rfl (And.intro rfl (And.intro rfl (And.intro rfl (And.intro rfl (And.intro rfl (And.intro rfl True.intro))))))) ?_
          have hF := hF.symm
          cases hF
          exact hJ149
def fn_X12_five (I : pd_I) (p0 : Int32) (p1 : Int32) (p2 : Int32) (p3 : Int32) : Option (Int32 × pd_I) := pd_let (pd_ui I 92 0 0) fun zI1 => pd_bd2 (fn_X12_isRow zI1 p0 1) fun zr1 zI2 => pd_jn (fun (zI3 : pd_I) => some (0, zI3)) fun zj1 => if zr1 = 0 then zj1 zI2 else (pd_gd (pd_in p0 16) (pd_bd (if (zI2 93 p0.toNatClampNeg) = (-1) then some 0 else (some 1)) fun (zx1 : Int32) => pd_bd2 (fn_X12_right zI2 zx1 2) fun zr2 zI4 => if zr2 = 0 then zj1 zI4 else (fl_X12_five_45 p0 p1 p2 p3 (fun zx4 zI6 => some (zx4, zI6)) pd_FU 0 0 zI4)))
set_option maxRecDepth 100000 in
set_option maxHeartbeats 4000000 in
theorem em_X12_five {l : Launch} {D : va_G} {tc : Nat → ClassId} (hst : l.stackTraces = false) {I : pd_I} {J : pd_J} {Z : pd_R} {n : Nat} {p0 : Int32} {p1 : Int32} {p2 : Int32} {p3 : Int32} (hn : 133 ≤ n)  {out : Int32 × pd_I} (hF : fn_X12_five I p0 p1 p2 p3 = some out) :
    pd_M l D tc yX12_five (.code yX12_five cX12_five 10 (Option.some Jvm.ClassFile.FieldType.int)) rm_X12_five [.ref 92, .int p0, .int p1, .int p2, .int p3] I J (pd_RF Z) n (.ok (some (.int out.1))) out.2 J (pd_RF Z) n := by
  refine pd_open (own := "PathDecoderModel") (ls0 := [some (.ref 92), some (.int p0), some (.int p1), some (.int p2), some (.int p3), none, none, none, none, none]) (by decide) rfl (Nat.le_of_ble_eq_true rfl) rfl rfl hst (fun cx hl hD htc C hE htab hnm => ?_)
  subst hl hD htc
  unfold fn_X12_five at hF
  refine pd_aload_n C dX12_five_0 rfl rfl ?_
  refine pd_iconst (v := 0) C dX12_five_1 (by decide) ?_
  refine pi_12_0 C wd_5_125 rfl rfl (pd_lt (by decide) hn) sh_92 dX12_five_2 ?_
  refine pd_memI (fun zI1 hzI1 => ?_)
  have hF := pd_let_at hF hzI1
  refine pd_aload_n C dX12_five_5 rfl rfl ?_
  refine pd_iload_n C dX12_five_6 rfl rfl ?_
  refine pd_iconst (v := 1) C dX12_five_7 (by decide) ?_
  obtain ⟨zr1, zI2, zh1, hF⟩ := pd_bd2_some hF
  refine pd_callV C [.int p0, .int 1] [] (em_X12_isRow (pd_C_st C) hn  zh1) mw_X12_isRow wd_6_26 rfl (by decide) (pd_lt (by decide) hn) sh_92 ⟨by decide, by decide, by decide, by decide⟩ rfl (Nat.le_of_ble_eq_true rfl) pd_oldL_same (fun _ _ => pd_old_same _) dX12_five_8 (stk' := [.int zr1]) rfl ?_
  refine pd_jn_use hF (fun j => ∀ (zI3 : pd_I), j zI3 = some out → pd_V cx 0 0 37 [none, none, none, none, none, none, none, none, none, none] [] zI3 J (pd_RF Z) n) (fun zI3 hF => ?_) (fun zj1 hzj1 hF => ?_)
  · refine pd_iconst (v := 0) C dX12_five_37 (by decide) ?_
    cases hF
    exact pd_iret C hE rfl rfl rfl ⟨by decide, by decide⟩ dX12_five_38
  · refine pd_if_eq (tgt := 37) C dX12_five_11 (by decide) (fun zc9 => ?_) (fun zc9 => ?_)
    · have hF := pd_t zc9 hF
      refine pd_wk (ls' := [none, none, none, none, none, none, none, none, none, none]) True.intro ?_
      exact hzj1 _ hF
    · have hF := pd_f zc9 hF
      refine pd_aload_n C dX12_five_14 rfl rfl ?_
      refine pd_aload_n C dX12_five_15 rfl rfl ?_
      refine gr_12_1 C wd_5_126 (pd_lt (by decide) hn) sh_92 (rf_92_1 _) dX12_five_16 ?_
      refine pd_iload_n C dX12_five_19 rfl rfl ?_
      obtain ⟨zg1, hF⟩ := pd_gd_some hF
      refine pd_iald C (pd_lt (by decide) hn) sh_93 zg1 dX12_five_20 ?_
      refine pd_iconst (v := (-1)) C dX12_five_21 (by decide) ?_
      obtain ⟨zx1, hS, hF⟩ := pd_bd_some hF
      have hJ30 : pd_V cx 0 0 30 [some (.ref 92), some (.int p0), some (.int p1), some (.int p2), some (.int p3), none, none, none, none, none] [.int zx1, .ref 92] zI2 J (pd_RF Z) n := by
        refine pd_iconst (v := 2) C dX12_five_30 (by decide) ?_
        obtain ⟨zr2, zI4, zh2, hF⟩ := pd_bd2_some hF
        refine pd_callV C [.int zx1, .int 2] [] (em_X12_right (pd_C_st C) hn  zh2) mw_X12_right wd_6_30 rfl (by decide) (pd_lt (by decide) hn) sh_92 ⟨by decide, by decide, by decide, by decide⟩ rfl (Nat.le_of_ble_eq_true rfl) pd_oldL_same (fun _ _ => pd_old_same _) dX12_five_31 (stk' := [.int zr2]) rfl ?_
        refine pd_if_ne (tgt := 39) C dX12_five_34 (by decide) (fun zc7 => ?_) (fun zc7 => ?_)
        · have hF := pd_f zc7 hF
          refine pd_iconst (v := 0) C dX12_five_39 (by decide) ?_
          refine pd_istore (ls' := [some (.ref 92), some (.int p0), some (.int p1), some (.int p2), some (.int p3), some (.int 0), none, none, none, none]) C dX12_five_40 (Nat.le_of_ble_eq_true rfl) rfl rfl ?_
          refine pd_iconst (v := 0) C dX12_five_42 (by decide) ?_
          refine pd_istore (ls' := [some (.ref 92), some (.int p0), some (.int p1), some (.int p2), some (.int p3), some (.int 0), some (.int 0), none, none, none]) C dX12_five_43 (Nat.le_of_ble_eq_true rfl) rfl rfl ?_
          refine el_X12_five_45 C hn (fun zx4 zI6 hF => ?_) pd_FU _ _ _ hF
          refine pd_iload C dX12_five_155 rfl ?_
          cases hF
          exact pd_iret C hE rfl rfl rfl ⟨by decide, by decide⟩ dX12_five_157
        · have hF := pd_t zc7 hF
          refine pd_wk (ls' := [none, none, none, none, none, none, none, none, none, none]) True.intro ?_
          exact hzj1 _ hF
      replace hF := hS
      clear hS
      refine pd_icmp_eq (tgt := 29) C dX12_five_22 (by decide) (fun zc8 => ?_) (fun zc8 => ?_)
      · have hF := pd_t zc8 hF
        refine pd_iconst (v := 0) C dX12_five_29 (by decide) ?_
        have hF := hF.symm
        cases hF
        exact hJ30
      · have hF := pd_f zc8 hF
        refine pd_iconst (v := 1) C dX12_five_25 (by decide) ?_
        refine pd_goto (tgt := 30) C dX12_five_26 (by decide) ?_
        have hF := hF.symm
        cases hF
        exact hJ30

def fn_X12_at (I : pd_I) (p0 : Int32) (p1 : Int32) : Option (Int32 × pd_I) := pd_let (pd_ui I 92 0 0) fun zI1 => pd_bd2 (fn_X12_isRow zI1 p0 1) fun zr1 zI2 => pd_jn (fun (zI3 : pd_I) => some (0, zI3)) fun zj1 => if zr1 = 0 then zj1 zI2 else (pd_gd (pd_in p0 16) (pd_bd (if (zI2 93 p0.toNatClampNeg) = (-1) then some 0 else (some 1)) fun (zx1 : Int32) => pd_bd2 (fn_X12_right zI2 zx1 2) fun zr2 zI4 => if zr2 = 0 then zj1 zI4 else (pd_bd (pd_bd (if p1 < 0 then some false else (pd_gd (pd_in p0 16) (if (zI4 93 p0.toNatClampNeg) ≤ p1 then some false else (some true)))) fun zc2 => if zc2 = true then some 1 else (some 0)) fun (zx2 : Int32) => pd_bd2 (fn_X12_right zI4 zx2 1) fun zr3 zI5 => if zr3 = 0 then zj1 zI5 else (pd_gd (pd_in ((600 * p0) + p1) 9600) (some ((zI5 94 ((600 * p0) + p1).toNatClampNeg), zI5))))))
set_option maxRecDepth 100000 in
set_option maxHeartbeats 4000000 in
theorem em_X12_at {l : Launch} {D : va_G} {tc : Nat → ClassId} (hst : l.stackTraces = false) {I : pd_I} {J : pd_J} {Z : pd_R} {n : Nat} {p0 : Int32} {p1 : Int32} (hn : 133 ≤ n)  {out : Int32 × pd_I} (hF : fn_X12_at I p0 p1 = some out) :
    pd_M l D tc yX12_at (.code yX12_at cX12_at 3 (Option.some Jvm.ClassFile.FieldType.int)) rm_X12_at [.ref 92, .int p0, .int p1] I J (pd_RF Z) n (.ok (some (.int out.1))) out.2 J (pd_RF Z) n := by
  refine pd_open (own := "PathDecoderModel") (ls0 := [some (.ref 92), some (.int p0), some (.int p1)]) (by decide) rfl (Nat.le_of_ble_eq_true rfl) rfl rfl hst (fun cx hl hD htc C hE htab hnm => ?_)
  subst hl hD htc
  unfold fn_X12_at at hF
  refine pd_aload_n C dX12_at_0 rfl rfl ?_
  refine pd_iconst (v := 0) C dX12_at_1 (by decide) ?_
  refine pi_12_0 C wd_5_125 rfl rfl (pd_lt (by decide) hn) sh_92 dX12_at_2 ?_
  refine pd_memI (fun zI1 hzI1 => ?_)
  have hF := pd_let_at hF hzI1
  refine pd_aload_n C dX12_at_5 rfl rfl ?_
  refine pd_iload_n C dX12_at_6 rfl rfl ?_
  refine pd_iconst (v := 1) C dX12_at_7 (by decide) ?_
  obtain ⟨zr1, zI2, zh1, hF⟩ := pd_bd2_some hF
  refine pd_callV C [.int p0, .int 1] [] (em_X12_isRow (pd_C_st C) hn  zh1) mw_X12_isRow wd_6_26 rfl (by decide) (pd_lt (by decide) hn) sh_92 ⟨by decide, by decide, by decide, by decide⟩ rfl (Nat.le_of_ble_eq_true rfl) pd_oldL_same (fun _ _ => pd_old_same _) dX12_at_8 (stk' := [.int zr1]) rfl ?_
  refine pd_jn_use hF (fun j => ∀ (zI3 : pd_I), j zI3 = some out → pd_V cx 0 0 64 [none, none, none] [] zI3 J (pd_RF Z) n) (fun zI3 hF => ?_) (fun zj1 hzj1 hF => ?_)
  · refine pd_iconst (v := 0) C dX12_at_64 (by decide) ?_
    cases hF
    exact pd_iret C hE rfl rfl rfl ⟨by decide, by decide⟩ dX12_at_65
  · refine pd_if_eq (tgt := 64) C dX12_at_11 (by decide) (fun zc7 => ?_) (fun zc7 => ?_)
    · have hF := pd_t zc7 hF
      refine pd_wk (ls' := [none, none, none]) True.intro ?_
      exact hzj1 _ hF
    · have hF := pd_f zc7 hF
      refine pd_aload_n C dX12_at_14 rfl rfl ?_
      refine pd_aload_n C dX12_at_15 rfl rfl ?_
      refine gr_12_1 C wd_5_126 (pd_lt (by decide) hn) sh_92 (rf_92_1 _) dX12_at_16 ?_
      refine pd_iload_n C dX12_at_19 rfl rfl ?_
      obtain ⟨zg1, hF⟩ := pd_gd_some hF
      refine pd_iald C (pd_lt (by decide) hn) sh_93 zg1 dX12_at_20 ?_
      refine pd_iconst (v := (-1)) C dX12_at_21 (by decide) ?_
      obtain ⟨zx1, hS, hF⟩ := pd_bd_some hF
      have hJ30 : pd_V cx 0 0 30 [some (.ref 92), some (.int p0), some (.int p1)] [.int zx1, .ref 92] zI2 J (pd_RF Z) n := by
        refine pd_iconst (v := 2) C dX12_at_30 (by decide) ?_
        obtain ⟨zr2, zI4, zh2, hF⟩ := pd_bd2_some hF
        refine pd_callV C [.int zx1, .int 2] [] (em_X12_right (pd_C_st C) hn  zh2) mw_X12_right wd_6_30 rfl (by decide) (pd_lt (by decide) hn) sh_92 ⟨by decide, by decide, by decide, by decide⟩ rfl (Nat.le_of_ble_eq_true rfl) pd_oldL_same (fun _ _ => pd_old_same _) dX12_at_31 (stk' := [.int zr2]) rfl ?_
        refine pd_if_eq (tgt := 64) C dX12_at_34 (by decide) (fun zc5 => ?_) (fun zc5 => ?_)
        · have hF := pd_t zc5 hF
          refine pd_wk (ls' := [none, none, none]) True.intro ?_
          exact hzj1 _ hF
        · have hF := pd_f zc5 hF
          refine pd_aload_n C dX12_at_37 rfl rfl ?_
          refine pd_iload_n C dX12_at_38 rfl rfl ?_
          obtain ⟨zx2, hS, hF⟩ := pd_bd_some hF
          have hJ57 : pd_V cx 0 0 57 [some (.ref 92), some (.int p0), some (.int p1)] [.int zx2, .ref 92] zI4 J (pd_RF Z) n := by
            refine pd_iconst (v := 1) C dX12_at_57 (by decide) ?_
            obtain ⟨zr3, zI5, zh3, hF⟩ := pd_bd2_some hF
            refine pd_callV C [.int zx2, .int 1] [] (em_X12_right (pd_C_st C) hn  zh3) mw_X12_right wd_6_30 rfl (by decide) (pd_lt (by decide) hn) sh_92 ⟨by decide, by decide, by decide, by decide⟩ rfl (Nat.le_of_ble_eq_true rfl) pd_oldL_same (fun _ _ => pd_old_same _) dX12_at_58 (stk' := [.int zr3]) rfl ?_
            refine pd_if_ne (tgt := 66) C dX12_at_61 (by decide) (fun zc1 => ?_) (fun zc1 => ?_)
            · have hF := pd_f zc1 hF
              refine pd_aload_n C dX12_at_66 rfl rfl ?_
              refine gr_12_2 C wd_5_127 (pd_lt (by decide) hn) sh_92 (rf_92_2 _) dX12_at_67 ?_
              refine pd_sipush (v := 600) C dX12_at_70 (by decide) ?_
              refine pd_iload_n C dX12_at_73 rfl rfl ?_
              refine pd_imul C dX12_at_74 ?_
              refine pd_iload_n C dX12_at_75 rfl rfl ?_
              refine pd_iadd C dX12_at_76 ?_
              obtain ⟨zg2, hF⟩ := pd_gd_some hF
              refine pd_iald C (pd_lt (by decide) hn) sh_94 zg2 dX12_at_77 ?_
              cases hF
              exact pd_iret C hE rfl rfl rfl ⟨by decide, by decide⟩ dX12_at_78
            · have hF := pd_t zc1 hF
              refine pd_wk (ls' := [none, none, none]) True.intro ?_
              exact hzj1 _ hF
          replace hF := hS
          clear hS
          obtain ⟨zc2, hS, hF⟩ := pd_bd_some hF
          have hTzc2 : zc2 = true → pd_V cx 0 0 52 [some (.ref 92), some (.int p0), some (.int p1)] [.ref 92] zI4 J (pd_RF Z) n := by
            intro hc
            have hF := pd_t hc hF
            refine pd_iconst (v := 1) C dX12_at_52 (by decide) ?_
            refine pd_goto (tgt := 57) C dX12_at_53 (by decide) ?_
            have hF := hF.symm
            cases hF
            exact hJ57
          have hEzc2 : zc2 = false → pd_V cx 0 0 56 [some (.ref 92), some (.int p0), some (.int p1)] [.ref 92] zI4 J (pd_RF Z) n := by
            intro hc
            have hF := pd_bf hc hF
            refine pd_iconst (v := 0) C dX12_at_56 (by decide) ?_
            have hF := hF.symm
            cases hF
            exact hJ57
          replace hF := hS
          clear hS
          refine pd_if_lt (tgt := 56) C dX12_at_39 (by decide) (fun zc4 => ?_) (fun zc4 => ?_)
          · have hF := pd_t zc4 hF
            cases hF
            exact hEzc2 rfl
          · have hF := pd_f zc4 hF
            refine pd_iload_n C dX12_at_42 rfl rfl ?_
            refine pd_aload_n C dX12_at_43 rfl rfl ?_
            refine gr_12_1 C wd_5_126 (pd_lt (by decide) hn) sh_92 (rf_92_1 _) dX12_at_44 ?_
            refine pd_iload_n C dX12_at_47 rfl rfl ?_
            obtain ⟨zg3, hF⟩ := pd_gd_some hF
            refine pd_iald C (pd_lt (by decide) hn) sh_93 zg3 dX12_at_48 ?_
            refine pd_icmp_ge (tgt := 56) C dX12_at_49 (by decide) (fun zc3 => ?_) (fun zc3 => ?_)
            · have hF := pd_t zc3 hF
              cases hF
              exact hEzc2 rfl
            · have hF := pd_f zc3 hF
              cases hF
              exact hTzc2 rfl
      replace hF := hS
      clear hS
      refine pd_icmp_eq (tgt := 29) C dX12_at_22 (by decide) (fun zc6 => ?_) (fun zc6 => ?_)
      · have hF := pd_t zc6 hF
        refine pd_iconst (v := 0) C dX12_at_29 (by decide) ?_
        have hF := hF.symm
        cases hF
        exact hJ30
      · have hF := pd_f zc6 hF
        refine pd_iconst (v := 1) C dX12_at_25 (by decide) ?_
        refine pd_goto (tgt := 30) C dX12_at_26 (by decide) ?_
        have hF := hF.symm
        cases hF
        exact hJ30

def fn_X12_tear (I : pd_I) (p0 : Int32) (p1 : Int32) : Option (Int32 × pd_I) := pd_let (pd_ui I 92 0 0) fun zI1 => pd_bd2 (fn_X12_isRow zI1 p0 1) fun zr1 zI2 => pd_jn (fun (zI3 : pd_I) => some (0, zI3)) fun zj1 => if zr1 = 0 then zj1 zI2 else (pd_gd (pd_in p0 16) (pd_bd (if (zI2 93 p0.toNatClampNeg) = (-1) then some 0 else (some 1)) fun (zx1 : Int32) => pd_bd2 (fn_X12_right zI2 zx1 2) fun zr2 zI4 => if zr2 = 0 then zj1 zI4 else (pd_gd (pd_in p0 16) (pd_let (zI4 93 p0.toNatClampNeg) fun zv1 => pd_bd (if 0 ≤ p1 then if zv1 ≤ p1 then some zv1 else (some p1) else (some (-1))) fun (zx2 : Int32) => pd_gd (pd_in p0 16) (pd_let (pd_ui zI4 93 p0.toNatClampNeg zx2) fun zI5 => some (zv1, zI5))))))
set_option maxRecDepth 100000 in
set_option maxHeartbeats 4000000 in
theorem em_X12_tear {l : Launch} {D : va_G} {tc : Nat → ClassId} (hst : l.stackTraces = false) {I : pd_I} {J : pd_J} {Z : pd_R} {n : Nat} {p0 : Int32} {p1 : Int32} (hn : 133 ≤ n)  {out : Int32 × pd_I} (hF : fn_X12_tear I p0 p1 = some out) :
    pd_M l D tc yX12_tear (.code yX12_tear cX12_tear 4 (Option.some Jvm.ClassFile.FieldType.int)) rm_X12_tear [.ref 92, .int p0, .int p1] I J (pd_RF Z) n (.ok (some (.int out.1))) out.2 J (pd_RF Z) n := by
  refine pd_open (own := "PathDecoderModel") (ls0 := [some (.ref 92), some (.int p0), some (.int p1), none]) (by decide) rfl (Nat.le_of_ble_eq_true rfl) rfl rfl hst (fun cx hl hD htc C hE htab hnm => ?_)
  subst hl hD htc
  unfold fn_X12_tear at hF
  refine pd_aload_n C dX12_tear_0 rfl rfl ?_
  refine pd_iconst (v := 0) C dX12_tear_1 (by decide) ?_
  refine pi_12_0 C wd_5_125 rfl rfl (pd_lt (by decide) hn) sh_92 dX12_tear_2 ?_
  refine pd_memI (fun zI1 hzI1 => ?_)
  have hF := pd_let_at hF hzI1
  refine pd_aload_n C dX12_tear_5 rfl rfl ?_
  refine pd_iload_n C dX12_tear_6 rfl rfl ?_
  refine pd_iconst (v := 1) C dX12_tear_7 (by decide) ?_
  obtain ⟨zr1, zI2, zh1, hF⟩ := pd_bd2_some hF
  refine pd_callV C [.int p0, .int 1] [] (em_X12_isRow (pd_C_st C) hn  zh1) mw_X12_isRow wd_6_26 rfl (by decide) (pd_lt (by decide) hn) sh_92 ⟨by decide, by decide, by decide, by decide⟩ rfl (Nat.le_of_ble_eq_true rfl) pd_oldL_same (fun _ _ => pd_old_same _) dX12_tear_8 (stk' := [.int zr1]) rfl ?_
  refine pd_jn_use hF (fun j => ∀ (zI3 : pd_I), j zI3 = some out → pd_V cx 0 0 37 [none, none, none, none] [] zI3 J (pd_RF Z) n) (fun zI3 hF => ?_) (fun zj1 hzj1 hF => ?_)
  · refine pd_iconst (v := 0) C dX12_tear_37 (by decide) ?_
    cases hF
    exact pd_iret C hE rfl rfl rfl ⟨by decide, by decide⟩ dX12_tear_38
  · refine pd_if_eq (tgt := 37) C dX12_tear_11 (by decide) (fun zc5 => ?_) (fun zc5 => ?_)
    · have hF := pd_t zc5 hF
      refine pd_wk (ls' := [none, none, none, none]) True.intro ?_
      exact hzj1 _ hF
    · have hF := pd_f zc5 hF
      refine pd_aload_n C dX12_tear_14 rfl rfl ?_
      refine pd_aload_n C dX12_tear_15 rfl rfl ?_
      refine gr_12_1 C wd_5_126 (pd_lt (by decide) hn) sh_92 (rf_92_1 _) dX12_tear_16 ?_
      refine pd_iload_n C dX12_tear_19 rfl rfl ?_
      obtain ⟨zg1, hF⟩ := pd_gd_some hF
      refine pd_iald C (pd_lt (by decide) hn) sh_93 zg1 dX12_tear_20 ?_
      refine pd_iconst (v := (-1)) C dX12_tear_21 (by decide) ?_
      obtain ⟨zx1, hS, hF⟩ := pd_bd_some hF
      have hJ30 : pd_V cx 0 0 30 [some (.ref 92), some (.int p0), some (.int p1), none] [.int zx1, .ref 92] zI2 J (pd_RF Z) n := by
        refine pd_iconst (v := 2) C dX12_tear_30 (by decide) ?_
        obtain ⟨zr2, zI4, zh2, hF⟩ := pd_bd2_some hF
        refine pd_callV C [.int zx1, .int 2] [] (em_X12_right (pd_C_st C) hn  zh2) mw_X12_right wd_6_30 rfl (by decide) (pd_lt (by decide) hn) sh_92 ⟨by decide, by decide, by decide, by decide⟩ rfl (Nat.le_of_ble_eq_true rfl) pd_oldL_same (fun _ _ => pd_old_same _) dX12_tear_31 (stk' := [.int zr2]) rfl ?_
        refine pd_if_ne (tgt := 39) C dX12_tear_34 (by decide) (fun zc3 => ?_) (fun zc3 => ?_)
        · have hF := pd_f zc3 hF
          refine pd_aload_n C dX12_tear_39 rfl rfl ?_
          refine gr_12_1 C wd_5_126 (pd_lt (by decide) hn) sh_92 (rf_92_1 _) dX12_tear_40 ?_
          refine pd_iload_n C dX12_tear_43 rfl rfl ?_
          obtain ⟨zg2, hF⟩ := pd_gd_some hF
          refine pd_iald C (pd_lt (by decide) hn) sh_93 zg2 dX12_tear_44 ?_
          refine pd_topi (fun zv1 hzv1 => ?_)
          have hF := pd_let_at hF hzv1
          refine pd_istore_n (ls' := [some (.ref 92), some (.int p0), some (.int p1), some (.int zv1)]) C dX12_tear_45 rfl (Nat.le_of_ble_eq_true rfl) rfl rfl ?_
          refine pd_aload_n C dX12_tear_46 rfl rfl ?_
          refine gr_12_1 C wd_5_126 (pd_lt (by decide) hn) sh_92 (rf_92_1 _) dX12_tear_47 ?_
          refine pd_iload_n C dX12_tear_50 rfl rfl ?_
          refine pd_iload_n C dX12_tear_51 rfl rfl ?_
          obtain ⟨zx2, hS, hF⟩ := pd_bd_some hF
          have hJ69 : pd_V cx 0 0 69 [none, none, none, some (.int zv1)] [.int zx2, .int p0, .ref 93] zI4 J (pd_RF Z) n := by
            obtain ⟨zg3, hF⟩ := pd_gd_some hF
            refine pd_iast C (pd_lt (by decide) hn) sh_93 zg3 dX12_tear_69 ?_
            refine pd_memI (fun zI5 hzI5 => ?_)
            have hF := pd_let_at hF hzI5
            refine pd_iload_n C dX12_tear_70 rfl rfl ?_
            cases hF
            exact pd_iret C hE rfl rfl rfl ⟨by decide, by decide⟩ dX12_tear_71
          replace hF := hS
          clear hS
          refine pd_if_ge (tgt := 59) C dX12_tear_52 (by decide) (fun zc2 => ?_) (fun zc2 => ?_)
          · have hF := pd_t zc2 hF
            refine pd_iload_n C dX12_tear_59 rfl rfl ?_
            refine pd_iload_n C dX12_tear_60 rfl rfl ?_
            refine pd_icmp_ge (tgt := 68) C dX12_tear_61 (by decide) (fun zc1 => ?_) (fun zc1 => ?_)
            · have hF := pd_t zc1 hF
              refine pd_iload_n C dX12_tear_68 rfl rfl ?_
              refine pd_wk (ls' := [none, none, none, some (.int zv1)]) (And.intro rfl True.intro) ?_
              have hF := hF.symm
              cases hF
              exact hJ69
            · have hF := pd_f zc1 hF
              refine pd_iload_n C dX12_tear_64 rfl rfl ?_
              refine pd_goto (tgt := 69) C dX12_tear_65 (by decide) ?_
              refine pd_wk (ls' := [none, none, none, some (.int zv1)]) (And.intro rfl True.intro) ?_
              have hF := hF.symm
              cases hF
              exact hJ69
          · have hF := pd_f zc2 hF
            refine pd_iconst (v := (-1)) C dX12_tear_55 (by decide) ?_
            refine pd_goto (tgt := 69) C dX12_tear_56 (by decide) ?_
            refine pd_wk (ls' := [none, none, none, some (.int zv1)]) (And.intro rfl True.intro) ?_
            have hF := hF.symm
            cases hF
            exact hJ69
        · have hF := pd_t zc3 hF
          refine pd_wk (ls' := [none, none, none, none]) True.intro ?_
          exact hzj1 _ hF
      replace hF := hS
      clear hS
      refine pd_icmp_eq (tgt := 29) C dX12_tear_22 (by decide) (fun zc4 => ?_) (fun zc4 => ?_)
      · have hF := pd_t zc4 hF
        refine pd_iconst (v := 0) C dX12_tear_29 (by decide) ?_
        have hF := hF.symm
        cases hF
        exact hJ30
      · have hF := pd_f zc4 hF
        refine pd_iconst (v := 1) C dX12_tear_25 (by decide) ?_
        refine pd_goto (tgt := 30) C dX12_tear_26 (by decide) ?_
        have hF := hF.symm
        cases hF
        exact hJ30

def fn_X12_noise (I : pd_I) (p0 : Int32) (p1 : Int32) (p2 : Int32) : Option (Int32 × pd_I) := pd_let (pd_ui I 92 0 0) fun zI1 => pd_bd (fn_X12_isMark p0) fun zr1 => pd_bd (pd_bd (if zr1 = 0 then some false else (if p1 < 0 then some false else (if 1000 < p1 then some false else (if p2 < 0 then some false else (if 1000 < p2 then some false else (some true)))))) fun zc2 => if zc2 = true then some 1 else (some 0)) fun (zx1 : Int32) => pd_bd2 (fn_X12_right zI1 zx1 1) fun zr2 zI2 => if zr2 = 0 then some (0, zI2) else (pd_gd (pd_in (p0 + 32) 64) (pd_gd (pd_in (p0 + 32) 64) (pd_let ((zI2 95 (p0 + 32).toNatClampNeg) + (zI2 96 (p0 + 32).toNatClampNeg)) fun zv1 => pd_gd (pd_in (p0 + 32) 64) (pd_let (pd_ui zI2 95 (p0 + 32).toNatClampNeg p1) fun zI3 => pd_gd (pd_in (p0 + 32) 64) (pd_let (pd_ui zI3 96 (p0 + 32).toNatClampNeg p2) fun zI4 => some (zv1, zI4))))))
set_option maxRecDepth 100000 in
set_option maxHeartbeats 4000000 in
theorem em_X12_noise {l : Launch} {D : va_G} {tc : Nat → ClassId} (hst : l.stackTraces = false) {I : pd_I} {J : pd_J} {Z : pd_R} {n : Nat} {p0 : Int32} {p1 : Int32} {p2 : Int32} (hn : 133 ≤ n)  {out : Int32 × pd_I} (hF : fn_X12_noise I p0 p1 p2 = some out) :
    pd_M l D tc yX12_noise (.code yX12_noise cX12_noise 5 (Option.some Jvm.ClassFile.FieldType.int)) rm_X12_noise [.ref 92, .int p0, .int p1, .int p2] I J (pd_RF Z) n (.ok (some (.int out.1))) out.2 J (pd_RF Z) n := by
  refine pd_open (own := "PathDecoderModel") (ls0 := [some (.ref 92), some (.int p0), some (.int p1), some (.int p2), none]) (by decide) rfl (Nat.le_of_ble_eq_true rfl) rfl rfl hst (fun cx hl hD htc C hE htab hnm => ?_)
  subst hl hD htc
  unfold fn_X12_noise at hF
  refine pd_aload_n C dX12_noise_0 rfl rfl ?_
  refine pd_iconst (v := 0) C dX12_noise_1 (by decide) ?_
  refine pi_12_0 C wd_5_125 rfl rfl (pd_lt (by decide) hn) sh_92 dX12_noise_2 ?_
  refine pd_memI (fun zI1 hzI1 => ?_)
  have hF := pd_let_at hF hzI1
  refine pd_aload_n C dX12_noise_5 rfl rfl ?_
  refine pd_iload_n C dX12_noise_6 rfl rfl ?_
  obtain ⟨zr1, zh1, hF⟩ := pd_bd_some hF
  refine pd_callS C [.int p0] [.ref 92] (em_X12_isMark (pd_C_st C) hn  zh1) mw_X12_isMark wd_6_38 ⟨by decide, by decide, by decide, by decide⟩ rfl (Nat.le_of_ble_eq_true rfl) pd_oldL_same (fun _ _ => pd_old_same _) dX12_noise_7 (stk' := [.int zr1, .ref 92]) rfl ?_
  obtain ⟨zx1, hS, hF⟩ := pd_bd_some hF
  have hJ40 : pd_V cx 0 0 40 [some (.ref 92), some (.int p0), some (.int p1), some (.int p2), none] [.int zx1, .ref 92] zI1 J (pd_RF Z) n := by
    refine pd_iconst (v := 1) C dX12_noise_40 (by decide) ?_
    obtain ⟨zr2, zI2, zh2, hF⟩ := pd_bd2_some hF
    refine pd_callV C [.int zx1, .int 1] [] (em_X12_right (pd_C_st C) hn  zh2) mw_X12_right wd_6_30 rfl (by decide) (pd_lt (by decide) hn) sh_92 ⟨by decide, by decide, by decide, by decide⟩ rfl (Nat.le_of_ble_eq_true rfl) pd_oldL_same (fun _ _ => pd_old_same _) dX12_noise_41 (stk' := [.int zr2]) rfl ?_
    refine pd_if_ne (tgt := 49) C dX12_noise_44 (by decide) (fun zc1 => ?_) (fun zc1 => ?_)
    · have hF := pd_f zc1 hF
      refine pd_aload_n C dX12_noise_49 rfl rfl ?_
      refine gr_12_3 C wd_5_128 (pd_lt (by decide) hn) sh_92 (rf_92_3 _) dX12_noise_50 ?_
      refine pd_iload_n C dX12_noise_53 rfl rfl ?_
      refine pd_bipush (v := 32) C dX12_noise_54 (by decide) ?_
      refine pd_iadd C dX12_noise_56 ?_
      obtain ⟨zg1, hF⟩ := pd_gd_some hF
      refine pd_iald C (pd_lt (by decide) hn) sh_95 zg1 dX12_noise_57 ?_
      refine pd_aload_n C dX12_noise_58 rfl rfl ?_
      refine gr_12_4 C wd_5_129 (pd_lt (by decide) hn) sh_92 (rf_92_4 _) dX12_noise_59 ?_
      refine pd_iload_n C dX12_noise_62 rfl rfl ?_
      refine pd_bipush (v := 32) C dX12_noise_63 (by decide) ?_
      refine pd_iadd C dX12_noise_65 ?_
      obtain ⟨zg2, hF⟩ := pd_gd_some hF
      refine pd_iald C (pd_lt (by decide) hn) sh_96 zg2 dX12_noise_66 ?_
      refine pd_iadd C dX12_noise_67 ?_
      refine pd_topi (fun zv1 hzv1 => ?_)
      have hF := pd_let_at hF hzv1
      refine pd_istore (ls' := [some (.ref 92), some (.int p0), some (.int p1), some (.int p2), some (.int zv1)]) C dX12_noise_68 (Nat.le_of_ble_eq_true rfl) rfl rfl ?_
      refine pd_aload_n C dX12_noise_70 rfl rfl ?_
      refine gr_12_3 C wd_5_128 (pd_lt (by decide) hn) sh_92 (rf_92_3 _) dX12_noise_71 ?_
      refine pd_iload_n C dX12_noise_74 rfl rfl ?_
      refine pd_bipush (v := 32) C dX12_noise_75 (by decide) ?_
      refine pd_iadd C dX12_noise_77 ?_
      refine pd_iload_n C dX12_noise_78 rfl rfl ?_
      obtain ⟨zg3, hF⟩ := pd_gd_some hF
      refine pd_iast C (pd_lt (by decide) hn) sh_95 zg3 dX12_noise_79 ?_
      refine pd_memI (fun zI3 hzI3 => ?_)
      have hF := pd_let_at hF hzI3
      refine pd_aload_n C dX12_noise_80 rfl rfl ?_
      refine gr_12_4 C wd_5_129 (pd_lt (by decide) hn) sh_92 (rf_92_4 _) dX12_noise_81 ?_
      refine pd_iload_n C dX12_noise_84 rfl rfl ?_
      refine pd_bipush (v := 32) C dX12_noise_85 (by decide) ?_
      refine pd_iadd C dX12_noise_87 ?_
      refine pd_iload_n C dX12_noise_88 rfl rfl ?_
      obtain ⟨zg4, hF⟩ := pd_gd_some hF
      refine pd_iast C (pd_lt (by decide) hn) sh_96 zg4 dX12_noise_89 ?_
      refine pd_memI (fun zI4 hzI4 => ?_)
      have hF := pd_let_at hF hzI4
      refine pd_iload C dX12_noise_90 rfl ?_
      cases hF
      exact pd_iret C hE rfl rfl rfl ⟨by decide, by decide⟩ dX12_noise_92
    · have hF := pd_t zc1 hF
      refine pd_iconst (v := 0) C dX12_noise_47 (by decide) ?_
      cases hF
      exact pd_iret C hE rfl rfl rfl ⟨by decide, by decide⟩ dX12_noise_48
  replace hF := hS
  clear hS
  obtain ⟨zc2, hS, hF⟩ := pd_bd_some hF
  have hTzc2 : zc2 = true → pd_V cx 0 0 35 [some (.ref 92), some (.int p0), some (.int p1), some (.int p2), none] [.ref 92] zI1 J (pd_RF Z) n := by
    intro hc
    have hF := pd_t hc hF
    refine pd_iconst (v := 1) C dX12_noise_35 (by decide) ?_
    refine pd_goto (tgt := 40) C dX12_noise_36 (by decide) ?_
    have hF := hF.symm
    cases hF
    exact hJ40
  have hEzc2 : zc2 = false → pd_V cx 0 0 39 [some (.ref 92), some (.int p0), some (.int p1), some (.int p2), none] [.ref 92] zI1 J (pd_RF Z) n := by
    intro hc
    have hF := pd_bf hc hF
    refine pd_iconst (v := 0) C dX12_noise_39 (by decide) ?_
    have hF := hF.symm
    cases hF
    exact hJ40
  replace hF := hS
  clear hS
  refine pd_if_eq (tgt := 39) C dX12_noise_10 (by decide) (fun zc7 => ?_) (fun zc7 => ?_)
  · have hF := pd_t zc7 hF
    cases hF
    exact hEzc2 rfl
  · have hF := pd_f zc7 hF
    refine pd_iload_n C dX12_noise_13 rfl rfl ?_
    refine pd_if_lt (tgt := 39) C dX12_noise_14 (by decide) (fun zc6 => ?_) (fun zc6 => ?_)
    · have hF := pd_t zc6 hF
      cases hF
      exact hEzc2 rfl
    · have hF := pd_f zc6 hF
      refine pd_iload_n C dX12_noise_17 rfl rfl ?_
      refine pd_sipush (v := 1000) C dX12_noise_18 (by decide) ?_
      refine pd_icmp_gt (tgt := 39) C dX12_noise_21 (by decide) (fun zc5 => ?_) (fun zc5 => ?_)
      · have hF := pd_t zc5 hF
        cases hF
        exact hEzc2 rfl
      · have hF := pd_f zc5 hF
        refine pd_iload_n C dX12_noise_24 rfl rfl ?_
        refine pd_if_lt (tgt := 39) C dX12_noise_25 (by decide) (fun zc4 => ?_) (fun zc4 => ?_)
        · have hF := pd_t zc4 hF
          cases hF
          exact hEzc2 rfl
        · have hF := pd_f zc4 hF
          refine pd_iload_n C dX12_noise_28 rfl rfl ?_
          refine pd_sipush (v := 1000) C dX12_noise_29 (by decide) ?_
          refine pd_icmp_gt (tgt := 39) C dX12_noise_32 (by decide) (fun zc3 => ?_) (fun zc3 => ?_)
          · have hF := pd_t zc3 hF
            cases hF
            exact hEzc2 rfl
          · have hF := pd_f zc3 hF
            cases hF
            exact hTzc2 rfl

def fn_X12_markCost (I : pd_I) (p0 : Int32) (p1 : Int32) (p2 : Int32) : Option Int32 := pd_gd (pd_in p0 16) (if p1 < (I 93 p0.toNatClampNeg) then pd_gd (pd_in ((600 * p0) + p1) 9600) (pd_let ((I 94 ((600 * p0) + p1).toNatClampNeg) + 32) fun zv1 => pd_bd (if p2 = 1 then pd_gd (pd_in zv1 64) (some (I 96 zv1.toNatClampNeg)) else (pd_gd (pd_in zv1 64) (some (I 95 zv1.toNatClampNeg)))) fun (zx1 : Int32) => some zx1) else (some 0))
set_option maxRecDepth 100000 in
set_option maxHeartbeats 4000000 in
theorem em_X12_markCost {l : Launch} {D : va_G} {tc : Nat → ClassId} (hst : l.stackTraces = false) {I : pd_I} {J : pd_J} {Z : pd_R} {n : Nat} {p0 : Int32} {p1 : Int32} {p2 : Int32} (hn : 133 ≤ n)  {out : Int32} (hF : fn_X12_markCost I p0 p1 p2 = some out) :
    pd_M l D tc yX12_markCost (.code yX12_markCost cX12_markCost 5 (Option.some Jvm.ClassFile.FieldType.int)) rm_X12_markCost [.ref 92, .int p0, .int p1, .int p2] I J (pd_RF Z) n (.ok (some (.int out))) I J (pd_RF Z) n := by
  refine pd_open (own := "PathDecoderModel") (ls0 := [some (.ref 92), some (.int p0), some (.int p1), some (.int p2), none]) (by decide) rfl (Nat.le_of_ble_eq_true rfl) rfl rfl hst (fun cx hl hD htc C hE htab hnm => ?_)
  subst hl hD htc
  unfold fn_X12_markCost at hF
  refine pd_iload_n C dX12_markCost_0 rfl rfl ?_
  refine pd_aload_n C dX12_markCost_1 rfl rfl ?_
  refine gr_12_1 C wd_5_126 (pd_lt (by decide) hn) sh_92 (rf_92_1 _) dX12_markCost_2 ?_
  refine pd_iload_n C dX12_markCost_5 rfl rfl ?_
  obtain ⟨zg1, hF⟩ := pd_gd_some hF
  refine pd_iald C (pd_lt (by decide) hn) sh_93 zg1 dX12_markCost_6 ?_
  refine pd_icmp_lt (tgt := 12) C dX12_markCost_7 (by decide) (fun zc2 => ?_) (fun zc2 => ?_)
  · have hF := pd_t zc2 hF
    refine pd_aload_n C dX12_markCost_12 rfl rfl ?_
    refine gr_12_2 C wd_5_127 (pd_lt (by decide) hn) sh_92 (rf_92_2 _) dX12_markCost_13 ?_
    refine pd_sipush (v := 600) C dX12_markCost_16 (by decide) ?_
    refine pd_iload_n C dX12_markCost_19 rfl rfl ?_
    refine pd_imul C dX12_markCost_20 ?_
    refine pd_iload_n C dX12_markCost_21 rfl rfl ?_
    refine pd_iadd C dX12_markCost_22 ?_
    obtain ⟨zg2, hF⟩ := pd_gd_some hF
    refine pd_iald C (pd_lt (by decide) hn) sh_94 zg2 dX12_markCost_23 ?_
    refine pd_bipush (v := 32) C dX12_markCost_24 (by decide) ?_
    refine pd_iadd C dX12_markCost_26 ?_
    refine pd_topi (fun zv1 hzv1 => ?_)
    have hF := pd_let_at hF hzv1
    refine pd_istore (ls' := [some (.ref 92), some (.int p0), some (.int p1), some (.int p2), some (.int zv1)]) C dX12_markCost_27 (Nat.le_of_ble_eq_true rfl) rfl rfl ?_
    refine pd_iload_n C dX12_markCost_29 rfl rfl ?_
    refine pd_iconst (v := 1) C dX12_markCost_30 (by decide) ?_
    obtain ⟨zx1, hS, hF⟩ := pd_bd_some hF
    have hJ51 : pd_V cx 0 0 51 [none, none, none, none, none] [.int zx1] I J (pd_RF Z) n := by
      cases hF
      exact pd_iret C hE rfl rfl rfl ⟨by decide, by decide⟩ dX12_markCost_51
    replace hF := hS
    clear hS
    refine pd_icmp_ne (tgt := 44) C dX12_markCost_31 (by decide) (fun zc1 => ?_) (fun zc1 => ?_)
    · have hF := pd_f zc1 hF
      refine pd_aload_n C dX12_markCost_44 rfl rfl ?_
      refine gr_12_3 C wd_5_128 (pd_lt (by decide) hn) sh_92 (rf_92_3 _) dX12_markCost_45 ?_
      refine pd_iload C dX12_markCost_48 rfl ?_
      obtain ⟨zg3, hF⟩ := pd_gd_some hF
      refine pd_iald C (pd_lt (by decide) hn) sh_95 zg3 dX12_markCost_50 ?_
      refine pd_wk (ls' := [none, none, none, none, none]) True.intro ?_
      have hF := hF.symm
      cases hF
      exact hJ51
    · have hF := pd_t zc1 hF
      refine pd_aload_n C dX12_markCost_34 rfl rfl ?_
      refine gr_12_4 C wd_5_129 (pd_lt (by decide) hn) sh_92 (rf_92_4 _) dX12_markCost_35 ?_
      refine pd_iload C dX12_markCost_38 rfl ?_
      obtain ⟨zg4, hF⟩ := pd_gd_some hF
      refine pd_iald C (pd_lt (by decide) hn) sh_96 zg4 dX12_markCost_40 ?_
      refine pd_goto (tgt := 51) C dX12_markCost_41 (by decide) ?_
      refine pd_wk (ls' := [none, none, none, none, none]) True.intro ?_
      have hF := hF.symm
      cases hF
      exact hJ51
  · have hF := pd_f zc2 hF
    refine pd_iconst (v := 0) C dX12_markCost_10 (by decide) ?_
    cases hF
    exact pd_iret C hE rfl rfl rfl ⟨by decide, by decide⟩ dX12_markCost_11

def fn_X12_wide (I : pd_I) (p0 : Int32) : Option Int32 := pd_gd (pd_in p0 12) (pd_bd (if (I 97 p0.toNatClampNeg) = 5 then pd_gd (pd_in p0 12) (some ((2 * (I 99 p0.toNatClampNeg)) - 1)) else (pd_gd (pd_in p0 12) (some (I 99 p0.toNatClampNeg)))) fun (zx1 : Int32) => some zx1)
set_option maxRecDepth 100000 in
set_option maxHeartbeats 4000000 in
theorem em_X12_wide {l : Launch} {D : va_G} {tc : Nat → ClassId} (hst : l.stackTraces = false) {I : pd_I} {J : pd_J} {Z : pd_R} {n : Nat} {p0 : Int32} (hn : 133 ≤ n)  {out : Int32} (hF : fn_X12_wide I p0 = some out) :
    pd_M l D tc yX12_wide (.code yX12_wide cX12_wide 2 (Option.some Jvm.ClassFile.FieldType.int)) rm_X12_wide [.ref 92, .int p0] I J (pd_RF Z) n (.ok (some (.int out))) I J (pd_RF Z) n := by
  refine pd_open (own := "PathDecoderModel") (ls0 := [some (.ref 92), some (.int p0)]) (by decide) rfl (Nat.le_of_ble_eq_true rfl) rfl rfl hst (fun cx hl hD htc C hE htab hnm => ?_)
  subst hl hD htc
  unfold fn_X12_wide at hF
  refine pd_aload_n C dX12_wide_0 rfl rfl ?_
  refine gr_12_6 C wd_5_131 (pd_lt (by decide) hn) sh_92 (rf_92_6 _) dX12_wide_1 ?_
  refine pd_iload_n C dX12_wide_4 rfl rfl ?_
  obtain ⟨zg1, hF⟩ := pd_gd_some hF
  refine pd_iald C (pd_lt (by decide) hn) sh_97 zg1 dX12_wide_5 ?_
  refine pd_iconst (v := 5) C dX12_wide_6 (by decide) ?_
  obtain ⟨zx1, hS, hF⟩ := pd_bd_some hF
  have hJ29 : pd_V cx 0 0 29 [none, none] [.int zx1] I J (pd_RF Z) n := by
    cases hF
    exact pd_iret C hE rfl rfl rfl ⟨by decide, by decide⟩ dX12_wide_29
  replace hF := hS
  clear hS
  refine pd_icmp_ne (tgt := 23) C dX12_wide_7 (by decide) (fun zc1 => ?_) (fun zc1 => ?_)
  · have hF := pd_f zc1 hF
    refine pd_aload_n C dX12_wide_23 rfl rfl ?_
    refine gr_12_8 C wd_5_133 (pd_lt (by decide) hn) sh_92 (rf_92_8 _) dX12_wide_24 ?_
    refine pd_iload_n C dX12_wide_27 rfl rfl ?_
    obtain ⟨zg2, hF⟩ := pd_gd_some hF
    refine pd_iald C (pd_lt (by decide) hn) sh_99 zg2 dX12_wide_28 ?_
    refine pd_wk (ls' := [none, none]) True.intro ?_
    have hF := hF.symm
    cases hF
    exact hJ29
  · have hF := pd_t zc1 hF
    refine pd_iconst (v := 2) C dX12_wide_10 (by decide) ?_
    refine pd_aload_n C dX12_wide_11 rfl rfl ?_
    refine gr_12_8 C wd_5_133 (pd_lt (by decide) hn) sh_92 (rf_92_8 _) dX12_wide_12 ?_
    refine pd_iload_n C dX12_wide_15 rfl rfl ?_
    obtain ⟨zg3, hF⟩ := pd_gd_some hF
    refine pd_iald C (pd_lt (by decide) hn) sh_99 zg3 dX12_wide_16 ?_
    refine pd_imul C dX12_wide_17 ?_
    refine pd_iconst (v := 1) C dX12_wide_18 (by decide) ?_
    refine pd_isub C dX12_wide_19 ?_
    refine pd_goto (tgt := 29) C dX12_wide_20 (by decide) ?_
    refine pd_wk (ls' := [none, none]) True.intro ?_
    have hF := hF.symm
    cases hF
    exact hJ29

def fl_X12_code_118 {O : Type} (zv1 : Int32) (kont : pd_I → Option O) : Nat → Int32 → pd_I → Option O
  | 0, _, _ => none
  | fu + 1, zx2, zI9 => if 4 ≤ zx2 then kont zI9 else (pd_gd (pd_in ((4 * zv1) + zx2) 48) (pd_let (pd_ui zI9 103 ((4 * zv1) + zx2).toNatClampNeg 1) fun zI11 => pd_let (zx2 + 1) fun zv2 => fl_X12_code_118 zv1 kont fu zv2 zI11))
set_option maxRecDepth 100000 in
set_option maxHeartbeats 4000000 in
theorem el_X12_code_118 {cx : pd_X} (C : pd_C cx "PathDecoderModel" cX12_code rm_X12_code) {zv1 : Int32} {J : pd_J} {Z : pd_R} {n : Nat} (hn : 133 ≤ n)  {O : Type} {kont : pd_I → Option O} {out : O} (K : ∀ (zI10 : pd_I), kont zI10 = some out → pd_V cx 0 0 143 [some (.ref 92), none, none, none, some (.int zv1), none] [] zI10 J (pd_RF Z) n) :
    ∀ (fu : Nat) (zx2 : Int32) (zI9 : pd_I), fl_X12_code_118 zv1 kont fu zx2 zI9 = some out → pd_V cx 0 0 118 [some (.ref 92), none, none, none, some (.int zv1), some (.int zx2)] [] zI9 J (pd_RF Z) n := by
  intro fu
  induction fu with
  | zero => intro zx2 zI9 hF; rw [fl_X12_code_118] at hF; cases hF
  | succ fu ih =>
    intro zx2 zI9 hF
    rw [fl_X12_code_118] at hF
    refine pd_iload C dX12_code_118 rfl ?_
    refine pd_iconst (v := 4) C dX12_code_120 (by decide) ?_
    refine pd_icmp_ge (tgt := 143) C dX12_code_121 (by decide) (fun zc1 => ?_) (fun zc1 => ?_)
    · have hF := pd_t zc1 hF
      refine pd_wk (ls' := [some (.ref 92), none, none, none, some (.int zv1), none]) (And.intro rfl (And.intro rfl True.intro)) ?_
      exact K _ hF
    · have hF := pd_f zc1 hF
      refine pd_aload_n C dX12_code_124 rfl rfl ?_
      refine gr_12_12 C wd_5_137 (pd_lt (by decide) hn) sh_92 (rf_92_12 _) dX12_code_125 ?_
      refine pd_iconst (v := 4) C dX12_code_128 (by decide) ?_
      refine pd_iload C dX12_code_129 rfl ?_
      refine pd_imul C dX12_code_131 ?_
      refine pd_iload C dX12_code_132 rfl ?_
      refine pd_iadd C dX12_code_134 ?_
      refine pd_iconst (v := 1) C dX12_code_135 (by decide) ?_
      obtain ⟨zg7, hF⟩ := pd_gd_some hF
      refine pd_iast C (pd_lt (by decide) hn) sh_103 zg7 dX12_code_136 ?_
      refine pd_memI (fun zI11 hzI11 => ?_)
      have hF := pd_let_at hF hzI11
      refine pd_iincG (zz := 1) C dX12_code_137 rfl (by decide) rfl (fun zv2 hzv2 => ?_)
      have hF := pd_let_at hF hzv2
      refine pd_lsE (ls' := [some (.ref 92), none, none, none, some (.int zv1), some (.int zv2)]) rfl ?_
      refine pd_goto (tgt := 118) C dX12_code_140 (by decide) ?_
      exact ih _ _ hF
def fl_X12_code_146 {O : Type} (zv1 : Int32) (kont : pd_I → Option O) : Nat → Int32 → pd_I → Option O
  | 0, _, _ => none
  | fu + 1, zx3, zI12 => if 8 ≤ zx3 then kont zI12 else (pd_gd (pd_in ((8 * zv1) + zx3) 96) (pd_let (pd_ui zI12 104 ((8 * zv1) + zx3).toNatClampNeg 0) fun zI14 => pd_let (zx3 + 1) fun zv3 => fl_X12_code_146 zv1 kont fu zv3 zI14))
set_option maxRecDepth 100000 in
set_option maxHeartbeats 4000000 in
theorem el_X12_code_146 {cx : pd_X} (C : pd_C cx "PathDecoderModel" cX12_code rm_X12_code) {zv1 : Int32} {J : pd_J} {Z : pd_R} {n : Nat} (hn : 133 ≤ n)  {O : Type} {kont : pd_I → Option O} {out : O} (K : ∀ (zI13 : pd_I), kont zI13 = some out → pd_V cx 0 0 173 [some (.ref 92), none, none, none, some (.int zv1), none] [] zI13 J (pd_RF Z) n) :
    ∀ (fu : Nat) (zx3 : Int32) (zI12 : pd_I), fl_X12_code_146 zv1 kont fu zx3 zI12 = some out → pd_V cx 0 0 146 [some (.ref 92), none, none, none, some (.int zv1), some (.int zx3)] [] zI12 J (pd_RF Z) n := by
  intro fu
  induction fu with
  | zero => intro zx3 zI12 hF; rw [fl_X12_code_146] at hF; cases hF
  | succ fu ih =>
    intro zx3 zI12 hF
    rw [fl_X12_code_146] at hF
    refine pd_iload C dX12_code_146 rfl ?_
    refine pd_bipush (v := 8) C dX12_code_148 (by decide) ?_
    refine pd_icmp_ge (tgt := 173) C dX12_code_150 (by decide) (fun zc2 => ?_) (fun zc2 => ?_)
    · have hF := pd_t zc2 hF
      refine pd_wk (ls' := [some (.ref 92), none, none, none, some (.int zv1), none]) (And.intro rfl (And.intro rfl True.intro)) ?_
      exact K _ hF
    · have hF := pd_f zc2 hF
      refine pd_aload_n C dX12_code_153 rfl rfl ?_
      refine gr_12_13 C wd_5_138 (pd_lt (by decide) hn) sh_92 (rf_92_13 _) dX12_code_154 ?_
      refine pd_bipush (v := 8) C dX12_code_157 (by decide) ?_
      refine pd_iload C dX12_code_159 rfl ?_
      refine pd_imul C dX12_code_161 ?_
      refine pd_iload C dX12_code_162 rfl ?_
      refine pd_iadd C dX12_code_164 ?_
      refine pd_iconst (v := 0) C dX12_code_165 (by decide) ?_
      obtain ⟨zg8, hF⟩ := pd_gd_some hF
      refine pd_iast C (pd_lt (by decide) hn) sh_104 zg8 dX12_code_166 ?_
      refine pd_memI (fun zI14 hzI14 => ?_)
      have hF := pd_let_at hF hzI14
      refine pd_iincG (zz := 1) C dX12_code_167 rfl (by decide) rfl (fun zv3 hzv3 => ?_)
      have hF := pd_let_at hF hzv3
      refine pd_lsE (ls' := [some (.ref 92), none, none, none, some (.int zv1), some (.int zv3)]) rfl ?_
      refine pd_goto (tgt := 146) C dX12_code_170 (by decide) ?_
      exact ih _ _ hF
def fn_X12_code (I : pd_I) (p0 : Int32) (p1 : Int32) (p2 : Int32) : Option (Int32 × pd_I) := pd_let (pd_ui I 92 0 0) fun zI1 => pd_bd (pd_bd (if p0 < 0 then some false else (if 5 < p0 then some false else (if p1 < 1 then some false else (if 6 < p1 then some false else (if p2 < 2 then some false else (if 4 < p2 then some false else (some true))))))) fun zc5 => if zc5 = true then some 1 else (some 0)) fun (zx1 : Int32) => pd_bd2 (fn_X12_right zI1 zx1 1) fun zr1 zI2 => if zr1 = 0 then some (0, zI2) else (if (zI2 92 5) = 12 then some ((-1), zI2) else (pd_let (zI2 92 5) fun zv1 => pd_gd (pd_in zv1 12) (pd_let (pd_ui zI2 97 zv1.toNatClampNeg p0) fun zI3 => pd_gd (pd_in zv1 12) (pd_let (pd_ui zI3 98 zv1.toNatClampNeg p1) fun zI4 => pd_gd (pd_in zv1 12) (pd_let (pd_ui zI4 99 zv1.toNatClampNeg p2) fun zI5 => pd_gd (pd_in zv1 12) (pd_let (pd_ui zI5 100 zv1.toNatClampNeg 0) fun zI6 => pd_gd (pd_in zv1 12) (pd_let (pd_ui zI6 101 zv1.toNatClampNeg 1) fun zI7 => pd_gd (pd_in zv1 12) (pd_let (pd_ui zI7 102 zv1.toNatClampNeg 1) fun zI8 => fl_X12_code_118 zv1 (fun zI10 => fl_X12_code_146 zv1 (fun zI13 => pd_bd (fn_X12_wide zI13 zv1) fun zr2 => pd_gd (pd_in (8 * zv1) 96) (pd_let (pd_ui zI13 104 (8 * zv1).toNatClampNeg (((1 : Int32) <<< (zr2 &&& 31)) - 1)) fun zI15 => pd_let (pd_ui zI15 92 5 ((zI15 92 5) + 1)) fun zI16 => some (zv1, zI16))) pd_FU 0 zI10) pd_FU 0 zI8))))))))
set_option maxRecDepth 100000 in
set_option maxHeartbeats 4000000 in
theorem em_X12_code {l : Launch} {D : va_G} {tc : Nat → ClassId} (hst : l.stackTraces = false) {I : pd_I} {J : pd_J} {Z : pd_R} {n : Nat} {p0 : Int32} {p1 : Int32} {p2 : Int32} (hn : 133 ≤ n)  {out : Int32 × pd_I} (hF : fn_X12_code I p0 p1 p2 = some out) :
    pd_M l D tc yX12_code (.code yX12_code cX12_code 6 (Option.some Jvm.ClassFile.FieldType.int)) rm_X12_code [.ref 92, .int p0, .int p1, .int p2] I J (pd_RF Z) n (.ok (some (.int out.1))) out.2 J (pd_RF Z) n := by
  refine pd_open (own := "PathDecoderModel") (ls0 := [some (.ref 92), some (.int p0), some (.int p1), some (.int p2), none, none]) (by decide) rfl (Nat.le_of_ble_eq_true rfl) rfl rfl hst (fun cx hl hD htc C hE htab hnm => ?_)
  subst hl hD htc
  unfold fn_X12_code at hF
  refine pd_aload_n C dX12_code_0 rfl rfl ?_
  refine pd_iconst (v := 0) C dX12_code_1 (by decide) ?_
  refine pi_12_0 C wd_5_125 rfl rfl (pd_lt (by decide) hn) sh_92 dX12_code_2 ?_
  refine pd_memI (fun zI1 hzI1 => ?_)
  have hF := pd_let_at hF hzI1
  refine pd_aload_n C dX12_code_5 rfl rfl ?_
  refine pd_iload_n C dX12_code_6 rfl rfl ?_
  obtain ⟨zx1, hS, hF⟩ := pd_bd_some hF
  have hJ41 : pd_V cx 0 0 41 [some (.ref 92), some (.int p0), some (.int p1), some (.int p2), none, none] [.int zx1, .ref 92] zI1 J (pd_RF Z) n := by
    refine pd_iconst (v := 1) C dX12_code_41 (by decide) ?_
    obtain ⟨zr1, zI2, zh1, hF⟩ := pd_bd2_some hF
    refine pd_callV C [.int zx1, .int 1] [] (em_X12_right (pd_C_st C) hn  zh1) mw_X12_right wd_6_30 rfl (by decide) (pd_lt (by decide) hn) sh_92 ⟨by decide, by decide, by decide, by decide⟩ rfl (Nat.le_of_ble_eq_true rfl) pd_oldL_same (fun _ _ => pd_old_same _) dX12_code_42 (stk' := [.int zr1]) rfl ?_
    refine pd_if_ne (tgt := 50) C dX12_code_45 (by decide) (fun zc4 => ?_) (fun zc4 => ?_)
    · have hF := pd_f zc4 hF
      refine pd_aload_n C dX12_code_50 rfl rfl ?_
      refine gi_12_5 C wd_5_130 (pd_lt (by decide) hn) sh_92 dX12_code_51 ?_
      refine pd_bipush (v := 12) C dX12_code_54 (by decide) ?_
      refine pd_icmp_ne (tgt := 61) C dX12_code_56 (by decide) (fun zc3 => ?_) (fun zc3 => ?_)
      · have hF := pd_f zc3 hF
        refine pd_aload_n C dX12_code_61 rfl rfl ?_
        refine gi_12_5 C wd_5_130 (pd_lt (by decide) hn) sh_92 dX12_code_62 ?_
        refine pd_topi (fun zv1 hzv1 => ?_)
        have hF := pd_let_at hF hzv1
        refine pd_istore (ls' := [some (.ref 92), some (.int p0), some (.int p1), some (.int p2), some (.int zv1), none]) C dX12_code_65 (Nat.le_of_ble_eq_true rfl) rfl rfl ?_
        refine pd_aload_n C dX12_code_67 rfl rfl ?_
        refine gr_12_6 C wd_5_131 (pd_lt (by decide) hn) sh_92 (rf_92_6 _) dX12_code_68 ?_
        refine pd_iload C dX12_code_71 rfl ?_
        refine pd_iload_n C dX12_code_73 rfl rfl ?_
        obtain ⟨zg1, hF⟩ := pd_gd_some hF
        refine pd_iast C (pd_lt (by decide) hn) sh_97 zg1 dX12_code_74 ?_
        refine pd_memI (fun zI3 hzI3 => ?_)
        have hF := pd_let_at hF hzI3
        refine pd_aload_n C dX12_code_75 rfl rfl ?_
        refine gr_12_7 C wd_5_132 (pd_lt (by decide) hn) sh_92 (rf_92_7 _) dX12_code_76 ?_
        refine pd_iload C dX12_code_79 rfl ?_
        refine pd_iload_n C dX12_code_81 rfl rfl ?_
        obtain ⟨zg2, hF⟩ := pd_gd_some hF
        refine pd_iast C (pd_lt (by decide) hn) sh_98 zg2 dX12_code_82 ?_
        refine pd_memI (fun zI4 hzI4 => ?_)
        have hF := pd_let_at hF hzI4
        refine pd_aload_n C dX12_code_83 rfl rfl ?_
        refine gr_12_8 C wd_5_133 (pd_lt (by decide) hn) sh_92 (rf_92_8 _) dX12_code_84 ?_
        refine pd_iload C dX12_code_87 rfl ?_
        refine pd_iload_n C dX12_code_89 rfl rfl ?_
        obtain ⟨zg3, hF⟩ := pd_gd_some hF
        refine pd_iast C (pd_lt (by decide) hn) sh_99 zg3 dX12_code_90 ?_
        refine pd_memI (fun zI5 hzI5 => ?_)
        have hF := pd_let_at hF hzI5
        refine pd_aload_n C dX12_code_91 rfl rfl ?_
        refine gr_12_9 C wd_5_134 (pd_lt (by decide) hn) sh_92 (rf_92_9 _) dX12_code_92 ?_
        refine pd_iload C dX12_code_95 rfl ?_
        refine pd_iconst (v := 0) C dX12_code_97 (by decide) ?_
        obtain ⟨zg4, hF⟩ := pd_gd_some hF
        refine pd_iast C (pd_lt (by decide) hn) sh_100 zg4 dX12_code_98 ?_
        refine pd_memI (fun zI6 hzI6 => ?_)
        have hF := pd_let_at hF hzI6
        refine pd_aload_n C dX12_code_99 rfl rfl ?_
        refine gr_12_10 C wd_5_135 (pd_lt (by decide) hn) sh_92 (rf_92_10 _) dX12_code_100 ?_
        refine pd_iload C dX12_code_103 rfl ?_
        refine pd_iconst (v := 1) C dX12_code_105 (by decide) ?_
        obtain ⟨zg5, hF⟩ := pd_gd_some hF
        refine pd_iast C (pd_lt (by decide) hn) sh_101 zg5 dX12_code_106 ?_
        refine pd_memI (fun zI7 hzI7 => ?_)
        have hF := pd_let_at hF hzI7
        refine pd_aload_n C dX12_code_107 rfl rfl ?_
        refine gr_12_11 C wd_5_136 (pd_lt (by decide) hn) sh_92 (rf_92_11 _) dX12_code_108 ?_
        refine pd_iload C dX12_code_111 rfl ?_
        refine pd_iconst (v := 1) C dX12_code_113 (by decide) ?_
        obtain ⟨zg6, hF⟩ := pd_gd_some hF
        refine pd_iast C (pd_lt (by decide) hn) sh_102 zg6 dX12_code_114 ?_
        refine pd_memI (fun zI8 hzI8 => ?_)
        have hF := pd_let_at hF hzI8
        refine pd_iconst (v := 0) C dX12_code_115 (by decide) ?_
        refine pd_istore (ls' := [some (.ref 92), some (.int p0), some (.int p1), some (.int p2), some (.int zv1), some (.int 0)]) C dX12_code_116 (Nat.le_of_ble_eq_true rfl) rfl rfl ?_
        refine pd_wk (ls' := [some (.ref 92), none, none, none, some (.int zv1), some (.int 0)]) (And.intro rfl (And.intro rfl (And.intro rfl True.intro))) ?_
        refine el_X12_code_118 C hn (fun zI10 hF => ?_) pd_FU _ _ hF
        refine pd_iconst (v := 0) C dX12_code_143 (by decide) ?_
        refine pd_istore (ls' := [some (.ref 92), none, none, none, some (.int zv1), some (.int 0)]) C dX12_code_144 (Nat.le_of_ble_eq_true rfl) rfl rfl ?_
        refine el_X12_code_146 C hn (fun zI13 hF => ?_) pd_FU _ _ hF
        refine pd_aload_n C dX12_code_173 rfl rfl ?_
        refine gr_12_13 C wd_5_138 (pd_lt (by decide) hn) sh_92 (rf_92_13 _) dX12_code_174 ?_
        refine pd_bipush (v := 8) C dX12_code_177 (by decide) ?_
        refine pd_iload C dX12_code_179 rfl ?_
        refine pd_imul C dX12_code_181 ?_
        refine pd_iconst (v := 1) C dX12_code_182 (by decide) ?_
        refine pd_aload_n C dX12_code_183 rfl rfl ?_
        refine pd_iload C dX12_code_184 rfl ?_
        obtain ⟨zr2, zh2, hF⟩ := pd_bd_some hF
        refine pd_callV C [.int zv1] [.int 1, .int (8 * zv1), .ref 104] (em_X12_wide (pd_C_st C) hn  zh2) mw_X12_wide wd_6_61 rfl (by decide) (pd_lt (by decide) hn) sh_92 ⟨by decide, by decide, by decide, by decide⟩ rfl (Nat.le_of_ble_eq_true rfl) pd_oldL_same (fun _ _ => pd_old_same _) dX12_code_186 (stk' := [.int zr2, .int 1, .int (8 * zv1), .ref 104]) rfl ?_
        refine pd_ishl C dX12_code_189 ?_
        refine pd_iconst (v := 1) C dX12_code_190 (by decide) ?_
        refine pd_isub C dX12_code_191 ?_
        obtain ⟨zg9, hF⟩ := pd_gd_some hF
        refine pd_iast C (pd_lt (by decide) hn) sh_104 zg9 dX12_code_192 ?_
        refine pd_memI (fun zI15 hzI15 => ?_)
        have hF := pd_let_at hF hzI15
        refine pd_aload_n C dX12_code_193 rfl rfl ?_
        refine pd_dup C dX12_code_194 rfl ?_
        refine gi_12_5 C wd_5_130 (pd_lt (by decide) hn) sh_92 dX12_code_195 ?_
        refine pd_iconst (v := 1) C dX12_code_198 (by decide) ?_
        refine pd_iadd C dX12_code_199 ?_
        refine pi_12_5 C wd_5_130 rfl rfl (pd_lt (by decide) hn) sh_92 dX12_code_200 ?_
        refine pd_memI (fun zI16 hzI16 => ?_)
        have hF := pd_let_at hF hzI16
        refine pd_iload C dX12_code_203 rfl ?_
        cases hF
        exact pd_iret C hE rfl rfl rfl ⟨by decide, by decide⟩ dX12_code_205
      · have hF := pd_t zc3 hF
        refine pd_iconst (v := (-1)) C dX12_code_59 (by decide) ?_
        cases hF
        exact pd_iret C hE rfl rfl rfl ⟨by decide, by decide⟩ dX12_code_60
    · have hF := pd_t zc4 hF
      refine pd_iconst (v := 0) C dX12_code_48 (by decide) ?_
      cases hF
      exact pd_iret C hE rfl rfl rfl ⟨by decide, by decide⟩ dX12_code_49
  replace hF := hS
  clear hS
  obtain ⟨zc5, hS, hF⟩ := pd_bd_some hF
  have hTzc5 : zc5 = true → pd_V cx 0 0 36 [some (.ref 92), some (.int p0), some (.int p1), some (.int p2), none, none] [.ref 92] zI1 J (pd_RF Z) n := by
    intro hc
    have hF := pd_t hc hF
    refine pd_iconst (v := 1) C dX12_code_36 (by decide) ?_
    refine pd_goto (tgt := 41) C dX12_code_37 (by decide) ?_
    have hF := hF.symm
    cases hF
    exact hJ41
  have hEzc5 : zc5 = false → pd_V cx 0 0 40 [some (.ref 92), some (.int p0), some (.int p1), some (.int p2), none, none] [.ref 92] zI1 J (pd_RF Z) n := by
    intro hc
    have hF := pd_bf hc hF
    refine pd_iconst (v := 0) C dX12_code_40 (by decide) ?_
    have hF := hF.symm
    cases hF
    exact hJ41
  replace hF := hS
  clear hS
  refine pd_if_lt (tgt := 40) C dX12_code_7 (by decide) (fun zc11 => ?_) (fun zc11 => ?_)
  · have hF := pd_t zc11 hF
    cases hF
    exact hEzc5 rfl
  · have hF := pd_f zc11 hF
    refine pd_iload_n C dX12_code_10 rfl rfl ?_
    refine pd_iconst (v := 5) C dX12_code_11 (by decide) ?_
    refine pd_icmp_gt (tgt := 40) C dX12_code_12 (by decide) (fun zc10 => ?_) (fun zc10 => ?_)
    · have hF := pd_t zc10 hF
      cases hF
      exact hEzc5 rfl
    · have hF := pd_f zc10 hF
      refine pd_iload_n C dX12_code_15 rfl rfl ?_
      refine pd_iconst (v := 1) C dX12_code_16 (by decide) ?_
      refine pd_icmp_lt (tgt := 40) C dX12_code_17 (by decide) (fun zc9 => ?_) (fun zc9 => ?_)
      · have hF := pd_t zc9 hF
        cases hF
        exact hEzc5 rfl
      · have hF := pd_f zc9 hF
        refine pd_iload_n C dX12_code_20 rfl rfl ?_
        refine pd_bipush (v := 6) C dX12_code_21 (by decide) ?_
        refine pd_icmp_gt (tgt := 40) C dX12_code_23 (by decide) (fun zc8 => ?_) (fun zc8 => ?_)
        · have hF := pd_t zc8 hF
          cases hF
          exact hEzc5 rfl
        · have hF := pd_f zc8 hF
          refine pd_iload_n C dX12_code_26 rfl rfl ?_
          refine pd_iconst (v := 2) C dX12_code_27 (by decide) ?_
          refine pd_icmp_lt (tgt := 40) C dX12_code_28 (by decide) (fun zc7 => ?_) (fun zc7 => ?_)
          · have hF := pd_t zc7 hF
            cases hF
            exact hEzc5 rfl
          · have hF := pd_f zc7 hF
            refine pd_iload_n C dX12_code_31 rfl rfl ?_
            refine pd_iconst (v := 4) C dX12_code_32 (by decide) ?_
            refine pd_icmp_gt (tgt := 40) C dX12_code_33 (by decide) (fun zc6 => ?_) (fun zc6 => ?_)
            · have hF := pd_t zc6 hF
              cases hF
              exact hEzc5 rfl
            · have hF := pd_f zc6 hF
              cases hF
              exact hTzc5 rfl

def fn_X12_isCode (I : pd_I) (p0 : Int32) : Option (Int32 × pd_I) := pd_let (pd_ui I 92 0 0) fun zI1 => pd_bd (pd_bd (if p0 < 0 then some false else (if (zI1 92 5) ≤ p0 then some false else (some true))) fun zc1 => if zc1 = true then some 1 else (some 0)) fun (zx1 : Int32) => pd_bd2 (fn_X12_right zI1 zx1 1) fun zr1 zI2 => pd_gd (pd_bo zr1) (some (zr1, zI2))
set_option maxRecDepth 100000 in
set_option maxHeartbeats 4000000 in
theorem em_X12_isCode {l : Launch} {D : va_G} {tc : Nat → ClassId} (hst : l.stackTraces = false) {I : pd_I} {J : pd_J} {Z : pd_R} {n : Nat} {p0 : Int32} (hn : 133 ≤ n)  {out : Int32 × pd_I} (hF : fn_X12_isCode I p0 = some out) :
    pd_M l D tc yX12_isCode (.code yX12_isCode cX12_isCode 2 (Option.some Jvm.ClassFile.FieldType.boolean)) rm_X12_isCode [.ref 92, .int p0] I J (pd_RF Z) n (.ok (some (.int out.1))) out.2 J (pd_RF Z) n := by
  refine pd_open (own := "PathDecoderModel") (ls0 := [some (.ref 92), some (.int p0)]) (by decide) rfl (Nat.le_of_ble_eq_true rfl) rfl rfl hst (fun cx hl hD htc C hE htab hnm => ?_)
  subst hl hD htc
  unfold fn_X12_isCode at hF
  refine pd_aload_n C dX12_isCode_0 rfl rfl ?_
  refine pd_iconst (v := 0) C dX12_isCode_1 (by decide) ?_
  refine pi_12_0 C wd_5_125 rfl rfl (pd_lt (by decide) hn) sh_92 dX12_isCode_2 ?_
  refine pd_memI (fun zI1 hzI1 => ?_)
  have hF := pd_let_at hF hzI1
  refine pd_aload_n C dX12_isCode_5 rfl rfl ?_
  refine pd_iload_n C dX12_isCode_6 rfl rfl ?_
  obtain ⟨zx1, hS, hF⟩ := pd_bd_some hF
  have hJ23 : pd_V cx 0 0 23 [none, none] [.int zx1, .ref 92] zI1 J (pd_RF Z) n := by
    refine pd_iconst (v := 1) C dX12_isCode_23 (by decide) ?_
    obtain ⟨zr1, zI2, zh1, hF⟩ := pd_bd2_some hF
    refine pd_callV C [.int zx1, .int 1] [] (em_X12_right (pd_C_st C) hn  zh1) mw_X12_right wd_6_30 rfl (by decide) (pd_lt (by decide) hn) sh_92 ⟨by decide, by decide, by decide, by decide⟩ rfl (Nat.le_of_ble_eq_true rfl) pd_oldL_same (fun _ _ => pd_old_same _) dX12_isCode_24 (stk' := [.int zr1]) rfl ?_
    obtain ⟨zg1, hF⟩ := pd_gd_some hF
    cases hF
    exact pd_iret C hE rfl rfl (pd_bo_nar zg1) ⟨by decide, by decide⟩ dX12_isCode_27
  replace hF := hS
  clear hS
  obtain ⟨zc1, hS, hF⟩ := pd_bd_some hF
  have hTzc1 : zc1 = true → pd_V cx 0 0 18 [some (.ref 92), some (.int p0)] [.ref 92] zI1 J (pd_RF Z) n := by
    intro hc
    have hF := pd_t hc hF
    refine pd_iconst (v := 1) C dX12_isCode_18 (by decide) ?_
    refine pd_goto (tgt := 23) C dX12_isCode_19 (by decide) ?_
    refine pd_wk (ls' := [none, none]) True.intro ?_
    have hF := hF.symm
    cases hF
    exact hJ23
  have hEzc1 : zc1 = false → pd_V cx 0 0 22 [some (.ref 92), some (.int p0)] [.ref 92] zI1 J (pd_RF Z) n := by
    intro hc
    have hF := pd_bf hc hF
    refine pd_iconst (v := 0) C dX12_isCode_22 (by decide) ?_
    refine pd_wk (ls' := [none, none]) True.intro ?_
    have hF := hF.symm
    cases hF
    exact hJ23
  replace hF := hS
  clear hS
  refine pd_if_lt (tgt := 22) C dX12_isCode_7 (by decide) (fun zc3 => ?_) (fun zc3 => ?_)
  · have hF := pd_t zc3 hF
    cases hF
    exact hEzc1 rfl
  · have hF := pd_f zc3 hF
    refine pd_iload_n C dX12_isCode_10 rfl rfl ?_
    refine pd_aload_n C dX12_isCode_11 rfl rfl ?_
    refine gi_12_5 C wd_5_130 (pd_lt (by decide) hn) sh_92 dX12_isCode_12 ?_
    refine pd_icmp_ge (tgt := 22) C dX12_isCode_15 (by decide) (fun zc2 => ?_) (fun zc2 => ?_)
    · have hF := pd_t zc2 hF
      cases hF
      exact hEzc1 rfl
    · have hF := pd_f zc2 hF
      cases hF
      exact hTzc1 rfl

def fn_X12_fits (p0 : Int32) (p1 : Int32) : Option Int32 := pd_bd (pd_bd (if p0 < 0 then some false else (if ((1 : Int32) <<< (p1 &&& 31)) ≤ p0 then some false else (some true))) fun zc1 => if zc1 = true then some 1 else (some 0)) fun (zx1 : Int32) => pd_gd (pd_bo zx1) (some zx1)
set_option maxRecDepth 100000 in
set_option maxHeartbeats 4000000 in
theorem em_X12_fits {l : Launch} {D : va_G} {tc : Nat → ClassId} (hst : l.stackTraces = false) {I : pd_I} {J : pd_J} {Z : pd_R} {n : Nat} {p0 : Int32} {p1 : Int32} (hn : 133 ≤ n)  {out : Int32} (hF : fn_X12_fits p0 p1 = some out) :
    pd_M l D tc yX12_fits (.code yX12_fits cX12_fits 2 (Option.some Jvm.ClassFile.FieldType.boolean)) rm_X12_fits [.int p0, .int p1] I J (pd_RF Z) n (.ok (some (.int out))) I J (pd_RF Z) n := by
  refine pd_open (own := "PathDecoderModel") (ls0 := [some (.int p0), some (.int p1)]) (by decide) rfl (Nat.le_of_ble_eq_true rfl) rfl rfl hst (fun cx hl hD htc C hE htab hnm => ?_)
  subst hl hD htc
  unfold fn_X12_fits at hF
  refine pd_iload_n C dX12_fits_0 rfl rfl ?_
  obtain ⟨zx1, hS, hF⟩ := pd_bd_some hF
  have hJ16 : pd_V cx 0 0 16 [none, none] [.int zx1] I J (pd_RF Z) n := by
    obtain ⟨zg1, hF⟩ := pd_gd_some hF
    cases hF
    exact pd_iret C hE rfl rfl (pd_bo_nar zg1) ⟨by decide, by decide⟩ dX12_fits_16
  replace hF := hS
  clear hS
  obtain ⟨zc1, hS, hF⟩ := pd_bd_some hF
  have hTzc1 : zc1 = true → pd_V cx 0 0 11 [some (.int p0), some (.int p1)] [] I J (pd_RF Z) n := by
    intro hc
    have hF := pd_t hc hF
    refine pd_iconst (v := 1) C dX12_fits_11 (by decide) ?_
    refine pd_goto (tgt := 16) C dX12_fits_12 (by decide) ?_
    refine pd_wk (ls' := [none, none]) True.intro ?_
    have hF := hF.symm
    cases hF
    exact hJ16
  have hEzc1 : zc1 = false → pd_V cx 0 0 15 [some (.int p0), some (.int p1)] [] I J (pd_RF Z) n := by
    intro hc
    have hF := pd_bf hc hF
    refine pd_iconst (v := 0) C dX12_fits_15 (by decide) ?_
    refine pd_wk (ls' := [none, none]) True.intro ?_
    have hF := hF.symm
    cases hF
    exact hJ16
  replace hF := hS
  clear hS
  refine pd_if_lt (tgt := 15) C dX12_fits_1 (by decide) (fun zc3 => ?_) (fun zc3 => ?_)
  · have hF := pd_t zc3 hF
    cases hF
    exact hEzc1 rfl
  · have hF := pd_f zc3 hF
    refine pd_iload_n C dX12_fits_4 rfl rfl ?_
    refine pd_iconst (v := 1) C dX12_fits_5 (by decide) ?_
    refine pd_iload_n C dX12_fits_6 rfl rfl ?_
    refine pd_ishl C dX12_fits_7 ?_
    refine pd_icmp_ge (tgt := 15) C dX12_fits_8 (by decide) (fun zc2 => ?_) (fun zc2 => ?_)
    · have hF := pd_t zc2 hF
      cases hF
      exact hEzc1 rfl
    · have hF := pd_f zc2 hF
      cases hF
      exact hTzc1 rfl

def fn_X12_tap (I : pd_I) (p0 : Int32) (p1 : Int32) (p2 : Int32) : Option (Int32 × pd_I) := pd_bd2 (fn_X12_isCode I p0) fun zr1 zI1 => pd_jn (fun (zI2 : pd_I) => some (0, zI2)) fun zj1 => if zr1 = 0 then zj1 zI1 else (pd_bd (if p1 = (-1) then pd_gd (pd_in p0 12) (if (zI1 97 p0.toNatClampNeg) < 1 then some 0 else (some 1)) else (pd_bd (if p1 < 0 then some false else (pd_gd (pd_in p0 12) (if (zI1 99 p0.toNatClampNeg) ≤ p1 then some false else (some true)))) fun zc6 => if zc6 = true then some 1 else (some 0))) fun (zx1 : Int32) => pd_bd2 (fn_X12_right zI1 zx1 2) fun zr2 zI3 => if zr2 = 0 then zj1 zI3 else (pd_bd (if p1 = (-1) then pd_gd (pd_in p0 12) (some (zI3 98 p0.toNatClampNeg)) else (pd_gd (pd_in p0 12) (some ((zI3 98 p0.toNatClampNeg) + 1)))) fun (zx2 : Int32) => pd_bd (fn_X12_fits p2 zx2) fun zr3 => pd_bd2 (fn_X12_right zI3 zr3 3) fun zr4 zI4 => if zr4 = 0 then some (0, zI4) else (pd_bd (if p1 = (-1) then pd_gd (pd_in p0 12) (some (zI4 100 p0.toNatClampNeg)) else (pd_gd (pd_in ((4 * p0) + p1) 48) (some (zI4 103 ((4 * p0) + p1).toNatClampNeg)))) fun (zx3 : Int32) => pd_bd (if p1 = (-1) then pd_gd (pd_in p0 12) (pd_let (pd_ui zI4 100 p0.toNatClampNeg p2) fun zI7 => some zI7) else (pd_gd (pd_in ((4 * p0) + p1) 48) (pd_let (pd_ui zI4 103 ((4 * p0) + p1).toNatClampNeg p2) fun zI6 => some zI6))) fun (zI5 : pd_I) => some (zx3, zI5))))
set_option maxRecDepth 100000 in
set_option maxHeartbeats 4000000 in
theorem em_X12_tap {l : Launch} {D : va_G} {tc : Nat → ClassId} (hst : l.stackTraces = false) {I : pd_I} {J : pd_J} {Z : pd_R} {n : Nat} {p0 : Int32} {p1 : Int32} {p2 : Int32} (hn : 133 ≤ n)  {out : Int32 × pd_I} (hF : fn_X12_tap I p0 p1 p2 = some out) :
    pd_M l D tc yX12_tap (.code yX12_tap cX12_tap 5 (Option.some Jvm.ClassFile.FieldType.int)) rm_X12_tap [.ref 92, .int p0, .int p1, .int p2] I J (pd_RF Z) n (.ok (some (.int out.1))) out.2 J (pd_RF Z) n := by
  refine pd_open (own := "PathDecoderModel") (ls0 := [some (.ref 92), some (.int p0), some (.int p1), some (.int p2), none]) (by decide) rfl (Nat.le_of_ble_eq_true rfl) rfl rfl hst (fun cx hl hD htc C hE htab hnm => ?_)
  subst hl hD htc
  unfold fn_X12_tap at hF
  refine pd_aload_n C dX12_tap_0 rfl rfl ?_
  refine pd_iload_n C dX12_tap_1 rfl rfl ?_
  obtain ⟨zr1, zI1, zh1, hF⟩ := pd_bd2_some hF
  refine pd_callV C [.int p0] [] (em_X12_isCode (pd_C_st C) hn  zh1) mw_X12_isCode wd_6_69 rfl (by decide) (pd_lt (by decide) hn) sh_92 ⟨by decide, by decide, by decide, by decide⟩ rfl (Nat.le_of_ble_eq_true rfl) pd_oldL_same (fun _ _ => pd_old_same _) dX12_tap_2 (stk' := [.int zr1]) rfl ?_
  refine pd_jn_use hF (fun j => ∀ (zI2 : pd_I), j zI2 = some out → pd_V cx 0 0 58 [none, none, none, none, none] [] zI2 J (pd_RF Z) n) (fun zI2 hF => ?_) (fun zj1 hzj1 hF => ?_)
  · refine pd_iconst (v := 0) C dX12_tap_58 (by decide) ?_
    cases hF
    exact pd_iret C hE rfl rfl rfl ⟨by decide, by decide⟩ dX12_tap_59
  · refine pd_if_eq (tgt := 58) C dX12_tap_5 (by decide) (fun zc11 => ?_) (fun zc11 => ?_)
    · have hF := pd_t zc11 hF
      refine pd_wk (ls' := [none, none, none, none, none]) True.intro ?_
      exact hzj1 _ hF
    · have hF := pd_f zc11 hF
      refine pd_aload_n C dX12_tap_8 rfl rfl ?_
      refine pd_iload_n C dX12_tap_9 rfl rfl ?_
      refine pd_iconst (v := (-1)) C dX12_tap_10 (by decide) ?_
      obtain ⟨zx1, hS, hF⟩ := pd_bd_some hF
      have hJ51 : pd_V cx 0 0 51 [some (.ref 92), some (.int p0), some (.int p1), some (.int p2), none] [.int zx1, .ref 92] zI1 J (pd_RF Z) n := by
        refine pd_iconst (v := 2) C dX12_tap_51 (by decide) ?_
        obtain ⟨zr2, zI3, zh2, hF⟩ := pd_bd2_some hF
        refine pd_callV C [.int zx1, .int 2] [] (em_X12_right (pd_C_st C) hn  zh2) mw_X12_right wd_6_30 rfl (by decide) (pd_lt (by decide) hn) sh_92 ⟨by decide, by decide, by decide, by decide⟩ rfl (Nat.le_of_ble_eq_true rfl) pd_oldL_same (fun _ _ => pd_old_same _) dX12_tap_52 (stk' := [.int zr2]) rfl ?_
        refine pd_if_ne (tgt := 60) C dX12_tap_55 (by decide) (fun zc5 => ?_) (fun zc5 => ?_)
        · have hF := pd_f zc5 hF
          refine pd_aload_n C dX12_tap_60 rfl rfl ?_
          refine pd_iload_n C dX12_tap_61 rfl rfl ?_
          refine pd_iload_n C dX12_tap_62 rfl rfl ?_
          refine pd_iconst (v := (-1)) C dX12_tap_63 (by decide) ?_
          obtain ⟨zx2, hS, hF⟩ := pd_bd_some hF
          have hJ84 : pd_V cx 0 0 84 [some (.ref 92), some (.int p0), some (.int p1), some (.int p2), none] [.int zx2, .int p2, .ref 92] zI3 J (pd_RF Z) n := by
            obtain ⟨zr3, zh3, hF⟩ := pd_bd_some hF
            refine pd_callS C [.int p2, .int zx2] [.ref 92] (em_X12_fits (pd_C_st C) hn  zh3) mw_X12_fits wd_6_73 ⟨by decide, by decide, by decide, by decide⟩ rfl (Nat.le_of_ble_eq_true rfl) pd_oldL_same (fun _ _ => pd_old_same _) dX12_tap_84 (stk' := [.int zr3, .ref 92]) rfl ?_
            refine pd_iconst (v := 3) C dX12_tap_87 (by decide) ?_
            obtain ⟨zr4, zI4, zh4, hF⟩ := pd_bd2_some hF
            refine pd_callV C [.int zr3, .int 3] [] (em_X12_right (pd_C_st C) hn  zh4) mw_X12_right wd_6_30 rfl (by decide) (pd_lt (by decide) hn) sh_92 ⟨by decide, by decide, by decide, by decide⟩ rfl (Nat.le_of_ble_eq_true rfl) pd_oldL_same (fun _ _ => pd_old_same _) dX12_tap_88 (stk' := [.int zr4]) rfl ?_
            refine pd_if_ne (tgt := 96) C dX12_tap_91 (by decide) (fun zc3 => ?_) (fun zc3 => ?_)
            · have hF := pd_f zc3 hF
              refine pd_iload_n C dX12_tap_96 rfl rfl ?_
              refine pd_iconst (v := (-1)) C dX12_tap_97 (by decide) ?_
              obtain ⟨zx3, hS, hF⟩ := pd_bd_some hF
              have hJ120 : pd_V cx 0 0 120 [some (.ref 92), some (.int p0), some (.int p1), some (.int p2), none] [.int zx3] zI4 J (pd_RF Z) n := by
                refine pd_istore (ls' := [some (.ref 92), some (.int p0), some (.int p1), some (.int p2), some (.int zx3)]) C dX12_tap_120 (Nat.le_of_ble_eq_true rfl) rfl rfl ?_
                refine pd_iload_n C dX12_tap_122 rfl rfl ?_
                refine pd_iconst (v := (-1)) C dX12_tap_123 (by decide) ?_
                obtain ⟨zI5, hS, hF⟩ := pd_bd_some hF
                have hJ148 : pd_V cx 0 0 148 [none, none, none, none, some (.int zx3)] [] zI5 J (pd_RF Z) n := by
                  refine pd_iload C dX12_tap_148 rfl ?_
                  cases hF
                  exact pd_iret C hE rfl rfl rfl ⟨by decide, by decide⟩ dX12_tap_150
                replace hF := hS
                clear hS
                refine pd_icmp_ne (tgt := 137) C dX12_tap_124 (by decide) (fun zc1 => ?_) (fun zc1 => ?_)
                · have hF := pd_f zc1 hF
                  refine pd_aload_n C dX12_tap_137 rfl rfl ?_
                  refine gr_12_12 C wd_5_137 (pd_lt (by decide) hn) sh_92 (rf_92_12 _) dX12_tap_138 ?_
                  refine pd_iconst (v := 4) C dX12_tap_141 (by decide) ?_
                  refine pd_iload_n C dX12_tap_142 rfl rfl ?_
                  refine pd_imul C dX12_tap_143 ?_
                  refine pd_iload_n C dX12_tap_144 rfl rfl ?_
                  refine pd_iadd C dX12_tap_145 ?_
                  refine pd_iload_n C dX12_tap_146 rfl rfl ?_
                  obtain ⟨zg1, hF⟩ := pd_gd_some hF
                  refine pd_iast C (pd_lt (by decide) hn) sh_103 zg1 dX12_tap_147 ?_
                  refine pd_memI (fun zI6 hzI6 => ?_)
                  have hF := pd_let_at hF hzI6
                  refine pd_wk (ls' := [none, none, none, none, some (.int zx3)]) (And.intro rfl True.intro) ?_
                  have hF := hF.symm
                  cases hF
                  exact hJ148
                · have hF := pd_t zc1 hF
                  refine pd_aload_n C dX12_tap_127 rfl rfl ?_
                  refine gr_12_9 C wd_5_134 (pd_lt (by decide) hn) sh_92 (rf_92_9 _) dX12_tap_128 ?_
                  refine pd_iload_n C dX12_tap_131 rfl rfl ?_
                  refine pd_iload_n C dX12_tap_132 rfl rfl ?_
                  obtain ⟨zg2, hF⟩ := pd_gd_some hF
                  refine pd_iast C (pd_lt (by decide) hn) sh_100 zg2 dX12_tap_133 ?_
                  refine pd_memI (fun zI7 hzI7 => ?_)
                  have hF := pd_let_at hF hzI7
                  refine pd_goto (tgt := 148) C dX12_tap_134 (by decide) ?_
                  refine pd_wk (ls' := [none, none, none, none, some (.int zx3)]) (And.intro rfl True.intro) ?_
                  have hF := hF.symm
                  cases hF
                  exact hJ148
              replace hF := hS
              clear hS
              refine pd_icmp_ne (tgt := 110) C dX12_tap_98 (by decide) (fun zc2 => ?_) (fun zc2 => ?_)
              · have hF := pd_f zc2 hF
                refine pd_aload_n C dX12_tap_110 rfl rfl ?_
                refine gr_12_12 C wd_5_137 (pd_lt (by decide) hn) sh_92 (rf_92_12 _) dX12_tap_111 ?_
                refine pd_iconst (v := 4) C dX12_tap_114 (by decide) ?_
                refine pd_iload_n C dX12_tap_115 rfl rfl ?_
                refine pd_imul C dX12_tap_116 ?_
                refine pd_iload_n C dX12_tap_117 rfl rfl ?_
                refine pd_iadd C dX12_tap_118 ?_
                obtain ⟨zg3, hF⟩ := pd_gd_some hF
                refine pd_iald C (pd_lt (by decide) hn) sh_103 zg3 dX12_tap_119 ?_
                have hF := hF.symm
                cases hF
                exact hJ120
              · have hF := pd_t zc2 hF
                refine pd_aload_n C dX12_tap_101 rfl rfl ?_
                refine gr_12_9 C wd_5_134 (pd_lt (by decide) hn) sh_92 (rf_92_9 _) dX12_tap_102 ?_
                refine pd_iload_n C dX12_tap_105 rfl rfl ?_
                obtain ⟨zg4, hF⟩ := pd_gd_some hF
                refine pd_iald C (pd_lt (by decide) hn) sh_100 zg4 dX12_tap_106 ?_
                refine pd_goto (tgt := 120) C dX12_tap_107 (by decide) ?_
                have hF := hF.symm
                cases hF
                exact hJ120
            · have hF := pd_t zc3 hF
              refine pd_iconst (v := 0) C dX12_tap_94 (by decide) ?_
              cases hF
              exact pd_iret C hE rfl rfl rfl ⟨by decide, by decide⟩ dX12_tap_95
          replace hF := hS
          clear hS
          refine pd_icmp_ne (tgt := 76) C dX12_tap_64 (by decide) (fun zc4 => ?_) (fun zc4 => ?_)
          · have hF := pd_f zc4 hF
            refine pd_aload_n C dX12_tap_76 rfl rfl ?_
            refine gr_12_7 C wd_5_132 (pd_lt (by decide) hn) sh_92 (rf_92_7 _) dX12_tap_77 ?_
            refine pd_iload_n C dX12_tap_80 rfl rfl ?_
            obtain ⟨zg5, hF⟩ := pd_gd_some hF
            refine pd_iald C (pd_lt (by decide) hn) sh_98 zg5 dX12_tap_81 ?_
            refine pd_iconst (v := 1) C dX12_tap_82 (by decide) ?_
            refine pd_iadd C dX12_tap_83 ?_
            have hF := hF.symm
            cases hF
            exact hJ84
          · have hF := pd_t zc4 hF
            refine pd_aload_n C dX12_tap_67 rfl rfl ?_
            refine gr_12_7 C wd_5_132 (pd_lt (by decide) hn) sh_92 (rf_92_7 _) dX12_tap_68 ?_
            refine pd_iload_n C dX12_tap_71 rfl rfl ?_
            obtain ⟨zg6, hF⟩ := pd_gd_some hF
            refine pd_iald C (pd_lt (by decide) hn) sh_98 zg6 dX12_tap_72 ?_
            refine pd_goto (tgt := 84) C dX12_tap_73 (by decide) ?_
            have hF := hF.symm
            cases hF
            exact hJ84
        · have hF := pd_t zc5 hF
          refine pd_wk (ls' := [none, none, none, none, none]) True.intro ?_
          exact hzj1 _ hF
      replace hF := hS
      clear hS
      refine pd_icmp_ne (tgt := 32) C dX12_tap_11 (by decide) (fun zc10 => ?_) (fun zc10 => ?_)
      · have hF := pd_f zc10 hF
        refine pd_iload_n C dX12_tap_32 rfl rfl ?_
        obtain ⟨zc6, hS, hF⟩ := pd_bd_some hF
        have hTzc6 : zc6 = true → pd_V cx 0 0 46 [some (.ref 92), some (.int p0), some (.int p1), some (.int p2), none] [.ref 92] zI1 J (pd_RF Z) n := by
          intro hc
          have hF := pd_t hc hF
          refine pd_iconst (v := 1) C dX12_tap_46 (by decide) ?_
          refine pd_goto (tgt := 51) C dX12_tap_47 (by decide) ?_
          have hF := hF.symm
          cases hF
          exact hJ51
        have hEzc6 : zc6 = false → pd_V cx 0 0 50 [some (.ref 92), some (.int p0), some (.int p1), some (.int p2), none] [.ref 92] zI1 J (pd_RF Z) n := by
          intro hc
          have hF := pd_bf hc hF
          refine pd_iconst (v := 0) C dX12_tap_50 (by decide) ?_
          have hF := hF.symm
          cases hF
          exact hJ51
        replace hF := hS
        clear hS
        refine pd_if_lt (tgt := 50) C dX12_tap_33 (by decide) (fun zc8 => ?_) (fun zc8 => ?_)
        · have hF := pd_t zc8 hF
          cases hF
          exact hEzc6 rfl
        · have hF := pd_f zc8 hF
          refine pd_iload_n C dX12_tap_36 rfl rfl ?_
          refine pd_aload_n C dX12_tap_37 rfl rfl ?_
          refine gr_12_8 C wd_5_133 (pd_lt (by decide) hn) sh_92 (rf_92_8 _) dX12_tap_38 ?_
          refine pd_iload_n C dX12_tap_41 rfl rfl ?_
          obtain ⟨zg7, hF⟩ := pd_gd_some hF
          refine pd_iald C (pd_lt (by decide) hn) sh_99 zg7 dX12_tap_42 ?_
          refine pd_icmp_ge (tgt := 50) C dX12_tap_43 (by decide) (fun zc7 => ?_) (fun zc7 => ?_)
          · have hF := pd_t zc7 hF
            cases hF
            exact hEzc6 rfl
          · have hF := pd_f zc7 hF
            cases hF
            exact hTzc6 rfl
      · have hF := pd_t zc10 hF
        refine pd_aload_n C dX12_tap_14 rfl rfl ?_
        refine gr_12_6 C wd_5_131 (pd_lt (by decide) hn) sh_92 (rf_92_6 _) dX12_tap_15 ?_
        refine pd_iload_n C dX12_tap_18 rfl rfl ?_
        obtain ⟨zg8, hF⟩ := pd_gd_some hF
        refine pd_iald C (pd_lt (by decide) hn) sh_97 zg8 dX12_tap_19 ?_
        refine pd_iconst (v := 1) C dX12_tap_20 (by decide) ?_
        refine pd_icmp_lt (tgt := 28) C dX12_tap_21 (by decide) (fun zc9 => ?_) (fun zc9 => ?_)
        · have hF := pd_t zc9 hF
          refine pd_iconst (v := 0) C dX12_tap_28 (by decide) ?_
          refine pd_goto (tgt := 51) C dX12_tap_29 (by decide) ?_
          have hF := hF.symm
          cases hF
          exact hJ51
        · have hF := pd_f zc9 hF
          refine pd_iconst (v := 1) C dX12_tap_24 (by decide) ?_
          refine pd_goto (tgt := 51) C dX12_tap_25 (by decide) ?_
          have hF := hF.symm
          cases hF
          exact hJ51

def fl_X12_keep_97 {O : Type} (p0 : Int32) (kont : pd_I → Option O) : Nat → Int32 → pd_I → Option O
  | 0, _, _ => none
  | fu + 1, zx3, zI5 => if 8 ≤ zx3 then kont zI5 else (pd_gd (pd_in ((8 * p0) + zx3) 96) (pd_let (pd_ui zI5 104 ((8 * p0) + zx3).toNatClampNeg 0) fun zI7 => pd_let (zx3 + 1) fun zv3 => fl_X12_keep_97 p0 kont fu zv3 zI7))
set_option maxRecDepth 100000 in
set_option maxHeartbeats 4000000 in
theorem el_X12_keep_97 {cx : pd_X} (C : pd_C cx "PathDecoderModel" cX12_keep rm_X12_keep) {p0 : Int32} {p1 : Int32} {p2 : Int32} {p3 : Int32} {zv1 : Int32} {J : pd_J} {Z : pd_R} {n : Nat} (hn : 133 ≤ n)  {O : Type} {kont : pd_I → Option O} {out : O} (K : ∀ (zI6 : pd_I), kont zI6 = some out → pd_V cx 0 0 123 [some (.ref 92), some (.int p0), some (.int p1), some (.int p2), some (.int p3), some (.int zv1), none] [] zI6 J (pd_RF Z) n) :
    ∀ (fu : Nat) (zx3 : Int32) (zI5 : pd_I), fl_X12_keep_97 p0 kont fu zx3 zI5 = some out → pd_V cx 0 0 97 [some (.ref 92), some (.int p0), some (.int p1), some (.int p2), some (.int p3), some (.int zv1), some (.int zx3)] [] zI5 J (pd_RF Z) n := by
  intro fu
  induction fu with
  | zero => intro zx3 zI5 hF; rw [fl_X12_keep_97] at hF; cases hF
  | succ fu ih =>
    intro zx3 zI5 hF
    rw [fl_X12_keep_97] at hF
    refine pd_iload C dX12_keep_97 rfl ?_
    refine pd_bipush (v := 8) C dX12_keep_99 (by decide) ?_
    refine pd_icmp_ge (tgt := 123) C dX12_keep_101 (by decide) (fun zc1 => ?_) (fun zc1 => ?_)
    · have hF := pd_t zc1 hF
      refine pd_wk (ls' := [some (.ref 92), some (.int p0), some (.int p1), some (.int p2), some (.int p3), some (.int zv1), none]) (And.intro rfl (And.intro rfl (And.intro rfl (And.intro rfl (And.intro rfl (And.intro rfl True.intro)))))) ?_
      exact K _ hF
    · have hF := pd_f zc1 hF
      refine pd_aload_n C dX12_keep_104 rfl rfl ?_
      refine gr_12_13 C wd_5_138 (pd_lt (by decide) hn) sh_92 (rf_92_13 _) dX12_keep_105 ?_
      refine pd_bipush (v := 8) C dX12_keep_108 (by decide) ?_
      refine pd_iload_n C dX12_keep_110 rfl rfl ?_
      refine pd_imul C dX12_keep_111 ?_
      refine pd_iload C dX12_keep_112 rfl ?_
      refine pd_iadd C dX12_keep_114 ?_
      refine pd_iconst (v := 0) C dX12_keep_115 (by decide) ?_
      obtain ⟨zg3, hF⟩ := pd_gd_some hF
      refine pd_iast C (pd_lt (by decide) hn) sh_104 zg3 dX12_keep_116 ?_
      refine pd_memI (fun zI7 hzI7 => ?_)
      have hF := pd_let_at hF hzI7
      refine pd_iincG (zz := 1) C dX12_keep_117 rfl (by decide) rfl (fun zv3 hzv3 => ?_)
      have hF := pd_let_at hF hzv3
      refine pd_lsE (ls' := [some (.ref 92), some (.int p0), some (.int p1), some (.int p2), some (.int p3), some (.int zv1), some (.int zv3)]) rfl ?_
      refine pd_goto (tgt := 97) C dX12_keep_120 (by decide) ?_
      exact ih _ _ hF
def fn_X12_keep (I : pd_I) (p0 : Int32) (p1 : Int32) (p2 : Int32) (p3 : Int32) : Option (Int32 × pd_I) := pd_bd2 (fn_X12_isCode I p0) fun zr1 zI1 => pd_jn (fun (zI2 : pd_I) => some (0, zI2)) fun zj1 => if zr1 = 0 then zj1 zI1 else (pd_gd (pd_in p0 12) (pd_bd (if (zI1 97 p0.toNatClampNeg) < 2 then some 0 else (some 1)) fun (zx1 : Int32) => pd_bd2 (fn_X12_right zI1 zx1 2) fun zr2 zI3 => if zr2 = 0 then zj1 zI3 else (pd_bd (pd_bd (if p1 < 1 then some false else (if 8 < p1 then some false else (if p2 < 0 then some false else (if p1 ≤ p2 then some false else (pd_bd (fn_X12_wide zI3 p0) fun zr4 => pd_bd (fn_X12_fits p3 zr4) fun zr5 => if zr5 = 0 then some false else (some true)))))) fun zc3 => if zc3 = true then some 1 else (some 0)) fun (zx2 : Int32) => pd_bd2 (fn_X12_right zI3 zx2 3) fun zr3 zI4 => if zr3 = 0 then some (0, zI4) else (pd_gd (pd_in p0 12) (pd_let (zI4 101 p0.toNatClampNeg) fun zv1 => pd_let (pd_min p1 zv1) fun zv2 => fl_X12_keep_97 p0 (fun zI6 => pd_gd (pd_in p0 12) (pd_let (pd_ui zI6 101 p0.toNatClampNeg p1) fun zI8 => pd_gd (pd_in ((8 * p0) + p2) 96) (pd_let (pd_ui zI8 104 ((8 * p0) + p2).toNatClampNeg p3) fun zI9 => some (zv1, zI9)))) pd_FU zv2 zI4)))))
set_option maxRecDepth 100000 in
set_option maxHeartbeats 4000000 in
theorem em_X12_keep {l : Launch} {D : va_G} {tc : Nat → ClassId} (hst : l.stackTraces = false) {I : pd_I} {J : pd_J} {Z : pd_R} {n : Nat} {p0 : Int32} {p1 : Int32} {p2 : Int32} {p3 : Int32} (hn : 133 ≤ n)  {out : Int32 × pd_I} (hF : fn_X12_keep I p0 p1 p2 p3 = some out) :
    pd_M l D tc yX12_keep (.code yX12_keep cX12_keep 7 (Option.some Jvm.ClassFile.FieldType.int)) rm_X12_keep [.ref 92, .int p0, .int p1, .int p2, .int p3] I J (pd_RF Z) n (.ok (some (.int out.1))) out.2 J (pd_RF Z) n := by
  refine pd_open (own := "PathDecoderModel") (ls0 := [some (.ref 92), some (.int p0), some (.int p1), some (.int p2), some (.int p3), none, none]) (by decide) rfl (Nat.le_of_ble_eq_true rfl) rfl rfl hst (fun cx hl hD htc C hE htab hnm => ?_)
  subst hl hD htc
  unfold fn_X12_keep at hF
  refine pd_aload_n C dX12_keep_0 rfl rfl ?_
  refine pd_iload_n C dX12_keep_1 rfl rfl ?_
  obtain ⟨zr1, zI1, zh1, hF⟩ := pd_bd2_some hF
  refine pd_callV C [.int p0] [] (em_X12_isCode (pd_C_st C) hn  zh1) mw_X12_isCode wd_6_69 rfl (by decide) (pd_lt (by decide) hn) sh_92 ⟨by decide, by decide, by decide, by decide⟩ rfl (Nat.le_of_ble_eq_true rfl) pd_oldL_same (fun _ _ => pd_old_same _) dX12_keep_2 (stk' := [.int zr1]) rfl ?_
  refine pd_jn_use hF (fun j => ∀ (zI2 : pd_I), j zI2 = some out → pd_V cx 0 0 31 [none, none, none, none, none, none, none] [] zI2 J (pd_RF Z) n) (fun zI2 hF => ?_) (fun zj1 hzj1 hF => ?_)
  · refine pd_iconst (v := 0) C dX12_keep_31 (by decide) ?_
    cases hF
    exact pd_iret C hE rfl rfl rfl ⟨by decide, by decide⟩ dX12_keep_32
  · refine pd_if_eq (tgt := 31) C dX12_keep_5 (by decide) (fun zc11 => ?_) (fun zc11 => ?_)
    · have hF := pd_t zc11 hF
      refine pd_wk (ls' := [none, none, none, none, none, none, none]) True.intro ?_
      exact hzj1 _ hF
    · have hF := pd_f zc11 hF
      refine pd_aload_n C dX12_keep_8 rfl rfl ?_
      refine pd_aload_n C dX12_keep_9 rfl rfl ?_
      refine gr_12_6 C wd_5_131 (pd_lt (by decide) hn) sh_92 (rf_92_6 _) dX12_keep_10 ?_
      refine pd_iload_n C dX12_keep_13 rfl rfl ?_
      obtain ⟨zg1, hF⟩ := pd_gd_some hF
      refine pd_iald C (pd_lt (by decide) hn) sh_97 zg1 dX12_keep_14 ?_
      refine pd_iconst (v := 2) C dX12_keep_15 (by decide) ?_
      obtain ⟨zx1, hS, hF⟩ := pd_bd_some hF
      have hJ24 : pd_V cx 0 0 24 [some (.ref 92), some (.int p0), some (.int p1), some (.int p2), some (.int p3), none, none] [.int zx1, .ref 92] zI1 J (pd_RF Z) n := by
        refine pd_iconst (v := 2) C dX12_keep_24 (by decide) ?_
        obtain ⟨zr2, zI3, zh2, hF⟩ := pd_bd2_some hF
        refine pd_callV C [.int zx1, .int 2] [] (em_X12_right (pd_C_st C) hn  zh2) mw_X12_right wd_6_30 rfl (by decide) (pd_lt (by decide) hn) sh_92 ⟨by decide, by decide, by decide, by decide⟩ rfl (Nat.le_of_ble_eq_true rfl) pd_oldL_same (fun _ _ => pd_old_same _) dX12_keep_25 (stk' := [.int zr2]) rfl ?_
        refine pd_if_ne (tgt := 33) C dX12_keep_28 (by decide) (fun zc9 => ?_) (fun zc9 => ?_)
        · have hF := pd_f zc9 hF
          refine pd_aload_n C dX12_keep_33 rfl rfl ?_
          refine pd_iload_n C dX12_keep_34 rfl rfl ?_
          refine pd_iconst (v := 1) C dX12_keep_35 (by decide) ?_
          obtain ⟨zx2, hS, hF⟩ := pd_bd_some hF
          have hJ72 : pd_V cx 0 0 72 [some (.ref 92), some (.int p0), some (.int p1), some (.int p2), some (.int p3), none, none] [.int zx2, .ref 92] zI3 J (pd_RF Z) n := by
            refine pd_iconst (v := 3) C dX12_keep_72 (by decide) ?_
            obtain ⟨zr3, zI4, zh3, hF⟩ := pd_bd2_some hF
            refine pd_callV C [.int zx2, .int 3] [] (em_X12_right (pd_C_st C) hn  zh3) mw_X12_right wd_6_30 rfl (by decide) (pd_lt (by decide) hn) sh_92 ⟨by decide, by decide, by decide, by decide⟩ rfl (Nat.le_of_ble_eq_true rfl) pd_oldL_same (fun _ _ => pd_old_same _) dX12_keep_73 (stk' := [.int zr3]) rfl ?_
            refine pd_if_ne (tgt := 81) C dX12_keep_76 (by decide) (fun zc2 => ?_) (fun zc2 => ?_)
            · have hF := pd_f zc2 hF
              refine pd_aload_n C dX12_keep_81 rfl rfl ?_
              refine gr_12_10 C wd_5_135 (pd_lt (by decide) hn) sh_92 (rf_92_10 _) dX12_keep_82 ?_
              refine pd_iload_n C dX12_keep_85 rfl rfl ?_
              obtain ⟨zg2, hF⟩ := pd_gd_some hF
              refine pd_iald C (pd_lt (by decide) hn) sh_101 zg2 dX12_keep_86 ?_
              refine pd_topi (fun zv1 hzv1 => ?_)
              have hF := pd_let_at hF hzv1
              refine pd_istore (ls' := [some (.ref 92), some (.int p0), some (.int p1), some (.int p2), some (.int p3), some (.int zv1), none]) C dX12_keep_87 (Nat.le_of_ble_eq_true rfl) rfl rfl ?_
              refine pd_iload_n C dX12_keep_89 rfl rfl ?_
              refine pd_iload C dX12_keep_90 rfl ?_
              refine pd_mmin C wd_6_80 wd_2_187 wd_1_18 wd_2_188 ⟨by decide, Nat.le_of_ble_eq_true rfl, by decide, by decide⟩ dX12_keep_92 ?_
              refine pd_topi (fun zv2 hzv2 => ?_)
              have hF := pd_let_at hF hzv2
              refine pd_istore (ls' := [some (.ref 92), some (.int p0), some (.int p1), some (.int p2), some (.int p3), some (.int zv1), some (.int zv2)]) C dX12_keep_95 (Nat.le_of_ble_eq_true rfl) rfl rfl ?_
              refine el_X12_keep_97 C hn (fun zI6 hF => ?_) pd_FU _ _ hF
              refine pd_aload_n C dX12_keep_123 rfl rfl ?_
              refine gr_12_10 C wd_5_135 (pd_lt (by decide) hn) sh_92 (rf_92_10 _) dX12_keep_124 ?_
              refine pd_iload_n C dX12_keep_127 rfl rfl ?_
              refine pd_iload_n C dX12_keep_128 rfl rfl ?_
              obtain ⟨zg4, hF⟩ := pd_gd_some hF
              refine pd_iast C (pd_lt (by decide) hn) sh_101 zg4 dX12_keep_129 ?_
              refine pd_memI (fun zI8 hzI8 => ?_)
              have hF := pd_let_at hF hzI8
              refine pd_aload_n C dX12_keep_130 rfl rfl ?_
              refine gr_12_13 C wd_5_138 (pd_lt (by decide) hn) sh_92 (rf_92_13 _) dX12_keep_131 ?_
              refine pd_bipush (v := 8) C dX12_keep_134 (by decide) ?_
              refine pd_iload_n C dX12_keep_136 rfl rfl ?_
              refine pd_imul C dX12_keep_137 ?_
              refine pd_iload_n C dX12_keep_138 rfl rfl ?_
              refine pd_iadd C dX12_keep_139 ?_
              refine pd_iload C dX12_keep_140 rfl ?_
              obtain ⟨zg5, hF⟩ := pd_gd_some hF
              refine pd_iast C (pd_lt (by decide) hn) sh_104 zg5 dX12_keep_142 ?_
              refine pd_memI (fun zI9 hzI9 => ?_)
              have hF := pd_let_at hF hzI9
              refine pd_iload C dX12_keep_143 rfl ?_
              cases hF
              exact pd_iret C hE rfl rfl rfl ⟨by decide, by decide⟩ dX12_keep_145
            · have hF := pd_t zc2 hF
              refine pd_iconst (v := 0) C dX12_keep_79 (by decide) ?_
              cases hF
              exact pd_iret C hE rfl rfl rfl ⟨by decide, by decide⟩ dX12_keep_80
          replace hF := hS
          clear hS
          obtain ⟨zc3, hS, hF⟩ := pd_bd_some hF
          have hTzc3 : zc3 = true → pd_V cx 0 0 67 [some (.ref 92), some (.int p0), some (.int p1), some (.int p2), some (.int p3), none, none] [.ref 92] zI3 J (pd_RF Z) n := by
            intro hc
            have hF := pd_t hc hF
            refine pd_iconst (v := 1) C dX12_keep_67 (by decide) ?_
            refine pd_goto (tgt := 72) C dX12_keep_68 (by decide) ?_
            have hF := hF.symm
            cases hF
            exact hJ72
          have hEzc3 : zc3 = false → pd_V cx 0 0 71 [some (.ref 92), some (.int p0), some (.int p1), some (.int p2), some (.int p3), none, none] [.ref 92] zI3 J (pd_RF Z) n := by
            intro hc
            have hF := pd_bf hc hF
            refine pd_iconst (v := 0) C dX12_keep_71 (by decide) ?_
            have hF := hF.symm
            cases hF
            exact hJ72
          replace hF := hS
          clear hS
          refine pd_icmp_lt (tgt := 71) C dX12_keep_36 (by decide) (fun zc8 => ?_) (fun zc8 => ?_)
          · have hF := pd_t zc8 hF
            cases hF
            exact hEzc3 rfl
          · have hF := pd_f zc8 hF
            refine pd_iload_n C dX12_keep_39 rfl rfl ?_
            refine pd_bipush (v := 8) C dX12_keep_40 (by decide) ?_
            refine pd_icmp_gt (tgt := 71) C dX12_keep_42 (by decide) (fun zc7 => ?_) (fun zc7 => ?_)
            · have hF := pd_t zc7 hF
              cases hF
              exact hEzc3 rfl
            · have hF := pd_f zc7 hF
              refine pd_iload_n C dX12_keep_45 rfl rfl ?_
              refine pd_if_lt (tgt := 71) C dX12_keep_46 (by decide) (fun zc6 => ?_) (fun zc6 => ?_)
              · have hF := pd_t zc6 hF
                cases hF
                exact hEzc3 rfl
              · have hF := pd_f zc6 hF
                refine pd_iload_n C dX12_keep_49 rfl rfl ?_
                refine pd_iload_n C dX12_keep_50 rfl rfl ?_
                refine pd_icmp_ge (tgt := 71) C dX12_keep_51 (by decide) (fun zc5 => ?_) (fun zc5 => ?_)
                · have hF := pd_t zc5 hF
                  cases hF
                  exact hEzc3 rfl
                · have hF := pd_f zc5 hF
                  refine pd_iload C dX12_keep_54 rfl ?_
                  refine pd_aload_n C dX12_keep_56 rfl rfl ?_
                  refine pd_iload_n C dX12_keep_57 rfl rfl ?_
                  obtain ⟨zr4, zh4, hF⟩ := pd_bd_some hF
                  refine pd_callV C [.int p0] [.int p3, .ref 92] (em_X12_wide (pd_C_st C) hn  zh4) mw_X12_wide wd_6_61 rfl (by decide) (pd_lt (by decide) hn) sh_92 ⟨by decide, by decide, by decide, by decide⟩ rfl (Nat.le_of_ble_eq_true rfl) pd_oldL_same (fun _ _ => pd_old_same _) dX12_keep_58 (stk' := [.int zr4, .int p3, .ref 92]) rfl ?_
                  obtain ⟨zr5, zh5, hF⟩ := pd_bd_some hF
                  refine pd_callS C [.int p3, .int zr4] [.ref 92] (em_X12_fits (pd_C_st C) hn  zh5) mw_X12_fits wd_6_73 ⟨by decide, by decide, by decide, by decide⟩ rfl (Nat.le_of_ble_eq_true rfl) pd_oldL_same (fun _ _ => pd_old_same _) dX12_keep_61 (stk' := [.int zr5, .ref 92]) rfl ?_
                  refine pd_if_eq (tgt := 71) C dX12_keep_64 (by decide) (fun zc4 => ?_) (fun zc4 => ?_)
                  · have hF := pd_t zc4 hF
                    cases hF
                    exact hEzc3 rfl
                  · have hF := pd_f zc4 hF
                    cases hF
                    exact hTzc3 rfl
        · have hF := pd_t zc9 hF
          refine pd_wk (ls' := [none, none, none, none, none, none, none]) True.intro ?_
          exact hzj1 _ hF
      replace hF := hS
      clear hS
      refine pd_icmp_lt (tgt := 23) C dX12_keep_16 (by decide) (fun zc10 => ?_) (fun zc10 => ?_)
      · have hF := pd_t zc10 hF
        refine pd_iconst (v := 0) C dX12_keep_23 (by decide) ?_
        have hF := hF.symm
        cases hF
        exact hJ24
      · have hF := pd_f zc10 hF
        refine pd_iconst (v := 1) C dX12_keep_19 (by decide) ?_
        refine pd_goto (tgt := 24) C dX12_keep_20 (by decide) ?_
        have hF := hF.symm
        cases hF
        exact hJ24

