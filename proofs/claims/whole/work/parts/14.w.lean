def fn_X5_isWorthwhile (I : pd_I) (Z : pd_R) (n : Nat) (p0 : Int32) (p1 : Int32) : Option (Int32 × pd_I × pd_R) := pd_bd2 (fn_X5_comeBack I Z n p1 1) fun zI1 zZ1 => pd_bd (zZ1 36 5) fun zq1 => pd_gd (pd_isArr zq1 64 n) (pd_gd (pd_in p0 64) (if (zI1 zq1 p0.toNatClampNeg) = 0 then some (0, zI1, zZ1) else (pd_bd (fn_X5_follow zI1 zZ1 n p0 0 p1) fun zI2 => pd_bd (fn_X10_wouldKeepOffered zI2 zZ1 n) fun zr1 => pd_gd (pd_bo zr1) (some (zr1, zI2, zZ1)))))
set_option maxRecDepth 100000 in
set_option maxHeartbeats 4000000 in
theorem em_X5_isWorthwhile {l : Launch} {D : va_G} {tc : Nat → ClassId} (hst : l.stackTraces = false) {I : pd_I} {J : pd_J} {Z : pd_R} {n : Nat} {p0 : Int32} {p1 : Int32} (hn : 133 ≤ n)  {out : Int32 × pd_I × pd_R} (hF : fn_X5_isWorthwhile I Z n p0 p1 = some out) :
    pd_M l D tc yX5_isWorthwhile (.code yX5_isWorthwhile cX5_isWorthwhile 3 (Option.some Jvm.ClassFile.FieldType.boolean)) rm_X5_isWorthwhile [.ref 36, .int p0, .int p1] I J (pd_RF Z) n (.ok (some (.int out.1))) out.2.1 J (pd_RF out.2.2) n := by
  refine pd_open (own := "PathDecoder$Search") (ls0 := [some (.ref 36), some (.int p0), some (.int p1)]) (by decide) rfl (Nat.le_of_ble_eq_true rfl) rfl rfl hst (fun cx hl hD htc C hE htab hnm => ?_)
  subst hl hD htc
  unfold fn_X5_isWorthwhile at hF
  refine pd_aload_n C dX5_isWorthwhile_0 rfl rfl ?_
  refine pd_iload_n C dX5_isWorthwhile_1 rfl rfl ?_
  refine pd_iconst (v := 1) C dX5_isWorthwhile_2 (by decide) ?_
  obtain ⟨zI1, zZ1, zh1, hF⟩ := pd_bd2_some hF
  refine pd_callV C [.int p1, .int 1] [] (em_X5_comeBack (pd_C_st C) hn  zh1) mw_X5_comeBack wd_4_89 rfl (by decide) (pd_lt (by decide) hn) sh_36 ⟨by decide, by decide, by decide, by decide⟩ rfl (Nat.le_of_ble_eq_true rfl) pd_oldL_same (fun _ _ => pd_old_same _) dX5_isWorthwhile_3 (stk' := []) rfl ?_
  refine pd_aload_n C dX5_isWorthwhile_6 rfl rfl ?_
  obtain ⟨zq1, hzq1, hF⟩ := pd_bd_some hF
  obtain ⟨zg1, hF⟩ := pd_gd_some hF
  refine gr_5_5 C wd_1_157 (pd_lt (by decide) hn) sh_36 ((pd_RF_dyn rfl).trans hzq1) dX5_isWorthwhile_7 ?_
  refine pd_iload_n C dX5_isWorthwhile_10 rfl rfl ?_
  obtain ⟨zg2, hF⟩ := pd_gd_some hF
  refine pd_iald C (pd_arr_lt zg1) (pd_arr_sh zg1) zg2 dX5_isWorthwhile_11 ?_
  refine pd_if_ne (tgt := 17) C dX5_isWorthwhile_12 (by decide) (fun zc1 => ?_) (fun zc1 => ?_)
  · have hF := pd_f zc1 hF
    refine pd_aload_n C dX5_isWorthwhile_17 rfl rfl ?_
    refine pd_iload_n C dX5_isWorthwhile_18 rfl rfl ?_
    refine pd_iconst (v := 0) C dX5_isWorthwhile_19 (by decide) ?_
    refine pd_iload_n C dX5_isWorthwhile_20 rfl rfl ?_
    obtain ⟨zI2, zh2, hF⟩ := pd_bd_some hF
    refine pd_callV C [.int p0, .int 0, .int p1] [] (em_X5_follow (pd_C_st C) hn  zh2) mw_X5_follow wd_4_99 rfl (by decide) (pd_lt (by decide) hn) sh_36 ⟨by decide, by decide, by decide, by decide⟩ rfl (Nat.le_of_ble_eq_true rfl) pd_oldL_same (fun _ _ => pd_old_same _) dX5_isWorthwhile_21 (stk' := []) rfl ?_
    refine pd_aload_n C dX5_isWorthwhile_24 rfl rfl ?_
    refine gr_5_1 C wd_1_153 (pd_lt (by decide) hn) sh_36 (rf_36_1 _) dX5_isWorthwhile_25 ?_
    obtain ⟨zr1, zh3, hF⟩ := pd_bd_some hF
    refine pd_callV C [] [] (em_X10_wouldKeepOffered (pd_C_st C) hn  zh3) mw_X10_wouldKeepOffered wd_4_111 rfl (by decide) (pd_lt (by decide) hn) sh_16 ⟨by decide, by decide, by decide, by decide⟩ rfl (Nat.le_of_ble_eq_true rfl) pd_oldL_same (fun _ _ => pd_old_same _) dX5_isWorthwhile_28 (stk' := [.int zr1]) rfl ?_
    obtain ⟨zg3, hF⟩ := pd_gd_some hF
    cases hF
    exact pd_iret C hE rfl rfl (pd_bo_nar zg3) ⟨by decide, by decide⟩ dX5_isWorthwhile_31
  · have hF := pd_t zc1 hF
    refine pd_iconst (v := 0) C dX5_isWorthwhile_15 (by decide) ?_
    cases hF
    exact pd_iret C hE rfl rfl (pd_bo_nar (by decide)) ⟨by decide, by decide⟩ dX5_isWorthwhile_16

def fl_X10_settle_5 {O : Type} (I : pd_I) (kont : Int32 → pd_R → Option O) : Nat → Int32 → pd_R → Option O
  | 0, _, _ => none
  | fu + 1, zx1, zZ1 => if zx1 ≤ 0 then kont zx1 zZ1 else (pd_gd (pd_in zx1 9) (pd_bd (zZ1 17 zx1.toNatClampNeg) fun zq1 => pd_gd (pd_isWay zq1) (pd_gd (pd_in (zx1 - 1) 9) (pd_bd (zZ1 17 (zx1 - 1).toNatClampNeg) fun zq2 => pd_gd (pd_isWay zq2) (pd_bd (fn_X9_isAheadOf I zq1 zq2) fun zr1 => if zr1 = 0 then kont zx1 zZ1 else (pd_gd (pd_in zx1 9) (pd_bd (zZ1 17 zx1.toNatClampNeg) fun zq3 => pd_gd (pd_isWay zq3) (pd_gd (pd_in (zx1 - 1) 9) (pd_bd (zZ1 17 (zx1 - 1).toNatClampNeg) fun zq4 => pd_gd (pd_isWay zq4) (pd_gd (pd_in zx1 9) (pd_let (pd_ur zZ1 17 zx1.toNatClampNeg (some zq4)) fun zZ3 => pd_gd (pd_in (zx1 - 1) 9) (pd_let (pd_ur zZ3 17 (zx1 - 1).toNatClampNeg (some zq3)) fun zZ4 => pd_let (zx1 + (-1)) fun zv2 => fl_X10_settle_5 I kont fu zv2 zZ4))))))))))))
set_option maxRecDepth 100000 in
set_option maxHeartbeats 4000000 in
theorem el_X10_settle_5 {cx : pd_X} (C : pd_C cx "PathDecoder$Ways" cX10_settle rm_X10_settle) {I : pd_I} {J : pd_J} {n : Nat} (hn : 133 ≤ n)  {O : Type} {kont : Int32 → pd_R → Option O} {out : O} (K : ∀ (zx2 : Int32) (zZ2 : pd_R), kont zx2 zZ2 = some out → pd_V cx 0 0 65 [some (.ref 16), some (.int zx2), none] [] I J (pd_RF zZ2) n) :
    ∀ (fu : Nat) (zx1 : Int32) (zZ1 : pd_R), fl_X10_settle_5 I kont fu zx1 zZ1 = some out → pd_V cx 0 0 5 [some (.ref 16), some (.int zx1), none] [] I J (pd_RF zZ1) n := by
  intro fu
  induction fu with
  | zero => intro zx1 zZ1 hF; rw [fl_X10_settle_5] at hF; cases hF
  | succ fu ih =>
    intro zx1 zZ1 hF
    rw [fl_X10_settle_5] at hF
    refine pd_iload_n C dX10_settle_5 rfl rfl ?_
    refine pd_if_le (tgt := 65) C dX10_settle_6 (by decide) (fun zc2 => ?_) (fun zc2 => ?_)
    · have hF := pd_t zc2 hF
      exact K _ _ hF
    · have hF := pd_f zc2 hF
      refine pd_aload_n C dX10_settle_9 rfl rfl ?_
      refine gr_10_0 C wd_1_135 (pd_lt (by decide) hn) sh_16 (rf_16_0 _) dX10_settle_10 ?_
      refine pd_iload_n C dX10_settle_13 rfl rfl ?_
      obtain ⟨zg1, hF⟩ := pd_gd_some hF
      obtain ⟨zq1, hzq1, hF⟩ := pd_bd_some hF
      obtain ⟨zg2, hF⟩ := pd_gd_some hF
      refine pd_aald C (pd_lt (by decide) hn) sh_17 (by decide) zg1 ((pd_RF_dyn rfl).trans hzq1) dX10_settle_14 ?_
      refine pd_aload_n C dX10_settle_15 rfl rfl ?_
      refine gr_10_0 C wd_1_135 (pd_lt (by decide) hn) sh_16 (rf_16_0 _) dX10_settle_16 ?_
      refine pd_iload_n C dX10_settle_19 rfl rfl ?_
      refine pd_iconst (v := 1) C dX10_settle_20 (by decide) ?_
      refine pd_isub C dX10_settle_21 ?_
      obtain ⟨zg3, hF⟩ := pd_gd_some hF
      obtain ⟨zq2, hzq2, hF⟩ := pd_bd_some hF
      obtain ⟨zg4, hF⟩ := pd_gd_some hF
      refine pd_aald C (pd_lt (by decide) hn) sh_17 (by decide) zg3 ((pd_RF_dyn rfl).trans hzq2) dX10_settle_22 ?_
      obtain ⟨zr1, zh1, hF⟩ := pd_bd_some hF
      refine pd_callV C [.ref zq2] [] (em_X9_isAheadOf (pd_C_st C) hn zg2 zg4 zh1) mw_X9_isAheadOf wd_4_115 rfl (by decide) (pd_way_lt zg2 hn) (pd_way_sh zg2) ⟨by decide, by decide, by decide, by decide⟩ rfl (Nat.le_of_ble_eq_true rfl) pd_oldL_same (fun _ _ => pd_old_same _) dX10_settle_23 (stk' := [.int zr1]) rfl ?_
      refine pd_if_eq (tgt := 65) C dX10_settle_26 (by decide) (fun zc1 => ?_) (fun zc1 => ?_)
      · have hF := pd_t zc1 hF
        exact K _ _ hF
      · have hF := pd_f zc1 hF
        refine pd_aload_n C dX10_settle_29 rfl rfl ?_
        refine gr_10_0 C wd_1_135 (pd_lt (by decide) hn) sh_16 (rf_16_0 _) dX10_settle_30 ?_
        refine pd_iload_n C dX10_settle_33 rfl rfl ?_
        obtain ⟨zg5, hF⟩ := pd_gd_some hF
        obtain ⟨zq3, hzq3, hF⟩ := pd_bd_some hF
        obtain ⟨zg6, hF⟩ := pd_gd_some hF
        refine pd_aald C (pd_lt (by decide) hn) sh_17 (by decide) zg5 ((pd_RF_dyn rfl).trans hzq3) dX10_settle_34 ?_
        refine pd_astore_n (ls' := [some (.ref 16), some (.int zx1), some (.ref zq3)]) C dX10_settle_35 rfl (Nat.le_of_ble_eq_true rfl) rfl rfl ?_
        refine pd_aload_n C dX10_settle_36 rfl rfl ?_
        refine gr_10_0 C wd_1_135 (pd_lt (by decide) hn) sh_16 (rf_16_0 _) dX10_settle_37 ?_
        refine pd_iload_n C dX10_settle_40 rfl rfl ?_
        refine pd_aload_n C dX10_settle_41 rfl rfl ?_
        refine gr_10_0 C wd_1_135 (pd_lt (by decide) hn) sh_16 (rf_16_0 _) dX10_settle_42 ?_
        refine pd_iload_n C dX10_settle_45 rfl rfl ?_
        refine pd_iconst (v := 1) C dX10_settle_46 (by decide) ?_
        refine pd_isub C dX10_settle_47 ?_
        obtain ⟨zg7, hF⟩ := pd_gd_some hF
        obtain ⟨zq4, hzq4, hF⟩ := pd_bd_some hF
        obtain ⟨zg8, hF⟩ := pd_gd_some hF
        refine pd_aald C (pd_lt (by decide) hn) sh_17 (by decide) zg7 ((pd_RF_dyn rfl).trans hzq4) dX10_settle_48 ?_
        obtain ⟨zg9, hF⟩ := pd_gd_some hF
        refine pd_aast C (pd_lt (by decide) hn) sh_17 (pd_way_lt zg8 hn) (pd_way_sh zg8) rfl zg9 dX10_settle_49 ?_
        rw [pd_RF_ur rfl]
        refine pd_memZ (fun zZ3 hzZ3 => ?_)
        have hF := pd_let_at hF hzZ3
        refine pd_aload_n C dX10_settle_50 rfl rfl ?_
        refine gr_10_0 C wd_1_135 (pd_lt (by decide) hn) sh_16 (rf_16_0 _) dX10_settle_51 ?_
        refine pd_iload_n C dX10_settle_54 rfl rfl ?_
        refine pd_iconst (v := 1) C dX10_settle_55 (by decide) ?_
        refine pd_isub C dX10_settle_56 ?_
        refine pd_aload_n C dX10_settle_57 rfl rfl ?_
        obtain ⟨zg10, hF⟩ := pd_gd_some hF
        refine pd_aast C (pd_lt (by decide) hn) sh_17 (pd_way_lt zg6 hn) (pd_way_sh zg6) rfl zg10 dX10_settle_58 ?_
        rw [pd_RF_ur rfl]
        refine pd_memZ (fun zZ4 hzZ4 => ?_)
        have hF := pd_let_at hF hzZ4
        refine pd_iincG (zz := (-1)) C dX10_settle_59 rfl (by decide) rfl (fun zv2 hzv2 => ?_)
        have hF := pd_let_at hF hzv2
        refine pd_lsE (ls' := [some (.ref 16), some (.int zv2), some (.ref zq3)]) rfl ?_
        refine pd_goto (tgt := 5) C dX10_settle_62 (by decide) ?_
        refine pd_wk (ls' := [some (.ref 16), some (.int zv2), none]) (And.intro rfl (And.intro rfl True.intro)) ?_
        exact ih _ _ hF
def fn_X10_settle (I : pd_I) (Z : pd_R) (n : Nat) : Option (Int32 × pd_I × pd_R) := pd_let (I 16 1) fun zv1 => fl_X10_settle_5 I (fun zx2 zZ2 => pd_bd (if (I 16 2) ≤ (I 16 1) then some I else (pd_let (pd_ui I 16 1 ((I 16 1) + 1)) fun zI2 => some zI2)) fun (zI1 : pd_I) => pd_bd (if (zI1 16 2) ≤ zx2 then some 0 else (some 1)) fun (zx3 : Int32) => pd_gd (pd_bo zx3) (some (zx3, zI1, zZ2))) pd_FU zv1 Z
set_option maxRecDepth 100000 in
set_option maxHeartbeats 4000000 in
theorem em_X10_settle {l : Launch} {D : va_G} {tc : Nat → ClassId} (hst : l.stackTraces = false) {I : pd_I} {J : pd_J} {Z : pd_R} {n : Nat} (hn : 133 ≤ n)  {out : Int32 × pd_I × pd_R} (hF : fn_X10_settle I Z n = some out) :
    pd_M l D tc yX10_settle (.code yX10_settle cX10_settle 3 (Option.some Jvm.ClassFile.FieldType.boolean)) rm_X10_settle [.ref 16] I J (pd_RF Z) n (.ok (some (.int out.1))) out.2.1 J (pd_RF out.2.2) n := by
  refine pd_open (own := "PathDecoder$Ways") (ls0 := [some (.ref 16), none, none]) (by decide) rfl (Nat.le_of_ble_eq_true rfl) rfl rfl hst (fun cx hl hD htc C hE htab hnm => ?_)
  subst hl hD htc
  unfold fn_X10_settle at hF
  refine pd_aload_n C dX10_settle_0 rfl rfl ?_
  refine gi_10_1 C wd_1_136 (pd_lt (by decide) hn) sh_16 dX10_settle_1 ?_
  refine pd_topi (fun zv1 hzv1 => ?_)
  have hF := pd_let_at hF hzv1
  refine pd_istore_n (ls' := [some (.ref 16), some (.int zv1), none]) C dX10_settle_4 rfl (Nat.le_of_ble_eq_true rfl) rfl rfl ?_
  refine el_X10_settle_5 C hn (fun zx2 zZ2 hF => ?_) pd_FU _ _ hF
  refine pd_aload_n C dX10_settle_65 rfl rfl ?_
  refine gi_10_1 C wd_1_136 (pd_lt (by decide) hn) sh_16 dX10_settle_66 ?_
  refine pd_aload_n C dX10_settle_69 rfl rfl ?_
  refine gi_10_2 C wd_1_137 (pd_lt (by decide) hn) sh_16 dX10_settle_70 ?_
  obtain ⟨zI1, hS, hF⟩ := pd_bd_some hF
  have hJ86 : pd_V cx 0 0 86 [some (.ref 16), some (.int zx2), none] [] zI1 J (pd_RF zZ2) n := by
    refine pd_iload_n C dX10_settle_86 rfl rfl ?_
    refine pd_aload_n C dX10_settle_87 rfl rfl ?_
    refine gi_10_2 C wd_1_137 (pd_lt (by decide) hn) sh_16 dX10_settle_88 ?_
    obtain ⟨zx3, hS, hF⟩ := pd_bd_some hF
    have hJ99 : pd_V cx 0 0 99 [none, none, none] [.int zx3] zI1 J (pd_RF zZ2) n := by
      obtain ⟨zg11, hF⟩ := pd_gd_some hF
      cases hF
      exact pd_iret C hE rfl rfl (pd_bo_nar zg11) ⟨by decide, by decide⟩ dX10_settle_99
    replace hF := hS
    clear hS
    refine pd_icmp_ge (tgt := 98) C dX10_settle_91 (by decide) (fun zc3 => ?_) (fun zc3 => ?_)
    · have hF := pd_t zc3 hF
      refine pd_iconst (v := 0) C dX10_settle_98 (by decide) ?_
      refine pd_wk (ls' := [none, none, none]) True.intro ?_
      have hF := hF.symm
      cases hF
      exact hJ99
    · have hF := pd_f zc3 hF
      refine pd_iconst (v := 1) C dX10_settle_94 (by decide) ?_
      refine pd_goto (tgt := 99) C dX10_settle_95 (by decide) ?_
      refine pd_wk (ls' := [none, none, none]) True.intro ?_
      have hF := hF.symm
      cases hF
      exact hJ99
  replace hF := hS
  clear hS
  refine pd_icmp_ge (tgt := 86) C dX10_settle_73 (by decide) (fun zc4 => ?_) (fun zc4 => ?_)
  · have hF := pd_t zc4 hF
    have hF := hF.symm
    cases hF
    exact hJ86
  · have hF := pd_f zc4 hF
    refine pd_aload_n C dX10_settle_76 rfl rfl ?_
    refine pd_dup C dX10_settle_77 rfl ?_
    refine gi_10_1 C wd_1_136 (pd_lt (by decide) hn) sh_16 dX10_settle_78 ?_
    refine pd_iconst (v := 1) C dX10_settle_81 (by decide) ?_
    refine pd_iadd C dX10_settle_82 ?_
    refine pi_10_1 C wd_1_136 rfl rfl (pd_lt (by decide) hn) sh_16 dX10_settle_83 ?_
    refine pd_memI (fun zI2 hzI2 => ?_)
    have hF := pd_let_at hF hzI2
    have hF := hF.symm
    cases hF
    exact hJ86

def fl_X5_offerAll_5 {O : Type} (p0 : Int32) (p1 : Int32) (n : Nat) (kont : pd_I → pd_R → Option O) : Nat → Int32 → Int32 → pd_I → pd_R → Option O
  | 0, _, _, _, _ => none
  | fu + 1, zx1, zx2, zI1, zZ1 => pd_bd (zZ1 36 5) fun zq1 => pd_gd (pd_isArr zq1 64 n) (pd_gd (pd_in p0 64) (pd_bd (if (zI1 zq1 p0.toNatClampNeg) ≤ zx2 then some false else (if zx1 = 0 then some false else (some true))) fun zc1 => if zc1 = true then pd_bd (fn_X5_follow zI1 zZ1 n p0 zx2 p1) fun zI3 => pd_bd3 (fn_X10_settle zI3 zZ1 n) fun zr1 zI4 zZ3 => pd_let (zx2 + 1) fun zv1 => fl_X5_offerAll_5 p0 p1 n kont fu zr1 zv1 zI4 zZ3 else (kont zI1 zZ1)))
set_option maxRecDepth 100000 in
set_option maxHeartbeats 4000000 in
theorem el_X5_offerAll_5 {cx : pd_X} (C : pd_C cx "PathDecoder$Search" cX5_offerAll rm_X5_offerAll) {p0 : Int32} {p1 : Int32} {J : pd_J} {n : Nat} (hn : 133 ≤ n)  {O : Type} {kont : pd_I → pd_R → Option O} {out : O} (K : ∀ (zI2 : pd_I) (zZ2 : pd_R), kont zI2 zZ2 = some out → pd_V cx 0 0 42 [none, none, none, none, none] [] zI2 J (pd_RF zZ2) n) :
    ∀ (fu : Nat) (zx1 : Int32) (zx2 : Int32) (zI1 : pd_I) (zZ1 : pd_R), fl_X5_offerAll_5 p0 p1 n kont fu zx1 zx2 zI1 zZ1 = some out → pd_V cx 0 0 5 [some (.ref 36), some (.int p0), some (.int p1), some (.int zx1), some (.int zx2)] [] zI1 J (pd_RF zZ1) n := by
  intro fu
  induction fu with
  | zero => intro zx1 zx2 zI1 zZ1 hF; rw [fl_X5_offerAll_5] at hF; cases hF
  | succ fu ih =>
    intro zx1 zx2 zI1 zZ1 hF
    rw [fl_X5_offerAll_5] at hF
    refine pd_iload C dX5_offerAll_5 rfl ?_
    refine pd_aload_n C dX5_offerAll_7 rfl rfl ?_
    obtain ⟨zq1, hzq1, hF⟩ := pd_bd_some hF
    obtain ⟨zg1, hF⟩ := pd_gd_some hF
    refine gr_5_5 C wd_1_157 (pd_lt (by decide) hn) sh_36 ((pd_RF_dyn rfl).trans hzq1) dX5_offerAll_8 ?_
    refine pd_iload_n C dX5_offerAll_11 rfl rfl ?_
    obtain ⟨zg2, hF⟩ := pd_gd_some hF
    refine pd_iald C (pd_arr_lt zg1) (pd_arr_sh zg1) zg2 dX5_offerAll_12 ?_
    obtain ⟨zc1, hS, hF⟩ := pd_bd_some hF
    have hTzc1 : zc1 = true → pd_V cx 0 0 20 [some (.ref 36), some (.int p0), some (.int p1), some (.int zx1), some (.int zx2)] [] zI1 J (pd_RF zZ1) n := by
      intro hc
      have hF := pd_t hc hF
      refine pd_aload_n C dX5_offerAll_20 rfl rfl ?_
      refine pd_iload_n C dX5_offerAll_21 rfl rfl ?_
      refine pd_iload C dX5_offerAll_22 rfl ?_
      refine pd_iload_n C dX5_offerAll_24 rfl rfl ?_
      obtain ⟨zI3, zh1, hF⟩ := pd_bd_some hF
      refine pd_callV C [.int p0, .int zx2, .int p1] [] (em_X5_follow (pd_C_st C) hn  zh1) mw_X5_follow wd_4_99 rfl (by decide) (pd_lt (by decide) hn) sh_36 ⟨by decide, by decide, by decide, by decide⟩ rfl (Nat.le_of_ble_eq_true rfl) pd_oldL_same (fun _ _ => pd_old_same _) dX5_offerAll_25 (stk' := []) rfl ?_
      refine pd_aload_n C dX5_offerAll_28 rfl rfl ?_
      refine gr_5_1 C wd_1_153 (pd_lt (by decide) hn) sh_36 (rf_36_1 _) dX5_offerAll_29 ?_
      obtain ⟨zr1, zI4, zZ3, zh2, hF⟩ := pd_bd3_some hF
      refine pd_callV C [] [] (em_X10_settle (pd_C_st C) hn  zh2) mw_X10_settle wd_4_123 rfl (by decide) (pd_lt (by decide) hn) sh_16 ⟨by decide, by decide, by decide, by decide⟩ rfl (Nat.le_of_ble_eq_true rfl) pd_oldL_same (fun _ _ => pd_old_same _) dX5_offerAll_32 (stk' := [.int zr1]) rfl ?_
      refine pd_istore_n (ls' := [some (.ref 36), some (.int p0), some (.int p1), some (.int zr1), some (.int zx2)]) C dX5_offerAll_35 rfl (Nat.le_of_ble_eq_true rfl) rfl rfl ?_
      refine pd_iincG (zz := 1) C dX5_offerAll_36 rfl (by decide) rfl (fun zv1 hzv1 => ?_)
      have hF := pd_let_at hF hzv1
      refine pd_lsE (ls' := [some (.ref 36), some (.int p0), some (.int p1), some (.int zr1), some (.int zv1)]) rfl ?_
      refine pd_goto (tgt := 5) C dX5_offerAll_39 (by decide) ?_
      exact ih _ _ _ _ hF
    have hEzc1 : zc1 = false → pd_V cx 0 0 42 [some (.ref 36), some (.int p0), some (.int p1), some (.int zx1), some (.int zx2)] [] zI1 J (pd_RF zZ1) n := by
      intro hc
      have hF := pd_bf hc hF
      refine pd_wk (ls' := [none, none, none, none, none]) True.intro ?_
      exact K _ _ hF
    replace hF := hS
    clear hS
    refine pd_icmp_ge (tgt := 42) C dX5_offerAll_13 (by decide) (fun zc3 => ?_) (fun zc3 => ?_)
    · have hF := pd_t zc3 hF
      cases hF
      exact hEzc1 rfl
    · have hF := pd_f zc3 hF
      refine pd_iload_n C dX5_offerAll_16 rfl rfl ?_
      refine pd_if_eq (tgt := 42) C dX5_offerAll_17 (by decide) (fun zc2 => ?_) (fun zc2 => ?_)
      · have hF := pd_t zc2 hF
        cases hF
        exact hEzc1 rfl
      · have hF := pd_f zc2 hF
        cases hF
        exact hTzc1 rfl
def fn_X5_offerAll (I : pd_I) (Z : pd_R) (n : Nat) (p0 : Int32) (p1 : Int32) : Option (pd_I × pd_R) := fl_X5_offerAll_5 p0 p1 n (fun zI2 zZ2 => some (zI2, zZ2)) pd_FU 1 0 I Z
set_option maxRecDepth 100000 in
set_option maxHeartbeats 4000000 in
theorem em_X5_offerAll {l : Launch} {D : va_G} {tc : Nat → ClassId} (hst : l.stackTraces = false) {I : pd_I} {J : pd_J} {Z : pd_R} {n : Nat} {p0 : Int32} {p1 : Int32} (hn : 133 ≤ n)  {out : pd_I × pd_R} (hF : fn_X5_offerAll I Z n p0 p1 = some out) :
    pd_M l D tc yX5_offerAll (.code yX5_offerAll cX5_offerAll 5 (Option.none : Option Jvm.ClassFile.FieldType)) rm_X5_offerAll [.ref 36, .int p0, .int p1] I J (pd_RF Z) n (.ok (none)) out.1 J (pd_RF out.2) n := by
  refine pd_open (own := "PathDecoder$Search") (ls0 := [some (.ref 36), some (.int p0), some (.int p1), none, none]) (by decide) rfl (Nat.le_of_ble_eq_true rfl) rfl rfl hst (fun cx hl hD htc C hE htab hnm => ?_)
  subst hl hD htc
  unfold fn_X5_offerAll at hF
  refine pd_iconst (v := 1) C dX5_offerAll_0 (by decide) ?_
  refine pd_istore_n (ls' := [some (.ref 36), some (.int p0), some (.int p1), some (.int 1), none]) C dX5_offerAll_1 rfl (Nat.le_of_ble_eq_true rfl) rfl rfl ?_
  refine pd_iconst (v := 0) C dX5_offerAll_2 (by decide) ?_
  refine pd_istore (ls' := [some (.ref 36), some (.int p0), some (.int p1), some (.int 1), some (.int 0)]) C dX5_offerAll_3 (Nat.le_of_ble_eq_true rfl) rfl rfl ?_
  refine el_X5_offerAll_5 C hn (fun zI2 zZ2 hF => ?_) pd_FU _ _ _ _ hF
  cases hF
  exact pd_vret C hE rfl ⟨by decide, by decide⟩ dX5_offerAll_42

def fl_X5_findLeast_17 {O : Type} (a0 : Nat) (p1 : Int32) (p2 : Int32) (zr1 : Int32) (n : Nat) (kont : pd_I → pd_R → Option O) : Nat → Int32 → pd_I → pd_R → Option O
  | 0, _, _, _ => none
  | fu + 1, zx1, zI2, zZ1 => if zr1 ≤ zx1 then kont zI2 zZ1 else (pd_bd (fn_X1_setEnds zI2 a0 p1 zx1) fun zI4 => pd_bd2 (pd_bd (if p2 = 1 then some false else (if zr1 = 1 then some false else (some true))) fun zc1 => if zc1 = true then pd_bd3 (fn_X5_isWorthwhile zI4 zZ1 n zx1 p1) fun zr2 zI6 zZ4 => if zr2 = 0 then some (zI6, zZ4) else (pd_bd2 (fn_X5_comeBack zI6 zZ4 n p1 p2) fun zI7 zZ5 => pd_bd2 (fn_X5_offerAll zI7 zZ5 n zx1 p1) fun zI8 zZ6 => some (zI8, zZ6)) else (pd_bd2 (fn_X5_comeBack zI4 zZ1 n p1 p2) fun zI9 zZ7 => pd_bd2 (fn_X5_offerAll zI9 zZ7 n zx1 p1) fun zI10 zZ8 => some (zI10, zZ8))) fun (zI5 : pd_I) (zZ3 : pd_R) => pd_let (zx1 + 1) fun zv1 => fl_X5_findLeast_17 a0 p1 p2 zr1 n kont fu zv1 zI5 zZ3)
set_option maxRecDepth 100000 in
set_option maxHeartbeats 4000000 in
theorem el_X5_findLeast_17 {cx : pd_X} (C : pd_C cx "PathDecoder$Search" cX5_findLeast rm_X5_findLeast) {a0 : Nat} {p1 : Int32} {p2 : Int32} {zr1 : Int32} {J : pd_J} {n : Nat} (hn : 133 ≤ n) (ha0 : pd_isCode a0 n = true) {O : Type} {kont : pd_I → pd_R → Option O} {out : O} (K : ∀ (zI3 : pd_I) (zZ2 : pd_R), kont zI3 zZ2 = some out → pd_V cx 0 0 75 [none, none, none, none, none, none] [] zI3 J (pd_RF zZ2) n) :
    ∀ (fu : Nat) (zx1 : Int32) (zI2 : pd_I) (zZ1 : pd_R), fl_X5_findLeast_17 a0 p1 p2 zr1 n kont fu zx1 zI2 zZ1 = some out → pd_V cx 0 0 17 [some (.ref 36), some (.ref a0), some (.int p1), some (.int p2), some (.int zr1), some (.int zx1)] [] zI2 J (pd_RF zZ1) n := by
  intro fu
  induction fu with
  | zero => intro zx1 zI2 zZ1 hF; rw [fl_X5_findLeast_17] at hF; cases hF
  | succ fu ih =>
    intro zx1 zI2 zZ1 hF
    rw [fl_X5_findLeast_17] at hF
    refine pd_iload C dX5_findLeast_17 rfl ?_
    refine pd_iload C dX5_findLeast_19 rfl ?_
    refine pd_icmp_ge (tgt := 75) C dX5_findLeast_21 (by decide) (fun zc5 => ?_) (fun zc5 => ?_)
    · have hF := pd_t zc5 hF
      refine pd_wk (ls' := [none, none, none, none, none, none]) True.intro ?_
      exact K _ _ hF
    · have hF := pd_f zc5 hF
      refine pd_aload_n C dX5_findLeast_24 rfl rfl ?_
      refine gr_5_0 C wd_1_152 (pd_lt (by decide) hn) sh_36 (rf_36_0 _) dX5_findLeast_25 ?_
      refine pd_aload_n C dX5_findLeast_28 rfl rfl ?_
      refine pd_iload_n C dX5_findLeast_29 rfl rfl ?_
      refine pd_iload C dX5_findLeast_30 rfl ?_
      obtain ⟨zI4, zh3, hF⟩ := pd_bd_some hF
      refine pd_callV C [.ref a0, .int p1, .int zx1] [] (em_X1_setEnds (pd_C_st C) hn ha0 zh3) mw_X1_setEnds wd_4_67 rfl (by decide) (pd_lt (by decide) hn) sh_11 ⟨by decide, by decide, by decide, by decide⟩ rfl (Nat.le_of_ble_eq_true rfl) pd_oldL_same (fun _ _ => pd_old_same _) dX5_findLeast_32 (stk' := []) rfl ?_
      refine pd_iload_n C dX5_findLeast_35 rfl rfl ?_
      refine pd_iconst (v := 1) C dX5_findLeast_36 (by decide) ?_
      obtain ⟨zI5, zZ3, hS, hF⟩ := pd_bd2_some hF
      have hJ69 : pd_V cx 0 0 69 [some (.ref 36), some (.ref a0), some (.int p1), some (.int p2), some (.int zr1), some (.int zx1)] [] zI5 J (pd_RF zZ3) n := by
        refine pd_iincG (zz := 1) C dX5_findLeast_69 rfl (by decide) rfl (fun zv1 hzv1 => ?_)
        have hF := pd_let_at hF hzv1
        refine pd_lsE (ls' := [some (.ref 36), some (.ref a0), some (.int p1), some (.int p2), some (.int zr1), some (.int zv1)]) rfl ?_
        refine pd_goto (tgt := 17) C dX5_findLeast_72 (by decide) ?_
        exact ih _ _ _ hF
      replace hF := hS
      clear hS
      obtain ⟨zc1, hS, hF⟩ := pd_bd_some hF
      have hTzc1 : zc1 = true → pd_V cx 0 0 46 [some (.ref 36), some (.ref a0), some (.int p1), some (.int p2), some (.int zr1), some (.int zx1)] [] zI4 J (pd_RF zZ1) n := by
        intro hc
        have hF := pd_t hc hF
        refine pd_aload_n C dX5_findLeast_46 rfl rfl ?_
        refine pd_iload C dX5_findLeast_47 rfl ?_
        refine pd_iload_n C dX5_findLeast_49 rfl rfl ?_
        obtain ⟨zr2, zI6, zZ4, zh4, hF⟩ := pd_bd3_some hF
        refine pd_callV C [.int zx1, .int p1] [] (em_X5_isWorthwhile (pd_C_st C) hn  zh4) mw_X5_isWorthwhile wd_4_85 rfl (by decide) (pd_lt (by decide) hn) sh_36 ⟨by decide, by decide, by decide, by decide⟩ rfl (Nat.le_of_ble_eq_true rfl) pd_oldL_same (fun _ _ => pd_old_same _) dX5_findLeast_50 (stk' := [.int zr2]) rfl ?_
        refine pd_if_eq (tgt := 69) C dX5_findLeast_53 (by decide) (fun zc2 => ?_) (fun zc2 => ?_)
        · have hF := pd_t zc2 hF
          have hF := hF.symm
          cases hF
          exact hJ69
        · have hF := pd_f zc2 hF
          refine pd_aload_n C dX5_findLeast_56 rfl rfl ?_
          refine pd_iload_n C dX5_findLeast_57 rfl rfl ?_
          refine pd_iload_n C dX5_findLeast_58 rfl rfl ?_
          obtain ⟨zI7, zZ5, zh5, hF⟩ := pd_bd2_some hF
          refine pd_callV C [.int p1, .int p2] [] (em_X5_comeBack (pd_C_st C) hn  zh5) mw_X5_comeBack wd_4_89 rfl (by decide) (pd_lt (by decide) hn) sh_36 ⟨by decide, by decide, by decide, by decide⟩ rfl (Nat.le_of_ble_eq_true rfl) pd_oldL_same (fun _ _ => pd_old_same _) dX5_findLeast_59 (stk' := []) rfl ?_
          refine pd_aload_n C dX5_findLeast_62 rfl rfl ?_
          refine pd_iload C dX5_findLeast_63 rfl ?_
          refine pd_iload_n C dX5_findLeast_65 rfl rfl ?_
          obtain ⟨zI8, zZ6, zh6, hF⟩ := pd_bd2_some hF
          refine pd_callV C [.int zx1, .int p1] [] (em_X5_offerAll (pd_C_st C) hn  zh6) mw_X5_offerAll wd_4_119 rfl (by decide) (pd_lt (by decide) hn) sh_36 ⟨by decide, by decide, by decide, by decide⟩ rfl (Nat.le_of_ble_eq_true rfl) pd_oldL_same (fun _ _ => pd_old_same _) dX5_findLeast_66 (stk' := []) rfl ?_
          have hF := hF.symm
          cases hF
          exact hJ69
      have hEzc1 : zc1 = false → pd_V cx 0 0 56 [some (.ref 36), some (.ref a0), some (.int p1), some (.int p2), some (.int zr1), some (.int zx1)] [] zI4 J (pd_RF zZ1) n := by
        intro hc
        have hF := pd_bf hc hF
        refine pd_aload_n C dX5_findLeast_56 rfl rfl ?_
        refine pd_iload_n C dX5_findLeast_57 rfl rfl ?_
        refine pd_iload_n C dX5_findLeast_58 rfl rfl ?_
        obtain ⟨zI9, zZ7, zh7, hF⟩ := pd_bd2_some hF
        refine pd_callV C [.int p1, .int p2] [] (em_X5_comeBack (pd_C_st C) hn  zh7) mw_X5_comeBack wd_4_89 rfl (by decide) (pd_lt (by decide) hn) sh_36 ⟨by decide, by decide, by decide, by decide⟩ rfl (Nat.le_of_ble_eq_true rfl) pd_oldL_same (fun _ _ => pd_old_same _) dX5_findLeast_59 (stk' := []) rfl ?_
        refine pd_aload_n C dX5_findLeast_62 rfl rfl ?_
        refine pd_iload C dX5_findLeast_63 rfl ?_
        refine pd_iload_n C dX5_findLeast_65 rfl rfl ?_
        obtain ⟨zI10, zZ8, zh8, hF⟩ := pd_bd2_some hF
        refine pd_callV C [.int zx1, .int p1] [] (em_X5_offerAll (pd_C_st C) hn  zh8) mw_X5_offerAll wd_4_119 rfl (by decide) (pd_lt (by decide) hn) sh_36 ⟨by decide, by decide, by decide, by decide⟩ rfl (Nat.le_of_ble_eq_true rfl) pd_oldL_same (fun _ _ => pd_old_same _) dX5_findLeast_66 (stk' := []) rfl ?_
        have hF := hF.symm
        cases hF
        exact hJ69
      replace hF := hS
      clear hS
      refine pd_icmp_eq (tgt := 56) C dX5_findLeast_37 (by decide) (fun zc4 => ?_) (fun zc4 => ?_)
      · have hF := pd_t zc4 hF
        cases hF
        exact hEzc1 rfl
      · have hF := pd_f zc4 hF
        refine pd_iload C dX5_findLeast_40 rfl ?_
        refine pd_iconst (v := 1) C dX5_findLeast_42 (by decide) ?_
        refine pd_icmp_eq (tgt := 56) C dX5_findLeast_43 (by decide) (fun zc3 => ?_) (fun zc3 => ?_)
        · have hF := pd_t zc3 hF
          cases hF
          exact hEzc1 rfl
        · have hF := pd_f zc3 hF
          cases hF
          exact hTzc1 rfl
def fn_X5_findLeast (I : pd_I) (Z : pd_R) (n : Nat) (a0 : Nat) (p1 : Int32) (p2 : Int32) : Option (pd_I × pd_R) := pd_bd (fn_X10_open I p2) fun zI1 => pd_bd (fn_X0_beginnings zI1 a0) fun zr1 => fl_X5_findLeast_17 a0 p1 p2 zr1 n (fun zI3 zZ2 => some (zI3, zZ2)) pd_FU 0 zI1 Z
set_option maxRecDepth 100000 in
set_option maxHeartbeats 4000000 in
theorem em_X5_findLeast {l : Launch} {D : va_G} {tc : Nat → ClassId} (hst : l.stackTraces = false) {I : pd_I} {J : pd_J} {Z : pd_R} {n : Nat} {a0 : Nat} {p1 : Int32} {p2 : Int32} (hn : 133 ≤ n) (ha0 : pd_isCode a0 n = true) {out : pd_I × pd_R} (hF : fn_X5_findLeast I Z n a0 p1 p2 = some out) :
    pd_M l D tc yX5_findLeast (.code yX5_findLeast cX5_findLeast 6 (Option.none : Option Jvm.ClassFile.FieldType)) rm_X5_findLeast [.ref 36, .ref a0, .int p1, .int p2] I J (pd_RF Z) n (.ok (none)) out.1 J (pd_RF out.2) n := by
  refine pd_open (own := "PathDecoder$Search") (ls0 := [some (.ref 36), some (.ref a0), some (.int p1), some (.int p2), none, none]) (by decide) rfl (Nat.le_of_ble_eq_true rfl) rfl rfl hst (fun cx hl hD htc C hE htab hnm => ?_)
  subst hl hD htc
  unfold fn_X5_findLeast at hF
  refine pd_aload_n C dX5_findLeast_0 rfl rfl ?_
  refine gr_5_1 C wd_1_153 (pd_lt (by decide) hn) sh_36 (rf_36_1 _) dX5_findLeast_1 ?_
  refine pd_iload_n C dX5_findLeast_4 rfl rfl ?_
  obtain ⟨zI1, zh1, hF⟩ := pd_bd_some hF
  refine pd_callV C [.int p2] [] (em_X10_open (pd_C_st C) hn  zh1) mw_X10_open wd_4_59 rfl (by decide) (pd_lt (by decide) hn) sh_16 ⟨by decide, by decide, by decide, by decide⟩ rfl (Nat.le_of_ble_eq_true rfl) pd_oldL_same (fun _ _ => pd_old_same _) dX5_findLeast_5 (stk' := []) rfl ?_
  refine pd_aload_n C dX5_findLeast_8 rfl rfl ?_
  obtain ⟨zr1, zh2, hF⟩ := pd_bd_some hF
  refine pd_callV C [] [] (em_X0_beginnings (pd_C_st C) hn ha0 zh2) mw_X0_beginnings wd_4_63 rfl (by decide) (pd_code_lt ha0) (pd_code_sh ha0) ⟨by decide, by decide, by decide, by decide⟩ rfl (Nat.le_of_ble_eq_true rfl) pd_oldL_same (fun _ _ => pd_old_same _) dX5_findLeast_9 (stk' := [.int zr1]) rfl ?_
  refine pd_istore (ls' := [some (.ref 36), some (.ref a0), some (.int p1), some (.int p2), some (.int zr1), none]) C dX5_findLeast_12 (Nat.le_of_ble_eq_true rfl) rfl rfl ?_
  refine pd_iconst (v := 0) C dX5_findLeast_14 (by decide) ?_
  refine pd_istore (ls' := [some (.ref 36), some (.ref a0), some (.int p1), some (.int p2), some (.int zr1), some (.int 0)]) C dX5_findLeast_15 (Nat.le_of_ble_eq_true rfl) rfl rfl ?_
  refine el_X5_findLeast_17 C hn ha0 (fun zI3 zZ2 hF => ?_) pd_FU _ _ _ hF
  cases hF
  exact pd_vret C hE rfl ⟨by decide, by decide⟩ dX5_findLeast_75

def fn_X10_count (I : pd_I) : Option Int32 := some (I 16 1)
set_option maxRecDepth 100000 in
set_option maxHeartbeats 4000000 in
theorem em_X10_count {l : Launch} {D : va_G} {tc : Nat → ClassId} (hst : l.stackTraces = false) {I : pd_I} {J : pd_J} {Z : pd_R} {n : Nat} (hn : 133 ≤ n)  {out : Int32} (hF : fn_X10_count I = some out) :
    pd_M l D tc yX10_count (.code yX10_count cX10_count 1 (Option.some Jvm.ClassFile.FieldType.int)) rm_X10_count [.ref 16] I J (pd_RF Z) n (.ok (some (.int out))) I J (pd_RF Z) n := by
  refine pd_open (own := "PathDecoder$Ways") (ls0 := [some (.ref 16)]) (by decide) rfl (Nat.le_of_ble_eq_true rfl) rfl rfl hst (fun cx hl hD htc C hE htab hnm => ?_)
  subst hl hD htc
  unfold fn_X10_count at hF
  refine pd_aload_n C dX10_count_0 rfl rfl ?_
  refine gi_10_1 C wd_1_136 (pd_lt (by decide) hn) sh_16 dX10_count_1 ?_
  cases hF
  exact pd_iret C hE rfl rfl rfl ⟨by decide, by decide⟩ dX10_count_4

def fn_X10_wayAt (Z : pd_R) (n : Nat) (p0 : Int32) : Option Nat := pd_gd (pd_in p0 9) (pd_bd (Z 17 p0.toNatClampNeg) fun zq1 => pd_gd (pd_isWay zq1) (some zq1))
set_option maxRecDepth 100000 in
set_option maxHeartbeats 4000000 in
theorem em_X10_wayAt {l : Launch} {D : va_G} {tc : Nat → ClassId} (hst : l.stackTraces = false) {I : pd_I} {J : pd_J} {Z : pd_R} {n : Nat} {p0 : Int32} (hn : 133 ≤ n)  {out : Nat} (hF : fn_X10_wayAt Z n p0 = some out) :
    pd_M l D tc yX10_wayAt (.code yX10_wayAt cX10_wayAt 2 (Option.some (Jvm.ClassFile.FieldType.object "PathDecoder$Way"))) rm_X10_wayAt [.ref 16, .int p0] I J (pd_RF Z) n (.ok (some (.ref out))) I J (pd_RF Z) n := by
  refine pd_open (own := "PathDecoder$Ways") (ls0 := [some (.ref 16), some (.int p0)]) (by decide) rfl (Nat.le_of_ble_eq_true rfl) rfl rfl hst (fun cx hl hD htc C hE htab hnm => ?_)
  subst hl hD htc
  unfold fn_X10_wayAt at hF
  refine pd_aload_n C dX10_wayAt_0 rfl rfl ?_
  refine gr_10_0 C wd_1_135 (pd_lt (by decide) hn) sh_16 (rf_16_0 _) dX10_wayAt_1 ?_
  refine pd_iload_n C dX10_wayAt_4 rfl rfl ?_
  obtain ⟨zg1, hF⟩ := pd_gd_some hF
  obtain ⟨zq1, hzq1, hF⟩ := pd_bd_some hF
  obtain ⟨zg2, hF⟩ := pd_gd_some hF
  refine pd_aald C (pd_lt (by decide) hn) sh_17 (by decide) zg1 ((pd_RF_dyn rfl).trans hzq1) dX10_wayAt_5 ?_
  cases hF
  exact pd_aret C hE rfl ⟨by decide, by decide⟩ dX10_wayAt_6

def fn_X11_best (I : pd_I) (Z : pd_R) (n : Nat) (p0 : Int32) (p1 : Int32) (p2 : Int32) : Option (Except String (Int32 × pd_I × pd_R)) := pd_bx (fn_X11_codeOf I Z n p0) fun zq1 => pd_gd (pd_isCode zq1 n) (pd_bx (fn_X11_rowOf Z n p1) fun zq2 => pd_gd (pd_isRow zq2) (pd_bx (fn_X11_demandOneWay I zq1) fun _ => pd_bx (fn_X11_demandBitCount p2) fun _ => pd_bd (fn_X11_prepare I zq1 zq2 p2) fun zI1 => pd_bd2 (fn_X5_findLeast zI1 Z n zq1 p2 1) fun zI2 zZ1 => pd_bd (fn_X10_count zI2) fun zr1 => pd_bd (if zr1 ≤ 0 then some (-1) else (pd_bd (fn_X10_wayAt zZ1 n 0) fun zq3 => pd_gd (pd_isWay zq3) (some (zI2 zq3 0)))) fun (zx1 : Int32) => some (.ok (zx1, zI2, zZ1))))
set_option maxRecDepth 100000 in
set_option maxHeartbeats 4000000 in
theorem em_X11_best {l : Launch} {D : va_G} {tc : Nat → ClassId} (hst : l.stackTraces = false) {I : pd_I} {J : pd_J} {Z : pd_R} {n : Nat} {p0 : Int32} {p1 : Int32} {p2 : Int32} (hn : 133 ≤ n)  {out : Except String (Int32 × pd_I × pd_R)} (hF : fn_X11_best I Z n p0 p1 p2 = some out) :
    pd_M l D tc yX11_best (.code yX11_best cX11_best 6 (Option.some Jvm.ClassFile.FieldType.int)) rm_X11_best [.ref 0, .int p0, .int p1, .int p2] I J (pd_RF Z) n (pd_oo (fun (p : Int32 × pd_I × pd_R) => some (.int p.1)) out) (pd_os (fun (p : Int32 × pd_I × pd_R) => p.2.1) I out) J (pd_RF (pd_os (fun (p : Int32 × pd_I × pd_R) => p.2.2) Z out)) n := by
  refine pd_open (own := "PathDecoder") (ls0 := [some (.ref 0), some (.int p0), some (.int p1), some (.int p2), none, none]) (by decide) rfl (Nat.le_of_ble_eq_true rfl) rfl rfl hst (fun cx hl hD htc C hE htab hnm => ?_)
  subst hl hD htc
  unfold fn_X11_best at hF
  refine pd_aload_n C dX11_best_0 rfl rfl ?_
  refine pd_iload_n C dX11_best_1 rfl rfl ?_
  rcases pd_bx_some hF with ⟨e9, zh1, he9⟩ | ⟨zq1, zh1, hF⟩
  · subst he9
    exact pd_callVX C [.int p0] [] (em_X11_codeOf (pd_C_st C) hn  zh1) mw_X11_codeOf wd_3_100 rfl (by decide) (pd_lt (by decide) hn) sh_0 ⟨by decide, by decide, by decide, by decide⟩ rfl (Nat.le_of_ble_eq_true rfl) dX11_best_2 (pd_prop C hE rfl htab ⟨by decide, by decide⟩)
  obtain ⟨zg1, hF⟩ := pd_gd_some hF
  refine pd_callV C [.int p0] [] (em_X11_codeOf (pd_C_st C) hn  zh1) mw_X11_codeOf wd_3_100 rfl (by decide) (pd_lt (by decide) hn) sh_0 ⟨by decide, by decide, by decide, by decide⟩ rfl (Nat.le_of_ble_eq_true rfl) pd_oldL_same (fun _ _ => pd_old_same _) dX11_best_2 (stk' := [.ref zq1]) rfl ?_
  refine pd_astore (ls' := [some (.ref 0), some (.int p0), some (.int p1), some (.int p2), some (.ref zq1), none]) C dX11_best_5 (Nat.le_of_ble_eq_true rfl) rfl rfl ?_
  refine pd_aload_n C dX11_best_7 rfl rfl ?_
  refine pd_iload_n C dX11_best_8 rfl rfl ?_
  rcases pd_bx_some hF with ⟨e9, zh2, he9⟩ | ⟨zq2, zh2, hF⟩
  · subst he9
    exact pd_callVX C [.int p1] [] (em_X11_rowOf (pd_C_st C) hn  zh2) mw_X11_rowOf wd_2_88 rfl (by decide) (pd_lt (by decide) hn) sh_0 ⟨by decide, by decide, by decide, by decide⟩ rfl (Nat.le_of_ble_eq_true rfl) dX11_best_9 (pd_prop C hE rfl htab ⟨by decide, by decide⟩)
  obtain ⟨zg2, hF⟩ := pd_gd_some hF
  refine pd_callV C [.int p1] [] (em_X11_rowOf (pd_C_st C) hn  zh2) mw_X11_rowOf wd_2_88 rfl (by decide) (pd_lt (by decide) hn) sh_0 ⟨by decide, by decide, by decide, by decide⟩ rfl (Nat.le_of_ble_eq_true rfl) pd_oldL_same (fun _ _ => pd_old_same _) dX11_best_9 (stk' := [.ref zq2]) rfl ?_
  refine pd_astore (ls' := [some (.ref 0), some (.int p0), some (.int p1), some (.int p2), some (.ref zq1), some (.ref zq2)]) C dX11_best_12 (Nat.le_of_ble_eq_true rfl) rfl rfl ?_
  refine pd_aload C dX11_best_14 rfl ?_
  rcases pd_bx_some hF with ⟨e9, zh3, he9⟩ | ⟨_, zh3, hF⟩
  · subst he9
    exact pd_callSX C [.ref zq1] [] (em_X11_demandOneWay (pd_C_st C) hn zg1 zh3) mw_X11_demandOneWay wd_4_31 ⟨by decide, by decide, by decide, by decide⟩ rfl (Nat.le_of_ble_eq_true rfl) dX11_best_16 (pd_prop C hE rfl htab ⟨by decide, by decide⟩)
  refine pd_callS C [.ref zq1] [] (em_X11_demandOneWay (pd_C_st C) hn zg1 zh3) mw_X11_demandOneWay wd_4_31 ⟨by decide, by decide, by decide, by decide⟩ rfl (Nat.le_of_ble_eq_true rfl) pd_oldL_same (fun _ _ => pd_old_same _) dX11_best_16 (stk' := []) rfl ?_
  refine pd_iload_n C dX11_best_19 rfl rfl ?_
  rcases pd_bx_some hF with ⟨e9, zh4, he9⟩ | ⟨_, zh4, hF⟩
  · subst he9
    exact pd_callSX C [.int p2] [] (em_X11_demandBitCount (pd_C_st C) hn  zh4) mw_X11_demandBitCount wd_3_154 ⟨by decide, by decide, by decide, by decide⟩ rfl (Nat.le_of_ble_eq_true rfl) dX11_best_20 (pd_prop C hE rfl htab ⟨by decide, by decide⟩)
  refine pd_callS C [.int p2] [] (em_X11_demandBitCount (pd_C_st C) hn  zh4) mw_X11_demandBitCount wd_3_154 ⟨by decide, by decide, by decide, by decide⟩ rfl (Nat.le_of_ble_eq_true rfl) pd_oldL_same (fun _ _ => pd_old_same _) dX11_best_20 (stk' := []) rfl ?_
  refine pd_aload_n C dX11_best_23 rfl rfl ?_
  refine pd_aload C dX11_best_24 rfl ?_
  refine pd_aload C dX11_best_26 rfl ?_
  refine pd_iload_n C dX11_best_28 rfl rfl ?_
  obtain ⟨zI1, zh5, hF⟩ := pd_bd_some hF
  refine pd_callV C [.ref zq1, .ref zq2, .int p2] [] (em_X11_prepare (pd_C_st C) hn zg1 zg2 zh5) mw_X11_prepare wd_4_35 rfl (by decide) (pd_lt (by decide) hn) sh_0 ⟨by decide, by decide, by decide, by decide⟩ rfl (Nat.le_of_ble_eq_true rfl) pd_oldL_same (fun _ _ => pd_old_same _) dX11_best_29 (stk' := []) rfl ?_
  refine pd_aload_n C dX11_best_32 rfl rfl ?_
  refine gr_11_7 C wd_2_39 (pd_lt (by decide) hn) sh_0 (rf_0_7 _) dX11_best_33 ?_
  refine pd_aload C dX11_best_36 rfl ?_
  refine pd_iload_n C dX11_best_38 rfl rfl ?_
  refine pd_iconst (v := 1) C dX11_best_39 (by decide) ?_
  obtain ⟨zI2, zZ1, zh6, hF⟩ := pd_bd2_some hF
  refine pd_callV C [.ref zq1, .int p2, .int 1] [] (em_X5_findLeast (pd_C_st C) hn zg1 zh6) mw_X5_findLeast wd_4_55 rfl (by decide) (pd_lt (by decide) hn) sh_36 ⟨by decide, by decide, by decide, by decide⟩ rfl (Nat.le_of_ble_eq_true rfl) pd_oldL_same (fun _ _ => pd_old_same _) dX11_best_40 (stk' := []) rfl ?_
  refine pd_aload_n C dX11_best_43 rfl rfl ?_
  refine gr_11_6 C wd_2_38 (pd_lt (by decide) hn) sh_0 (rf_0_6 _) dX11_best_44 ?_
  obtain ⟨zr1, zh7, hF⟩ := pd_bd_some hF
  refine pd_callV C [] [] (em_X10_count (pd_C_st C) hn  zh7) mw_X10_count wd_4_127 rfl (by decide) (pd_lt (by decide) hn) sh_16 ⟨by decide, by decide, by decide, by decide⟩ rfl (Nat.le_of_ble_eq_true rfl) pd_oldL_same (fun _ _ => pd_old_same _) dX11_best_47 (stk' := [.int zr1]) rfl ?_
  obtain ⟨zx1, hS, hF⟩ := pd_bd_some hF
  have hJ68 : pd_V cx 4 24 68 [none, none, none, none, none, none] [.int zx1] zI2 J (pd_RF zZ1) n := by
    cases hF
    exact pd_iret C hE rfl rfl rfl ⟨by decide, by decide⟩ dX11_best_68
  replace hF := hS
  clear hS
  refine pd_if_le (tgt := 67) C dX11_best_50 (by decide) (fun zc1 => ?_) (fun zc1 => ?_)
  · have hF := pd_t zc1 hF
    refine pd_iconst (v := (-1)) C dX11_best_67 (by decide) ?_
    refine pd_wk (ls' := [none, none, none, none, none, none]) True.intro ?_
    have hF := hF.symm
    cases hF
    exact hJ68
  · have hF := pd_f zc1 hF
    refine pd_aload_n C dX11_best_53 rfl rfl ?_
    refine gr_11_6 C wd_2_38 (pd_lt (by decide) hn) sh_0 (rf_0_6 _) dX11_best_54 ?_
    refine pd_iconst (v := 0) C dX11_best_57 (by decide) ?_
    obtain ⟨zq3, zh8, hF⟩ := pd_bd_some hF
    obtain ⟨zg3, hF⟩ := pd_gd_some hF
    refine pd_callV C [.int 0] [] (em_X10_wayAt (pd_C_st C) hn  zh8) mw_X10_wayAt wd_4_131 rfl (by decide) (pd_lt (by decide) hn) sh_16 ⟨by decide, by decide, by decide, by decide⟩ rfl (Nat.le_of_ble_eq_true rfl) pd_oldL_same (fun _ _ => pd_old_same _) dX11_best_58 (stk' := [.ref zq3]) rfl ?_
    refine gi_9_0 C wd_1_117 (pd_way_lt zg3 hn) (pd_way_sh zg3) dX11_best_61 ?_
    refine pd_goto (tgt := 68) C dX11_best_64 (by decide) ?_
    refine pd_wk (ls' := [none, none, none, none, none, none]) True.intro ?_
    have hF := hF.symm
    cases hF
    exact hJ68

def fn_X11_list (I : pd_I) (Z : pd_R) (n : Nat) (p0 : Int32) (p1 : Int32) (p2 : Int32) (p3 : Int32) : Option (Except String (Int32 × pd_I × pd_R)) := pd_bx (fn_X11_codeOf I Z n p0) fun zq1 => pd_gd (pd_isCode zq1 n) (pd_bx (fn_X11_rowOf Z n p1) fun zq2 => pd_gd (pd_isRow zq2) (pd_bx (fn_X11_demandOneWay I zq1) fun _ => pd_bx (fn_X11_demandBitCount p2) fun _ => pd_bd (if p3 < 1 then some false else (if p3 ≤ 8 then some true else (some false))) fun zc1 => if zc1 = true then pd_bd (fn_X11_prepare I zq1 zq2 p2) fun zI1 => pd_bd2 (fn_X5_findLeast zI1 Z n zq1 p2 p3) fun zI2 zZ1 => pd_bd (fn_X10_count zI2) fun zr1 => some (.ok (zr1, zI2, zZ1)) else (some (.error "java/lang/IllegalArgumentException"))))
set_option maxRecDepth 100000 in
set_option maxHeartbeats 4000000 in
theorem em_X11_list {l : Launch} {D : va_G} {tc : Nat → ClassId} (hst : l.stackTraces = false) {I : pd_I} {J : pd_J} {Z : pd_R} {n : Nat} {p0 : Int32} {p1 : Int32} {p2 : Int32} {p3 : Int32} (hn : 133 ≤ n)  {out : Except String (Int32 × pd_I × pd_R)} (hF : fn_X11_list I Z n p0 p1 p2 p3 = some out) :
    pd_M l D tc yX11_list (.code yX11_list cX11_list 7 (Option.some Jvm.ClassFile.FieldType.int)) rm_X11_list [.ref 0, .int p0, .int p1, .int p2, .int p3] I J (pd_RF Z) n (pd_oo (fun (p : Int32 × pd_I × pd_R) => some (.int p.1)) out) (pd_os (fun (p : Int32 × pd_I × pd_R) => p.2.1) I out) J (pd_RF (pd_os (fun (p : Int32 × pd_I × pd_R) => p.2.2) Z out)) n := by
  refine pd_open (own := "PathDecoder") (ls0 := [some (.ref 0), some (.int p0), some (.int p1), some (.int p2), some (.int p3), none, none]) (by decide) rfl (Nat.le_of_ble_eq_true rfl) rfl rfl hst (fun cx hl hD htc C hE htab hnm => ?_)
  subst hl hD htc
  unfold fn_X11_list at hF
  refine pd_aload_n C dX11_list_0 rfl rfl ?_
  refine pd_iload_n C dX11_list_1 rfl rfl ?_
  rcases pd_bx_some hF with ⟨e9, zh1, he9⟩ | ⟨zq1, zh1, hF⟩
  · subst he9
    exact pd_callVX C [.int p0] [] (em_X11_codeOf (pd_C_st C) hn  zh1) mw_X11_codeOf wd_3_100 rfl (by decide) (pd_lt (by decide) hn) sh_0 ⟨by decide, by decide, by decide, by decide⟩ rfl (Nat.le_of_ble_eq_true rfl) dX11_list_2 (pd_prop C hE rfl htab ⟨by decide, by decide⟩)
  obtain ⟨zg1, hF⟩ := pd_gd_some hF
  refine pd_callV C [.int p0] [] (em_X11_codeOf (pd_C_st C) hn  zh1) mw_X11_codeOf wd_3_100 rfl (by decide) (pd_lt (by decide) hn) sh_0 ⟨by decide, by decide, by decide, by decide⟩ rfl (Nat.le_of_ble_eq_true rfl) pd_oldL_same (fun _ _ => pd_old_same _) dX11_list_2 (stk' := [.ref zq1]) rfl ?_
  refine pd_astore (ls' := [some (.ref 0), some (.int p0), some (.int p1), some (.int p2), some (.int p3), some (.ref zq1), none]) C dX11_list_5 (Nat.le_of_ble_eq_true rfl) rfl rfl ?_
  refine pd_aload_n C dX11_list_7 rfl rfl ?_
  refine pd_iload_n C dX11_list_8 rfl rfl ?_
  rcases pd_bx_some hF with ⟨e9, zh2, he9⟩ | ⟨zq2, zh2, hF⟩
  · subst he9
    exact pd_callVX C [.int p1] [] (em_X11_rowOf (pd_C_st C) hn  zh2) mw_X11_rowOf wd_2_88 rfl (by decide) (pd_lt (by decide) hn) sh_0 ⟨by decide, by decide, by decide, by decide⟩ rfl (Nat.le_of_ble_eq_true rfl) dX11_list_9 (pd_prop C hE rfl htab ⟨by decide, by decide⟩)
  obtain ⟨zg2, hF⟩ := pd_gd_some hF
  refine pd_callV C [.int p1] [] (em_X11_rowOf (pd_C_st C) hn  zh2) mw_X11_rowOf wd_2_88 rfl (by decide) (pd_lt (by decide) hn) sh_0 ⟨by decide, by decide, by decide, by decide⟩ rfl (Nat.le_of_ble_eq_true rfl) pd_oldL_same (fun _ _ => pd_old_same _) dX11_list_9 (stk' := [.ref zq2]) rfl ?_
  refine pd_astore (ls' := [some (.ref 0), some (.int p0), some (.int p1), some (.int p2), some (.int p3), some (.ref zq1), some (.ref zq2)]) C dX11_list_12 (Nat.le_of_ble_eq_true rfl) rfl rfl ?_
  refine pd_aload C dX11_list_14 rfl ?_
  rcases pd_bx_some hF with ⟨e9, zh3, he9⟩ | ⟨_, zh3, hF⟩
  · subst he9
    exact pd_callSX C [.ref zq1] [] (em_X11_demandOneWay (pd_C_st C) hn zg1 zh3) mw_X11_demandOneWay wd_4_31 ⟨by decide, by decide, by decide, by decide⟩ rfl (Nat.le_of_ble_eq_true rfl) dX11_list_16 (pd_prop C hE rfl htab ⟨by decide, by decide⟩)
  refine pd_callS C [.ref zq1] [] (em_X11_demandOneWay (pd_C_st C) hn zg1 zh3) mw_X11_demandOneWay wd_4_31 ⟨by decide, by decide, by decide, by decide⟩ rfl (Nat.le_of_ble_eq_true rfl) pd_oldL_same (fun _ _ => pd_old_same _) dX11_list_16 (stk' := []) rfl ?_
  refine pd_iload_n C dX11_list_19 rfl rfl ?_
  rcases pd_bx_some hF with ⟨e9, zh4, he9⟩ | ⟨_, zh4, hF⟩
  · subst he9
    exact pd_callSX C [.int p2] [] (em_X11_demandBitCount (pd_C_st C) hn  zh4) mw_X11_demandBitCount wd_3_154 ⟨by decide, by decide, by decide, by decide⟩ rfl (Nat.le_of_ble_eq_true rfl) dX11_list_20 (pd_prop C hE rfl htab ⟨by decide, by decide⟩)
  refine pd_callS C [.int p2] [] (em_X11_demandBitCount (pd_C_st C) hn  zh4) mw_X11_demandBitCount wd_3_154 ⟨by decide, by decide, by decide, by decide⟩ rfl (Nat.le_of_ble_eq_true rfl) pd_oldL_same (fun _ _ => pd_old_same _) dX11_list_20 (stk' := []) rfl ?_
  refine pd_iload C dX11_list_23 rfl ?_
  refine pd_iconst (v := 1) C dX11_list_25 (by decide) ?_
  obtain ⟨zc1, hS, hF⟩ := pd_bd_some hF
  have hTzc1 : zc1 = true → pd_V cx 4 24 47 [some (.ref 0), some (.int p0), some (.int p1), some (.int p2), some (.int p3), some (.ref zq1), some (.ref zq2)] [] I J (pd_RF Z) n := by
    intro hc
    have hF := pd_t hc hF
    refine pd_aload_n C dX11_list_47 rfl rfl ?_
    refine pd_aload C dX11_list_48 rfl ?_
    refine pd_aload C dX11_list_50 rfl ?_
    refine pd_iload_n C dX11_list_52 rfl rfl ?_
    obtain ⟨zI1, zh5, hF⟩ := pd_bd_some hF
    refine pd_callV C [.ref zq1, .ref zq2, .int p2] [] (em_X11_prepare (pd_C_st C) hn zg1 zg2 zh5) mw_X11_prepare wd_4_35 rfl (by decide) (pd_lt (by decide) hn) sh_0 ⟨by decide, by decide, by decide, by decide⟩ rfl (Nat.le_of_ble_eq_true rfl) pd_oldL_same (fun _ _ => pd_old_same _) dX11_list_53 (stk' := []) rfl ?_
    refine pd_aload_n C dX11_list_56 rfl rfl ?_
    refine gr_11_7 C wd_2_39 (pd_lt (by decide) hn) sh_0 (rf_0_7 _) dX11_list_57 ?_
    refine pd_aload C dX11_list_60 rfl ?_
    refine pd_iload_n C dX11_list_62 rfl rfl ?_
    refine pd_iload C dX11_list_63 rfl ?_
    obtain ⟨zI2, zZ1, zh6, hF⟩ := pd_bd2_some hF
    refine pd_callV C [.ref zq1, .int p2, .int p3] [] (em_X5_findLeast (pd_C_st C) hn zg1 zh6) mw_X5_findLeast wd_4_55 rfl (by decide) (pd_lt (by decide) hn) sh_36 ⟨by decide, by decide, by decide, by decide⟩ rfl (Nat.le_of_ble_eq_true rfl) pd_oldL_same (fun _ _ => pd_old_same _) dX11_list_65 (stk' := []) rfl ?_
    refine pd_aload_n C dX11_list_68 rfl rfl ?_
    refine gr_11_6 C wd_2_38 (pd_lt (by decide) hn) sh_0 (rf_0_6 _) dX11_list_69 ?_
    obtain ⟨zr1, zh7, hF⟩ := pd_bd_some hF
    refine pd_callV C [] [] (em_X10_count (pd_C_st C) hn  zh7) mw_X10_count wd_4_127 rfl (by decide) (pd_lt (by decide) hn) sh_16 ⟨by decide, by decide, by decide, by decide⟩ rfl (Nat.le_of_ble_eq_true rfl) pd_oldL_same (fun _ _ => pd_old_same _) dX11_list_72 (stk' := [.int zr1]) rfl ?_
    cases hF
    exact pd_iret C hE rfl rfl rfl ⟨by decide, by decide⟩ dX11_list_75
  have hEzc1 : zc1 = false → pd_V cx 4 24 36 [some (.ref 0), some (.int p0), some (.int p1), some (.int p2), some (.int p3), some (.ref zq1), some (.ref zq2)] [] I J (pd_RF Z) n := by
    intro hc
    have hF := pd_bf hc hF
    cases hF
    exact pd_throwW (ik := 103) C hE rfl htab pd_tw1 wd_2_159 wd_1_17 (List.mem_of_getElem? (i := 20) rfl) dX11_list_36 dX11_list_39 dX11_list_40 dX11_list_43 dX11_list_46 ⟨by decide, Nat.le_of_ble_eq_true rfl, by decide, by decide⟩
  replace hF := hS
  clear hS
  refine pd_icmp_lt (tgt := 36) C dX11_list_26 (by decide) (fun zc3 => ?_) (fun zc3 => ?_)
  · have hF := pd_t zc3 hF
    cases hF
    exact hEzc1 rfl
  · have hF := pd_f zc3 hF
    refine pd_iload C dX11_list_29 rfl ?_
    refine pd_bipush (v := 8) C dX11_list_31 (by decide) ?_
    refine pd_icmp_le (tgt := 47) C dX11_list_33 (by decide) (fun zc2 => ?_) (fun zc2 => ?_)
    · have hF := pd_t zc2 hF
      cases hF
      exact hTzc1 rfl
    · have hF := pd_f zc2 hF
      cases hF
      exact hEzc1 rfl

def fl_X5_goOn_2 {O : Type} (Z : pd_R) (n : Nat) (kont : pd_I → Option O) : Nat → Int32 → pd_I → Option O
  | 0, _, _ => none
  | fu + 1, zx1, zI1 => if (zI1 11 3) ≤ zx1 then kont zI1 else (pd_bd (Z 36 2) fun zq1 => pd_gd (pd_isArr zq1 512 n) (pd_gd (pd_in zx1 512) (pd_let (pd_ui zI1 zq1 zx1.toNatClampNeg 536870912) fun zI3 => pd_let (zx1 + 1) fun zv1 => fl_X5_goOn_2 Z n kont fu zv1 zI3)))
set_option maxRecDepth 100000 in
set_option maxHeartbeats 4000000 in
theorem el_X5_goOn_2 {cx : pd_X} (C : pd_C cx "PathDecoder$Search" cX5_goOn rm_X5_goOn) {p0 : Int32} {p1 : Int32} {J : pd_J} {Z : pd_R} {n : Nat} (hn : 133 ≤ n)  {O : Type} {kont : pd_I → Option O} {out : O} (K : ∀ (zI2 : pd_I), kont zI2 = some out → pd_V cx 0 0 27 [some (.ref 36), some (.int p0), some (.int p1), none, none, none, none] [] zI2 J (pd_RF Z) n) :
    ∀ (fu : Nat) (zx1 : Int32) (zI1 : pd_I), fl_X5_goOn_2 Z n kont fu zx1 zI1 = some out → pd_V cx 0 0 2 [some (.ref 36), some (.int p0), some (.int p1), some (.int zx1), none, none, none] [] zI1 J (pd_RF Z) n := by
  intro fu
  induction fu with
  | zero => intro zx1 zI1 hF; rw [fl_X5_goOn_2] at hF; cases hF
  | succ fu ih =>
    intro zx1 zI1 hF
    rw [fl_X5_goOn_2] at hF
    refine pd_iload_n C dX5_goOn_2 rfl rfl ?_
    refine pd_aload_n C dX5_goOn_3 rfl rfl ?_
    refine gr_5_0 C wd_1_152 (pd_lt (by decide) hn) sh_36 (rf_36_0 _) dX5_goOn_4 ?_
    refine gi_1_3 C wd_1_90 (pd_lt (by decide) hn) sh_11 dX5_goOn_7 ?_
    refine pd_icmp_ge (tgt := 27) C dX5_goOn_10 (by decide) (fun zc1 => ?_) (fun zc1 => ?_)
    · have hF := pd_t zc1 hF
      refine pd_wk (ls' := [some (.ref 36), some (.int p0), some (.int p1), none, none, none, none]) (And.intro rfl (And.intro rfl (And.intro rfl True.intro))) ?_
      exact K _ hF
    · have hF := pd_f zc1 hF
      refine pd_aload_n C dX5_goOn_13 rfl rfl ?_
      obtain ⟨zq1, hzq1, hF⟩ := pd_bd_some hF
      obtain ⟨zg1, hF⟩ := pd_gd_some hF
      refine gr_5_2 C wd_1_154 (pd_lt (by decide) hn) sh_36 ((pd_RF_dyn rfl).trans hzq1) dX5_goOn_14 ?_
      refine pd_iload_n C dX5_goOn_17 rfl rfl ?_
      refine pd_ldc C wd_4_93 dX5_goOn_18 ?_
      obtain ⟨zg2, hF⟩ := pd_gd_some hF
      refine pd_iast C (pd_arr_lt zg1) (pd_arr_sh zg1) zg2 dX5_goOn_20 ?_
      refine pd_memI (fun zI3 hzI3 => ?_)
      have hF := pd_let_at hF hzI3
      refine pd_iincG (zz := 1) C dX5_goOn_21 rfl (by decide) rfl (fun zv1 hzv1 => ?_)
      have hF := pd_let_at hF hzv1
      refine pd_lsE (ls' := [some (.ref 36), some (.int p0), some (.int p1), some (.int zv1), none, none, none]) rfl ?_
      refine pd_goto (tgt := 2) C dX5_goOn_24 (by decide) ?_
      exact ih _ _ hF
def fl_X5_goOn_29 {O : Type} (p0 : Int32) (p1 : Int32) (Z : pd_R) (n : Nat) (kont : pd_I → Option O) : Nat → Int32 → pd_I → Option O
  | 0, _, _ => none
  | fu + 1, zx2, zI4 => if (2 * (zI4 11 3)) ≤ zx2 then kont zI4 else (pd_let (zx2 / 2) fun zv2 => pd_gd (pd_in zx2 128) (pd_let (zI4 12 zx2.toNatClampNeg) fun zv3 => pd_bd (Z 36 3) fun zq2 => pd_gd (pd_isArr zq2 512 n) (pd_gd (pd_in zv2 512) (pd_bd (pd_bd (if 536870912 ≤ (zI4 zq2 zv2.toNatClampNeg) then some false else (if p1 = 0 then some true else (pd_bd (fn_X1_tailEdge zI4 zv2) fun zr3 => if zx2 = zr3 then some true else (some false)))) fun zc4 => if zc4 = true then some 1 else (some 0)) fun (zx3 : Int32) => pd_bd (if zx3 = 0 then some zI4 else (pd_bd (Z 36 3) fun zq3 => pd_gd (pd_isArr zq3 512 n) (pd_gd (pd_in zv2 512) (pd_bd (fn_X1_priceOf zI4 p0 zx2) fun zr1 => pd_bd (Z 36 2) fun zq4 => pd_gd (pd_isArr zq4 512 n) (pd_gd (pd_in zv3 512) (if (zI4 zq4 zv3.toNatClampNeg) ≤ ((zI4 zq3 zv2.toNatClampNeg) + zr1) then some zI4 else (pd_bd (Z 36 2) fun zq5 => pd_gd (pd_isArr zq5 512 n) (pd_bd (Z 36 3) fun zq6 => pd_gd (pd_isArr zq6 512 n) (pd_gd (pd_in zv2 512) (pd_bd (fn_X1_priceOf zI4 p0 zx2) fun zr2 => pd_gd (pd_in zv3 512) (pd_let (pd_ui zI4 zq5 zv3.toNatClampNeg ((zI4 zq6 zv2.toNatClampNeg) + zr2)) fun zI7 => pd_gd (pd_in ((p0 * 64) + zv3) 13184) (pd_let (pd_ui zI7 42 ((p0 * 64) + zv3).toNatClampNeg (zv2.toInt8.toInt32.toInt8.toInt32)) fun zI8 => some zI8)))))))))))) fun (zI6 : pd_I) => pd_let (zx2 + 1) fun zv4 => fl_X5_goOn_29 p0 p1 Z n kont fu zv4 zI6))))
set_option maxRecDepth 100000 in
set_option maxHeartbeats 4000000 in
theorem el_X5_goOn_29 {cx : pd_X} (C : pd_C cx "PathDecoder$Search" cX5_goOn rm_X5_goOn) {p0 : Int32} {p1 : Int32} {J : pd_J} {Z : pd_R} {n : Nat} (hn : 133 ≤ n)  {O : Type} {kont : pd_I → Option O} {out : O} (K : ∀ (zI5 : pd_I), kont zI5 = some out → pd_V cx 0 0 171 [some (.ref 36), none, none, none, none, none, none] [] zI5 J (pd_RF Z) n) :
    ∀ (fu : Nat) (zx2 : Int32) (zI4 : pd_I), fl_X5_goOn_29 p0 p1 Z n kont fu zx2 zI4 = some out → pd_V cx 0 0 29 [some (.ref 36), some (.int p0), some (.int p1), some (.int zx2), none, none, none] [] zI4 J (pd_RF Z) n := by
  intro fu
  induction fu with
  | zero => intro zx2 zI4 hF; rw [fl_X5_goOn_29] at hF; cases hF
  | succ fu ih =>
    intro zx2 zI4 hF
    rw [fl_X5_goOn_29] at hF
    refine pd_iload_n C dX5_goOn_29 rfl rfl ?_
    refine pd_iconst (v := 2) C dX5_goOn_30 (by decide) ?_
    refine pd_aload_n C dX5_goOn_31 rfl rfl ?_
    refine gr_5_0 C wd_1_152 (pd_lt (by decide) hn) sh_36 (rf_36_0 _) dX5_goOn_32 ?_
    refine gi_1_3 C wd_1_90 (pd_lt (by decide) hn) sh_11 dX5_goOn_35 ?_
    refine pd_imul C dX5_goOn_38 ?_
    refine pd_icmp_ge (tgt := 171) C dX5_goOn_39 (by decide) (fun zc8 => ?_) (fun zc8 => ?_)
    · have hF := pd_t zc8 hF
      refine pd_wk (ls' := [some (.ref 36), none, none, none, none, none, none]) (And.intro rfl True.intro) ?_
      exact K _ hF
    · have hF := pd_f zc8 hF
      refine pd_iload_n C dX5_goOn_42 rfl rfl ?_
      refine pd_iconst (v := 2) C dX5_goOn_43 (by decide) ?_
      refine pd_idiv C dX5_goOn_44 (by decide) ?_
      refine pd_topi (fun zv2 hzv2 => ?_)
      have hF := pd_let_at hF hzv2
      refine pd_istore (ls' := [some (.ref 36), some (.int p0), some (.int p1), some (.int zx2), some (.int zv2), none, none]) C dX5_goOn_45 (Nat.le_of_ble_eq_true rfl) rfl rfl ?_
      refine pd_aload_n C dX5_goOn_47 rfl rfl ?_
      refine gr_5_0 C wd_1_152 (pd_lt (by decide) hn) sh_36 (rf_36_0 _) dX5_goOn_48 ?_
      refine gr_1_0 C wd_1_81 (pd_lt (by decide) hn) sh_11 (rf_11_0 _) dX5_goOn_51 ?_
      refine pd_iload_n C dX5_goOn_54 rfl rfl ?_
      obtain ⟨zg3, hF⟩ := pd_gd_some hF
      refine pd_iald C (pd_lt (by decide) hn) sh_12 zg3 dX5_goOn_55 ?_
      refine pd_topi (fun zv3 hzv3 => ?_)
      have hF := pd_let_at hF hzv3
      refine pd_istore (ls' := [some (.ref 36), some (.int p0), some (.int p1), some (.int zx2), some (.int zv2), some (.int zv3), none]) C dX5_goOn_56 (Nat.le_of_ble_eq_true rfl) rfl rfl ?_
      refine pd_aload_n C dX5_goOn_58 rfl rfl ?_
      obtain ⟨zq2, hzq2, hF⟩ := pd_bd_some hF
      obtain ⟨zg4, hF⟩ := pd_gd_some hF
      refine gr_5_3 C wd_1_155 (pd_lt (by decide) hn) sh_36 ((pd_RF_dyn rfl).trans hzq2) dX5_goOn_59 ?_
      refine pd_iload C dX5_goOn_62 rfl ?_
      obtain ⟨zg5, hF⟩ := pd_gd_some hF
      refine pd_iald C (pd_arr_lt zg4) (pd_arr_sh zg4) zg5 dX5_goOn_64 ?_
      refine pd_ldc C wd_4_93 dX5_goOn_65 ?_
      obtain ⟨zx3, hS, hF⟩ := pd_bd_some hF
      have hJ92 : pd_V cx 0 0 92 [some (.ref 36), some (.int p0), some (.int p1), some (.int zx2), some (.int zv2), some (.int zv3), none] [.int zx3] zI4 J (pd_RF Z) n := by
        refine pd_istore (ls' := [some (.ref 36), some (.int p0), some (.int p1), some (.int zx2), some (.int zv2), some (.int zv3), some (.int zx3)]) C dX5_goOn_92 (Nat.le_of_ble_eq_true rfl) rfl rfl ?_
        refine pd_iload C dX5_goOn_94 rfl ?_
        obtain ⟨zI6, hS, hF⟩ := pd_bd_some hF
        have hJ165 : pd_V cx 0 0 165 [some (.ref 36), some (.int p0), some (.int p1), some (.int zx2), none, none, none] [] zI6 J (pd_RF Z) n := by
          refine pd_iincG (zz := 1) C dX5_goOn_165 rfl (by decide) rfl (fun zv4 hzv4 => ?_)
          have hF := pd_let_at hF hzv4
          refine pd_lsE (ls' := [some (.ref 36), some (.int p0), some (.int p1), some (.int zv4), none, none, none]) rfl ?_
          refine pd_goto (tgt := 29) C dX5_goOn_168 (by decide) ?_
          exact ih _ _ hF
        replace hF := hS
        clear hS
        refine pd_if_eq (tgt := 165) C dX5_goOn_96 (by decide) (fun zc3 => ?_) (fun zc3 => ?_)
        · have hF := pd_t zc3 hF
          refine pd_wk (ls' := [some (.ref 36), some (.int p0), some (.int p1), some (.int zx2), none, none, none]) (And.intro rfl (And.intro rfl (And.intro rfl (And.intro rfl True.intro)))) ?_
          have hF := hF.symm
          cases hF
          exact hJ165
        · have hF := pd_f zc3 hF
          refine pd_aload_n C dX5_goOn_99 rfl rfl ?_
          obtain ⟨zq3, hzq3, hF⟩ := pd_bd_some hF
          obtain ⟨zg6, hF⟩ := pd_gd_some hF
          refine gr_5_3 C wd_1_155 (pd_lt (by decide) hn) sh_36 ((pd_RF_dyn rfl).trans hzq3) dX5_goOn_100 ?_
          refine pd_iload C dX5_goOn_103 rfl ?_
          obtain ⟨zg7, hF⟩ := pd_gd_some hF
          refine pd_iald C (pd_arr_lt zg6) (pd_arr_sh zg6) zg7 dX5_goOn_105 ?_
          refine pd_aload_n C dX5_goOn_106 rfl rfl ?_
          refine gr_5_0 C wd_1_152 (pd_lt (by decide) hn) sh_36 (rf_36_0 _) dX5_goOn_107 ?_
          refine pd_iload_n C dX5_goOn_110 rfl rfl ?_
          refine pd_iload_n C dX5_goOn_111 rfl rfl ?_
          obtain ⟨zr1, zh1, hF⟩ := pd_bd_some hF
          refine pd_callV C [.int p0, .int zx2] [.int (zI4 zq3 zv2.toNatClampNeg)] (em_X1_priceOf (pd_C_st C) hn  zh1) mw_X1_priceOf wd_4_98 rfl (by decide) (pd_lt (by decide) hn) sh_11 ⟨by decide, by decide, by decide, by decide⟩ rfl (Nat.le_of_ble_eq_true rfl) pd_oldL_same (fun _ _ => pd_old_same _) dX5_goOn_112 (stk' := [.int zr1, .int (zI4 zq3 zv2.toNatClampNeg)]) rfl ?_
          refine pd_iadd C dX5_goOn_115 ?_
          refine pd_aload_n C dX5_goOn_116 rfl rfl ?_
          obtain ⟨zq4, hzq4, hF⟩ := pd_bd_some hF
          obtain ⟨zg8, hF⟩ := pd_gd_some hF
          refine gr_5_2 C wd_1_154 (pd_lt (by decide) hn) sh_36 ((pd_RF_dyn rfl).trans hzq4) dX5_goOn_117 ?_
          refine pd_iload C dX5_goOn_120 rfl ?_
          obtain ⟨zg9, hF⟩ := pd_gd_some hF
          refine pd_iald C (pd_arr_lt zg8) (pd_arr_sh zg8) zg9 dX5_goOn_122 ?_
          refine pd_icmp_ge (tgt := 165) C dX5_goOn_123 (by decide) (fun zc2 => ?_) (fun zc2 => ?_)
          · have hF := pd_t zc2 hF
            refine pd_wk (ls' := [some (.ref 36), some (.int p0), some (.int p1), some (.int zx2), none, none, none]) (And.intro rfl (And.intro rfl (And.intro rfl (And.intro rfl True.intro)))) ?_
            have hF := hF.symm
            cases hF
            exact hJ165
          · have hF := pd_f zc2 hF
            refine pd_aload_n C dX5_goOn_126 rfl rfl ?_
            obtain ⟨zq5, hzq5, hF⟩ := pd_bd_some hF
            obtain ⟨zg10, hF⟩ := pd_gd_some hF
            refine gr_5_2 C wd_1_154 (pd_lt (by decide) hn) sh_36 ((pd_RF_dyn rfl).trans hzq5) dX5_goOn_127 ?_
            refine pd_iload C dX5_goOn_130 rfl ?_
            refine pd_aload_n C dX5_goOn_132 rfl rfl ?_
            obtain ⟨zq6, hzq6, hF⟩ := pd_bd_some hF
            obtain ⟨zg11, hF⟩ := pd_gd_some hF
            refine gr_5_3 C wd_1_155 (pd_lt (by decide) hn) sh_36 ((pd_RF_dyn rfl).trans hzq6) dX5_goOn_133 ?_
            refine pd_iload C dX5_goOn_136 rfl ?_
            obtain ⟨zg12, hF⟩ := pd_gd_some hF
            refine pd_iald C (pd_arr_lt zg11) (pd_arr_sh zg11) zg12 dX5_goOn_138 ?_
            refine pd_aload_n C dX5_goOn_139 rfl rfl ?_
            refine gr_5_0 C wd_1_152 (pd_lt (by decide) hn) sh_36 (rf_36_0 _) dX5_goOn_140 ?_
            refine pd_iload_n C dX5_goOn_143 rfl rfl ?_
            refine pd_iload_n C dX5_goOn_144 rfl rfl ?_
            obtain ⟨zr2, zh2, hF⟩ := pd_bd_some hF
            refine pd_callV C [.int p0, .int zx2] [.int (zI4 zq6 zv2.toNatClampNeg), .int zv3, .ref zq5] (em_X1_priceOf (pd_C_st C) hn  zh2) mw_X1_priceOf wd_4_98 rfl (by decide) (pd_lt (by decide) hn) sh_11 ⟨by decide, by decide, by decide, by decide⟩ rfl (Nat.le_of_ble_eq_true rfl) pd_oldL_same (fun _ _ => pd_old_same _) dX5_goOn_145 (stk' := [.int zr2, .int (zI4 zq6 zv2.toNatClampNeg), .int zv3, .ref zq5]) rfl ?_
            refine pd_iadd C dX5_goOn_148 ?_
            obtain ⟨zg13, hF⟩ := pd_gd_some hF
            refine pd_iast C (pd_arr_lt zg10) (pd_arr_sh zg10) zg13 dX5_goOn_149 ?_
            refine pd_memI (fun zI7 hzI7 => ?_)
            have hF := pd_let_at hF hzI7
            refine pd_aload_n C dX5_goOn_150 rfl rfl ?_
            refine gr_5_7 C wd_1_159 (pd_lt (by decide) hn) sh_36 (rf_36_7 _) dX5_goOn_151 ?_
            refine pd_iload_n C dX5_goOn_154 rfl rfl ?_
            refine pd_bipush (v := 64) C dX5_goOn_155 (by decide) ?_
            refine pd_imul C dX5_goOn_157 ?_
            refine pd_iload C dX5_goOn_158 rfl ?_
            refine pd_iadd C dX5_goOn_160 ?_
            refine pd_iload C dX5_goOn_161 rfl ?_
            refine pd_i2b C dX5_goOn_163 ?_
            obtain ⟨zg14, hF⟩ := pd_gd_some hF
            refine pd_bast C (pd_lt (by decide) hn) sh_42 zg14 dX5_goOn_164 ?_
            refine pd_memI (fun zI8 hzI8 => ?_)
            have hF := pd_let_at hF hzI8
            refine pd_wk (ls' := [some (.ref 36), some (.int p0), some (.int p1), some (.int zx2), none, none, none]) (And.intro rfl (And.intro rfl (And.intro rfl (And.intro rfl True.intro)))) ?_
            have hF := hF.symm
            cases hF
            exact hJ165
      replace hF := hS
      clear hS
      obtain ⟨zc4, hS, hF⟩ := pd_bd_some hF
      have hTzc4 : zc4 = true → pd_V cx 0 0 87 [some (.ref 36), some (.int p0), some (.int p1), some (.int zx2), some (.int zv2), some (.int zv3), none] [] zI4 J (pd_RF Z) n := by
        intro hc
        have hF := pd_t hc hF
        refine pd_iconst (v := 1) C dX5_goOn_87 (by decide) ?_
        refine pd_goto (tgt := 92) C dX5_goOn_88 (by decide) ?_
        have hF := hF.symm
        cases hF
        exact hJ92
      have hEzc4 : zc4 = false → pd_V cx 0 0 91 [some (.ref 36), some (.int p0), some (.int p1), some (.int zx2), some (.int zv2), some (.int zv3), none] [] zI4 J (pd_RF Z) n := by
        intro hc
        have hF := pd_bf hc hF
        refine pd_iconst (v := 0) C dX5_goOn_91 (by decide) ?_
        have hF := hF.symm
        cases hF
        exact hJ92
      replace hF := hS
      clear hS
      refine pd_icmp_ge (tgt := 91) C dX5_goOn_67 (by decide) (fun zc7 => ?_) (fun zc7 => ?_)
      · have hF := pd_t zc7 hF
        cases hF
        exact hEzc4 rfl
      · have hF := pd_f zc7 hF
        refine pd_iload_n C dX5_goOn_70 rfl rfl ?_
        refine pd_if_eq (tgt := 87) C dX5_goOn_71 (by decide) (fun zc6 => ?_) (fun zc6 => ?_)
        · have hF := pd_t zc6 hF
          cases hF
          exact hTzc4 rfl
        · have hF := pd_f zc6 hF
          refine pd_iload_n C dX5_goOn_74 rfl rfl ?_
          refine pd_aload_n C dX5_goOn_75 rfl rfl ?_
          refine gr_5_0 C wd_1_152 (pd_lt (by decide) hn) sh_36 (rf_36_0 _) dX5_goOn_76 ?_
          refine pd_iload C dX5_goOn_79 rfl ?_
          obtain ⟨zr3, zh3, hF⟩ := pd_bd_some hF
          refine pd_callV C [.int zv2] [.int zx2] (em_X1_tailEdge (pd_C_st C) hn  zh3) mw_X1_tailEdge wd_4_161 rfl (by decide) (pd_lt (by decide) hn) sh_11 ⟨by decide, by decide, by decide, by decide⟩ rfl (Nat.le_of_ble_eq_true rfl) pd_oldL_same (fun _ _ => pd_old_same _) dX5_goOn_81 (stk' := [.int zr3, .int zx2]) rfl ?_
          refine pd_icmp_ne (tgt := 91) C dX5_goOn_84 (by decide) (fun zc5 => ?_) (fun zc5 => ?_)
          · have hF := pd_f zc5 hF
            cases hF
            exact hEzc4 rfl
          · have hF := pd_t zc5 hF
            cases hF
            exact hTzc4 rfl
def fn_X5_goOn (I : pd_I) (Z : pd_R) (n : Nat) (p0 : Int32) (p1 : Int32) : Option (pd_I × pd_R) := fl_X5_goOn_2 Z n (fun zI2 => fl_X5_goOn_29 p0 p1 Z n (fun zI5 => pd_bd (Z 36 2) fun zq7 => pd_gd (pd_isArr zq7 512 n) (pd_bd (Z 36 3) fun zq8 => pd_gd (pd_isArr zq8 512 n) (pd_let (pd_ur Z 36 2 (some zq8)) fun zZ1 => pd_let (pd_ur zZ1 36 3 (some zq7)) fun zZ2 => some (zI5, zZ2)))) pd_FU 0 zI2) pd_FU 0 I
set_option maxRecDepth 100000 in
set_option maxHeartbeats 4000000 in
theorem em_X5_goOn {l : Launch} {D : va_G} {tc : Nat → ClassId} (hst : l.stackTraces = false) {I : pd_I} {J : pd_J} {Z : pd_R} {n : Nat} {p0 : Int32} {p1 : Int32} (hn : 133 ≤ n)  {out : pd_I × pd_R} (hF : fn_X5_goOn I Z n p0 p1 = some out) :
    pd_M l D tc yX5_goOn (.code yX5_goOn cX5_goOn 7 (Option.none : Option Jvm.ClassFile.FieldType)) rm_X5_goOn [.ref 36, .int p0, .int p1] I J (pd_RF Z) n (.ok (none)) out.1 J (pd_RF out.2) n := by
  refine pd_open (own := "PathDecoder$Search") (ls0 := [some (.ref 36), some (.int p0), some (.int p1), none, none, none, none]) (by decide) rfl (Nat.le_of_ble_eq_true rfl) rfl rfl hst (fun cx hl hD htc C hE htab hnm => ?_)
  subst hl hD htc
  unfold fn_X5_goOn at hF
  refine pd_iconst (v := 0) C dX5_goOn_0 (by decide) ?_
  refine pd_istore_n (ls' := [some (.ref 36), some (.int p0), some (.int p1), some (.int 0), none, none, none]) C dX5_goOn_1 rfl (Nat.le_of_ble_eq_true rfl) rfl rfl ?_
  refine el_X5_goOn_2 C hn (fun zI2 hF => ?_) pd_FU _ _ hF
  refine pd_iconst (v := 0) C dX5_goOn_27 (by decide) ?_
  refine pd_istore_n (ls' := [some (.ref 36), some (.int p0), some (.int p1), some (.int 0), none, none, none]) C dX5_goOn_28 rfl (Nat.le_of_ble_eq_true rfl) rfl rfl ?_
  refine el_X5_goOn_29 C hn (fun zI5 hF => ?_) pd_FU _ _ hF
  refine pd_aload_n C dX5_goOn_171 rfl rfl ?_
  obtain ⟨zq7, hzq7, hF⟩ := pd_bd_some hF
  obtain ⟨zg15, hF⟩ := pd_gd_some hF
  refine gr_5_2 C wd_1_154 (pd_lt (by decide) hn) sh_36 ((pd_RF_dyn rfl).trans hzq7) dX5_goOn_172 ?_
  refine pd_astore_n (ls' := [some (.ref 36), none, none, some (.ref zq7), none, none, none]) C dX5_goOn_175 rfl (Nat.le_of_ble_eq_true rfl) rfl rfl ?_
  refine pd_aload_n C dX5_goOn_176 rfl rfl ?_
  refine pd_aload_n C dX5_goOn_177 rfl rfl ?_
  obtain ⟨zq8, hzq8, hF⟩ := pd_bd_some hF
  obtain ⟨zg16, hF⟩ := pd_gd_some hF
  refine gr_5_3 C wd_1_155 (pd_lt (by decide) hn) sh_36 ((pd_RF_dyn rfl).trans hzq8) dX5_goOn_178 ?_
  refine pr_5_2 C wd_1_154 (pd_lt (by decide) hn) sh_36 dX5_goOn_181 ?_
  rw [pd_RF_ur rfl]
  refine pd_memZ (fun zZ1 hzZ1 => ?_)
  have hF := pd_let_at hF hzZ1
  refine pd_aload_n C dX5_goOn_184 rfl rfl ?_
  refine pd_aload_n C dX5_goOn_185 rfl rfl ?_
  refine pr_5_3 C wd_1_155 (pd_lt (by decide) hn) sh_36 dX5_goOn_186 ?_
  rw [pd_RF_ur rfl]
  refine pd_memZ (fun zZ2 hzZ2 => ?_)
  have hF := pd_let_at hF hzZ2
  cases hF
  exact pd_vret C hE rfl ⟨by decide, by decide⟩ dX5_goOn_189

def fl_X5_thin_18 {O : Type} (zx1 : Int32) (zI1 : pd_I) (Z : pd_R) (n : Nat) (kont : Int32 → Option O) : Nat → Int32 → Int32 → Option O
  | 0, _, _ => none
  | fu + 1, zx2, zx3 => if (zI1 11 3) ≤ zx3 then kont zx2 else (pd_bd (Z 36 3) fun zq1 => pd_gd (pd_isArr zq1 512 n) (pd_gd (pd_in zx3 512) (pd_bd (Z 36 3) fun zq2 => pd_gd (pd_isArr zq2 512 n) (pd_gd (pd_in zx1 512) (pd_bd (if (zI1 zq1 zx3.toNatClampNeg) < (zI1 zq2 zx1.toNatClampNeg) then pd_let (zx2 + 1) fun zv2 => some zv2 else (pd_bd (Z 36 3) fun zq3 => pd_gd (pd_isArr zq3 512 n) (pd_gd (pd_in zx3 512) (pd_bd (Z 36 3) fun zq4 => pd_gd (pd_isArr zq4 512 n) (pd_gd (pd_in zx1 512) (pd_bd (if (zI1 zq3 zx3.toNatClampNeg) = (zI1 zq4 zx1.toNatClampNeg) then if zx1 ≤ zx3 then some false else (some true) else (some false)) fun zc1 => if zc1 = true then pd_let (zx2 + 1) fun zv3 => some zv3 else (some zx2))))))) fun (zx5 : Int32) => pd_let (zx3 + 1) fun zv1 => fl_X5_thin_18 zx1 zI1 Z n kont fu zx5 zv1)))))
set_option maxRecDepth 100000 in
set_option maxHeartbeats 4000000 in
theorem el_X5_thin_18 {cx : pd_X} (C : pd_C cx "PathDecoder$Search" cX5_thin rm_X5_thin) {p0 : Int32} {zx1 : Int32} {zI1 : pd_I} {J : pd_J} {Z : pd_R} {n : Nat} (hn : 133 ≤ n)  {O : Type} {kont : Int32 → Option O} {out : O} (K : ∀ (zx4 : Int32), kont zx4 = some out → pd_V cx 0 0 77 [some (.ref 36), some (.int p0), some (.int zx1), some (.int zx4), none] [] zI1 J (pd_RF Z) n) :
    ∀ (fu : Nat) (zx2 : Int32) (zx3 : Int32), fl_X5_thin_18 zx1 zI1 Z n kont fu zx2 zx3 = some out → pd_V cx 0 0 18 [some (.ref 36), some (.int p0), some (.int zx1), some (.int zx2), some (.int zx3)] [] zI1 J (pd_RF Z) n := by
  intro fu
  induction fu with
  | zero => intro zx2 zx3 hF; rw [fl_X5_thin_18] at hF; cases hF
  | succ fu ih =>
    intro zx2 zx3 hF
    rw [fl_X5_thin_18] at hF
    refine pd_iload C dX5_thin_18 rfl ?_
    refine pd_aload_n C dX5_thin_20 rfl rfl ?_
    refine gr_5_0 C wd_1_152 (pd_lt (by decide) hn) sh_36 (rf_36_0 _) dX5_thin_21 ?_
    refine gi_1_3 C wd_1_90 (pd_lt (by decide) hn) sh_11 dX5_thin_24 ?_
    refine pd_icmp_ge (tgt := 77) C dX5_thin_27 (by decide) (fun zc5 => ?_) (fun zc5 => ?_)
    · have hF := pd_t zc5 hF
      refine pd_wk (ls' := [some (.ref 36), some (.int p0), some (.int zx1), some (.int zx2), none]) (And.intro rfl (And.intro rfl (And.intro rfl (And.intro rfl True.intro)))) ?_
      exact K _ hF
    · have hF := pd_f zc5 hF
      refine pd_aload_n C dX5_thin_30 rfl rfl ?_
      obtain ⟨zq1, hzq1, hF⟩ := pd_bd_some hF
      obtain ⟨zg1, hF⟩ := pd_gd_some hF
      refine gr_5_3 C wd_1_155 (pd_lt (by decide) hn) sh_36 ((pd_RF_dyn rfl).trans hzq1) dX5_thin_31 ?_
      refine pd_iload C dX5_thin_34 rfl ?_
      obtain ⟨zg2, hF⟩ := pd_gd_some hF
      refine pd_iald C (pd_arr_lt zg1) (pd_arr_sh zg1) zg2 dX5_thin_36 ?_
      refine pd_aload_n C dX5_thin_37 rfl rfl ?_
      obtain ⟨zq2, hzq2, hF⟩ := pd_bd_some hF
      obtain ⟨zg3, hF⟩ := pd_gd_some hF
      refine gr_5_3 C wd_1_155 (pd_lt (by decide) hn) sh_36 ((pd_RF_dyn rfl).trans hzq2) dX5_thin_38 ?_
      refine pd_iload_n C dX5_thin_41 rfl rfl ?_
      obtain ⟨zg4, hF⟩ := pd_gd_some hF
      refine pd_iald C (pd_arr_lt zg3) (pd_arr_sh zg3) zg4 dX5_thin_42 ?_
      obtain ⟨zx5, hS, hF⟩ := pd_bd_some hF
      have hJ71 : pd_V cx 0 0 71 [some (.ref 36), some (.int p0), some (.int zx1), some (.int zx5), some (.int zx3)] [] zI1 J (pd_RF Z) n := by
        refine pd_iincG (zz := 1) C dX5_thin_71 rfl (by decide) rfl (fun zv1 hzv1 => ?_)
        have hF := pd_let_at hF hzv1
        refine pd_lsE (ls' := [some (.ref 36), some (.int p0), some (.int zx1), some (.int zx5), some (.int zv1)]) rfl ?_
        refine pd_goto (tgt := 18) C dX5_thin_74 (by decide) ?_
        exact ih _ _ hF
      replace hF := hS
      clear hS
      refine pd_icmp_lt (tgt := 68) C dX5_thin_43 (by decide) (fun zc4 => ?_) (fun zc4 => ?_)
      · have hF := pd_t zc4 hF
        refine pd_iincG (zz := 1) C dX5_thin_68 rfl (by decide) rfl (fun zv2 hzv2 => ?_)
        have hF := pd_let_at hF hzv2
        refine pd_lsE (ls' := [some (.ref 36), some (.int p0), some (.int zx1), some (.int zv2), some (.int zx3)]) rfl ?_
        have hF := hF.symm
        cases hF
        exact hJ71
      · have hF := pd_f zc4 hF
        refine pd_aload_n C dX5_thin_46 rfl rfl ?_
        obtain ⟨zq3, hzq3, hF⟩ := pd_bd_some hF
        obtain ⟨zg5, hF⟩ := pd_gd_some hF
        refine gr_5_3 C wd_1_155 (pd_lt (by decide) hn) sh_36 ((pd_RF_dyn rfl).trans hzq3) dX5_thin_47 ?_
        refine pd_iload C dX5_thin_50 rfl ?_
        obtain ⟨zg6, hF⟩ := pd_gd_some hF
        refine pd_iald C (pd_arr_lt zg5) (pd_arr_sh zg5) zg6 dX5_thin_52 ?_
        refine pd_aload_n C dX5_thin_53 rfl rfl ?_
        obtain ⟨zq4, hzq4, hF⟩ := pd_bd_some hF
        obtain ⟨zg7, hF⟩ := pd_gd_some hF
        refine gr_5_3 C wd_1_155 (pd_lt (by decide) hn) sh_36 ((pd_RF_dyn rfl).trans hzq4) dX5_thin_54 ?_
        refine pd_iload_n C dX5_thin_57 rfl rfl ?_
        obtain ⟨zg8, hF⟩ := pd_gd_some hF
        refine pd_iald C (pd_arr_lt zg7) (pd_arr_sh zg7) zg8 dX5_thin_58 ?_
        obtain ⟨zc1, hS, hF⟩ := pd_bd_some hF
        have hTzc1 : zc1 = true → pd_V cx 0 0 68 [some (.ref 36), some (.int p0), some (.int zx1), some (.int zx2), some (.int zx3)] [] zI1 J (pd_RF Z) n := by
          intro hc
          have hF := pd_t hc hF
          refine pd_iincG (zz := 1) C dX5_thin_68 rfl (by decide) rfl (fun zv3 hzv3 => ?_)
          have hF := pd_let_at hF hzv3
          refine pd_lsE (ls' := [some (.ref 36), some (.int p0), some (.int zx1), some (.int zv3), some (.int zx3)]) rfl ?_
          have hF := hF.symm
          cases hF
          exact hJ71
        have hEzc1 : zc1 = false → pd_V cx 0 0 71 [some (.ref 36), some (.int p0), some (.int zx1), some (.int zx2), some (.int zx3)] [] zI1 J (pd_RF Z) n := by
          intro hc
          have hF := pd_bf hc hF
          have hF := hF.symm
          cases hF
          exact hJ71
        replace hF := hS
        clear hS
        refine pd_icmp_ne (tgt := 71) C dX5_thin_59 (by decide) (fun zc3 => ?_) (fun zc3 => ?_)
        · have hF := pd_f zc3 hF
          cases hF
          exact hEzc1 rfl
        · have hF := pd_t zc3 hF
          refine pd_iload C dX5_thin_62 rfl ?_
          refine pd_iload_n C dX5_thin_64 rfl rfl ?_
          refine pd_icmp_ge (tgt := 71) C dX5_thin_65 (by decide) (fun zc2 => ?_) (fun zc2 => ?_)
          · have hF := pd_t zc2 hF
            cases hF
            exact hEzc1 rfl
          · have hF := pd_f zc2 hF
            cases hF
            exact hTzc1 rfl
def fl_X5_thin_2 {O : Type} (p0 : Int32) (Z : pd_R) (n : Nat) (kont : pd_I → Option O) : Nat → Int32 → pd_I → Option O
  | 0, _, _ => none
  | fu + 1, zx1, zI1 => if (zI1 11 3) ≤ zx1 then kont zI1 else (fl_X5_thin_18 zx1 zI1 Z n (fun zx4 => pd_bd (Z 36 2) fun zq5 => pd_gd (pd_isArr zq5 512 n) (pd_bd (if p0 ≤ zx4 then some 536870912 else (pd_bd (Z 36 3) fun zq6 => pd_gd (pd_isArr zq6 512 n) (pd_gd (pd_in zx1 512) (some (zI1 zq6 zx1.toNatClampNeg))))) fun (zx6 : Int32) => pd_gd (pd_in zx1 512) (pd_let (pd_ui zI1 zq5 zx1.toNatClampNeg zx6) fun zI3 => pd_let (zx1 + 1) fun zv4 => fl_X5_thin_2 p0 Z n kont fu zv4 zI3))) pd_FU 0 0)
set_option maxRecDepth 100000 in
set_option maxHeartbeats 4000000 in
theorem el_X5_thin_2 {cx : pd_X} (C : pd_C cx "PathDecoder$Search" cX5_thin rm_X5_thin) {p0 : Int32} {J : pd_J} {Z : pd_R} {n : Nat} (hn : 133 ≤ n)  {O : Type} {kont : pd_I → Option O} {out : O} (K : ∀ (zI2 : pd_I), kont zI2 = some out → pd_V cx 0 0 105 [some (.ref 36), none, none, none, none] [] zI2 J (pd_RF Z) n) :
    ∀ (fu : Nat) (zx1 : Int32) (zI1 : pd_I), fl_X5_thin_2 p0 Z n kont fu zx1 zI1 = some out → pd_V cx 0 0 2 [some (.ref 36), some (.int p0), some (.int zx1), none, none] [] zI1 J (pd_RF Z) n := by
  intro fu
  induction fu with
  | zero => intro zx1 zI1 hF; rw [fl_X5_thin_2] at hF; cases hF
  | succ fu ih =>
    intro zx1 zI1 hF
    rw [fl_X5_thin_2] at hF
    refine pd_iload_n C dX5_thin_2 rfl rfl ?_
    refine pd_aload_n C dX5_thin_3 rfl rfl ?_
    refine gr_5_0 C wd_1_152 (pd_lt (by decide) hn) sh_36 (rf_36_0 _) dX5_thin_4 ?_
    refine gi_1_3 C wd_1_90 (pd_lt (by decide) hn) sh_11 dX5_thin_7 ?_
    refine pd_icmp_ge (tgt := 105) C dX5_thin_10 (by decide) (fun zc7 => ?_) (fun zc7 => ?_)
    · have hF := pd_t zc7 hF
      refine pd_wk (ls' := [some (.ref 36), none, none, none, none]) (And.intro rfl True.intro) ?_
      exact K _ hF
    · have hF := pd_f zc7 hF
      refine pd_iconst (v := 0) C dX5_thin_13 (by decide) ?_
      refine pd_istore_n (ls' := [some (.ref 36), some (.int p0), some (.int zx1), some (.int 0), none]) C dX5_thin_14 rfl (Nat.le_of_ble_eq_true rfl) rfl rfl ?_
      refine pd_iconst (v := 0) C dX5_thin_15 (by decide) ?_
      refine pd_istore (ls' := [some (.ref 36), some (.int p0), some (.int zx1), some (.int 0), some (.int 0)]) C dX5_thin_16 (Nat.le_of_ble_eq_true rfl) rfl rfl ?_
      refine el_X5_thin_18 C hn (fun zx4 hF => ?_) pd_FU _ _ hF
      refine pd_aload_n C dX5_thin_77 rfl rfl ?_
      obtain ⟨zq5, hzq5, hF⟩ := pd_bd_some hF
      obtain ⟨zg9, hF⟩ := pd_gd_some hF
      refine gr_5_2 C wd_1_154 (pd_lt (by decide) hn) sh_36 ((pd_RF_dyn rfl).trans hzq5) dX5_thin_78 ?_
      refine pd_iload_n C dX5_thin_81 rfl rfl ?_
      refine pd_iload_n C dX5_thin_82 rfl rfl ?_
      refine pd_iload_n C dX5_thin_83 rfl rfl ?_
      obtain ⟨zx6, hS, hF⟩ := pd_bd_some hF
      have hJ98 : pd_V cx 0 0 98 [some (.ref 36), some (.int p0), some (.int zx1), none, none] [.int zx6, .int zx1, .ref zq5] zI1 J (pd_RF Z) n := by
        obtain ⟨zg10, hF⟩ := pd_gd_some hF
        refine pd_iast C (pd_arr_lt zg9) (pd_arr_sh zg9) zg10 dX5_thin_98 ?_
        refine pd_memI (fun zI3 hzI3 => ?_)
        have hF := pd_let_at hF hzI3
        refine pd_iincG (zz := 1) C dX5_thin_99 rfl (by decide) rfl (fun zv4 hzv4 => ?_)
        have hF := pd_let_at hF hzv4
        refine pd_lsE (ls' := [some (.ref 36), some (.int p0), some (.int zv4), none, none]) rfl ?_
        refine pd_goto (tgt := 2) C dX5_thin_102 (by decide) ?_
        exact ih _ _ hF
      replace hF := hS
      clear hS
      refine pd_icmp_ge (tgt := 96) C dX5_thin_84 (by decide) (fun zc6 => ?_) (fun zc6 => ?_)
      · have hF := pd_t zc6 hF
        refine pd_ldc C wd_4_93 dX5_thin_96 ?_
        refine pd_wk (ls' := [some (.ref 36), some (.int p0), some (.int zx1), none, none]) (And.intro rfl (And.intro rfl (And.intro rfl True.intro))) ?_
        have hF := hF.symm
        cases hF
        exact hJ98
      · have hF := pd_f zc6 hF
        refine pd_aload_n C dX5_thin_87 rfl rfl ?_
        obtain ⟨zq6, hzq6, hF⟩ := pd_bd_some hF
        obtain ⟨zg11, hF⟩ := pd_gd_some hF
        refine gr_5_3 C wd_1_155 (pd_lt (by decide) hn) sh_36 ((pd_RF_dyn rfl).trans hzq6) dX5_thin_88 ?_
        refine pd_iload_n C dX5_thin_91 rfl rfl ?_
        obtain ⟨zg12, hF⟩ := pd_gd_some hF
        refine pd_iald C (pd_arr_lt zg11) (pd_arr_sh zg11) zg12 dX5_thin_92 ?_
        refine pd_goto (tgt := 98) C dX5_thin_93 (by decide) ?_
        refine pd_wk (ls' := [some (.ref 36), some (.int p0), some (.int zx1), none, none]) (And.intro rfl (And.intro rfl (And.intro rfl True.intro))) ?_
        have hF := hF.symm
        cases hF
        exact hJ98
def fn_X5_thin (I : pd_I) (Z : pd_R) (n : Nat) (p0 : Int32) : Option (pd_I × pd_R) := fl_X5_thin_2 p0 Z n (fun zI2 => pd_bd (Z 36 2) fun zq7 => pd_gd (pd_isArr zq7 512 n) (pd_bd (Z 36 3) fun zq8 => pd_gd (pd_isArr zq8 512 n) (pd_let (pd_ur Z 36 2 (some zq8)) fun zZ1 => pd_let (pd_ur zZ1 36 3 (some zq7)) fun zZ2 => some (zI2, zZ2)))) pd_FU 0 I
set_option maxRecDepth 100000 in
set_option maxHeartbeats 4000000 in
theorem em_X5_thin {l : Launch} {D : va_G} {tc : Nat → ClassId} (hst : l.stackTraces = false) {I : pd_I} {J : pd_J} {Z : pd_R} {n : Nat} {p0 : Int32} (hn : 133 ≤ n)  {out : pd_I × pd_R} (hF : fn_X5_thin I Z n p0 = some out) :
    pd_M l D tc yX5_thin (.code yX5_thin cX5_thin 5 (Option.none : Option Jvm.ClassFile.FieldType)) rm_X5_thin [.ref 36, .int p0] I J (pd_RF Z) n (.ok (none)) out.1 J (pd_RF out.2) n := by
  refine pd_open (own := "PathDecoder$Search") (ls0 := [some (.ref 36), some (.int p0), none, none, none]) (by decide) rfl (Nat.le_of_ble_eq_true rfl) rfl rfl hst (fun cx hl hD htc C hE htab hnm => ?_)
  subst hl hD htc
  unfold fn_X5_thin at hF
  refine pd_iconst (v := 0) C dX5_thin_0 (by decide) ?_
  refine pd_istore_n (ls' := [some (.ref 36), some (.int p0), some (.int 0), none, none]) C dX5_thin_1 rfl (Nat.le_of_ble_eq_true rfl) rfl rfl ?_
  refine el_X5_thin_2 C hn (fun zI2 hF => ?_) pd_FU _ _ hF
  refine pd_aload_n C dX5_thin_105 rfl rfl ?_
  obtain ⟨zq7, hzq7, hF⟩ := pd_bd_some hF
  obtain ⟨zg13, hF⟩ := pd_gd_some hF
  refine gr_5_2 C wd_1_154 (pd_lt (by decide) hn) sh_36 ((pd_RF_dyn rfl).trans hzq7) dX5_thin_106 ?_
  refine pd_astore_n (ls' := [some (.ref 36), none, some (.ref zq7), none, none]) C dX5_thin_109 rfl (Nat.le_of_ble_eq_true rfl) rfl rfl ?_
  refine pd_aload_n C dX5_thin_110 rfl rfl ?_
  refine pd_aload_n C dX5_thin_111 rfl rfl ?_
  obtain ⟨zq8, hzq8, hF⟩ := pd_bd_some hF
  obtain ⟨zg14, hF⟩ := pd_gd_some hF
  refine gr_5_3 C wd_1_155 (pd_lt (by decide) hn) sh_36 ((pd_RF_dyn rfl).trans hzq8) dX5_thin_112 ?_
  refine pr_5_2 C wd_1_154 (pd_lt (by decide) hn) sh_36 dX5_thin_115 ?_
  rw [pd_RF_ur rfl]
  refine pd_memZ (fun zZ1 hzZ1 => ?_)
  have hF := pd_let_at hF hzZ1
  refine pd_aload_n C dX5_thin_118 rfl rfl ?_
  refine pd_aload_n C dX5_thin_119 rfl rfl ?_
  refine pr_5_3 C wd_1_155 (pd_lt (by decide) hn) sh_36 dX5_thin_120 ?_
  rw [pd_RF_ur rfl]
  refine pd_memZ (fun zZ2 hzZ2 => ?_)
  have hF := pd_let_at hF hzZ2
  cases hF
  exact pd_vret C hE rfl ⟨by decide, by decide⟩ dX5_thin_123

def fl_X5_cheapestState_4 {O : Type} (I : pd_I) (Z : pd_R) (n : Nat) (kont : Int32 → Option O) : Nat → Int32 → Int32 → Option O
  | 0, _, _ => none
  | fu + 1, zx1, zx2 => if (I 11 3) ≤ zx2 then kont zx1 else (pd_bd (Z 36 3) fun zq1 => pd_gd (pd_isArr zq1 512 n) (pd_gd (pd_in zx2 512) (pd_bd (Z 36 3) fun zq2 => pd_gd (pd_isArr zq2 512 n) (pd_gd (pd_in zx1 512) (pd_bd (if (I zq2 zx1.toNatClampNeg) ≤ (I zq1 zx2.toNatClampNeg) then some zx1 else (some zx2)) fun (zx4 : Int32) => pd_let (zx2 + 1) fun zv1 => fl_X5_cheapestState_4 I Z n kont fu zx4 zv1)))))
set_option maxRecDepth 100000 in
set_option maxHeartbeats 4000000 in
theorem el_X5_cheapestState_4 {cx : pd_X} (C : pd_C cx "PathDecoder$Search" cX5_cheapestState rm_X5_cheapestState) {I : pd_I} {J : pd_J} {Z : pd_R} {n : Nat} (hn : 133 ≤ n)  {O : Type} {kont : Int32 → Option O} {out : O} (K : ∀ (zx3 : Int32), kont zx3 = some out → pd_V cx 0 0 38 [none, some (.int zx3), none] [] I J (pd_RF Z) n) :
    ∀ (fu : Nat) (zx1 : Int32) (zx2 : Int32), fl_X5_cheapestState_4 I Z n kont fu zx1 zx2 = some out → pd_V cx 0 0 4 [some (.ref 36), some (.int zx1), some (.int zx2)] [] I J (pd_RF Z) n := by
  intro fu
  induction fu with
  | zero => intro zx1 zx2 hF; rw [fl_X5_cheapestState_4] at hF; cases hF
  | succ fu ih =>
    intro zx1 zx2 hF
    rw [fl_X5_cheapestState_4] at hF
    refine pd_iload_n C dX5_cheapestState_4 rfl rfl ?_
    refine pd_aload_n C dX5_cheapestState_5 rfl rfl ?_
    refine gr_5_0 C wd_1_152 (pd_lt (by decide) hn) sh_36 (rf_36_0 _) dX5_cheapestState_6 ?_
    refine gi_1_3 C wd_1_90 (pd_lt (by decide) hn) sh_11 dX5_cheapestState_9 ?_
    refine pd_icmp_ge (tgt := 38) C dX5_cheapestState_12 (by decide) (fun zc2 => ?_) (fun zc2 => ?_)
    · have hF := pd_t zc2 hF
      refine pd_wk (ls' := [none, some (.int zx1), none]) (And.intro rfl True.intro) ?_
      exact K _ hF
    · have hF := pd_f zc2 hF
      refine pd_aload_n C dX5_cheapestState_15 rfl rfl ?_
      obtain ⟨zq1, hzq1, hF⟩ := pd_bd_some hF
      obtain ⟨zg1, hF⟩ := pd_gd_some hF
      refine gr_5_3 C wd_1_155 (pd_lt (by decide) hn) sh_36 ((pd_RF_dyn rfl).trans hzq1) dX5_cheapestState_16 ?_
      refine pd_iload_n C dX5_cheapestState_19 rfl rfl ?_
      obtain ⟨zg2, hF⟩ := pd_gd_some hF
      refine pd_iald C (pd_arr_lt zg1) (pd_arr_sh zg1) zg2 dX5_cheapestState_20 ?_
      refine pd_aload_n C dX5_cheapestState_21 rfl rfl ?_
      obtain ⟨zq2, hzq2, hF⟩ := pd_bd_some hF
      obtain ⟨zg3, hF⟩ := pd_gd_some hF
      refine gr_5_3 C wd_1_155 (pd_lt (by decide) hn) sh_36 ((pd_RF_dyn rfl).trans hzq2) dX5_cheapestState_22 ?_
      refine pd_iload_n C dX5_cheapestState_25 rfl rfl ?_
      obtain ⟨zg4, hF⟩ := pd_gd_some hF
      refine pd_iald C (pd_arr_lt zg3) (pd_arr_sh zg3) zg4 dX5_cheapestState_26 ?_
      obtain ⟨zx4, hS, hF⟩ := pd_bd_some hF
      have hJ32 : pd_V cx 0 0 32 [some (.ref 36), some (.int zx4), some (.int zx2)] [] I J (pd_RF Z) n := by
        refine pd_iincG (zz := 1) C dX5_cheapestState_32 rfl (by decide) rfl (fun zv1 hzv1 => ?_)
        have hF := pd_let_at hF hzv1
        refine pd_lsE (ls' := [some (.ref 36), some (.int zx4), some (.int zv1)]) rfl ?_
        refine pd_goto (tgt := 4) C dX5_cheapestState_35 (by decide) ?_
        exact ih _ _ hF
      replace hF := hS
      clear hS
      refine pd_icmp_ge (tgt := 32) C dX5_cheapestState_27 (by decide) (fun zc1 => ?_) (fun zc1 => ?_)
      · have hF := pd_t zc1 hF
        have hF := hF.symm
        cases hF
        exact hJ32
      · have hF := pd_f zc1 hF
        refine pd_iload_n C dX5_cheapestState_30 rfl rfl ?_
        refine pd_istore_n (ls' := [some (.ref 36), some (.int zx2), some (.int zx2)]) C dX5_cheapestState_31 rfl (Nat.le_of_ble_eq_true rfl) rfl rfl ?_
        have hF := hF.symm
        cases hF
        exact hJ32
def fn_X5_cheapestState (I : pd_I) (Z : pd_R) (n : Nat) : Option Int32 := fl_X5_cheapestState_4 I Z n (fun zx3 => some zx3) pd_FU 0 1
set_option maxRecDepth 100000 in
set_option maxHeartbeats 4000000 in
theorem em_X5_cheapestState {l : Launch} {D : va_G} {tc : Nat → ClassId} (hst : l.stackTraces = false) {I : pd_I} {J : pd_J} {Z : pd_R} {n : Nat} (hn : 133 ≤ n)  {out : Int32} (hF : fn_X5_cheapestState I Z n = some out) :
    pd_M l D tc yX5_cheapestState (.code yX5_cheapestState cX5_cheapestState 3 (Option.some Jvm.ClassFile.FieldType.int)) rm_X5_cheapestState [.ref 36] I J (pd_RF Z) n (.ok (some (.int out))) I J (pd_RF Z) n := by
  refine pd_open (own := "PathDecoder$Search") (ls0 := [some (.ref 36), none, none]) (by decide) rfl (Nat.le_of_ble_eq_true rfl) rfl rfl hst (fun cx hl hD htc C hE htab hnm => ?_)
  subst hl hD htc
  unfold fn_X5_cheapestState at hF
  refine pd_iconst (v := 0) C dX5_cheapestState_0 (by decide) ?_
  refine pd_istore_n (ls' := [some (.ref 36), some (.int 0), none]) C dX5_cheapestState_1 rfl (Nat.le_of_ble_eq_true rfl) rfl rfl ?_
  refine pd_iconst (v := 1) C dX5_cheapestState_2 (by decide) ?_
  refine pd_istore_n (ls' := [some (.ref 36), some (.int 0), some (.int 1)]) C dX5_cheapestState_3 rfl (Nat.le_of_ble_eq_true rfl) rfl rfl ?_
  refine el_X5_cheapestState_4 C hn (fun zx3 hF => ?_) pd_FU _ _ hF
  refine pd_iload_n C dX5_cheapestState_38 rfl rfl ?_
  cases hF
  exact pd_iret C hE rfl rfl rfl ⟨by decide, by decide⟩ dX5_cheapestState_39

def fl_X5_goBack_30 {O : Type} (p2 : Int32) (zq1 : Nat) (kont : pd_I → Option O) : Nat → Int32 → Int32 → pd_I → Option O
  | 0, _, _, _ => none
  | fu + 1, zx1, zx2, zI2 => if zx2 < 0 then kont zI2 else (pd_gd (pd_in ((zx2 * 64) + zx1) 13184) (pd_let (zI2 42 ((zx2 * 64) + zx1).toNatClampNeg) fun zv2 => pd_bd (if p2 ≤ zx2 then some zI2 else (pd_gd (pd_in (2 * zv2) 128) (pd_bd (if (zI2 12 (2 * zv2).toNatClampNeg) = zx1 then some 0 else (some 1)) fun (zx3 : Int32) => pd_gd (pd_in zx2 200) (pd_let (pd_ui zI2 (zq1 + 1) zx2.toNatClampNeg (zx3.toInt8.toInt32.toInt8.toInt32)) fun zI5 => some zI5)))) fun (zI4 : pd_I) => pd_let (zx2 + (-1)) fun zv3 => fl_X5_goBack_30 p2 zq1 kont fu zv2 zv3 zI4))
set_option maxRecDepth 100000 in
set_option maxHeartbeats 4000000 in
theorem el_X5_goBack_30 {cx : pd_X} (C : pd_C cx "PathDecoder$Search" cX5_goBack rm_X5_goBack) {p2 : Int32} {zq1 : Nat} {J : pd_J} {Z : pd_R} {n : Nat} (hn : 133 ≤ n) (zg1 : pd_isWay zq1 = true) {O : Type} {kont : pd_I → Option O} {out : O} (K : ∀ (zI3 : pd_I), kont zI3 = some out → pd_V cx 0 0 97 [none, none, none, none, none, none, none, none] [] zI3 J (pd_RF Z) n) :
    ∀ (fu : Nat) (zx1 : Int32) (zx2 : Int32) (zI2 : pd_I), fl_X5_goBack_30 p2 zq1 kont fu zx1 zx2 zI2 = some out → pd_V cx 0 0 30 [some (.ref 36), none, none, some (.int p2), some (.ref zq1), some (.int zx1), some (.int zx2), none] [] zI2 J (pd_RF Z) n := by
  intro fu
  induction fu with
  | zero => intro zx1 zx2 zI2 hF; rw [fl_X5_goBack_30] at hF; cases hF
  | succ fu ih =>
    intro zx1 zx2 zI2 hF
    rw [fl_X5_goBack_30] at hF
    refine pd_iload C dX5_goBack_30 rfl ?_
    refine pd_if_lt (tgt := 97) C dX5_goBack_32 (by decide) (fun zc3 => ?_) (fun zc3 => ?_)
    · have hF := pd_t zc3 hF
      refine pd_wk (ls' := [none, none, none, none, none, none, none, none]) True.intro ?_
      exact K _ hF
    · have hF := pd_f zc3 hF
      refine pd_aload_n C dX5_goBack_35 rfl rfl ?_
      refine gr_5_7 C wd_1_159 (pd_lt (by decide) hn) sh_36 (rf_36_7 _) dX5_goBack_36 ?_
      refine pd_iload C dX5_goBack_39 rfl ?_
      refine pd_bipush (v := 64) C dX5_goBack_41 (by decide) ?_
      refine pd_imul C dX5_goBack_43 ?_
      refine pd_iload C dX5_goBack_44 rfl ?_
      refine pd_iadd C dX5_goBack_46 ?_
      obtain ⟨zg4, hF⟩ := pd_gd_some hF
      refine pd_bald C (pd_lt (by decide) hn) sh_42 zg4 dX5_goBack_47 ?_
      refine pd_topi (fun zv2 hzv2 => ?_)
      have hF := pd_let_at hF hzv2
      refine pd_istore (ls' := [some (.ref 36), none, none, some (.int p2), some (.ref zq1), some (.int zx1), some (.int zx2), some (.int zv2)]) C dX5_goBack_48 (Nat.le_of_ble_eq_true rfl) rfl rfl ?_
      refine pd_iload C dX5_goBack_50 rfl ?_
      refine pd_iload_n C dX5_goBack_52 rfl rfl ?_
      obtain ⟨zI4, hS, hF⟩ := pd_bd_some hF
      have hJ87 : pd_V cx 0 0 87 [some (.ref 36), none, none, some (.int p2), some (.ref zq1), none, some (.int zx2), some (.int zv2)] [] zI4 J (pd_RF Z) n := by
        refine pd_iload C dX5_goBack_87 rfl ?_
        refine pd_istore (ls' := [some (.ref 36), none, none, some (.int p2), some (.ref zq1), some (.int zv2), some (.int zx2), some (.int zv2)]) C dX5_goBack_89 (Nat.le_of_ble_eq_true rfl) rfl rfl ?_
        refine pd_iincG (zz := (-1)) C dX5_goBack_91 rfl (by decide) rfl (fun zv3 hzv3 => ?_)
        have hF := pd_let_at hF hzv3
        refine pd_lsE (ls' := [some (.ref 36), none, none, some (.int p2), some (.ref zq1), some (.int zv2), some (.int zv3), some (.int zv2)]) rfl ?_
        refine pd_goto (tgt := 30) C dX5_goBack_94 (by decide) ?_
        refine pd_wk (ls' := [some (.ref 36), none, none, some (.int p2), some (.ref zq1), some (.int zv2), some (.int zv3), none]) (And.intro rfl (And.intro rfl (And.intro rfl (And.intro rfl (And.intro rfl True.intro))))) ?_
        exact ih _ _ _ hF
      replace hF := hS
      clear hS
      refine pd_icmp_ge (tgt := 87) C dX5_goBack_53 (by decide) (fun zc2 => ?_) (fun zc2 => ?_)
      · have hF := pd_t zc2 hF
        refine pd_wk (ls' := [some (.ref 36), none, none, some (.int p2), some (.ref zq1), none, some (.int zx2), some (.int zv2)]) (And.intro rfl (And.intro rfl (And.intro rfl (And.intro rfl (And.intro rfl True.intro))))) ?_
        have hF := hF.symm
        cases hF
        exact hJ87
      · have hF := pd_f zc2 hF
        refine pd_aload C dX5_goBack_56 rfl ?_
        refine gr_9_3 C wd_1_123 (pd_way_lt zg1 hn) (pd_way_sh zg1) (pd_way_rf zg1) dX5_goBack_58 ?_
        refine pd_iload C dX5_goBack_61 rfl ?_
        refine pd_aload_n C dX5_goBack_63 rfl rfl ?_
        refine gr_5_0 C wd_1_152 (pd_lt (by decide) hn) sh_36 (rf_36_0 _) dX5_goBack_64 ?_
        refine gr_1_0 C wd_1_81 (pd_lt (by decide) hn) sh_11 (rf_11_0 _) dX5_goBack_67 ?_
        refine pd_iconst (v := 2) C dX5_goBack_70 (by decide) ?_
        refine pd_iload C dX5_goBack_71 rfl ?_
        refine pd_imul C dX5_goBack_73 ?_
        obtain ⟨zg5, hF⟩ := pd_gd_some hF
        refine pd_iald C (pd_lt (by decide) hn) sh_12 zg5 dX5_goBack_74 ?_
        refine pd_iload C dX5_goBack_75 rfl ?_
        obtain ⟨zx3, hS, hF⟩ := pd_bd_some hF
        have hJ85 : pd_V cx 0 0 85 [some (.ref 36), none, none, some (.int p2), some (.ref zq1), none, some (.int zx2), some (.int zv2)] [.int zx3, .int zx2, .ref (zq1 + 1)] zI2 J (pd_RF Z) n := by
          refine pd_i2b C dX5_goBack_85 ?_
          obtain ⟨zg6, hF⟩ := pd_gd_some hF
          refine pd_bast C (pd_way_lt1 zg1 hn) (pd_way_sh1 zg1) zg6 dX5_goBack_86 ?_
          refine pd_memI (fun zI5 hzI5 => ?_)
          have hF := pd_let_at hF hzI5
          have hF := hF.symm
          cases hF
          exact hJ87
        replace hF := hS
        clear hS
        refine pd_icmp_ne (tgt := 84) C dX5_goBack_77 (by decide) (fun zc1 => ?_) (fun zc1 => ?_)
        · have hF := pd_f zc1 hF
          refine pd_iconst (v := 1) C dX5_goBack_84 (by decide) ?_
          refine pd_wk (ls' := [some (.ref 36), none, none, some (.int p2), some (.ref zq1), none, some (.int zx2), some (.int zv2)]) (And.intro rfl (And.intro rfl (And.intro rfl (And.intro rfl (And.intro rfl True.intro))))) ?_
          have hF := hF.symm
          cases hF
          exact hJ85
        · have hF := pd_t zc1 hF
          refine pd_iconst (v := 0) C dX5_goBack_80 (by decide) ?_
          refine pd_goto (tgt := 85) C dX5_goBack_81 (by decide) ?_
          refine pd_wk (ls' := [some (.ref 36), none, none, some (.int p2), some (.ref zq1), none, some (.int zx2), some (.int zv2)]) (And.intro rfl (And.intro rfl (And.intro rfl (And.intro rfl (And.intro rfl True.intro))))) ?_
          have hF := hF.symm
          cases hF
          exact hJ85
def fn_X5_goBack (I : pd_I) (Z : pd_R) (n : Nat) (p0 : Int32) (p1 : Int32) (p2 : Int32) : Option pd_I := pd_bd (fn_X10_offered I Z n) fun zq1 => pd_gd (pd_isWay zq1) (pd_bd (Z 36 3) fun zq2 => pd_gd (pd_isArr zq2 512 n) (pd_gd (pd_in p0 512) (pd_bd (fn_X9_begin I zq1 (I zq2 p0.toNatClampNeg) 0 p2) fun zI1 => pd_let (p1 - 1) fun zv1 => fl_X5_goBack_30 p2 zq1 (fun zI3 => some zI3) pd_FU p0 zv1 zI1)))
set_option maxRecDepth 100000 in
set_option maxHeartbeats 4000000 in
theorem em_X5_goBack {l : Launch} {D : va_G} {tc : Nat → ClassId} (hst : l.stackTraces = false) {I : pd_I} {J : pd_J} {Z : pd_R} {n : Nat} {p0 : Int32} {p1 : Int32} {p2 : Int32} (hn : 133 ≤ n)  {out : pd_I} (hF : fn_X5_goBack I Z n p0 p1 p2 = some out) :
    pd_M l D tc yX5_goBack (.code yX5_goBack cX5_goBack 8 (Option.none : Option Jvm.ClassFile.FieldType)) rm_X5_goBack [.ref 36, .int p0, .int p1, .int p2] I J (pd_RF Z) n (.ok (none)) out J (pd_RF Z) n := by
  refine pd_open (own := "PathDecoder$Search") (ls0 := [some (.ref 36), some (.int p0), some (.int p1), some (.int p2), none, none, none, none]) (by decide) rfl (Nat.le_of_ble_eq_true rfl) rfl rfl hst (fun cx hl hD htc C hE htab hnm => ?_)
  subst hl hD htc
  unfold fn_X5_goBack at hF
  refine pd_aload_n C dX5_goBack_0 rfl rfl ?_
  refine gr_5_1 C wd_1_153 (pd_lt (by decide) hn) sh_36 (rf_36_1 _) dX5_goBack_1 ?_
  obtain ⟨zq1, zh1, hF⟩ := pd_bd_some hF
  obtain ⟨zg1, hF⟩ := pd_gd_some hF
  refine pd_callV C [] [] (em_X10_offered (pd_C_st C) hn  zh1) mw_X10_offered wd_4_103 rfl (by decide) (pd_lt (by decide) hn) sh_16 ⟨by decide, by decide, by decide, by decide⟩ rfl (Nat.le_of_ble_eq_true rfl) pd_oldL_same (fun _ _ => pd_old_same _) dX5_goBack_4 (stk' := [.ref zq1]) rfl ?_
  refine pd_astore (ls' := [some (.ref 36), some (.int p0), some (.int p1), some (.int p2), some (.ref zq1), none, none, none]) C dX5_goBack_7 (Nat.le_of_ble_eq_true rfl) rfl rfl ?_
  refine pd_aload C dX5_goBack_9 rfl ?_
  refine pd_aload_n C dX5_goBack_11 rfl rfl ?_
  obtain ⟨zq2, hzq2, hF⟩ := pd_bd_some hF
  obtain ⟨zg2, hF⟩ := pd_gd_some hF
  refine gr_5_3 C wd_1_155 (pd_lt (by decide) hn) sh_36 ((pd_RF_dyn rfl).trans hzq2) dX5_goBack_12 ?_
  refine pd_iload_n C dX5_goBack_15 rfl rfl ?_
  obtain ⟨zg3, hF⟩ := pd_gd_some hF
  refine pd_iald C (pd_arr_lt zg2) (pd_arr_sh zg2) zg3 dX5_goBack_16 ?_
  refine pd_iconst (v := 0) C dX5_goBack_17 (by decide) ?_
  refine pd_iload_n C dX5_goBack_18 rfl rfl ?_
  obtain ⟨zI1, zh2, hF⟩ := pd_bd_some hF
  refine pd_callV C [.int (I zq2 p0.toNatClampNeg), .int 0, .int p2] [] (em_X9_begin (pd_C_st C) hn zg1 zh2) mw_X9_begin wd_4_107 rfl (by decide) (pd_way_lt zg1 hn) (pd_way_sh zg1) ⟨by decide, by decide, by decide, by decide⟩ rfl (Nat.le_of_ble_eq_true rfl) pd_oldL_same (fun _ _ => pd_old_same _) dX5_goBack_19 (stk' := []) rfl ?_
  refine pd_iload_n C dX5_goBack_22 rfl rfl ?_
  refine pd_istore (ls' := [some (.ref 36), some (.int p0), some (.int p1), some (.int p2), some (.ref zq1), some (.int p0), none, none]) C dX5_goBack_23 (Nat.le_of_ble_eq_true rfl) rfl rfl ?_
  refine pd_iload_n C dX5_goBack_25 rfl rfl ?_
  refine pd_iconst (v := 1) C dX5_goBack_26 (by decide) ?_
  refine pd_isub C dX5_goBack_27 ?_
  refine pd_topi (fun zv1 hzv1 => ?_)
  have hF := pd_let_at hF hzv1
  refine pd_istore (ls' := [some (.ref 36), some (.int p0), some (.int p1), some (.int p2), some (.ref zq1), some (.int p0), some (.int zv1), none]) C dX5_goBack_28 (Nat.le_of_ble_eq_true rfl) rfl rfl ?_
  refine pd_wk (ls' := [some (.ref 36), none, none, some (.int p2), some (.ref zq1), some (.int p0), some (.int zv1), none]) (And.intro rfl (And.intro rfl (And.intro rfl (And.intro rfl (And.intro rfl True.intro))))) ?_
  refine el_X5_goBack_30 C hn zg1 (fun zI3 hF => ?_) pd_FU _ _ _ hF
  cases hF
  exact pd_vret C hE rfl ⟨by decide, by decide⟩ dX5_goBack_97

def fl_X5_findByFew_10 {O : Type} (Z : pd_R) (n : Nat) (kont : pd_I → Option O) : Nat → Int32 → pd_I → Option O
  | 0, _, _ => none
  | fu + 1, zx1, zI1 => if (zI1 11 3) ≤ zx1 then kont zI1 else (pd_bd (Z 36 3) fun zq1 => pd_gd (pd_isArr zq1 512 n) (pd_bd (if zx1 = 0 then some 0 else (some 536870912)) fun (zx2 : Int32) => pd_gd (pd_in zx1 512) (pd_let (pd_ui zI1 zq1 zx1.toNatClampNeg zx2) fun zI3 => pd_let (zx1 + 1) fun zv1 => fl_X5_findByFew_10 Z n kont fu zv1 zI3)))
set_option maxRecDepth 100000 in
set_option maxHeartbeats 4000000 in
theorem el_X5_findByFew_10 {cx : pd_X} (C : pd_C cx "PathDecoder$Search" cX5_findByFew rm_X5_findByFew) {a0 : Nat} {p1 : Int32} {p2 : Int32} {zr1 : Int32} {J : pd_J} {Z : pd_R} {n : Nat} (hn : 133 ≤ n) (ha0 : pd_isCode a0 n = true) {O : Type} {kont : pd_I → Option O} {out : O} (K : ∀ (zI2 : pd_I), kont zI2 = some out → pd_V cx 0 0 46 [some (.ref 36), some (.ref a0), some (.int p1), some (.int p2), some (.int zr1), none] [] zI2 J (pd_RF Z) n) :
    ∀ (fu : Nat) (zx1 : Int32) (zI1 : pd_I), fl_X5_findByFew_10 Z n kont fu zx1 zI1 = some out → pd_V cx 0 0 10 [some (.ref 36), some (.ref a0), some (.int p1), some (.int p2), some (.int zr1), some (.int zx1)] [] zI1 J (pd_RF Z) n := by
  intro fu
  induction fu with
  | zero => intro zx1 zI1 hF; rw [fl_X5_findByFew_10] at hF; cases hF
  | succ fu ih =>
    intro zx1 zI1 hF
    rw [fl_X5_findByFew_10] at hF
    refine pd_iload C dX5_findByFew_10 rfl ?_
    refine pd_aload_n C dX5_findByFew_12 rfl rfl ?_
    refine gr_5_0 C wd_1_152 (pd_lt (by decide) hn) sh_36 (rf_36_0 _) dX5_findByFew_13 ?_
    refine gi_1_3 C wd_1_90 (pd_lt (by decide) hn) sh_11 dX5_findByFew_16 ?_
    refine pd_icmp_ge (tgt := 46) C dX5_findByFew_19 (by decide) (fun zc2 => ?_) (fun zc2 => ?_)
    · have hF := pd_t zc2 hF
      refine pd_wk (ls' := [some (.ref 36), some (.ref a0), some (.int p1), some (.int p2), some (.int zr1), none]) (And.intro rfl (And.intro rfl (And.intro rfl (And.intro rfl (And.intro rfl True.intro))))) ?_
      exact K _ hF
    · have hF := pd_f zc2 hF
      refine pd_aload_n C dX5_findByFew_22 rfl rfl ?_
      obtain ⟨zq1, hzq1, hF⟩ := pd_bd_some hF
      obtain ⟨zg1, hF⟩ := pd_gd_some hF
      refine gr_5_3 C wd_1_155 (pd_lt (by decide) hn) sh_36 ((pd_RF_dyn rfl).trans hzq1) dX5_findByFew_23 ?_
      refine pd_iload C dX5_findByFew_26 rfl ?_
      refine pd_iload C dX5_findByFew_28 rfl ?_
      obtain ⟨zx2, hS, hF⟩ := pd_bd_some hF
      have hJ39 : pd_V cx 0 0 39 [some (.ref 36), some (.ref a0), some (.int p1), some (.int p2), some (.int zr1), some (.int zx1)] [.int zx2, .int zx1, .ref zq1] zI1 J (pd_RF Z) n := by
        obtain ⟨zg2, hF⟩ := pd_gd_some hF
        refine pd_iast C (pd_arr_lt zg1) (pd_arr_sh zg1) zg2 dX5_findByFew_39 ?_
        refine pd_memI (fun zI3 hzI3 => ?_)
        have hF := pd_let_at hF hzI3
        refine pd_iincG (zz := 1) C dX5_findByFew_40 rfl (by decide) rfl (fun zv1 hzv1 => ?_)
        have hF := pd_let_at hF hzv1
        refine pd_lsE (ls' := [some (.ref 36), some (.ref a0), some (.int p1), some (.int p2), some (.int zr1), some (.int zv1)]) rfl ?_
        refine pd_goto (tgt := 10) C dX5_findByFew_43 (by decide) ?_
        exact ih _ _ hF
      replace hF := hS
      clear hS
      refine pd_if_ne (tgt := 37) C dX5_findByFew_30 (by decide) (fun zc1 => ?_) (fun zc1 => ?_)
      · have hF := pd_f zc1 hF
        refine pd_ldc C wd_4_93 dX5_findByFew_37 ?_
        have hF := hF.symm
        cases hF
        exact hJ39
      · have hF := pd_t zc1 hF
        refine pd_iconst (v := 0) C dX5_findByFew_33 (by decide) ?_
        refine pd_goto (tgt := 39) C dX5_findByFew_34 (by decide) ?_
        have hF := hF.symm
        cases hF
        exact hJ39
def fl_X5_findByFew_49 {O : Type} (p1 : Int32) (p2 : Int32) (zr1 : Int32) (n : Nat) (kont : pd_I → pd_R → Option O) : Nat → Int32 → pd_I → pd_R → Option O
  | 0, _, _, _ => none
  | fu + 1, zx3, zI4, zZ1 => if zr1 ≤ zx3 then kont zI4 zZ1 else (pd_bd (if zx3 < p1 then some 0 else (some 1)) fun (zx4 : Int32) => pd_bd2 (fn_X5_goOn zI4 zZ1 n zx3 zx4) fun zI6 zZ3 => pd_bd2 (fn_X5_thin zI6 zZ3 n p2) fun zI7 zZ4 => pd_let (zx3 + 1) fun zv2 => fl_X5_findByFew_49 p1 p2 zr1 n kont fu zv2 zI7 zZ4)
set_option maxRecDepth 100000 in
set_option maxHeartbeats 4000000 in
theorem el_X5_findByFew_49 {cx : pd_X} (C : pd_C cx "PathDecoder$Search" cX5_findByFew rm_X5_findByFew) {a0 : Nat} {p1 : Int32} {p2 : Int32} {zr1 : Int32} {J : pd_J} {n : Nat} (hn : 133 ≤ n) (ha0 : pd_isCode a0 n = true) {O : Type} {kont : pd_I → pd_R → Option O} {out : O} (K : ∀ (zI5 : pd_I) (zZ2 : pd_R), kont zI5 zZ2 = some out → pd_V cx 0 0 84 [some (.ref 36), some (.ref a0), some (.int p1), none, some (.int zr1), none] [] zI5 J (pd_RF zZ2) n) :
    ∀ (fu : Nat) (zx3 : Int32) (zI4 : pd_I) (zZ1 : pd_R), fl_X5_findByFew_49 p1 p2 zr1 n kont fu zx3 zI4 zZ1 = some out → pd_V cx 0 0 49 [some (.ref 36), some (.ref a0), some (.int p1), some (.int p2), some (.int zr1), some (.int zx3)] [] zI4 J (pd_RF zZ1) n := by
  intro fu
  induction fu with
  | zero => intro zx3 zI4 zZ1 hF; rw [fl_X5_findByFew_49] at hF; cases hF
  | succ fu ih =>
    intro zx3 zI4 zZ1 hF
    rw [fl_X5_findByFew_49] at hF
    refine pd_iload C dX5_findByFew_49 rfl ?_
    refine pd_iload C dX5_findByFew_51 rfl ?_
    refine pd_icmp_ge (tgt := 84) C dX5_findByFew_53 (by decide) (fun zc4 => ?_) (fun zc4 => ?_)
    · have hF := pd_t zc4 hF
      refine pd_wk (ls' := [some (.ref 36), some (.ref a0), some (.int p1), none, some (.int zr1), none]) (And.intro rfl (And.intro rfl (And.intro rfl (And.intro rfl True.intro)))) ?_
      exact K _ _ hF
    · have hF := pd_f zc4 hF
      refine pd_aload_n C dX5_findByFew_56 rfl rfl ?_
      refine pd_iload C dX5_findByFew_57 rfl ?_
      refine pd_iload C dX5_findByFew_59 rfl ?_
      refine pd_iload_n C dX5_findByFew_61 rfl rfl ?_
      obtain ⟨zx4, hS, hF⟩ := pd_bd_some hF
      have hJ70 : pd_V cx 0 0 70 [some (.ref 36), some (.ref a0), some (.int p1), some (.int p2), some (.int zr1), some (.int zx3)] [.int zx4, .int zx3, .ref 36] zI4 J (pd_RF zZ1) n := by
        obtain ⟨zI6, zZ3, zh2, hF⟩ := pd_bd2_some hF
        refine pd_callV C [.int zx3, .int zx4] [] (em_X5_goOn (pd_C_st C) hn  zh2) mw_X5_goOn wd_4_157 rfl (by decide) (pd_lt (by decide) hn) sh_36 ⟨by decide, by decide, by decide, by decide⟩ rfl (Nat.le_of_ble_eq_true rfl) pd_oldL_same (fun _ _ => pd_old_same _) dX5_findByFew_70 (stk' := []) rfl ?_
        refine pd_aload_n C dX5_findByFew_73 rfl rfl ?_
        refine pd_iload_n C dX5_findByFew_74 rfl rfl ?_
        obtain ⟨zI7, zZ4, zh3, hF⟩ := pd_bd2_some hF
        refine pd_callV C [.int p2] [] (em_X5_thin (pd_C_st C) hn  zh3) mw_X5_thin wd_4_162 rfl (by decide) (pd_lt (by decide) hn) sh_36 ⟨by decide, by decide, by decide, by decide⟩ rfl (Nat.le_of_ble_eq_true rfl) pd_oldL_same (fun _ _ => pd_old_same _) dX5_findByFew_75 (stk' := []) rfl ?_
        refine pd_iincG (zz := 1) C dX5_findByFew_78 rfl (by decide) rfl (fun zv2 hzv2 => ?_)
        have hF := pd_let_at hF hzv2
        refine pd_lsE (ls' := [some (.ref 36), some (.ref a0), some (.int p1), some (.int p2), some (.int zr1), some (.int zv2)]) rfl ?_
        refine pd_goto (tgt := 49) C dX5_findByFew_81 (by decide) ?_
        exact ih _ _ _ hF
      replace hF := hS
      clear hS
      refine pd_icmp_lt (tgt := 69) C dX5_findByFew_62 (by decide) (fun zc3 => ?_) (fun zc3 => ?_)
      · have hF := pd_t zc3 hF
        refine pd_iconst (v := 0) C dX5_findByFew_69 (by decide) ?_
        have hF := hF.symm
        cases hF
        exact hJ70
      · have hF := pd_f zc3 hF
        refine pd_iconst (v := 1) C dX5_findByFew_65 (by decide) ?_
        refine pd_goto (tgt := 70) C dX5_findByFew_66 (by decide) ?_
        have hF := hF.symm
        cases hF
        exact hJ70
def fn_X5_findByFew (I : pd_I) (Z : pd_R) (n : Nat) (a0 : Nat) (p1 : Int32) (p2 : Int32) : Option (pd_I × pd_R) := pd_bd (fn_X0_steps I a0 p1) fun zr1 => fl_X5_findByFew_10 Z n (fun zI2 => fl_X5_findByFew_49 p1 p2 zr1 n (fun zI5 zZ2 => pd_bd (if (zI5 a0 0) = 3 then some 0 else (pd_bd (fn_X5_cheapestState zI5 zZ2 n) fun zr3 => some zr3)) fun (zx5 : Int32) => pd_bd (fn_X10_open zI5 1) fun zI8 => pd_bd (zZ2 36 3) fun zq2 => pd_gd (pd_isArr zq2 512 n) (pd_gd (pd_in zx5 512) (pd_bd2 (if 536870912 ≤ (zI8 zq2 zx5.toNatClampNeg) then some (zI8, zZ2) else (pd_bd (fn_X5_goBack zI8 zZ2 n zx5 zr1 p1) fun zI10 => pd_bd3 (fn_X10_settle zI10 zZ2 n) fun zr2 zI11 zZ6 => some (zI11, zZ6))) fun (zI9 : pd_I) (zZ5 : pd_R) => some (zI9, zZ5)))) pd_FU 0 zI2 Z) pd_FU 0 I
set_option maxRecDepth 100000 in
set_option maxHeartbeats 4000000 in
theorem em_X5_findByFew {l : Launch} {D : va_G} {tc : Nat → ClassId} (hst : l.stackTraces = false) {I : pd_I} {J : pd_J} {Z : pd_R} {n : Nat} {a0 : Nat} {p1 : Int32} {p2 : Int32} (hn : 133 ≤ n) (ha0 : pd_isCode a0 n = true) {out : pd_I × pd_R} (hF : fn_X5_findByFew I Z n a0 p1 p2 = some out) :
    pd_M l D tc yX5_findByFew (.code yX5_findByFew cX5_findByFew 6 (Option.none : Option Jvm.ClassFile.FieldType)) rm_X5_findByFew [.ref 36, .ref a0, .int p1, .int p2] I J (pd_RF Z) n (.ok (none)) out.1 J (pd_RF out.2) n := by
  refine pd_open (own := "PathDecoder$Search") (ls0 := [some (.ref 36), some (.ref a0), some (.int p1), some (.int p2), none, none]) (by decide) rfl (Nat.le_of_ble_eq_true rfl) rfl rfl hst (fun cx hl hD htc C hE htab hnm => ?_)
  subst hl hD htc
  unfold fn_X5_findByFew at hF
  refine pd_aload_n C dX5_findByFew_0 rfl rfl ?_
  refine pd_iload_n C dX5_findByFew_1 rfl rfl ?_
  obtain ⟨zr1, zh1, hF⟩ := pd_bd_some hF
  refine pd_callV C [.int p1] [] (em_X0_steps (pd_C_st C) hn ha0 zh1) mw_X0_steps wd_4_156 rfl (by decide) (pd_code_lt ha0) (pd_code_sh ha0) ⟨by decide, by decide, by decide, by decide⟩ rfl (Nat.le_of_ble_eq_true rfl) pd_oldL_same (fun _ _ => pd_old_same _) dX5_findByFew_2 (stk' := [.int zr1]) rfl ?_
  refine pd_istore (ls' := [some (.ref 36), some (.ref a0), some (.int p1), some (.int p2), some (.int zr1), none]) C dX5_findByFew_5 (Nat.le_of_ble_eq_true rfl) rfl rfl ?_
  refine pd_iconst (v := 0) C dX5_findByFew_7 (by decide) ?_
  refine pd_istore (ls' := [some (.ref 36), some (.ref a0), some (.int p1), some (.int p2), some (.int zr1), some (.int 0)]) C dX5_findByFew_8 (Nat.le_of_ble_eq_true rfl) rfl rfl ?_
  refine el_X5_findByFew_10 C hn ha0 (fun zI2 hF => ?_) pd_FU _ _ hF
  refine pd_iconst (v := 0) C dX5_findByFew_46 (by decide) ?_
  refine pd_istore (ls' := [some (.ref 36), some (.ref a0), some (.int p1), some (.int p2), some (.int zr1), some (.int 0)]) C dX5_findByFew_47 (Nat.le_of_ble_eq_true rfl) rfl rfl ?_
  refine el_X5_findByFew_49 C hn ha0 (fun zI5 zZ2 hF => ?_) pd_FU _ _ _ hF
  refine pd_aload_n C dX5_findByFew_84 rfl rfl ?_
  refine gi_0_0 C wd_3_59 (pd_code_lt ha0) (pd_code_sh ha0) dX5_findByFew_85 ?_
  refine pd_iconst (v := 3) C dX5_findByFew_88 (by decide) ?_
  obtain ⟨zx5, hS, hF⟩ := pd_bd_some hF
  have hJ100 : pd_V cx 0 0 100 [some (.ref 36), none, some (.int p1), none, some (.int zr1), none] [.int zx5] zI5 J (pd_RF zZ2) n := by
    refine pd_istore (ls' := [some (.ref 36), none, some (.int p1), none, some (.int zr1), some (.int zx5)]) C dX5_findByFew_100 (Nat.le_of_ble_eq_true rfl) rfl rfl ?_
    refine pd_aload_n C dX5_findByFew_102 rfl rfl ?_
    refine gr_5_1 C wd_1_153 (pd_lt (by decide) hn) sh_36 (rf_36_1 _) dX5_findByFew_103 ?_
    refine pd_iconst (v := 1) C dX5_findByFew_106 (by decide) ?_
    obtain ⟨zI8, zh4, hF⟩ := pd_bd_some hF
    refine pd_callV C [.int 1] [] (em_X10_open (pd_C_st C) hn  zh4) mw_X10_open wd_4_59 rfl (by decide) (pd_lt (by decide) hn) sh_16 ⟨by decide, by decide, by decide, by decide⟩ rfl (Nat.le_of_ble_eq_true rfl) pd_oldL_same (fun _ _ => pd_old_same _) dX5_findByFew_107 (stk' := []) rfl ?_
    refine pd_aload_n C dX5_findByFew_110 rfl rfl ?_
    obtain ⟨zq2, hzq2, hF⟩ := pd_bd_some hF
    obtain ⟨zg3, hF⟩ := pd_gd_some hF
    refine gr_5_3 C wd_1_155 (pd_lt (by decide) hn) sh_36 ((pd_RF_dyn rfl).trans hzq2) dX5_findByFew_111 ?_
    refine pd_iload C dX5_findByFew_114 rfl ?_
    obtain ⟨zg4, hF⟩ := pd_gd_some hF
    refine pd_iald C (pd_arr_lt zg3) (pd_arr_sh zg3) zg4 dX5_findByFew_116 ?_
    refine pd_ldc C wd_4_93 dX5_findByFew_117 ?_
    obtain ⟨zI9, zZ5, hS, hF⟩ := pd_bd2_some hF
    have hJ139 : pd_V cx 0 0 139 [none, none, none, none, none, none] [] zI9 J (pd_RF zZ5) n := by
      cases hF
      exact pd_vret C hE rfl ⟨by decide, by decide⟩ dX5_findByFew_139
    replace hF := hS
    clear hS
    refine pd_icmp_ge (tgt := 139) C dX5_findByFew_119 (by decide) (fun zc5 => ?_) (fun zc5 => ?_)
    · have hF := pd_t zc5 hF
      refine pd_wk (ls' := [none, none, none, none, none, none]) True.intro ?_
      have hF := hF.symm
      cases hF
      exact hJ139
    · have hF := pd_f zc5 hF
      refine pd_aload_n C dX5_findByFew_122 rfl rfl ?_
      refine pd_iload C dX5_findByFew_123 rfl ?_
      refine pd_iload C dX5_findByFew_125 rfl ?_
      refine pd_iload_n C dX5_findByFew_127 rfl rfl ?_
      obtain ⟨zI10, zh5, hF⟩ := pd_bd_some hF
      refine pd_callV C [.int zx5, .int zr1, .int p1] [] (em_X5_goBack (pd_C_st C) hn  zh5) mw_X5_goBack wd_4_170 rfl (by decide) (pd_lt (by decide) hn) sh_36 ⟨by decide, by decide, by decide, by decide⟩ rfl (Nat.le_of_ble_eq_true rfl) pd_oldL_same (fun _ _ => pd_old_same _) dX5_findByFew_128 (stk' := []) rfl ?_
      refine pd_aload_n C dX5_findByFew_131 rfl rfl ?_
      refine gr_5_1 C wd_1_153 (pd_lt (by decide) hn) sh_36 (rf_36_1 _) dX5_findByFew_132 ?_
      obtain ⟨zr2, zI11, zZ6, zh6, hF⟩ := pd_bd3_some hF
      refine pd_callV C [] [] (em_X10_settle (pd_C_st C) hn  zh6) mw_X10_settle wd_4_123 rfl (by decide) (pd_lt (by decide) hn) sh_16 ⟨by decide, by decide, by decide, by decide⟩ rfl (Nat.le_of_ble_eq_true rfl) pd_oldL_same (fun _ _ => pd_old_same _) dX5_findByFew_135 (stk' := [.int zr2]) rfl ?_
      refine pd_pop C dX5_findByFew_138 rfl ?_
      refine pd_wk (ls' := [none, none, none, none, none, none]) True.intro ?_
      have hF := hF.symm
      cases hF
      exact hJ139
  replace hF := hS
  clear hS
  refine pd_icmp_ne (tgt := 96) C dX5_findByFew_89 (by decide) (fun zc6 => ?_) (fun zc6 => ?_)
  · have hF := pd_f zc6 hF
    refine pd_aload_n C dX5_findByFew_96 rfl rfl ?_
    obtain ⟨zr3, zh7, hF⟩ := pd_bd_some hF
    refine pd_callV C [] [] (em_X5_cheapestState (pd_C_st C) hn  zh7) mw_X5_cheapestState wd_4_166 rfl (by decide) (pd_lt (by decide) hn) sh_36 ⟨by decide, by decide, by decide, by decide⟩ rfl (Nat.le_of_ble_eq_true rfl) pd_oldL_same (fun _ _ => pd_old_same _) dX5_findByFew_97 (stk' := [.int zr3]) rfl ?_
    refine pd_wk (ls' := [some (.ref 36), none, some (.int p1), none, some (.int zr1), none]) (And.intro rfl (And.intro rfl (And.intro rfl True.intro))) ?_
    have hF := hF.symm
    cases hF
    exact hJ100
  · have hF := pd_t zc6 hF
    refine pd_iconst (v := 0) C dX5_findByFew_92 (by decide) ?_
    refine pd_goto (tgt := 100) C dX5_findByFew_93 (by decide) ?_
    refine pd_wk (ls' := [some (.ref 36), none, some (.int p1), none, some (.int zr1), none]) (And.intro rfl (And.intro rfl (And.intro rfl True.intro))) ?_
    have hF := hF.symm
    cases hF
    exact hJ100

def fn_X11_few (I : pd_I) (Z : pd_R) (n : Nat) (p0 : Int32) (p1 : Int32) (p2 : Int32) (p3 : Int32) : Option (Except String (Int32 × pd_I × pd_R)) := pd_bx (fn_X11_codeOf I Z n p0) fun zq1 => pd_gd (pd_isCode zq1 n) (pd_bx (fn_X11_rowOf Z n p1) fun zq2 => pd_gd (pd_isRow zq2) (pd_bd (if (I zq1 0) = 4 then some false else (if (I zq1 0) = 5 then some false else (some true))) fun zc1 => if zc1 = true then pd_bx (fn_X11_demandBitCount p2) fun _ => pd_bd (if p3 < 1 then some false else (if p3 ≤ 64 then some true else (some false))) fun zc2 => if zc2 = true then pd_bd (fn_X11_prepare I zq1 zq2 p2) fun zI1 => pd_bd2 (fn_X5_findByFew zI1 Z n zq1 p2 p3) fun zI2 zZ1 => pd_bd (fn_X10_count zI2) fun zr1 => pd_bd (if zr1 ≤ 0 then some (-1) else (pd_bd (fn_X10_wayAt zZ1 n 0) fun zq3 => pd_gd (pd_isWay zq3) (some (zI2 zq3 0)))) fun (zx1 : Int32) => some (.ok (zx1, zI2, zZ1)) else (some (.error "java/lang/IllegalArgumentException")) else (some (.error "java/util/NoSuchElementException"))))
set_option maxRecDepth 100000 in
set_option maxHeartbeats 4000000 in
theorem em_X11_few {l : Launch} {D : va_G} {tc : Nat → ClassId} (hst : l.stackTraces = false) {I : pd_I} {J : pd_J} {Z : pd_R} {n : Nat} {p0 : Int32} {p1 : Int32} {p2 : Int32} {p3 : Int32} (hn : 133 ≤ n)  {out : Except String (Int32 × pd_I × pd_R)} (hF : fn_X11_few I Z n p0 p1 p2 p3 = some out) :
    pd_M l D tc yX11_few (.code yX11_few cX11_few 7 (Option.some Jvm.ClassFile.FieldType.int)) rm_X11_few [.ref 0, .int p0, .int p1, .int p2, .int p3] I J (pd_RF Z) n (pd_oo (fun (p : Int32 × pd_I × pd_R) => some (.int p.1)) out) (pd_os (fun (p : Int32 × pd_I × pd_R) => p.2.1) I out) J (pd_RF (pd_os (fun (p : Int32 × pd_I × pd_R) => p.2.2) Z out)) n := by
  refine pd_open (own := "PathDecoder") (ls0 := [some (.ref 0), some (.int p0), some (.int p1), some (.int p2), some (.int p3), none, none]) (by decide) rfl (Nat.le_of_ble_eq_true rfl) rfl rfl hst (fun cx hl hD htc C hE htab hnm => ?_)
  subst hl hD htc
  unfold fn_X11_few at hF
  refine pd_aload_n C dX11_few_0 rfl rfl ?_
  refine pd_iload_n C dX11_few_1 rfl rfl ?_
  rcases pd_bx_some hF with ⟨e9, zh1, he9⟩ | ⟨zq1, zh1, hF⟩
  · subst he9
    exact pd_callVX C [.int p0] [] (em_X11_codeOf (pd_C_st C) hn  zh1) mw_X11_codeOf wd_3_100 rfl (by decide) (pd_lt (by decide) hn) sh_0 ⟨by decide, by decide, by decide, by decide⟩ rfl (Nat.le_of_ble_eq_true rfl) dX11_few_2 (pd_prop C hE rfl htab ⟨by decide, by decide⟩)
  obtain ⟨zg1, hF⟩ := pd_gd_some hF
  refine pd_callV C [.int p0] [] (em_X11_codeOf (pd_C_st C) hn  zh1) mw_X11_codeOf wd_3_100 rfl (by decide) (pd_lt (by decide) hn) sh_0 ⟨by decide, by decide, by decide, by decide⟩ rfl (Nat.le_of_ble_eq_true rfl) pd_oldL_same (fun _ _ => pd_old_same _) dX11_few_2 (stk' := [.ref zq1]) rfl ?_
  refine pd_astore (ls' := [some (.ref 0), some (.int p0), some (.int p1), some (.int p2), some (.int p3), some (.ref zq1), none]) C dX11_few_5 (Nat.le_of_ble_eq_true rfl) rfl rfl ?_
  refine pd_aload_n C dX11_few_7 rfl rfl ?_
  refine pd_iload_n C dX11_few_8 rfl rfl ?_
  rcases pd_bx_some hF with ⟨e9, zh2, he9⟩ | ⟨zq2, zh2, hF⟩
  · subst he9
    exact pd_callVX C [.int p1] [] (em_X11_rowOf (pd_C_st C) hn  zh2) mw_X11_rowOf wd_2_88 rfl (by decide) (pd_lt (by decide) hn) sh_0 ⟨by decide, by decide, by decide, by decide⟩ rfl (Nat.le_of_ble_eq_true rfl) dX11_few_9 (pd_prop C hE rfl htab ⟨by decide, by decide⟩)
  obtain ⟨zg2, hF⟩ := pd_gd_some hF
  refine pd_callV C [.int p1] [] (em_X11_rowOf (pd_C_st C) hn  zh2) mw_X11_rowOf wd_2_88 rfl (by decide) (pd_lt (by decide) hn) sh_0 ⟨by decide, by decide, by decide, by decide⟩ rfl (Nat.le_of_ble_eq_true rfl) pd_oldL_same (fun _ _ => pd_old_same _) dX11_few_9 (stk' := [.ref zq2]) rfl ?_
  refine pd_astore (ls' := [some (.ref 0), some (.int p0), some (.int p1), some (.int p2), some (.int p3), some (.ref zq1), some (.ref zq2)]) C dX11_few_12 (Nat.le_of_ble_eq_true rfl) rfl rfl ?_
  refine pd_aload C dX11_few_14 rfl ?_
  refine gi_0_0 C wd_3_60 (pd_code_lt zg1) (pd_code_sh zg1) dX11_few_16 ?_
  refine pd_iconst (v := 4) C dX11_few_19 (by decide) ?_
  obtain ⟨zc1, hS, hF⟩ := pd_bd_some hF
  have hTzc1 : zc1 = true → pd_V cx 2 12 43 [some (.ref 0), some (.int p0), some (.int p1), some (.int p2), some (.int p3), some (.ref zq1), some (.ref zq2)] [] I J (pd_RF Z) n := by
    intro hc
    have hF := pd_t hc hF
    refine pd_iload_n C dX11_few_43 rfl rfl ?_
    rcases pd_bx_some hF with ⟨e9, zh3, he9⟩ | ⟨_, zh3, hF⟩
    · subst he9
      exact pd_callSX C [.int p2] [] (em_X11_demandBitCount (pd_C_st C) hn  zh3) mw_X11_demandBitCount wd_3_154 ⟨by decide, by decide, by decide, by decide⟩ rfl (Nat.le_of_ble_eq_true rfl) dX11_few_44 (pd_prop C hE rfl htab ⟨by decide, by decide⟩)
    refine pd_callS C [.int p2] [] (em_X11_demandBitCount (pd_C_st C) hn  zh3) mw_X11_demandBitCount wd_3_154 ⟨by decide, by decide, by decide, by decide⟩ rfl (Nat.le_of_ble_eq_true rfl) pd_oldL_same (fun _ _ => pd_old_same _) dX11_few_44 (stk' := []) rfl ?_
    refine pd_iload C dX11_few_47 rfl ?_
    refine pd_iconst (v := 1) C dX11_few_49 (by decide) ?_
    obtain ⟨zc2, hS, hF⟩ := pd_bd_some hF
    have hTzc2 : zc2 = true → pd_V cx 3 18 71 [some (.ref 0), some (.int p0), some (.int p1), some (.int p2), some (.int p3), some (.ref zq1), some (.ref zq2)] [] I J (pd_RF Z) n := by
      intro hc
      have hF := pd_t hc hF
      refine pd_aload_n C dX11_few_71 rfl rfl ?_
      refine pd_aload C dX11_few_72 rfl ?_
      refine pd_aload C dX11_few_74 rfl ?_
      refine pd_iload_n C dX11_few_76 rfl rfl ?_
      obtain ⟨zI1, zh4, hF⟩ := pd_bd_some hF
      refine pd_callV C [.ref zq1, .ref zq2, .int p2] [] (em_X11_prepare (pd_C_st C) hn zg1 zg2 zh4) mw_X11_prepare wd_4_35 rfl (by decide) (pd_lt (by decide) hn) sh_0 ⟨by decide, by decide, by decide, by decide⟩ rfl (Nat.le_of_ble_eq_true rfl) pd_oldL_same (fun _ _ => pd_old_same _) dX11_few_77 (stk' := []) rfl ?_
      refine pd_aload_n C dX11_few_80 rfl rfl ?_
      refine gr_11_7 C wd_2_39 (pd_lt (by decide) hn) sh_0 (rf_0_7 _) dX11_few_81 ?_
      refine pd_aload C dX11_few_84 rfl ?_
      refine pd_iload_n C dX11_few_86 rfl rfl ?_
      refine pd_iload C dX11_few_87 rfl ?_
      obtain ⟨zI2, zZ1, zh5, hF⟩ := pd_bd2_some hF
      refine pd_callV C [.ref zq1, .int p2, .int p3] [] (em_X5_findByFew (pd_C_st C) hn zg1 zh5) mw_X5_findByFew wd_4_152 rfl (by decide) (pd_lt (by decide) hn) sh_36 ⟨by decide, by decide, by decide, by decide⟩ rfl (Nat.le_of_ble_eq_true rfl) pd_oldL_same (fun _ _ => pd_old_same _) dX11_few_89 (stk' := []) rfl ?_
      refine pd_aload_n C dX11_few_92 rfl rfl ?_
      refine gr_11_6 C wd_2_38 (pd_lt (by decide) hn) sh_0 (rf_0_6 _) dX11_few_93 ?_
      obtain ⟨zr1, zh6, hF⟩ := pd_bd_some hF
      refine pd_callV C [] [] (em_X10_count (pd_C_st C) hn  zh6) mw_X10_count wd_4_127 rfl (by decide) (pd_lt (by decide) hn) sh_16 ⟨by decide, by decide, by decide, by decide⟩ rfl (Nat.le_of_ble_eq_true rfl) pd_oldL_same (fun _ _ => pd_old_same _) dX11_few_96 (stk' := [.int zr1]) rfl ?_
      obtain ⟨zx1, hS, hF⟩ := pd_bd_some hF
      have hJ117 : pd_V cx 3 18 117 [none, none, none, none, none, none, none] [.int zx1] zI2 J (pd_RF zZ1) n := by
        cases hF
        exact pd_iret C hE rfl rfl rfl ⟨by decide, by decide⟩ dX11_few_117
      replace hF := hS
      clear hS
      refine pd_if_le (tgt := 116) C dX11_few_99 (by decide) (fun zc3 => ?_) (fun zc3 => ?_)
      · have hF := pd_t zc3 hF
        refine pd_iconst (v := (-1)) C dX11_few_116 (by decide) ?_
        refine pd_wk (ls' := [none, none, none, none, none, none, none]) True.intro ?_
        have hF := hF.symm
        cases hF
        exact hJ117
      · have hF := pd_f zc3 hF
        refine pd_aload_n C dX11_few_102 rfl rfl ?_
        refine gr_11_6 C wd_2_38 (pd_lt (by decide) hn) sh_0 (rf_0_6 _) dX11_few_103 ?_
        refine pd_iconst (v := 0) C dX11_few_106 (by decide) ?_
        obtain ⟨zq3, zh7, hF⟩ := pd_bd_some hF
        obtain ⟨zg3, hF⟩ := pd_gd_some hF
        refine pd_callV C [.int 0] [] (em_X10_wayAt (pd_C_st C) hn  zh7) mw_X10_wayAt wd_4_131 rfl (by decide) (pd_lt (by decide) hn) sh_16 ⟨by decide, by decide, by decide, by decide⟩ rfl (Nat.le_of_ble_eq_true rfl) pd_oldL_same (fun _ _ => pd_old_same _) dX11_few_107 (stk' := [.ref zq3]) rfl ?_
        refine gi_9_0 C wd_1_117 (pd_way_lt zg3 hn) (pd_way_sh zg3) dX11_few_110 ?_
        refine pd_goto (tgt := 117) C dX11_few_113 (by decide) ?_
        refine pd_wk (ls' := [none, none, none, none, none, none, none]) True.intro ?_
        have hF := hF.symm
        cases hF
        exact hJ117
    have hEzc2 : zc2 = false → pd_V cx 3 18 60 [some (.ref 0), some (.int p0), some (.int p1), some (.int p2), some (.int p3), some (.ref zq1), some (.ref zq2)] [] I J (pd_RF Z) n := by
      intro hc
      have hF := pd_bf hc hF
      cases hF
      exact pd_throwW (ik := 103) C hE rfl htab pd_tw1 wd_2_159 wd_1_17 (List.mem_of_getElem? (i := 22) rfl) dX11_few_60 dX11_few_63 dX11_few_64 dX11_few_67 dX11_few_70 ⟨by decide, Nat.le_of_ble_eq_true rfl, by decide, by decide⟩
    replace hF := hS
    clear hS
    refine pd_icmp_lt (tgt := 60) C dX11_few_50 (by decide) (fun zc5 => ?_) (fun zc5 => ?_)
    · have hF := pd_t zc5 hF
      cases hF
      exact hEzc2 rfl
    · have hF := pd_f zc5 hF
      refine pd_iload C dX11_few_53 rfl ?_
      refine pd_bipush (v := 64) C dX11_few_55 (by decide) ?_
      refine pd_icmp_le (tgt := 71) C dX11_few_57 (by decide) (fun zc4 => ?_) (fun zc4 => ?_)
      · have hF := pd_t zc4 hF
        cases hF
        exact hTzc2 rfl
      · have hF := pd_f zc4 hF
        cases hF
        exact hEzc2 rfl
  have hEzc1 : zc1 = false → pd_V cx 2 12 32 [some (.ref 0), some (.int p0), some (.int p1), some (.int p2), some (.int p3), some (.ref zq1), some (.ref zq2)] [] I J (pd_RF Z) n := by
    intro hc
    have hF := pd_bf hc hF
    cases hF
    exact pd_throwNW (ik := 167) C hE rfl htab pd_tw3 wd_2_209 wd_1_19 (List.mem_of_getElem? (i := 21) rfl) dX11_few_32 dX11_few_35 dX11_few_36 dX11_few_39 dX11_few_42 ⟨by decide, Nat.le_of_ble_eq_true rfl, by decide, by decide⟩
  replace hF := hS
  clear hS
  refine pd_icmp_eq (tgt := 32) C dX11_few_20 (by decide) (fun zc7 => ?_) (fun zc7 => ?_)
  · have hF := pd_t zc7 hF
    cases hF
    exact hEzc1 rfl
  · have hF := pd_f zc7 hF
    refine pd_aload C dX11_few_23 rfl ?_
    refine gi_0_0 C wd_3_60 (pd_code_lt zg1) (pd_code_sh zg1) dX11_few_25 ?_
    refine pd_iconst (v := 5) C dX11_few_28 (by decide) ?_
    refine pd_icmp_ne (tgt := 43) C dX11_few_29 (by decide) (fun zc6 => ?_) (fun zc6 => ?_)
    · have hF := pd_f zc6 hF
      cases hF
      exact hTzc1 rfl
    · have hF := pd_t zc6 hF
      cases hF
      exact hEzc1 rfl

