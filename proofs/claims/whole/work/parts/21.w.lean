def fl_X12_clearLeasts_2 {O : Type} (p0 : Int32) (kont : pd_I → Option O) : Nat → Int32 → pd_I → Option O
  | 0, _, _ => none
  | fu + 1, zx1, zI1 => if p0 ≤ zx1 then kont zI1 else (pd_gd (pd_in zx1 200) (pd_let (pd_ui zI1 117 zx1.toNatClampNeg 1000000000) fun zI3 => pd_gd (pd_in zx1 200) (pd_let (pd_ui zI3 118 zx1.toNatClampNeg 1000000000) fun zI4 => pd_let (zx1 + 1) fun zv1 => fl_X12_clearLeasts_2 p0 kont fu zv1 zI4)))
set_option maxRecDepth 100000 in
set_option maxHeartbeats 4000000 in
theorem el_X12_clearLeasts_2 {cx : pd_X} (C : pd_C cx "PathDecoderModel" cX12_clearLeasts rm_X12_clearLeasts) {p0 : Int32} {J : pd_J} {Z : pd_R} {n : Nat} (hn : 133 ≤ n)  {O : Type} {kont : pd_I → Option O} {out : O} (K : ∀ (zI2 : pd_I), kont zI2 = some out → pd_V cx 0 0 29 [none, none, none] [] zI2 J (pd_RF Z) n) :
    ∀ (fu : Nat) (zx1 : Int32) (zI1 : pd_I), fl_X12_clearLeasts_2 p0 kont fu zx1 zI1 = some out → pd_V cx 0 0 2 [some (.ref 92), some (.int p0), some (.int zx1)] [] zI1 J (pd_RF Z) n := by
  intro fu
  induction fu with
  | zero => intro zx1 zI1 hF; rw [fl_X12_clearLeasts_2] at hF; cases hF
  | succ fu ih =>
    intro zx1 zI1 hF
    rw [fl_X12_clearLeasts_2] at hF
    refine pd_iload_n C dX12_clearLeasts_2 rfl rfl ?_
    refine pd_iload_n C dX12_clearLeasts_3 rfl rfl ?_
    refine pd_icmp_ge (tgt := 29) C dX12_clearLeasts_4 (by decide) (fun zc1 => ?_) (fun zc1 => ?_)
    · have hF := pd_t zc1 hF
      refine pd_wk (ls' := [none, none, none]) True.intro ?_
      exact K _ hF
    · have hF := pd_f zc1 hF
      refine pd_aload_n C dX12_clearLeasts_7 rfl rfl ?_
      refine gr_12_29 C wd_5_154 (pd_lt (by decide) hn) sh_92 (rf_92_29 _) dX12_clearLeasts_8 ?_
      refine pd_iload_n C dX12_clearLeasts_11 rfl rfl ?_
      refine pd_ldc C wd_6_184 dX12_clearLeasts_12 ?_
      obtain ⟨zg1, hF⟩ := pd_gd_some hF
      refine pd_iast C (pd_lt (by decide) hn) sh_117 zg1 dX12_clearLeasts_14 ?_
      refine pd_memI (fun zI3 hzI3 => ?_)
      have hF := pd_let_at hF hzI3
      refine pd_aload_n C dX12_clearLeasts_15 rfl rfl ?_
      refine gr_12_30 C wd_5_155 (pd_lt (by decide) hn) sh_92 (rf_92_30 _) dX12_clearLeasts_16 ?_
      refine pd_iload_n C dX12_clearLeasts_19 rfl rfl ?_
      refine pd_ldc C wd_6_184 dX12_clearLeasts_20 ?_
      obtain ⟨zg2, hF⟩ := pd_gd_some hF
      refine pd_iast C (pd_lt (by decide) hn) sh_118 zg2 dX12_clearLeasts_22 ?_
      refine pd_memI (fun zI4 hzI4 => ?_)
      have hF := pd_let_at hF hzI4
      refine pd_iincG (zz := 1) C dX12_clearLeasts_23 rfl (by decide) rfl (fun zv1 hzv1 => ?_)
      have hF := pd_let_at hF hzv1
      refine pd_lsE (ls' := [some (.ref 92), some (.int p0), some (.int zv1)]) rfl ?_
      refine pd_goto (tgt := 2) C dX12_clearLeasts_26 (by decide) ?_
      exact ih _ _ hF
def fn_X12_clearLeasts (I : pd_I) (p0 : Int32) : Option pd_I := fl_X12_clearLeasts_2 p0 (fun zI2 => some zI2) pd_FU 0 I
set_option maxRecDepth 100000 in
set_option maxHeartbeats 4000000 in
theorem em_X12_clearLeasts {l : Launch} {D : va_G} {tc : Nat → ClassId} (hst : l.stackTraces = false) {I : pd_I} {J : pd_J} {Z : pd_R} {n : Nat} {p0 : Int32} (hn : 133 ≤ n)  {out : pd_I} (hF : fn_X12_clearLeasts I p0 = some out) :
    pd_M l D tc yX12_clearLeasts (.code yX12_clearLeasts cX12_clearLeasts 3 (Option.none : Option Jvm.ClassFile.FieldType)) rm_X12_clearLeasts [.ref 92, .int p0] I J (pd_RF Z) n (.ok (none)) out J (pd_RF Z) n := by
  refine pd_open (own := "PathDecoderModel") (ls0 := [some (.ref 92), some (.int p0), none]) (by decide) rfl (Nat.le_of_ble_eq_true rfl) rfl rfl hst (fun cx hl hD htc C hE htab hnm => ?_)
  subst hl hD htc
  unfold fn_X12_clearLeasts at hF
  refine pd_iconst (v := 0) C dX12_clearLeasts_0 (by decide) ?_
  refine pd_istore_n (ls' := [some (.ref 92), some (.int p0), some (.int 0)]) C dX12_clearLeasts_1 rfl (Nat.le_of_ble_eq_true rfl) rfl rfl ?_
  refine el_X12_clearLeasts_2 C hn (fun zI2 hF => ?_) pd_FU _ _ hF
  cases hF
  exact pd_vret C hE rfl ⟨by decide, by decide⟩ dX12_clearLeasts_29

def fn_X12_difference (I : pd_I) (p0 : Int32) : Option Int32 := pd_gd (pd_in p0 200) (pd_bd (if (I 118 p0.toNatClampNeg) = 1000000000 then some 1000000 else (pd_gd (pd_in p0 200) (if (I 117 p0.toNatClampNeg) = 1000000000 then some (-1000000) else (pd_gd (pd_in p0 200) (pd_gd (pd_in p0 200) (some ((I 118 p0.toNatClampNeg) - (I 117 p0.toNatClampNeg)))))))) fun (zx1 : Int32) => some zx1)
set_option maxRecDepth 100000 in
set_option maxHeartbeats 4000000 in
theorem em_X12_difference {l : Launch} {D : va_G} {tc : Nat → ClassId} (hst : l.stackTraces = false) {I : pd_I} {J : pd_J} {Z : pd_R} {n : Nat} {p0 : Int32} (hn : 133 ≤ n)  {out : Int32} (hF : fn_X12_difference I p0 = some out) :
    pd_M l D tc yX12_difference (.code yX12_difference cX12_difference 2 (Option.some Jvm.ClassFile.FieldType.int)) rm_X12_difference [.ref 92, .int p0] I J (pd_RF Z) n (.ok (some (.int out))) I J (pd_RF Z) n := by
  refine pd_open (own := "PathDecoderModel") (ls0 := [some (.ref 92), some (.int p0)]) (by decide) rfl (Nat.le_of_ble_eq_true rfl) rfl rfl hst (fun cx hl hD htc C hE htab hnm => ?_)
  subst hl hD htc
  unfold fn_X12_difference at hF
  refine pd_aload_n C dX12_difference_0 rfl rfl ?_
  refine gr_12_30 C wd_5_155 (pd_lt (by decide) hn) sh_92 (rf_92_30 _) dX12_difference_1 ?_
  refine pd_iload_n C dX12_difference_4 rfl rfl ?_
  obtain ⟨zg1, hF⟩ := pd_gd_some hF
  refine pd_iald C (pd_lt (by decide) hn) sh_118 zg1 dX12_difference_5 ?_
  refine pd_ldc C wd_6_184 dX12_difference_6 ?_
  obtain ⟨zx1, hS, hF⟩ := pd_bd_some hF
  have hJ47 : pd_V cx 0 0 47 [none, none] [.int zx1] I J (pd_RF Z) n := by
    cases hF
    exact pd_iret C hE rfl rfl rfl ⟨by decide, by decide⟩ dX12_difference_47
  replace hF := hS
  clear hS
  refine pd_icmp_ne (tgt := 17) C dX12_difference_8 (by decide) (fun zc2 => ?_) (fun zc2 => ?_)
  · have hF := pd_f zc2 hF
    refine pd_aload_n C dX12_difference_17 rfl rfl ?_
    refine gr_12_29 C wd_5_154 (pd_lt (by decide) hn) sh_92 (rf_92_29 _) dX12_difference_18 ?_
    refine pd_iload_n C dX12_difference_21 rfl rfl ?_
    obtain ⟨zg2, hF⟩ := pd_gd_some hF
    refine pd_iald C (pd_lt (by decide) hn) sh_117 zg2 dX12_difference_22 ?_
    refine pd_ldc C wd_6_184 dX12_difference_23 ?_
    refine pd_icmp_ne (tgt := 34) C dX12_difference_25 (by decide) (fun zc1 => ?_) (fun zc1 => ?_)
    · have hF := pd_f zc1 hF
      refine pd_aload_n C dX12_difference_34 rfl rfl ?_
      refine gr_12_30 C wd_5_155 (pd_lt (by decide) hn) sh_92 (rf_92_30 _) dX12_difference_35 ?_
      refine pd_iload_n C dX12_difference_38 rfl rfl ?_
      obtain ⟨zg3, hF⟩ := pd_gd_some hF
      refine pd_iald C (pd_lt (by decide) hn) sh_118 zg3 dX12_difference_39 ?_
      refine pd_aload_n C dX12_difference_40 rfl rfl ?_
      refine gr_12_29 C wd_5_154 (pd_lt (by decide) hn) sh_92 (rf_92_29 _) dX12_difference_41 ?_
      refine pd_iload_n C dX12_difference_44 rfl rfl ?_
      obtain ⟨zg4, hF⟩ := pd_gd_some hF
      refine pd_iald C (pd_lt (by decide) hn) sh_117 zg4 dX12_difference_45 ?_
      refine pd_isub C dX12_difference_46 ?_
      refine pd_wk (ls' := [none, none]) True.intro ?_
      have hF := hF.symm
      cases hF
      exact hJ47
    · have hF := pd_t zc1 hF
      refine pd_ldc_w C wd_6_238 dX12_difference_28 ?_
      refine pd_goto (tgt := 47) C dX12_difference_31 (by decide) ?_
      refine pd_wk (ls' := [none, none]) True.intro ?_
      have hF := hF.symm
      cases hF
      exact hJ47
  · have hF := pd_t zc2 hF
    refine pd_ldc_w C wd_6_237 dX12_difference_11 ?_
    refine pd_goto (tgt := 47) C dX12_difference_14 (by decide) ?_
    refine pd_wk (ls' := [none, none]) True.intro ?_
    have hF := hF.symm
    cases hF
    exact hJ47

def fl_X12_each_45 {O : Type} (p0 : Int32) (p2 : Int32) (zx1 : Int32) (kont : pd_I → Option O) : Nat → Int32 → pd_I → Option O
  | 0, _, _ => none
  | fu + 1, zx2, zI4 => pd_bd (if zx1 = 0 then some 1 else (pd_gd (pd_in p0 12) (some ((1 : Int32) <<< ((zI4 98 p0.toNatClampNeg) &&& 31))))) fun (zx3 : Int32) => if zx3 ≤ zx2 then kont zI4 else (pd_gd (pd_in p0 12) (pd_bd (if (zI4 97 p0.toNatClampNeg) = 3 then some 1 else (some 0)) fun (zx4 : Int32) => pd_bd (fn_X12_leasts zI4 p0 p2 zx2 zx1 zx4) fun zI6 => pd_let (zx2 + 1) fun zv1 => fl_X12_each_45 p0 p2 zx1 kont fu zv1 zI6))
set_option maxRecDepth 100000 in
set_option maxHeartbeats 4000000 in
theorem el_X12_each_45 {cx : pd_X} (C : pd_C cx "PathDecoderModel" cX12_each rm_X12_each) {p0 : Int32} {p2 : Int32} {zx1 : Int32} {J : pd_J} {Z : pd_R} {n : Nat} (hn : 133 ≤ n)  {O : Type} {kont : pd_I → Option O} {out : O} (K : ∀ (zI5 : pd_I), kont zI5 = some out → pd_V cx 0 0 98 [some (.ref 92), none, none, some (.int p2), none, none, none] [] zI5 J (pd_RF Z) n) :
    ∀ (fu : Nat) (zx2 : Int32) (zI4 : pd_I), fl_X12_each_45 p0 p2 zx1 kont fu zx2 zI4 = some out → pd_V cx 0 0 45 [some (.ref 92), some (.int p0), none, some (.int p2), some (.int zx1), some (.int zx2), none] [] zI4 J (pd_RF Z) n := by
  intro fu
  induction fu with
  | zero => intro zx2 zI4 hF; rw [fl_X12_each_45] at hF; cases hF
  | succ fu ih =>
    intro zx2 zI4 hF
    rw [fl_X12_each_45] at hF
    refine pd_iload C dX12_each_45 rfl ?_
    refine pd_iload C dX12_each_47 rfl ?_
    obtain ⟨zx3, hS, hF⟩ := pd_bd_some hF
    have hJ64 : pd_V cx 0 0 64 [some (.ref 92), some (.int p0), none, some (.int p2), some (.int zx1), some (.int zx2), none] [.int zx3, .int zx2] zI4 J (pd_RF Z) n := by
      refine pd_icmp_ge (tgt := 98) C dX12_each_64 (by decide) (fun zc2 => ?_) (fun zc2 => ?_)
      · have hF := pd_t zc2 hF
        refine pd_wk (ls' := [some (.ref 92), none, none, some (.int p2), none, none, none]) (And.intro rfl (And.intro rfl True.intro)) ?_
        exact K _ hF
      · have hF := pd_f zc2 hF
        refine pd_aload_n C dX12_each_67 rfl rfl ?_
        refine pd_iload_n C dX12_each_68 rfl rfl ?_
        refine pd_iload_n C dX12_each_69 rfl rfl ?_
        refine pd_iload C dX12_each_70 rfl ?_
        refine pd_iload C dX12_each_72 rfl ?_
        refine pd_aload_n C dX12_each_74 rfl rfl ?_
        refine gr_12_6 C wd_5_131 (pd_lt (by decide) hn) sh_92 (rf_92_6 _) dX12_each_75 ?_
        refine pd_iload_n C dX12_each_78 rfl rfl ?_
        obtain ⟨zg2, hF⟩ := pd_gd_some hF
        refine pd_iald C (pd_lt (by decide) hn) sh_97 zg2 dX12_each_79 ?_
        refine pd_iconst (v := 3) C dX12_each_80 (by decide) ?_
        obtain ⟨zx4, hS, hF⟩ := pd_bd_some hF
        have hJ89 : pd_V cx 0 0 89 [some (.ref 92), some (.int p0), none, some (.int p2), some (.int zx1), some (.int zx2), none] [.int zx4, .int zx1, .int zx2, .int p2, .int p0, .ref 92] zI4 J (pd_RF Z) n := by
          obtain ⟨zI6, zh4, hF⟩ := pd_bd_some hF
          refine pd_callV C [.int p0, .int p2, .int zx2, .int zx1, .int zx4] [] (em_X12_leasts (pd_C_st C) hn  zh4) mw_X12_leasts wd_6_229 rfl (by decide) (pd_lt (by decide) hn) sh_92 ⟨by decide, by decide, by decide, by decide⟩ rfl (Nat.le_of_ble_eq_true rfl) pd_oldL_same (fun _ _ => pd_old_same _) dX12_each_89 (stk' := []) rfl ?_
          refine pd_iincG (zz := 1) C dX12_each_92 rfl (by decide) rfl (fun zv1 hzv1 => ?_)
          have hF := pd_let_at hF hzv1
          refine pd_lsE (ls' := [some (.ref 92), some (.int p0), none, some (.int p2), some (.int zx1), some (.int zv1), none]) rfl ?_
          refine pd_goto (tgt := 45) C dX12_each_95 (by decide) ?_
          exact ih _ _ hF
        replace hF := hS
        clear hS
        refine pd_icmp_ne (tgt := 88) C dX12_each_81 (by decide) (fun zc1 => ?_) (fun zc1 => ?_)
        · have hF := pd_f zc1 hF
          refine pd_iconst (v := 0) C dX12_each_88 (by decide) ?_
          have hF := hF.symm
          cases hF
          exact hJ89
        · have hF := pd_t zc1 hF
          refine pd_iconst (v := 1) C dX12_each_84 (by decide) ?_
          refine pd_goto (tgt := 89) C dX12_each_85 (by decide) ?_
          have hF := hF.symm
          cases hF
          exact hJ89
    replace hF := hS
    clear hS
    refine pd_if_eq (tgt := 63) C dX12_each_49 (by decide) (fun zc3 => ?_) (fun zc3 => ?_)
    · have hF := pd_t zc3 hF
      refine pd_iconst (v := 1) C dX12_each_63 (by decide) ?_
      have hF := hF.symm
      cases hF
      exact hJ64
    · have hF := pd_f zc3 hF
      refine pd_iconst (v := 1) C dX12_each_52 (by decide) ?_
      refine pd_aload_n C dX12_each_53 rfl rfl ?_
      refine gr_12_7 C wd_5_132 (pd_lt (by decide) hn) sh_92 (rf_92_7 _) dX12_each_54 ?_
      refine pd_iload_n C dX12_each_57 rfl rfl ?_
      obtain ⟨zg3, hF⟩ := pd_gd_some hF
      refine pd_iald C (pd_lt (by decide) hn) sh_98 zg3 dX12_each_58 ?_
      refine pd_ishl C dX12_each_59 ?_
      refine pd_goto (tgt := 64) C dX12_each_60 (by decide) ?_
      have hF := hF.symm
      cases hF
      exact hJ64
def fl_X12_each_109 {O : Type} (p2 : Int32) (kont : Int32 → pd_I → Option O) : Nat → Int32 → Int32 → pd_I → Option O
  | 0, _, _, _ => none
  | fu + 1, zx5, zx6, zI8 => if p2 ≤ zx6 then kont zx5 zI8 else (pd_bd (fn_X12_difference zI8 zx6) fun zr2 => pd_gd (pd_in zx6 200) (pd_let (pd_ui zI8 109 zx6.toNatClampNeg zr2) fun zI10 => pd_gd (pd_in zx6 200) (pd_bd (if 0 ≤ (zI10 109 zx6.toNatClampNeg) then some 0 else (some 1)) fun (zx8 : Int32) => pd_let (zx5 + zx8) fun zv2 => pd_let (zx6 + 1) fun zv3 => fl_X12_each_109 p2 kont fu zv2 zv3 zI10)))
set_option maxRecDepth 100000 in
set_option maxHeartbeats 4000000 in
theorem el_X12_each_109 {cx : pd_X} (C : pd_C cx "PathDecoderModel" cX12_each rm_X12_each) {p2 : Int32} {J : pd_J} {Z : pd_R} {n : Nat} (hn : 133 ≤ n)  {O : Type} {kont : Int32 → pd_I → Option O} {out : O} (K : ∀ (zx7 : Int32) (zI9 : pd_I), kont zx7 zI9 = some out → pd_V cx 0 0 154 [none, none, none, none, none, some (.int zx7), none] [] zI9 J (pd_RF Z) n) :
    ∀ (fu : Nat) (zx5 : Int32) (zx6 : Int32) (zI8 : pd_I), fl_X12_each_109 p2 kont fu zx5 zx6 zI8 = some out → pd_V cx 0 0 109 [some (.ref 92), none, none, some (.int p2), none, some (.int zx5), some (.int zx6)] [] zI8 J (pd_RF Z) n := by
  intro fu
  induction fu with
  | zero => intro zx5 zx6 zI8 hF; rw [fl_X12_each_109] at hF; cases hF
  | succ fu ih =>
    intro zx5 zx6 zI8 hF
    rw [fl_X12_each_109] at hF
    refine pd_iload C dX12_each_109 rfl ?_
    refine pd_iload_n C dX12_each_111 rfl rfl ?_
    refine pd_icmp_ge (tgt := 154) C dX12_each_112 (by decide) (fun zc5 => ?_) (fun zc5 => ?_)
    · have hF := pd_t zc5 hF
      refine pd_wk (ls' := [none, none, none, none, none, some (.int zx5), none]) (And.intro rfl True.intro) ?_
      exact K _ _ hF
    · have hF := pd_f zc5 hF
      refine pd_aload_n C dX12_each_115 rfl rfl ?_
      refine gr_12_20 C wd_5_145 (pd_lt (by decide) hn) sh_92 (rf_92_20 _) dX12_each_116 ?_
      refine pd_iload C dX12_each_119 rfl ?_
      refine pd_aload_n C dX12_each_121 rfl rfl ?_
      refine pd_iload C dX12_each_122 rfl ?_
      obtain ⟨zr2, zh5, hF⟩ := pd_bd_some hF
      refine pd_callV C [.int zx6] [.int zx6, .ref 109] (em_X12_difference (pd_C_st C) hn  zh5) mw_X12_difference wd_6_233 rfl (by decide) (pd_lt (by decide) hn) sh_92 ⟨by decide, by decide, by decide, by decide⟩ rfl (Nat.le_of_ble_eq_true rfl) pd_oldL_same (fun _ _ => pd_old_same _) dX12_each_124 (stk' := [.int zr2, .int zx6, .ref 109]) rfl ?_
      obtain ⟨zg4, hF⟩ := pd_gd_some hF
      refine pd_iast C (pd_lt (by decide) hn) sh_109 zg4 dX12_each_127 ?_
      refine pd_memI (fun zI10 hzI10 => ?_)
      have hF := pd_let_at hF hzI10
      refine pd_iload C dX12_each_128 rfl ?_
      refine pd_aload_n C dX12_each_130 rfl rfl ?_
      refine gr_12_20 C wd_5_145 (pd_lt (by decide) hn) sh_92 (rf_92_20 _) dX12_each_131 ?_
      refine pd_iload C dX12_each_134 rfl ?_
      obtain ⟨zg5, hF⟩ := pd_gd_some hF
      refine pd_iald C (pd_lt (by decide) hn) sh_109 zg5 dX12_each_136 ?_
      obtain ⟨zx8, hS, hF⟩ := pd_bd_some hF
      have hJ145 : pd_V cx 0 0 145 [some (.ref 92), none, none, some (.int p2), none, none, some (.int zx6)] [.int zx8, .int zx5] zI10 J (pd_RF Z) n := by
        refine pd_iadd C dX12_each_145 ?_
        refine pd_topi (fun zv2 hzv2 => ?_)
        have hF := pd_let_at hF hzv2
        refine pd_istore (ls' := [some (.ref 92), none, none, some (.int p2), none, some (.int zv2), some (.int zx6)]) C dX12_each_146 (Nat.le_of_ble_eq_true rfl) rfl rfl ?_
        refine pd_iincG (zz := 1) C dX12_each_148 rfl (by decide) rfl (fun zv3 hzv3 => ?_)
        have hF := pd_let_at hF hzv3
        refine pd_lsE (ls' := [some (.ref 92), none, none, some (.int p2), none, some (.int zv2), some (.int zv3)]) rfl ?_
        refine pd_goto (tgt := 109) C dX12_each_151 (by decide) ?_
        exact ih _ _ _ hF
      replace hF := hS
      clear hS
      refine pd_if_ge (tgt := 144) C dX12_each_137 (by decide) (fun zc4 => ?_) (fun zc4 => ?_)
      · have hF := pd_t zc4 hF
        refine pd_iconst (v := 0) C dX12_each_144 (by decide) ?_
        refine pd_wk (ls' := [some (.ref 92), none, none, some (.int p2), none, none, some (.int zx6)]) (And.intro rfl (And.intro rfl (And.intro rfl True.intro))) ?_
        have hF := hF.symm
        cases hF
        exact hJ145
      · have hF := pd_f zc4 hF
        refine pd_iconst (v := 1) C dX12_each_140 (by decide) ?_
        refine pd_goto (tgt := 145) C dX12_each_141 (by decide) ?_
        refine pd_wk (ls' := [some (.ref 92), none, none, some (.int p2), none, none, some (.int zx6)]) (And.intro rfl (And.intro rfl (And.intro rfl True.intro))) ?_
        have hF := hF.symm
        cases hF
        exact hJ145
def fn_X12_each (I : pd_I) (p0 : Int32) (p1 : Int32) (p2 : Int32) : Option (Int32 × pd_I) := pd_bd2 (fn_X12_isDecoding I p0 p1 p2 1) fun zr1 zI1 => if zr1 = 0 then some (0, zI1) else (pd_bd (fn_X12_costs zI1 p0 p1 p2) fun zI2 => pd_bd (fn_X12_clearLeasts zI2 p2) fun zI3 => pd_gd (pd_in p0 12) (pd_bd (if (zI3 97 p0.toNatClampNeg) = 4 then some 1 else (some 0)) fun (zx1 : Int32) => fl_X12_each_45 p0 p2 zx1 (fun zI5 => pd_let (pd_ui zI5 92 19 p2) fun zI7 => fl_X12_each_109 p2 (fun zx7 zI9 => some (zx7, zI9)) pd_FU 0 0 zI7) pd_FU 0 zI3))
set_option maxRecDepth 100000 in
set_option maxHeartbeats 4000000 in
theorem em_X12_each {l : Launch} {D : va_G} {tc : Nat → ClassId} (hst : l.stackTraces = false) {I : pd_I} {J : pd_J} {Z : pd_R} {n : Nat} {p0 : Int32} {p1 : Int32} {p2 : Int32} (hn : 133 ≤ n)  {out : Int32 × pd_I} (hF : fn_X12_each I p0 p1 p2 = some out) :
    pd_M l D tc yX12_each (.code yX12_each cX12_each 7 (Option.some Jvm.ClassFile.FieldType.int)) rm_X12_each [.ref 92, .int p0, .int p1, .int p2] I J (pd_RF Z) n (.ok (some (.int out.1))) out.2 J (pd_RF Z) n := by
  refine pd_open (own := "PathDecoderModel") (ls0 := [some (.ref 92), some (.int p0), some (.int p1), some (.int p2), none, none, none]) (by decide) rfl (Nat.le_of_ble_eq_true rfl) rfl rfl hst (fun cx hl hD htc C hE htab hnm => ?_)
  subst hl hD htc
  unfold fn_X12_each at hF
  refine pd_aload_n C dX12_each_0 rfl rfl ?_
  refine pd_iload_n C dX12_each_1 rfl rfl ?_
  refine pd_iload_n C dX12_each_2 rfl rfl ?_
  refine pd_iload_n C dX12_each_3 rfl rfl ?_
  refine pd_iconst (v := 1) C dX12_each_4 (by decide) ?_
  obtain ⟨zr1, zI1, zh1, hF⟩ := pd_bd2_some hF
  refine pd_callV C [.int p0, .int p1, .int p2, .int 1] [] (em_X12_isDecoding (pd_C_st C) hn  zh1) mw_X12_isDecoding wd_6_164 rfl (by decide) (pd_lt (by decide) hn) sh_92 ⟨by decide, by decide, by decide, by decide⟩ rfl (Nat.le_of_ble_eq_true rfl) pd_oldL_same (fun _ _ => pd_old_same _) dX12_each_5 (stk' := [.int zr1]) rfl ?_
  refine pd_if_ne (tgt := 13) C dX12_each_8 (by decide) (fun zc7 => ?_) (fun zc7 => ?_)
  · have hF := pd_f zc7 hF
    refine pd_aload_n C dX12_each_13 rfl rfl ?_
    refine pd_iload_n C dX12_each_14 rfl rfl ?_
    refine pd_iload_n C dX12_each_15 rfl rfl ?_
    refine pd_iload_n C dX12_each_16 rfl rfl ?_
    obtain ⟨zI2, zh2, hF⟩ := pd_bd_some hF
    refine pd_callV C [.int p0, .int p1, .int p2] [] (em_X12_costs (pd_C_st C) hn  zh2) mw_X12_costs wd_6_172 rfl (by decide) (pd_lt (by decide) hn) sh_92 ⟨by decide, by decide, by decide, by decide⟩ rfl (Nat.le_of_ble_eq_true rfl) pd_oldL_same (fun _ _ => pd_old_same _) dX12_each_17 (stk' := []) rfl ?_
    refine pd_aload_n C dX12_each_20 rfl rfl ?_
    refine pd_iload_n C dX12_each_21 rfl rfl ?_
    obtain ⟨zI3, zh3, hF⟩ := pd_bd_some hF
    refine pd_callV C [.int p2] [] (em_X12_clearLeasts (pd_C_st C) hn  zh3) mw_X12_clearLeasts wd_6_225 rfl (by decide) (pd_lt (by decide) hn) sh_92 ⟨by decide, by decide, by decide, by decide⟩ rfl (Nat.le_of_ble_eq_true rfl) pd_oldL_same (fun _ _ => pd_old_same _) dX12_each_22 (stk' := []) rfl ?_
    refine pd_aload_n C dX12_each_25 rfl rfl ?_
    refine gr_12_6 C wd_5_131 (pd_lt (by decide) hn) sh_92 (rf_92_6 _) dX12_each_26 ?_
    refine pd_iload_n C dX12_each_29 rfl rfl ?_
    obtain ⟨zg1, hF⟩ := pd_gd_some hF
    refine pd_iald C (pd_lt (by decide) hn) sh_97 zg1 dX12_each_30 ?_
    refine pd_iconst (v := 4) C dX12_each_31 (by decide) ?_
    obtain ⟨zx1, hS, hF⟩ := pd_bd_some hF
    have hJ40 : pd_V cx 0 0 40 [some (.ref 92), some (.int p0), none, some (.int p2), none, none, none] [.int zx1] zI3 J (pd_RF Z) n := by
      refine pd_istore (ls' := [some (.ref 92), some (.int p0), none, some (.int p2), some (.int zx1), none, none]) C dX12_each_40 (Nat.le_of_ble_eq_true rfl) rfl rfl ?_
      refine pd_iconst (v := 0) C dX12_each_42 (by decide) ?_
      refine pd_istore (ls' := [some (.ref 92), some (.int p0), none, some (.int p2), some (.int zx1), some (.int 0), none]) C dX12_each_43 (Nat.le_of_ble_eq_true rfl) rfl rfl ?_
      refine el_X12_each_45 C hn (fun zI5 hF => ?_) pd_FU _ _ hF
      refine pd_aload_n C dX12_each_98 rfl rfl ?_
      refine pd_iload_n C dX12_each_99 rfl rfl ?_
      refine pi_12_19 C wd_5_144 rfl rfl (pd_lt (by decide) hn) sh_92 dX12_each_100 ?_
      refine pd_memI (fun zI7 hzI7 => ?_)
      have hF := pd_let_at hF hzI7
      refine pd_iconst (v := 0) C dX12_each_103 (by decide) ?_
      refine pd_istore (ls' := [some (.ref 92), none, none, some (.int p2), none, some (.int 0), none]) C dX12_each_104 (Nat.le_of_ble_eq_true rfl) rfl rfl ?_
      refine pd_iconst (v := 0) C dX12_each_106 (by decide) ?_
      refine pd_istore (ls' := [some (.ref 92), none, none, some (.int p2), none, some (.int 0), some (.int 0)]) C dX12_each_107 (Nat.le_of_ble_eq_true rfl) rfl rfl ?_
      refine el_X12_each_109 C hn (fun zx7 zI9 hF => ?_) pd_FU _ _ _ hF
      refine pd_iload C dX12_each_154 rfl ?_
      cases hF
      exact pd_iret C hE rfl rfl rfl ⟨by decide, by decide⟩ dX12_each_156
    replace hF := hS
    clear hS
    refine pd_icmp_ne (tgt := 39) C dX12_each_32 (by decide) (fun zc6 => ?_) (fun zc6 => ?_)
    · have hF := pd_f zc6 hF
      refine pd_iconst (v := 0) C dX12_each_39 (by decide) ?_
      refine pd_wk (ls' := [some (.ref 92), some (.int p0), none, some (.int p2), none, none, none]) (And.intro rfl (And.intro rfl (And.intro rfl True.intro))) ?_
      have hF := hF.symm
      cases hF
      exact hJ40
    · have hF := pd_t zc6 hF
      refine pd_iconst (v := 1) C dX12_each_35 (by decide) ?_
      refine pd_goto (tgt := 40) C dX12_each_36 (by decide) ?_
      refine pd_wk (ls' := [some (.ref 92), some (.int p0), none, some (.int p2), none, none, none]) (And.intro rfl (And.intro rfl (And.intro rfl True.intro))) ?_
      have hF := hF.symm
      cases hF
      exact hJ40
  · have hF := pd_t zc7 hF
    refine pd_iconst (v := 0) C dX12_each_11 (by decide) ?_
    cases hF
    exact pd_iret C hE rfl rfl rfl ⟨by decide, by decide⟩ dX12_each_12

def fl_X12_halfCosts_126 {O : Type} (p0 : Int32) (p1 : Int32) (p3 : Int32) (zx1 : Int32) (zx3 : Int32) (zx4 : Int32) (zI5 : pd_I) (kont : Int32 → Option O) : Nat → Int32 → Int32 → Int32 → Option O
  | 0, _, _, _ => none
  | fu + 1, zx7, zx8, zx9 => pd_bd (fn_X12_wide zI5 p0) fun zr2 => if zr2 ≤ zx9 then kont zx7 else (pd_bd (fn_X12_isKept zI5 p0 zx1 zx9) fun zr3 => pd_bd2 (if zr3 = 0 then some (zx7, zx8) else (pd_gd (pd_in p0 12) (pd_bd (if zx9 < (zI5 99 p0.toNatClampNeg) then some 0 else (some 1)) fun (zx13 : Int32) => pd_bd (if p3 = zx13 then some 1 else (some 0)) fun (zx14 : Int32) => pd_bd (if zx14 = 0 then some zx7 else (pd_bd (if p3 = 0 then some zx9 else (pd_gd (pd_in p0 12) (some ((zx9 - (zI5 99 p0.toNatClampNeg)) + 1)))) fun (zx16 : Int32) => pd_bd (fn_X12_out zI5 p0 zx3 zx4 zx16) fun zr4 => pd_bd (fn_X12_markCost zI5 p1 zx8 zr4) fun zr5 => pd_let (zx7 + zr5) fun zv3 => some zv3)) fun (zx15 : Int32) => pd_let (zx8 + 1) fun zv2 => some (zx15, zv2)))) fun (zx11 : Int32) (zx12 : Int32) => pd_let (zx9 + 1) fun zv1 => fl_X12_halfCosts_126 p0 p1 p3 zx1 zx3 zx4 zI5 kont fu zx11 zx12 zv1)
set_option maxRecDepth 100000 in
set_option maxHeartbeats 4000000 in
theorem el_X12_halfCosts_126 {cx : pd_X} (C : pd_C cx "PathDecoderModel" cX12_halfCosts rm_X12_halfCosts) {p0 : Int32} {p1 : Int32} {p2 : Int32} {p3 : Int32} {zx1 : Int32} {zx2 : Int32} {zr1 : Int32} {zx3 : Int32} {zx4 : Int32} {zI5 : pd_I} {J : pd_J} {Z : pd_R} {n : Nat} (hn : 133 ≤ n)  {O : Type} {kont : Int32 → Option O} {out : O} (K : ∀ (zx10 : Int32), kont zx10 = some out → pd_V cx 0 0 235 [some (.ref 92), some (.int p0), some (.int p1), some (.int p2), some (.int p3), some (.int zx1), some (.int zx2), some (.int zr1), some (.int zx3), some (.int zx4), some (.int zx10), none, none, none] [] zI5 J (pd_RF Z) n) :
    ∀ (fu : Nat) (zx7 : Int32) (zx8 : Int32) (zx9 : Int32), fl_X12_halfCosts_126 p0 p1 p3 zx1 zx3 zx4 zI5 kont fu zx7 zx8 zx9 = some out → pd_V cx 0 0 126 [some (.ref 92), some (.int p0), some (.int p1), some (.int p2), some (.int p3), some (.int zx1), some (.int zx2), some (.int zr1), some (.int zx3), some (.int zx4), some (.int zx7), some (.int zx8), some (.int zx9), none] [] zI5 J (pd_RF Z) n := by
  intro fu
  induction fu with
  | zero => intro zx7 zx8 zx9 hF; rw [fl_X12_halfCosts_126] at hF; cases hF
  | succ fu ih =>
    intro zx7 zx8 zx9 hF
    rw [fl_X12_halfCosts_126] at hF
    refine pd_iload C dX12_halfCosts_126 rfl ?_
    refine pd_aload_n C dX12_halfCosts_128 rfl rfl ?_
    refine pd_iload_n C dX12_halfCosts_129 rfl rfl ?_
    obtain ⟨zr2, zh2, hF⟩ := pd_bd_some hF
    refine pd_callV C [.int p0] [.int zx9] (em_X12_wide (pd_C_st C) hn  zh2) mw_X12_wide wd_6_61 rfl (by decide) (pd_lt (by decide) hn) sh_92 ⟨by decide, by decide, by decide, by decide⟩ rfl (Nat.le_of_ble_eq_true rfl) pd_oldL_same (fun _ _ => pd_old_same _) dX12_halfCosts_130 (stk' := [.int zr2, .int zx9]) rfl ?_
    refine pd_icmp_ge (tgt := 235) C dX12_halfCosts_133 (by decide) (fun zc6 => ?_) (fun zc6 => ?_)
    · have hF := pd_t zc6 hF
      refine pd_wk (ls' := [some (.ref 92), some (.int p0), some (.int p1), some (.int p2), some (.int p3), some (.int zx1), some (.int zx2), some (.int zr1), some (.int zx3), some (.int zx4), some (.int zx7), none, none, none]) (And.intro rfl (And.intro rfl (And.intro rfl (And.intro rfl (And.intro rfl (And.intro rfl (And.intro rfl (And.intro rfl (And.intro rfl (And.intro rfl (And.intro rfl True.intro))))))))))) ?_
      exact K _ hF
    · have hF := pd_f zc6 hF
      refine pd_aload_n C dX12_halfCosts_136 rfl rfl ?_
      refine pd_iload_n C dX12_halfCosts_137 rfl rfl ?_
      refine pd_iload C dX12_halfCosts_138 rfl ?_
      refine pd_iload C dX12_halfCosts_140 rfl ?_
      obtain ⟨zr3, zh3, hF⟩ := pd_bd_some hF
      refine pd_callV C [.int p0, .int zx1, .int zx9] [] (em_X12_isKept (pd_C_st C) hn  zh3) mw_X12_isKept wd_6_132 rfl (by decide) (pd_lt (by decide) hn) sh_92 ⟨by decide, by decide, by decide, by decide⟩ rfl (Nat.le_of_ble_eq_true rfl) pd_oldL_same (fun _ _ => pd_old_same _) dX12_halfCosts_142 (stk' := [.int zr3]) rfl ?_
      obtain ⟨zx11, zx12, hS, hF⟩ := pd_bd2_some hF
      have hJ229 : pd_V cx 0 0 229 [some (.ref 92), some (.int p0), some (.int p1), some (.int p2), some (.int p3), some (.int zx1), some (.int zx2), some (.int zr1), some (.int zx3), some (.int zx4), some (.int zx11), some (.int zx12), some (.int zx9), none] [] zI5 J (pd_RF Z) n := by
        refine pd_iincG (zz := 1) C dX12_halfCosts_229 rfl (by decide) rfl (fun zv1 hzv1 => ?_)
        have hF := pd_let_at hF hzv1
        refine pd_lsE (ls' := [some (.ref 92), some (.int p0), some (.int p1), some (.int p2), some (.int p3), some (.int zx1), some (.int zx2), some (.int zr1), some (.int zx3), some (.int zx4), some (.int zx11), some (.int zx12), some (.int zv1), none]) rfl ?_
        refine pd_goto (tgt := 126) C dX12_halfCosts_232 (by decide) ?_
        exact ih _ _ _ hF
      replace hF := hS
      clear hS
      refine pd_if_ne (tgt := 151) C dX12_halfCosts_145 (by decide) (fun zc5 => ?_) (fun zc5 => ?_)
      · have hF := pd_f zc5 hF
        refine pd_iload C dX12_halfCosts_151 rfl ?_
        refine pd_iload C dX12_halfCosts_153 rfl ?_
        refine pd_aload_n C dX12_halfCosts_155 rfl rfl ?_
        refine gr_12_8 C wd_5_133 (pd_lt (by decide) hn) sh_92 (rf_92_8 _) dX12_halfCosts_156 ?_
        refine pd_iload_n C dX12_halfCosts_159 rfl rfl ?_
        obtain ⟨zg2, hF⟩ := pd_gd_some hF
        refine pd_iald C (pd_lt (by decide) hn) sh_99 zg2 dX12_halfCosts_160 ?_
        obtain ⟨zx13, hS, hF⟩ := pd_bd_some hF
        have hJ169 : pd_V cx 0 0 169 [some (.ref 92), some (.int p0), some (.int p1), some (.int p2), some (.int p3), some (.int zx1), some (.int zx2), some (.int zr1), some (.int zx3), some (.int zx4), some (.int zx7), some (.int zx8), some (.int zx9), none] [.int zx13, .int p3] zI5 J (pd_RF Z) n := by
          obtain ⟨zx14, hS, hF⟩ := pd_bd_some hF
          have hJ177 : pd_V cx 0 0 177 [some (.ref 92), some (.int p0), some (.int p1), some (.int p2), some (.int p3), some (.int zx1), some (.int zx2), some (.int zr1), some (.int zx3), some (.int zx4), some (.int zx7), some (.int zx8), some (.int zx9), none] [.int zx14] zI5 J (pd_RF Z) n := by
            refine pd_istore (ls' := [some (.ref 92), some (.int p0), some (.int p1), some (.int p2), some (.int p3), some (.int zx1), some (.int zx2), some (.int zr1), some (.int zx3), some (.int zx4), some (.int zx7), some (.int zx8), some (.int zx9), some (.int zx14)]) C dX12_halfCosts_177 (Nat.le_of_ble_eq_true rfl) rfl rfl ?_
            refine pd_iload C dX12_halfCosts_179 rfl ?_
            obtain ⟨zx15, hS, hF⟩ := pd_bd_some hF
            have hJ226 : pd_V cx 0 0 226 [some (.ref 92), some (.int p0), some (.int p1), some (.int p2), some (.int p3), some (.int zx1), some (.int zx2), some (.int zr1), some (.int zx3), some (.int zx4), some (.int zx15), some (.int zx8), some (.int zx9), none] [] zI5 J (pd_RF Z) n := by
              refine pd_iincG (zz := 1) C dX12_halfCosts_226 rfl (by decide) rfl (fun zv2 hzv2 => ?_)
              have hF := pd_let_at hF hzv2
              refine pd_lsE (ls' := [some (.ref 92), some (.int p0), some (.int p1), some (.int p2), some (.int p3), some (.int zx1), some (.int zx2), some (.int zr1), some (.int zx3), some (.int zx4), some (.int zx15), some (.int zv2), some (.int zx9), none]) rfl ?_
              have hF := hF.symm
              cases hF
              exact hJ229
            replace hF := hS
            clear hS
            refine pd_if_eq (tgt := 226) C dX12_halfCosts_181 (by decide) (fun zc2 => ?_) (fun zc2 => ?_)
            · have hF := pd_t zc2 hF
              refine pd_wk (ls' := [some (.ref 92), some (.int p0), some (.int p1), some (.int p2), some (.int p3), some (.int zx1), some (.int zx2), some (.int zr1), some (.int zx3), some (.int zx4), some (.int zx7), some (.int zx8), some (.int zx9), none]) (And.intro rfl (And.intro rfl (And.intro rfl (And.intro rfl (And.intro rfl (And.intro rfl (And.intro rfl (And.intro rfl (And.intro rfl (And.intro rfl (And.intro rfl (And.intro rfl (And.intro rfl True.intro))))))))))))) ?_
              have hF := hF.symm
              cases hF
              exact hJ226
            · have hF := pd_f zc2 hF
              refine pd_iload C dX12_halfCosts_184 rfl ?_
              refine pd_aload_n C dX12_halfCosts_186 rfl rfl ?_
              refine pd_iload_n C dX12_halfCosts_187 rfl rfl ?_
              refine pd_iload C dX12_halfCosts_188 rfl ?_
              refine pd_aload_n C dX12_halfCosts_190 rfl rfl ?_
              refine pd_iload_n C dX12_halfCosts_191 rfl rfl ?_
              refine pd_iload C dX12_halfCosts_192 rfl ?_
              refine pd_iload C dX12_halfCosts_194 rfl ?_
              refine pd_iload C dX12_halfCosts_196 rfl ?_
              obtain ⟨zx16, hS, hF⟩ := pd_bd_some hF
              have hJ217 : pd_V cx 0 0 217 [some (.ref 92), some (.int p0), some (.int p1), some (.int p2), some (.int p3), some (.int zx1), some (.int zx2), some (.int zr1), some (.int zx3), some (.int zx4), none, some (.int zx8), some (.int zx9), none] [.int zx16, .int zx4, .int zx3, .int p0, .ref 92, .int zx8, .int p1, .ref 92, .int zx7] zI5 J (pd_RF Z) n := by
                obtain ⟨zr4, zh4, hF⟩ := pd_bd_some hF
                refine pd_callV C [.int p0, .int zx3, .int zx4, .int zx16] [.int zx8, .int p1, .ref 92, .int zx7] (em_X12_out (pd_C_st C) hn  zh4) mw_X12_out wd_6_136 rfl (by decide) (pd_lt (by decide) hn) sh_92 ⟨by decide, by decide, by decide, by decide⟩ rfl (Nat.le_of_ble_eq_true rfl) pd_oldL_same (fun _ _ => pd_old_same _) dX12_halfCosts_217 (stk' := [.int zr4, .int zx8, .int p1, .ref 92, .int zx7]) rfl ?_
                obtain ⟨zr5, zh5, hF⟩ := pd_bd_some hF
                refine pd_callV C [.int p1, .int zx8, .int zr4] [.int zx7] (em_X12_markCost (pd_C_st C) hn  zh5) mw_X12_markCost wd_6_156 rfl (by decide) (pd_lt (by decide) hn) sh_92 ⟨by decide, by decide, by decide, by decide⟩ rfl (Nat.le_of_ble_eq_true rfl) pd_oldL_same (fun _ _ => pd_old_same _) dX12_halfCosts_220 (stk' := [.int zr5, .int zx7]) rfl ?_
                refine pd_iadd C dX12_halfCosts_223 ?_
                refine pd_topi (fun zv3 hzv3 => ?_)
                have hF := pd_let_at hF hzv3
                refine pd_istore (ls' := [some (.ref 92), some (.int p0), some (.int p1), some (.int p2), some (.int p3), some (.int zx1), some (.int zx2), some (.int zr1), some (.int zx3), some (.int zx4), some (.int zv3), some (.int zx8), some (.int zx9), none]) C dX12_halfCosts_224 (Nat.le_of_ble_eq_true rfl) rfl rfl ?_
                have hF := hF.symm
                cases hF
                exact hJ226
              replace hF := hS
              clear hS
              refine pd_if_eq (tgt := 215) C dX12_halfCosts_198 (by decide) (fun zc1 => ?_) (fun zc1 => ?_)
              · have hF := pd_t zc1 hF
                refine pd_iload C dX12_halfCosts_215 rfl ?_
                refine pd_wk (ls' := [some (.ref 92), some (.int p0), some (.int p1), some (.int p2), some (.int p3), some (.int zx1), some (.int zx2), some (.int zr1), some (.int zx3), some (.int zx4), none, some (.int zx8), some (.int zx9), none]) (And.intro rfl (And.intro rfl (And.intro rfl (And.intro rfl (And.intro rfl (And.intro rfl (And.intro rfl (And.intro rfl (And.intro rfl (And.intro rfl (And.intro rfl (And.intro rfl True.intro)))))))))))) ?_
                have hF := hF.symm
                cases hF
                exact hJ217
              · have hF := pd_f zc1 hF
                refine pd_iload C dX12_halfCosts_201 rfl ?_
                refine pd_aload_n C dX12_halfCosts_203 rfl rfl ?_
                refine gr_12_8 C wd_5_133 (pd_lt (by decide) hn) sh_92 (rf_92_8 _) dX12_halfCosts_204 ?_
                refine pd_iload_n C dX12_halfCosts_207 rfl rfl ?_
                obtain ⟨zg3, hF⟩ := pd_gd_some hF
                refine pd_iald C (pd_lt (by decide) hn) sh_99 zg3 dX12_halfCosts_208 ?_
                refine pd_isub C dX12_halfCosts_209 ?_
                refine pd_iconst (v := 1) C dX12_halfCosts_210 (by decide) ?_
                refine pd_iadd C dX12_halfCosts_211 ?_
                refine pd_goto (tgt := 217) C dX12_halfCosts_212 (by decide) ?_
                refine pd_wk (ls' := [some (.ref 92), some (.int p0), some (.int p1), some (.int p2), some (.int p3), some (.int zx1), some (.int zx2), some (.int zr1), some (.int zx3), some (.int zx4), none, some (.int zx8), some (.int zx9), none]) (And.intro rfl (And.intro rfl (And.intro rfl (And.intro rfl (And.intro rfl (And.intro rfl (And.intro rfl (And.intro rfl (And.intro rfl (And.intro rfl (And.intro rfl (And.intro rfl True.intro)))))))))))) ?_
                have hF := hF.symm
                cases hF
                exact hJ217
          replace hF := hS
          clear hS
          refine pd_icmp_ne (tgt := 176) C dX12_halfCosts_169 (by decide) (fun zc3 => ?_) (fun zc3 => ?_)
          · have hF := pd_f zc3 hF
            refine pd_iconst (v := 0) C dX12_halfCosts_176 (by decide) ?_
            have hF := hF.symm
            cases hF
            exact hJ177
          · have hF := pd_t zc3 hF
            refine pd_iconst (v := 1) C dX12_halfCosts_172 (by decide) ?_
            refine pd_goto (tgt := 177) C dX12_halfCosts_173 (by decide) ?_
            have hF := hF.symm
            cases hF
            exact hJ177
        replace hF := hS
        clear hS
        refine pd_icmp_lt (tgt := 168) C dX12_halfCosts_161 (by decide) (fun zc4 => ?_) (fun zc4 => ?_)
        · have hF := pd_t zc4 hF
          refine pd_iconst (v := 0) C dX12_halfCosts_168 (by decide) ?_
          have hF := hF.symm
          cases hF
          exact hJ169
        · have hF := pd_f zc4 hF
          refine pd_iconst (v := 1) C dX12_halfCosts_164 (by decide) ?_
          refine pd_goto (tgt := 169) C dX12_halfCosts_165 (by decide) ?_
          have hF := hF.symm
          cases hF
          exact hJ169
      · have hF := pd_t zc5 hF
        refine pd_goto (tgt := 229) C dX12_halfCosts_148 (by decide) ?_
        have hF := hF.symm
        cases hF
        exact hJ229
def fl_X12_halfCosts_57 {O : Type} (p0 : Int32) (p1 : Int32) (p3 : Int32) (zx1 : Int32) (zx2 : Int32) (zr1 : Int32) (zx3 : Int32) (kont : pd_I → Option O) : Nat → Int32 → pd_I → Option O
  | 0, _, _ => none
  | fu + 1, zx4, zI5 => if 2 ≤ zx4 then kont zI5 else (pd_bd (if zx4 = 1 then pd_gd (pd_in zx2 200) (some (pd_max (zI5 121 zx2.toNatClampNeg) 0)) else (pd_gd (pd_in zx2 200) (some (pd_max (-(zI5 121 zx2.toNatClampNeg)) 0)))) fun (zx5 : Int32) => pd_bd (if p3 = 0 then some zx5 else (pd_gd (pd_in ((2 * zx2) + zx4) 400) (pd_let (zx5 + (zI5 122 ((2 * zx2) + zx4).toNatClampNeg)) fun zv5 => some zv5))) fun (zx6 : Int32) => fl_X12_halfCosts_126 p0 p1 p3 zx1 zx3 zx4 zI5 (fun zx10 => pd_gd (pd_in (((128 * zx1) + (2 * zx3)) + zx4) 26368) (pd_let (pd_ui zI5 110 (((128 * zx1) + (2 * zx3)) + zx4).toNatClampNeg zx10) fun zI7 => pd_let (zx4 + 1) fun zv4 => fl_X12_halfCosts_57 p0 p1 p3 zx1 zx2 zr1 zx3 kont fu zv4 zI7)) pd_FU zx6 zr1 0)
set_option maxRecDepth 100000 in
set_option maxHeartbeats 4000000 in
theorem el_X12_halfCosts_57 {cx : pd_X} (C : pd_C cx "PathDecoderModel" cX12_halfCosts rm_X12_halfCosts) {p0 : Int32} {p1 : Int32} {p2 : Int32} {p3 : Int32} {zx1 : Int32} {zx2 : Int32} {zr1 : Int32} {zx3 : Int32} {J : pd_J} {Z : pd_R} {n : Nat} (hn : 133 ≤ n)  {O : Type} {kont : pd_I → Option O} {out : O} (K : ∀ (zI6 : pd_I), kont zI6 = some out → pd_V cx 0 0 262 [some (.ref 92), some (.int p0), some (.int p1), some (.int p2), some (.int p3), some (.int zx1), some (.int zx2), some (.int zr1), some (.int zx3), none, none, none, none, none] [] zI6 J (pd_RF Z) n) :
    ∀ (fu : Nat) (zx4 : Int32) (zI5 : pd_I), fl_X12_halfCosts_57 p0 p1 p3 zx1 zx2 zr1 zx3 kont fu zx4 zI5 = some out → pd_V cx 0 0 57 [some (.ref 92), some (.int p0), some (.int p1), some (.int p2), some (.int p3), some (.int zx1), some (.int zx2), some (.int zr1), some (.int zx3), some (.int zx4), none, none, none, none] [] zI5 J (pd_RF Z) n := by
  intro fu
  induction fu with
  | zero => intro zx4 zI5 hF; rw [fl_X12_halfCosts_57] at hF; cases hF
  | succ fu ih =>
    intro zx4 zI5 hF
    rw [fl_X12_halfCosts_57] at hF
    refine pd_iload C dX12_halfCosts_57 rfl ?_
    refine pd_iconst (v := 2) C dX12_halfCosts_59 (by decide) ?_
    refine pd_icmp_ge (tgt := 262) C dX12_halfCosts_60 (by decide) (fun zc9 => ?_) (fun zc9 => ?_)
    · have hF := pd_t zc9 hF
      refine pd_wk (ls' := [some (.ref 92), some (.int p0), some (.int p1), some (.int p2), some (.int p3), some (.int zx1), some (.int zx2), some (.int zr1), some (.int zx3), none, none, none, none, none]) (And.intro rfl (And.intro rfl (And.intro rfl (And.intro rfl (And.intro rfl (And.intro rfl (And.intro rfl (And.intro rfl (And.intro rfl True.intro))))))))) ?_
      exact K _ hF
    · have hF := pd_f zc9 hF
      refine pd_iload C dX12_halfCosts_63 rfl ?_
      refine pd_iconst (v := 1) C dX12_halfCosts_65 (by decide) ?_
      obtain ⟨zx5, hS, hF⟩ := pd_bd_some hF
      have hJ95 : pd_V cx 0 0 95 [some (.ref 92), some (.int p0), some (.int p1), some (.int p2), some (.int p3), some (.int zx1), some (.int zx2), some (.int zr1), some (.int zx3), some (.int zx4), none, none, none, none] [.int zx5] zI5 J (pd_RF Z) n := by
        refine pd_istore (ls' := [some (.ref 92), some (.int p0), some (.int p1), some (.int p2), some (.int p3), some (.int zx1), some (.int zx2), some (.int zr1), some (.int zx3), some (.int zx4), some (.int zx5), none, none, none]) C dX12_halfCosts_95 (Nat.le_of_ble_eq_true rfl) rfl rfl ?_
        refine pd_iload C dX12_halfCosts_97 rfl ?_
        obtain ⟨zx6, hS, hF⟩ := pd_bd_some hF
        have hJ119 : pd_V cx 0 0 119 [some (.ref 92), some (.int p0), some (.int p1), some (.int p2), some (.int p3), some (.int zx1), some (.int zx2), some (.int zr1), some (.int zx3), some (.int zx4), some (.int zx6), none, none, none] [] zI5 J (pd_RF Z) n := by
          refine pd_iload C dX12_halfCosts_119 rfl ?_
          refine pd_istore (ls' := [some (.ref 92), some (.int p0), some (.int p1), some (.int p2), some (.int p3), some (.int zx1), some (.int zx2), some (.int zr1), some (.int zx3), some (.int zx4), some (.int zx6), some (.int zr1), none, none]) C dX12_halfCosts_121 (Nat.le_of_ble_eq_true rfl) rfl rfl ?_
          refine pd_iconst (v := 0) C dX12_halfCosts_123 (by decide) ?_
          refine pd_istore (ls' := [some (.ref 92), some (.int p0), some (.int p1), some (.int p2), some (.int p3), some (.int zx1), some (.int zx2), some (.int zr1), some (.int zx3), some (.int zx4), some (.int zx6), some (.int zr1), some (.int 0), none]) C dX12_halfCosts_124 (Nat.le_of_ble_eq_true rfl) rfl rfl ?_
          refine el_X12_halfCosts_126 C hn (fun zx10 hF => ?_) pd_FU _ _ _ hF
          refine pd_aload_n C dX12_halfCosts_235 rfl rfl ?_
          refine gr_12_22 C wd_5_147 (pd_lt (by decide) hn) sh_92 (rf_92_22 _) dX12_halfCosts_236 ?_
          refine pd_sipush (v := 128) C dX12_halfCosts_239 (by decide) ?_
          refine pd_iload C dX12_halfCosts_242 rfl ?_
          refine pd_imul C dX12_halfCosts_244 ?_
          refine pd_iconst (v := 2) C dX12_halfCosts_245 (by decide) ?_
          refine pd_iload C dX12_halfCosts_246 rfl ?_
          refine pd_imul C dX12_halfCosts_248 ?_
          refine pd_iadd C dX12_halfCosts_249 ?_
          refine pd_iload C dX12_halfCosts_250 rfl ?_
          refine pd_iadd C dX12_halfCosts_252 ?_
          refine pd_iload C dX12_halfCosts_253 rfl ?_
          obtain ⟨zg4, hF⟩ := pd_gd_some hF
          refine pd_iast C (pd_lt (by decide) hn) sh_110 zg4 dX12_halfCosts_255 ?_
          refine pd_memI (fun zI7 hzI7 => ?_)
          have hF := pd_let_at hF hzI7
          refine pd_iincG (zz := 1) C dX12_halfCosts_256 rfl (by decide) rfl (fun zv4 hzv4 => ?_)
          have hF := pd_let_at hF hzv4
          refine pd_lsE (ls' := [some (.ref 92), some (.int p0), some (.int p1), some (.int p2), some (.int p3), some (.int zx1), some (.int zx2), some (.int zr1), some (.int zx3), some (.int zv4), some (.int zx10), none, none, none]) rfl ?_
          refine pd_goto (tgt := 57) C dX12_halfCosts_259 (by decide) ?_
          refine pd_wk (ls' := [some (.ref 92), some (.int p0), some (.int p1), some (.int p2), some (.int p3), some (.int zx1), some (.int zx2), some (.int zr1), some (.int zx3), some (.int zv4), none, none, none, none]) (And.intro rfl (And.intro rfl (And.intro rfl (And.intro rfl (And.intro rfl (And.intro rfl (And.intro rfl (And.intro rfl (And.intro rfl (And.intro rfl True.intro)))))))))) ?_
          exact ih _ _ hF
        replace hF := hS
        clear hS
        refine pd_if_eq (tgt := 119) C dX12_halfCosts_99 (by decide) (fun zc7 => ?_) (fun zc7 => ?_)
        · have hF := pd_t zc7 hF
          have hF := hF.symm
          cases hF
          exact hJ119
        · have hF := pd_f zc7 hF
          refine pd_iload C dX12_halfCosts_102 rfl ?_
          refine pd_aload_n C dX12_halfCosts_104 rfl rfl ?_
          refine gr_12_34 C wd_5_159 (pd_lt (by decide) hn) sh_92 (rf_92_34 _) dX12_halfCosts_105 ?_
          refine pd_iconst (v := 2) C dX12_halfCosts_108 (by decide) ?_
          refine pd_iload C dX12_halfCosts_109 rfl ?_
          refine pd_imul C dX12_halfCosts_111 ?_
          refine pd_iload C dX12_halfCosts_112 rfl ?_
          refine pd_iadd C dX12_halfCosts_114 ?_
          obtain ⟨zg5, hF⟩ := pd_gd_some hF
          refine pd_iald C (pd_lt (by decide) hn) sh_122 zg5 dX12_halfCosts_115 ?_
          refine pd_iadd C dX12_halfCosts_116 ?_
          refine pd_topi (fun zv5 hzv5 => ?_)
          have hF := pd_let_at hF hzv5
          refine pd_istore (ls' := [some (.ref 92), some (.int p0), some (.int p1), some (.int p2), some (.int p3), some (.int zx1), some (.int zx2), some (.int zr1), some (.int zx3), some (.int zx4), some (.int zv5), none, none, none]) C dX12_halfCosts_117 (Nat.le_of_ble_eq_true rfl) rfl rfl ?_
          have hF := hF.symm
          cases hF
          exact hJ119
      replace hF := hS
      clear hS
      refine pd_icmp_ne (tgt := 83) C dX12_halfCosts_66 (by decide) (fun zc8 => ?_) (fun zc8 => ?_)
      · have hF := pd_f zc8 hF
        refine pd_aload_n C dX12_halfCosts_83 rfl rfl ?_
        refine gr_12_33 C wd_5_158 (pd_lt (by decide) hn) sh_92 (rf_92_33 _) dX12_halfCosts_84 ?_
        refine pd_iload C dX12_halfCosts_87 rfl ?_
        obtain ⟨zg6, hF⟩ := pd_gd_some hF
        refine pd_iald C (pd_lt (by decide) hn) sh_121 zg6 dX12_halfCosts_89 ?_
        refine pd_ineg C dX12_halfCosts_90 ?_
        refine pd_iconst (v := 0) C dX12_halfCosts_91 (by decide) ?_
        refine pd_mmax C wd_7_11 wd_2_190 wd_1_18 wd_2_191 ⟨by decide, Nat.le_of_ble_eq_true rfl, by decide, by decide⟩ dX12_halfCosts_92 ?_
        have hF := hF.symm
        cases hF
        exact hJ95
      · have hF := pd_t zc8 hF
        refine pd_aload_n C dX12_halfCosts_69 rfl rfl ?_
        refine gr_12_33 C wd_5_158 (pd_lt (by decide) hn) sh_92 (rf_92_33 _) dX12_halfCosts_70 ?_
        refine pd_iload C dX12_halfCosts_73 rfl ?_
        obtain ⟨zg7, hF⟩ := pd_gd_some hF
        refine pd_iald C (pd_lt (by decide) hn) sh_121 zg7 dX12_halfCosts_75 ?_
        refine pd_iconst (v := 0) C dX12_halfCosts_76 (by decide) ?_
        refine pd_mmax C wd_7_11 wd_2_190 wd_1_18 wd_2_191 ⟨by decide, Nat.le_of_ble_eq_true rfl, by decide, by decide⟩ dX12_halfCosts_77 ?_
        refine pd_goto (tgt := 95) C dX12_halfCosts_80 (by decide) ?_
        have hF := hF.symm
        cases hF
        exact hJ95
def fl_X12_halfCosts_41 {O : Type} (p0 : Int32) (p1 : Int32) (p3 : Int32) (zx1 : Int32) (zx2 : Int32) (zr1 : Int32) (kont : pd_I → Option O) : Nat → Int32 → pd_I → Option O
  | 0, _, _ => none
  | fu + 1, zx3, zI3 => pd_gd (pd_in p0 12) (if ((1 : Int32) <<< ((zI3 98 p0.toNatClampNeg) &&& 31)) ≤ zx3 then kont zI3 else (fl_X12_halfCosts_57 p0 p1 p3 zx1 zx2 zr1 zx3 (fun zI6 => pd_let (zx3 + 1) fun zv6 => fl_X12_halfCosts_41 p0 p1 p3 zx1 zx2 zr1 kont fu zv6 zI6) pd_FU 0 zI3))
set_option maxRecDepth 100000 in
set_option maxHeartbeats 4000000 in
theorem el_X12_halfCosts_41 {cx : pd_X} (C : pd_C cx "PathDecoderModel" cX12_halfCosts rm_X12_halfCosts) {p0 : Int32} {p1 : Int32} {p2 : Int32} {p3 : Int32} {zx1 : Int32} {zx2 : Int32} {zr1 : Int32} {J : pd_J} {Z : pd_R} {n : Nat} (hn : 133 ≤ n)  {O : Type} {kont : pd_I → Option O} {out : O} (K : ∀ (zI4 : pd_I), kont zI4 = some out → pd_V cx 0 0 268 [some (.ref 92), some (.int p0), some (.int p1), some (.int p2), some (.int p3), some (.int zx1), none, none, none, none, none, none, none, none] [] zI4 J (pd_RF Z) n) :
    ∀ (fu : Nat) (zx3 : Int32) (zI3 : pd_I), fl_X12_halfCosts_41 p0 p1 p3 zx1 zx2 zr1 kont fu zx3 zI3 = some out → pd_V cx 0 0 41 [some (.ref 92), some (.int p0), some (.int p1), some (.int p2), some (.int p3), some (.int zx1), some (.int zx2), some (.int zr1), some (.int zx3), none, none, none, none, none] [] zI3 J (pd_RF Z) n := by
  intro fu
  induction fu with
  | zero => intro zx3 zI3 hF; rw [fl_X12_halfCosts_41] at hF; cases hF
  | succ fu ih =>
    intro zx3 zI3 hF
    rw [fl_X12_halfCosts_41] at hF
    refine pd_iload C dX12_halfCosts_41 rfl ?_
    refine pd_iconst (v := 1) C dX12_halfCosts_43 (by decide) ?_
    refine pd_aload_n C dX12_halfCosts_44 rfl rfl ?_
    refine gr_12_7 C wd_5_132 (pd_lt (by decide) hn) sh_92 (rf_92_7 _) dX12_halfCosts_45 ?_
    refine pd_iload_n C dX12_halfCosts_48 rfl rfl ?_
    obtain ⟨zg1, hF⟩ := pd_gd_some hF
    refine pd_iald C (pd_lt (by decide) hn) sh_98 zg1 dX12_halfCosts_49 ?_
    refine pd_ishl C dX12_halfCosts_50 ?_
    refine pd_icmp_ge (tgt := 268) C dX12_halfCosts_51 (by decide) (fun zc10 => ?_) (fun zc10 => ?_)
    · have hF := pd_t zc10 hF
      refine pd_wk (ls' := [some (.ref 92), some (.int p0), some (.int p1), some (.int p2), some (.int p3), some (.int zx1), none, none, none, none, none, none, none, none]) (And.intro rfl (And.intro rfl (And.intro rfl (And.intro rfl (And.intro rfl (And.intro rfl True.intro)))))) ?_
      exact K _ hF
    · have hF := pd_f zc10 hF
      refine pd_iconst (v := 0) C dX12_halfCosts_54 (by decide) ?_
      refine pd_istore (ls' := [some (.ref 92), some (.int p0), some (.int p1), some (.int p2), some (.int p3), some (.int zx1), some (.int zx2), some (.int zr1), some (.int zx3), some (.int 0), none, none, none, none]) C dX12_halfCosts_55 (Nat.le_of_ble_eq_true rfl) rfl rfl ?_
      refine el_X12_halfCosts_57 C hn (fun zI6 hF => ?_) pd_FU _ _ hF
      refine pd_iincG (zz := 1) C dX12_halfCosts_262 rfl (by decide) rfl (fun zv6 hzv6 => ?_)
      have hF := pd_let_at hF hzv6
      refine pd_lsE (ls' := [some (.ref 92), some (.int p0), some (.int p1), some (.int p2), some (.int p3), some (.int zx1), some (.int zx2), some (.int zr1), some (.int zv6), none, none, none, none, none]) rfl ?_
      refine pd_goto (tgt := 41) C dX12_halfCosts_265 (by decide) ?_
      exact ih _ _ hF
def fl_X12_halfCosts_3 {O : Type} (p0 : Int32) (p1 : Int32) (p2 : Int32) (p3 : Int32) (kont : pd_I → Option O) : Nat → Int32 → pd_I → Option O
  | 0, _, _ => none
  | fu + 1, zx1, zI1 => if p2 ≤ zx1 then kont zI1 else (pd_bd (if p3 = 0 then some zx1 else (pd_bd (fn_X12_order zI1 p0 p2 zx1) fun zr6 => some zr6)) fun (zx2 : Int32) => pd_bd (fn_X12_sentAhead zI1 p0 zx1) fun zr1 => fl_X12_halfCosts_41 p0 p1 p3 zx1 zx2 zr1 (fun zI4 => pd_let (zx1 + 1) fun zv7 => fl_X12_halfCosts_3 p0 p1 p2 p3 kont fu zv7 zI4) pd_FU 0 zI1)
set_option maxRecDepth 100000 in
set_option maxHeartbeats 4000000 in
theorem el_X12_halfCosts_3 {cx : pd_X} (C : pd_C cx "PathDecoderModel" cX12_halfCosts rm_X12_halfCosts) {p0 : Int32} {p1 : Int32} {p2 : Int32} {p3 : Int32} {J : pd_J} {Z : pd_R} {n : Nat} (hn : 133 ≤ n)  {O : Type} {kont : pd_I → Option O} {out : O} (K : ∀ (zI2 : pd_I), kont zI2 = some out → pd_V cx 0 0 274 [none, none, none, none, none, none, none, none, none, none, none, none, none, none] [] zI2 J (pd_RF Z) n) :
    ∀ (fu : Nat) (zx1 : Int32) (zI1 : pd_I), fl_X12_halfCosts_3 p0 p1 p2 p3 kont fu zx1 zI1 = some out → pd_V cx 0 0 3 [some (.ref 92), some (.int p0), some (.int p1), some (.int p2), some (.int p3), some (.int zx1), none, none, none, none, none, none, none, none] [] zI1 J (pd_RF Z) n := by
  intro fu
  induction fu with
  | zero => intro zx1 zI1 hF; rw [fl_X12_halfCosts_3] at hF; cases hF
  | succ fu ih =>
    intro zx1 zI1 hF
    rw [fl_X12_halfCosts_3] at hF
    refine pd_iload C dX12_halfCosts_3 rfl ?_
    refine pd_iload_n C dX12_halfCosts_5 rfl rfl ?_
    refine pd_icmp_ge (tgt := 274) C dX12_halfCosts_6 (by decide) (fun zc12 => ?_) (fun zc12 => ?_)
    · have hF := pd_t zc12 hF
      refine pd_wk (ls' := [none, none, none, none, none, none, none, none, none, none, none, none, none, none]) True.intro ?_
      exact K _ hF
    · have hF := pd_f zc12 hF
      refine pd_iload C dX12_halfCosts_9 rfl ?_
      obtain ⟨zx2, hS, hF⟩ := pd_bd_some hF
      have hJ27 : pd_V cx 0 0 27 [some (.ref 92), some (.int p0), some (.int p1), some (.int p2), some (.int p3), some (.int zx1), none, none, none, none, none, none, none, none] [.int zx2] zI1 J (pd_RF Z) n := by
        refine pd_istore (ls' := [some (.ref 92), some (.int p0), some (.int p1), some (.int p2), some (.int p3), some (.int zx1), some (.int zx2), none, none, none, none, none, none, none]) C dX12_halfCosts_27 (Nat.le_of_ble_eq_true rfl) rfl rfl ?_
        refine pd_aload_n C dX12_halfCosts_29 rfl rfl ?_
        refine pd_iload_n C dX12_halfCosts_30 rfl rfl ?_
        refine pd_iload C dX12_halfCosts_31 rfl ?_
        obtain ⟨zr1, zh1, hF⟩ := pd_bd_some hF
        refine pd_callV C [.int p0, .int zx1] [] (em_X12_sentAhead (pd_C_st C) hn  zh1) mw_X12_sentAhead wd_6_144 rfl (by decide) (pd_lt (by decide) hn) sh_92 ⟨by decide, by decide, by decide, by decide⟩ rfl (Nat.le_of_ble_eq_true rfl) pd_oldL_same (fun _ _ => pd_old_same _) dX12_halfCosts_33 (stk' := [.int zr1]) rfl ?_
        refine pd_istore (ls' := [some (.ref 92), some (.int p0), some (.int p1), some (.int p2), some (.int p3), some (.int zx1), some (.int zx2), some (.int zr1), none, none, none, none, none, none]) C dX12_halfCosts_36 (Nat.le_of_ble_eq_true rfl) rfl rfl ?_
        refine pd_iconst (v := 0) C dX12_halfCosts_38 (by decide) ?_
        refine pd_istore (ls' := [some (.ref 92), some (.int p0), some (.int p1), some (.int p2), some (.int p3), some (.int zx1), some (.int zx2), some (.int zr1), some (.int 0), none, none, none, none, none]) C dX12_halfCosts_39 (Nat.le_of_ble_eq_true rfl) rfl rfl ?_
        refine el_X12_halfCosts_41 C hn (fun zI4 hF => ?_) pd_FU _ _ hF
        refine pd_iincG (zz := 1) C dX12_halfCosts_268 rfl (by decide) rfl (fun zv7 hzv7 => ?_)
        have hF := pd_let_at hF hzv7
        refine pd_lsE (ls' := [some (.ref 92), some (.int p0), some (.int p1), some (.int p2), some (.int p3), some (.int zv7), none, none, none, none, none, none, none, none]) rfl ?_
        refine pd_goto (tgt := 3) C dX12_halfCosts_271 (by decide) ?_
        exact ih _ _ hF
      replace hF := hS
      clear hS
      refine pd_if_eq (tgt := 25) C dX12_halfCosts_11 (by decide) (fun zc11 => ?_) (fun zc11 => ?_)
      · have hF := pd_t zc11 hF
        refine pd_iload C dX12_halfCosts_25 rfl ?_
        have hF := hF.symm
        cases hF
        exact hJ27
      · have hF := pd_f zc11 hF
        refine pd_aload_n C dX12_halfCosts_14 rfl rfl ?_
        refine pd_iload_n C dX12_halfCosts_15 rfl rfl ?_
        refine pd_iload_n C dX12_halfCosts_16 rfl rfl ?_
        refine pd_iload C dX12_halfCosts_17 rfl ?_
        obtain ⟨zr6, zh6, hF⟩ := pd_bd_some hF
        refine pd_callV C [.int p0, .int p2, .int zx1] [] (em_X12_order (pd_C_st C) hn  zh6) mw_X12_order wd_6_124 rfl (by decide) (pd_lt (by decide) hn) sh_92 ⟨by decide, by decide, by decide, by decide⟩ rfl (Nat.le_of_ble_eq_true rfl) pd_oldL_same (fun _ _ => pd_old_same _) dX12_halfCosts_19 (stk' := [.int zr6]) rfl ?_
        refine pd_goto (tgt := 27) C dX12_halfCosts_22 (by decide) ?_
        have hF := hF.symm
        cases hF
        exact hJ27
def fn_X12_halfCosts (I : pd_I) (p0 : Int32) (p1 : Int32) (p2 : Int32) (p3 : Int32) : Option pd_I := fl_X12_halfCosts_3 p0 p1 p2 p3 (fun zI2 => some zI2) pd_FU 0 I
set_option maxRecDepth 100000 in
set_option maxHeartbeats 4000000 in
theorem em_X12_halfCosts {l : Launch} {D : va_G} {tc : Nat → ClassId} (hst : l.stackTraces = false) {I : pd_I} {J : pd_J} {Z : pd_R} {n : Nat} {p0 : Int32} {p1 : Int32} {p2 : Int32} {p3 : Int32} (hn : 133 ≤ n)  {out : pd_I} (hF : fn_X12_halfCosts I p0 p1 p2 p3 = some out) :
    pd_M l D tc yX12_halfCosts (.code yX12_halfCosts cX12_halfCosts 14 (Option.none : Option Jvm.ClassFile.FieldType)) rm_X12_halfCosts [.ref 92, .int p0, .int p1, .int p2, .int p3] I J (pd_RF Z) n (.ok (none)) out J (pd_RF Z) n := by
  refine pd_open (own := "PathDecoderModel") (ls0 := [some (.ref 92), some (.int p0), some (.int p1), some (.int p2), some (.int p3), none, none, none, none, none, none, none, none, none]) (by decide) rfl (Nat.le_of_ble_eq_true rfl) rfl rfl hst (fun cx hl hD htc C hE htab hnm => ?_)
  subst hl hD htc
  unfold fn_X12_halfCosts at hF
  refine pd_iconst (v := 0) C dX12_halfCosts_0 (by decide) ?_
  refine pd_istore (ls' := [some (.ref 92), some (.int p0), some (.int p1), some (.int p2), some (.int p3), some (.int 0), none, none, none, none, none, none, none, none]) C dX12_halfCosts_1 (Nat.le_of_ble_eq_true rfl) rfl rfl ?_
  refine el_X12_halfCosts_3 C hn (fun zI2 hF => ?_) pd_FU _ _ hF
  cases hF
  exact pd_vret C hE rfl ⟨by decide, by decide⟩ dX12_halfCosts_274

def fl_X12_half_26 {O : Type} (p0 : Int32) (p2 : Int32) (p3 : Int32) (kont : pd_I → Option O) : Nat → Int32 → pd_I → Option O
  | 0, _, _ => none
  | fu + 1, zx1, zI4 => if p2 ≤ zx1 then kont zI4 else (pd_bd (if p3 = 0 then some zx1 else (pd_bd (fn_X12_order zI4 p0 p2 zx1) fun zr2 => some zr2)) fun (zx2 : Int32) => pd_bd (fn_X12_difference zI4 zx1) fun zr1 => pd_gd (pd_in zx2 200) (pd_let (pd_ui zI4 109 zx2.toNatClampNeg zr1) fun zI6 => pd_let (zx1 + 1) fun zv1 => fl_X12_half_26 p0 p2 p3 kont fu zv1 zI6))
set_option maxRecDepth 100000 in
set_option maxHeartbeats 4000000 in
theorem el_X12_half_26 {cx : pd_X} (C : pd_C cx "PathDecoderModel" cX12_half rm_X12_half) {p0 : Int32} {p2 : Int32} {p3 : Int32} {J : pd_J} {Z : pd_R} {n : Nat} (hn : 133 ≤ n)  {O : Type} {kont : pd_I → Option O} {out : O} (K : ∀ (zI5 : pd_I), kont zI5 = some out → pd_V cx 0 0 67 [some (.ref 92), none, none, some (.int p2), none, none, none] [] zI5 J (pd_RF Z) n) :
    ∀ (fu : Nat) (zx1 : Int32) (zI4 : pd_I), fl_X12_half_26 p0 p2 p3 kont fu zx1 zI4 = some out → pd_V cx 0 0 26 [some (.ref 92), some (.int p0), none, some (.int p2), some (.int p3), some (.int zx1), none] [] zI4 J (pd_RF Z) n := by
  intro fu
  induction fu with
  | zero => intro zx1 zI4 hF; rw [fl_X12_half_26] at hF; cases hF
  | succ fu ih =>
    intro zx1 zI4 hF
    rw [fl_X12_half_26] at hF
    refine pd_iload C dX12_half_26 rfl ?_
    refine pd_iload_n C dX12_half_28 rfl rfl ?_
    refine pd_icmp_ge (tgt := 67) C dX12_half_29 (by decide) (fun zc2 => ?_) (fun zc2 => ?_)
    · have hF := pd_t zc2 hF
      refine pd_wk (ls' := [some (.ref 92), none, none, some (.int p2), none, none, none]) (And.intro rfl (And.intro rfl True.intro)) ?_
      exact K _ hF
    · have hF := pd_f zc2 hF
      refine pd_aload_n C dX12_half_32 rfl rfl ?_
      refine gr_12_20 C wd_5_145 (pd_lt (by decide) hn) sh_92 (rf_92_20 _) dX12_half_33 ?_
      refine pd_iload C dX12_half_36 rfl ?_
      obtain ⟨zx2, hS, hF⟩ := pd_bd_some hF
      have hJ54 : pd_V cx 0 0 54 [some (.ref 92), some (.int p0), none, some (.int p2), some (.int p3), some (.int zx1), none] [.int zx2, .ref 109] zI4 J (pd_RF Z) n := by
        refine pd_aload_n C dX12_half_54 rfl rfl ?_
        refine pd_iload C dX12_half_55 rfl ?_
        obtain ⟨zr1, zh4, hF⟩ := pd_bd_some hF
        refine pd_callV C [.int zx1] [.int zx2, .ref 109] (em_X12_difference (pd_C_st C) hn  zh4) mw_X12_difference wd_6_233 rfl (by decide) (pd_lt (by decide) hn) sh_92 ⟨by decide, by decide, by decide, by decide⟩ rfl (Nat.le_of_ble_eq_true rfl) pd_oldL_same (fun _ _ => pd_old_same _) dX12_half_57 (stk' := [.int zr1, .int zx2, .ref 109]) rfl ?_
        obtain ⟨zg1, hF⟩ := pd_gd_some hF
        refine pd_iast C (pd_lt (by decide) hn) sh_109 zg1 dX12_half_60 ?_
        refine pd_memI (fun zI6 hzI6 => ?_)
        have hF := pd_let_at hF hzI6
        refine pd_iincG (zz := 1) C dX12_half_61 rfl (by decide) rfl (fun zv1 hzv1 => ?_)
        have hF := pd_let_at hF hzv1
        refine pd_lsE (ls' := [some (.ref 92), some (.int p0), none, some (.int p2), some (.int p3), some (.int zv1), none]) rfl ?_
        refine pd_goto (tgt := 26) C dX12_half_64 (by decide) ?_
        exact ih _ _ hF
      replace hF := hS
      clear hS
      refine pd_if_eq (tgt := 52) C dX12_half_38 (by decide) (fun zc1 => ?_) (fun zc1 => ?_)
      · have hF := pd_t zc1 hF
        refine pd_iload C dX12_half_52 rfl ?_
        have hF := hF.symm
        cases hF
        exact hJ54
      · have hF := pd_f zc1 hF
        refine pd_aload_n C dX12_half_41 rfl rfl ?_
        refine pd_iload_n C dX12_half_42 rfl rfl ?_
        refine pd_iload_n C dX12_half_43 rfl rfl ?_
        refine pd_iload C dX12_half_44 rfl ?_
        obtain ⟨zr2, zh5, hF⟩ := pd_bd_some hF
        refine pd_callV C [.int p0, .int p2, .int zx1] [.ref 109] (em_X12_order (pd_C_st C) hn  zh5) mw_X12_order wd_6_124 rfl (by decide) (pd_lt (by decide) hn) sh_92 ⟨by decide, by decide, by decide, by decide⟩ rfl (Nat.le_of_ble_eq_true rfl) pd_oldL_same (fun _ _ => pd_old_same _) dX12_half_46 (stk' := [.int zr2, .ref 109]) rfl ?_
        refine pd_goto (tgt := 54) C dX12_half_49 (by decide) ?_
        have hF := hF.symm
        cases hF
        exact hJ54
def fl_X12_half_70 {O : Type} (p2 : Int32) (kont : pd_I → Option O) : Nat → Int32 → pd_I → Option O
  | 0, _, _ => none
  | fu + 1, zx3, zI7 => if p2 ≤ zx3 then kont zI7 else (pd_gd (pd_in zx3 200) (pd_gd (pd_in zx3 200) (pd_gd (pd_in ((2 * zx3) + 1) 400) (pd_gd (pd_in (2 * zx3) 400) (pd_let (((zI7 109 zx3.toNatClampNeg) - (zI7 121 zx3.toNatClampNeg)) - ((zI7 122 ((2 * zx3) + 1).toNatClampNeg) - (zI7 122 (2 * zx3).toNatClampNeg))) fun zv2 => pd_bd (if (-5000) ≤ zv2 then if zv2 ≤ 5000 then some zv2 else (some 5000) else (some (-5000))) fun (zx4 : Int32) => pd_gd (pd_in zx3 200) (pd_let (pd_ui zI7 121 zx3.toNatClampNeg zx4) fun zI9 => pd_let (zx3 + 1) fun zv3 => fl_X12_half_70 p2 kont fu zv3 zI9))))))
set_option maxRecDepth 100000 in
set_option maxHeartbeats 4000000 in
theorem el_X12_half_70 {cx : pd_X} (C : pd_C cx "PathDecoderModel" cX12_half rm_X12_half) {p2 : Int32} {J : pd_J} {Z : pd_R} {n : Nat} (hn : 133 ≤ n)  {O : Type} {kont : pd_I → Option O} {out : O} (K : ∀ (zI8 : pd_I), kont zI8 = some out → pd_V cx 0 0 158 [none, none, none, none, none, none, none] [] zI8 J (pd_RF Z) n) :
    ∀ (fu : Nat) (zx3 : Int32) (zI7 : pd_I), fl_X12_half_70 p2 kont fu zx3 zI7 = some out → pd_V cx 0 0 70 [some (.ref 92), none, none, some (.int p2), none, some (.int zx3), none] [] zI7 J (pd_RF Z) n := by
  intro fu
  induction fu with
  | zero => intro zx3 zI7 hF; rw [fl_X12_half_70] at hF; cases hF
  | succ fu ih =>
    intro zx3 zI7 hF
    rw [fl_X12_half_70] at hF
    refine pd_iload C dX12_half_70 rfl ?_
    refine pd_iload_n C dX12_half_72 rfl rfl ?_
    refine pd_icmp_ge (tgt := 158) C dX12_half_73 (by decide) (fun zc5 => ?_) (fun zc5 => ?_)
    · have hF := pd_t zc5 hF
      refine pd_wk (ls' := [none, none, none, none, none, none, none]) True.intro ?_
      exact K _ hF
    · have hF := pd_f zc5 hF
      refine pd_aload_n C dX12_half_76 rfl rfl ?_
      refine gr_12_20 C wd_5_145 (pd_lt (by decide) hn) sh_92 (rf_92_20 _) dX12_half_77 ?_
      refine pd_iload C dX12_half_80 rfl ?_
      obtain ⟨zg2, hF⟩ := pd_gd_some hF
      refine pd_iald C (pd_lt (by decide) hn) sh_109 zg2 dX12_half_82 ?_
      refine pd_aload_n C dX12_half_83 rfl rfl ?_
      refine gr_12_33 C wd_5_158 (pd_lt (by decide) hn) sh_92 (rf_92_33 _) dX12_half_84 ?_
      refine pd_iload C dX12_half_87 rfl ?_
      obtain ⟨zg3, hF⟩ := pd_gd_some hF
      refine pd_iald C (pd_lt (by decide) hn) sh_121 zg3 dX12_half_89 ?_
      refine pd_isub C dX12_half_90 ?_
      refine pd_aload_n C dX12_half_91 rfl rfl ?_
      refine gr_12_34 C wd_5_159 (pd_lt (by decide) hn) sh_92 (rf_92_34 _) dX12_half_92 ?_
      refine pd_iconst (v := 2) C dX12_half_95 (by decide) ?_
      refine pd_iload C dX12_half_96 rfl ?_
      refine pd_imul C dX12_half_98 ?_
      refine pd_iconst (v := 1) C dX12_half_99 (by decide) ?_
      refine pd_iadd C dX12_half_100 ?_
      obtain ⟨zg4, hF⟩ := pd_gd_some hF
      refine pd_iald C (pd_lt (by decide) hn) sh_122 zg4 dX12_half_101 ?_
      refine pd_aload_n C dX12_half_102 rfl rfl ?_
      refine gr_12_34 C wd_5_159 (pd_lt (by decide) hn) sh_92 (rf_92_34 _) dX12_half_103 ?_
      refine pd_iconst (v := 2) C dX12_half_106 (by decide) ?_
      refine pd_iload C dX12_half_107 rfl ?_
      refine pd_imul C dX12_half_109 ?_
      obtain ⟨zg5, hF⟩ := pd_gd_some hF
      refine pd_iald C (pd_lt (by decide) hn) sh_122 zg5 dX12_half_110 ?_
      refine pd_isub C dX12_half_111 ?_
      refine pd_isub C dX12_half_112 ?_
      refine pd_topi (fun zv2 hzv2 => ?_)
      have hF := pd_let_at hF hzv2
      refine pd_istore (ls' := [some (.ref 92), none, none, some (.int p2), none, some (.int zx3), some (.int zv2)]) C dX12_half_113 (Nat.le_of_ble_eq_true rfl) rfl rfl ?_
      refine pd_aload_n C dX12_half_115 rfl rfl ?_
      refine gr_12_33 C wd_5_158 (pd_lt (by decide) hn) sh_92 (rf_92_33 _) dX12_half_116 ?_
      refine pd_iload C dX12_half_119 rfl ?_
      refine pd_iload C dX12_half_121 rfl ?_
      refine pd_sipush (v := (-5000)) C dX12_half_123 (by decide) ?_
      obtain ⟨zx4, hS, hF⟩ := pd_bd_some hF
      have hJ151 : pd_V cx 0 0 151 [some (.ref 92), none, none, some (.int p2), none, some (.int zx3), none] [.int zx4, .int zx3, .ref 121] zI7 J (pd_RF Z) n := by
        obtain ⟨zg6, hF⟩ := pd_gd_some hF
        refine pd_iast C (pd_lt (by decide) hn) sh_121 zg6 dX12_half_151 ?_
        refine pd_memI (fun zI9 hzI9 => ?_)
        have hF := pd_let_at hF hzI9
        refine pd_iincG (zz := 1) C dX12_half_152 rfl (by decide) rfl (fun zv3 hzv3 => ?_)
        have hF := pd_let_at hF hzv3
        refine pd_lsE (ls' := [some (.ref 92), none, none, some (.int p2), none, some (.int zv3), none]) rfl ?_
        refine pd_goto (tgt := 70) C dX12_half_155 (by decide) ?_
        exact ih _ _ hF
      replace hF := hS
      clear hS
      refine pd_icmp_ge (tgt := 135) C dX12_half_126 (by decide) (fun zc4 => ?_) (fun zc4 => ?_)
      · have hF := pd_t zc4 hF
        refine pd_iload C dX12_half_135 rfl ?_
        refine pd_sipush (v := 5000) C dX12_half_137 (by decide) ?_
        refine pd_icmp_le (tgt := 149) C dX12_half_140 (by decide) (fun zc3 => ?_) (fun zc3 => ?_)
        · have hF := pd_t zc3 hF
          refine pd_iload C dX12_half_149 rfl ?_
          refine pd_wk (ls' := [some (.ref 92), none, none, some (.int p2), none, some (.int zx3), none]) (And.intro rfl (And.intro rfl (And.intro rfl True.intro))) ?_
          have hF := hF.symm
          cases hF
          exact hJ151
        · have hF := pd_f zc3 hF
          refine pd_sipush (v := 5000) C dX12_half_143 (by decide) ?_
          refine pd_goto (tgt := 151) C dX12_half_146 (by decide) ?_
          refine pd_wk (ls' := [some (.ref 92), none, none, some (.int p2), none, some (.int zx3), none]) (And.intro rfl (And.intro rfl (And.intro rfl True.intro))) ?_
          have hF := hF.symm
          cases hF
          exact hJ151
      · have hF := pd_f zc4 hF
        refine pd_sipush (v := (-5000)) C dX12_half_129 (by decide) ?_
        refine pd_goto (tgt := 151) C dX12_half_132 (by decide) ?_
        refine pd_wk (ls' := [some (.ref 92), none, none, some (.int p2), none, some (.int zx3), none]) (And.intro rfl (And.intro rfl (And.intro rfl True.intro))) ?_
        have hF := hF.symm
        cases hF
        exact hJ151
def fn_X12_half (I : pd_I) (p0 : Int32) (p1 : Int32) (p2 : Int32) (p3 : Int32) : Option pd_I := pd_bd (fn_X12_halfCosts I p0 p1 p2 p3) fun zI1 => pd_bd (fn_X12_clearLeasts zI1 p2) fun zI2 => pd_bd (fn_X12_leasts zI2 p0 p2 0 0 0) fun zI3 => fl_X12_half_26 p0 p2 p3 (fun zI5 => fl_X12_half_70 p2 (fun zI8 => some zI8) pd_FU 0 zI5) pd_FU 0 zI3
set_option maxRecDepth 100000 in
set_option maxHeartbeats 4000000 in
theorem em_X12_half {l : Launch} {D : va_G} {tc : Nat → ClassId} (hst : l.stackTraces = false) {I : pd_I} {J : pd_J} {Z : pd_R} {n : Nat} {p0 : Int32} {p1 : Int32} {p2 : Int32} {p3 : Int32} (hn : 133 ≤ n)  {out : pd_I} (hF : fn_X12_half I p0 p1 p2 p3 = some out) :
    pd_M l D tc yX12_half (.code yX12_half cX12_half 7 (Option.none : Option Jvm.ClassFile.FieldType)) rm_X12_half [.ref 92, .int p0, .int p1, .int p2, .int p3] I J (pd_RF Z) n (.ok (none)) out J (pd_RF Z) n := by
  refine pd_open (own := "PathDecoderModel") (ls0 := [some (.ref 92), some (.int p0), some (.int p1), some (.int p2), some (.int p3), none, none]) (by decide) rfl (Nat.le_of_ble_eq_true rfl) rfl rfl hst (fun cx hl hD htc C hE htab hnm => ?_)
  subst hl hD htc
  unfold fn_X12_half at hF
  refine pd_aload_n C dX12_half_0 rfl rfl ?_
  refine pd_iload_n C dX12_half_1 rfl rfl ?_
  refine pd_iload_n C dX12_half_2 rfl rfl ?_
  refine pd_iload_n C dX12_half_3 rfl rfl ?_
  refine pd_iload C dX12_half_4 rfl ?_
  obtain ⟨zI1, zh1, hF⟩ := pd_bd_some hF
  refine pd_callV C [.int p0, .int p1, .int p2, .int p3] [] (em_X12_halfCosts (pd_C_st C) hn  zh1) mw_X12_halfCosts wd_7_7 rfl (by decide) (pd_lt (by decide) hn) sh_92 ⟨by decide, by decide, by decide, by decide⟩ rfl (Nat.le_of_ble_eq_true rfl) pd_oldL_same (fun _ _ => pd_old_same _) dX12_half_6 (stk' := []) rfl ?_
  refine pd_aload_n C dX12_half_9 rfl rfl ?_
  refine pd_iload_n C dX12_half_10 rfl rfl ?_
  obtain ⟨zI2, zh2, hF⟩ := pd_bd_some hF
  refine pd_callV C [.int p2] [] (em_X12_clearLeasts (pd_C_st C) hn  zh2) mw_X12_clearLeasts wd_6_225 rfl (by decide) (pd_lt (by decide) hn) sh_92 ⟨by decide, by decide, by decide, by decide⟩ rfl (Nat.le_of_ble_eq_true rfl) pd_oldL_same (fun _ _ => pd_old_same _) dX12_half_11 (stk' := []) rfl ?_
  refine pd_aload_n C dX12_half_14 rfl rfl ?_
  refine pd_iload_n C dX12_half_15 rfl rfl ?_
  refine pd_iload_n C dX12_half_16 rfl rfl ?_
  refine pd_iconst (v := 0) C dX12_half_17 (by decide) ?_
  refine pd_iconst (v := 0) C dX12_half_18 (by decide) ?_
  refine pd_iconst (v := 0) C dX12_half_19 (by decide) ?_
  obtain ⟨zI3, zh3, hF⟩ := pd_bd_some hF
  refine pd_callV C [.int p0, .int p2, .int 0, .int 0, .int 0] [] (em_X12_leasts (pd_C_st C) hn  zh3) mw_X12_leasts wd_6_229 rfl (by decide) (pd_lt (by decide) hn) sh_92 ⟨by decide, by decide, by decide, by decide⟩ rfl (Nat.le_of_ble_eq_true rfl) pd_oldL_same (fun _ _ => pd_old_same _) dX12_half_20 (stk' := []) rfl ?_
  refine pd_iconst (v := 0) C dX12_half_23 (by decide) ?_
  refine pd_istore (ls' := [some (.ref 92), some (.int p0), some (.int p1), some (.int p2), some (.int p3), some (.int 0), none]) C dX12_half_24 (Nat.le_of_ble_eq_true rfl) rfl rfl ?_
  refine pd_wk (ls' := [some (.ref 92), some (.int p0), none, some (.int p2), some (.int p3), some (.int 0), none]) (And.intro rfl (And.intro rfl (And.intro rfl (And.intro rfl (And.intro rfl True.intro))))) ?_
  refine el_X12_half_26 C hn (fun zI5 hF => ?_) pd_FU _ _ hF
  refine pd_iconst (v := 0) C dX12_half_67 (by decide) ?_
  refine pd_istore (ls' := [some (.ref 92), none, none, some (.int p2), none, some (.int 0), none]) C dX12_half_68 (Nat.le_of_ble_eq_true rfl) rfl rfl ?_
  refine el_X12_half_70 C hn (fun zI8 hF => ?_) pd_FU _ _ hF
  cases hF
  exact pd_vret C hE rfl ⟨by decide, by decide⟩ dX12_half_158

def fl_X12_talk_127 {O : Type} (p1 : Int32) (zx3 : Int32) (zr7 : Int32) (zr8 : Int32) (kont : pd_I → Option O) : Nat → Int32 → pd_I → Option O
  | 0, _, _ => none
  | fu + 1, zx4, zI10 => if 2 ≤ zx4 then kont zI10 else (pd_bd (if zr7 = 0 then some 0 else (pd_bd (fn_X12_markCost zI10 p1 zr8 zx4) fun zr9 => some zr9)) fun (zx5 : Int32) => pd_gd (pd_in ((2 * zx3) + zx4) 400) (pd_let (pd_ui zI10 122 ((2 * zx3) + zx4).toNatClampNeg zx5) fun zI12 => pd_let (zx4 + 1) fun zv1 => fl_X12_talk_127 p1 zx3 zr7 zr8 kont fu zv1 zI12))
set_option maxRecDepth 100000 in
set_option maxHeartbeats 4000000 in
theorem el_X12_talk_127 {cx : pd_X} (C : pd_C cx "PathDecoderModel" cX12_talk rm_X12_talk) {p0 : Int32} {p1 : Int32} {p2 : Int32} {p3 : Int32} {zx3 : Int32} {zr7 : Int32} {zr8 : Int32} {J : pd_J} {Z : pd_R} {n : Nat} (hn : 133 ≤ n)  {O : Type} {kont : pd_I → Option O} {out : O} (K : ∀ (zI11 : pd_I), kont zI11 = some out → pd_V cx 0 0 169 [some (.ref 92), some (.int p0), some (.int p1), some (.int p2), some (.int p3), some (.int zx3), none, none, none] [] zI11 J (pd_RF Z) n) :
    ∀ (fu : Nat) (zx4 : Int32) (zI10 : pd_I), fl_X12_talk_127 p1 zx3 zr7 zr8 kont fu zx4 zI10 = some out → pd_V cx 0 0 127 [some (.ref 92), some (.int p0), some (.int p1), some (.int p2), some (.int p3), some (.int zx3), some (.int zr7), some (.int zr8), some (.int zx4)] [] zI10 J (pd_RF Z) n := by
  intro fu
  induction fu with
  | zero => intro zx4 zI10 hF; rw [fl_X12_talk_127] at hF; cases hF
  | succ fu ih =>
    intro zx4 zI10 hF
    rw [fl_X12_talk_127] at hF
    refine pd_iload C dX12_talk_127 rfl ?_
    refine pd_iconst (v := 2) C dX12_talk_129 (by decide) ?_
    refine pd_icmp_ge (tgt := 169) C dX12_talk_130 (by decide) (fun zc2 => ?_) (fun zc2 => ?_)
    · have hF := pd_t zc2 hF
      refine pd_wk (ls' := [some (.ref 92), some (.int p0), some (.int p1), some (.int p2), some (.int p3), some (.int zx3), none, none, none]) (And.intro rfl (And.intro rfl (And.intro rfl (And.intro rfl (And.intro rfl (And.intro rfl True.intro)))))) ?_
      exact K _ hF
    · have hF := pd_f zc2 hF
      refine pd_aload_n C dX12_talk_133 rfl rfl ?_
      refine gr_12_34 C wd_5_159 (pd_lt (by decide) hn) sh_92 (rf_92_34 _) dX12_talk_134 ?_
      refine pd_iconst (v := 2) C dX12_talk_137 (by decide) ?_
      refine pd_iload C dX12_talk_138 rfl ?_
      refine pd_imul C dX12_talk_140 ?_
      refine pd_iload C dX12_talk_141 rfl ?_
      refine pd_iadd C dX12_talk_143 ?_
      refine pd_iload C dX12_talk_144 rfl ?_
      obtain ⟨zx5, hS, hF⟩ := pd_bd_some hF
      have hJ162 : pd_V cx 0 0 162 [some (.ref 92), some (.int p0), some (.int p1), some (.int p2), some (.int p3), some (.int zx3), some (.int zr7), some (.int zr8), some (.int zx4)] [.int zx5, .int ((2 * zx3) + zx4), .ref 122] zI10 J (pd_RF Z) n := by
        obtain ⟨zg3, hF⟩ := pd_gd_some hF
        refine pd_iast C (pd_lt (by decide) hn) sh_122 zg3 dX12_talk_162 ?_
        refine pd_memI (fun zI12 hzI12 => ?_)
        have hF := pd_let_at hF hzI12
        refine pd_iincG (zz := 1) C dX12_talk_163 rfl (by decide) rfl (fun zv1 hzv1 => ?_)
        have hF := pd_let_at hF hzv1
        refine pd_lsE (ls' := [some (.ref 92), some (.int p0), some (.int p1), some (.int p2), some (.int p3), some (.int zx3), some (.int zr7), some (.int zr8), some (.int zv1)]) rfl ?_
        refine pd_goto (tgt := 127) C dX12_talk_166 (by decide) ?_
        exact ih _ _ hF
      replace hF := hS
      clear hS
      refine pd_if_eq (tgt := 161) C dX12_talk_146 (by decide) (fun zc1 => ?_) (fun zc1 => ?_)
      · have hF := pd_t zc1 hF
        refine pd_iconst (v := 0) C dX12_talk_161 (by decide) ?_
        have hF := hF.symm
        cases hF
        exact hJ162
      · have hF := pd_f zc1 hF
        refine pd_aload_n C dX12_talk_149 rfl rfl ?_
        refine pd_iload_n C dX12_talk_150 rfl rfl ?_
        refine pd_iload C dX12_talk_151 rfl ?_
        refine pd_iload C dX12_talk_153 rfl ?_
        obtain ⟨zr9, zh9, hF⟩ := pd_bd_some hF
        refine pd_callV C [.int p1, .int zr8, .int zx4] [.int ((2 * zx3) + zx4), .ref 122] (em_X12_markCost (pd_C_st C) hn  zh9) mw_X12_markCost wd_6_156 rfl (by decide) (pd_lt (by decide) hn) sh_92 ⟨by decide, by decide, by decide, by decide⟩ rfl (Nat.le_of_ble_eq_true rfl) pd_oldL_same (fun _ _ => pd_old_same _) dX12_talk_155 (stk' := [.int zr9, .int ((2 * zx3) + zx4), .ref 122]) rfl ?_
        refine pd_goto (tgt := 162) C dX12_talk_158 (by decide) ?_
        have hF := hF.symm
        cases hF
        exact hJ162
def fl_X12_talk_91 {O : Type} (p0 : Int32) (p1 : Int32) (p2 : Int32) (kont : pd_I → Option O) : Nat → Int32 → pd_I → Option O
  | 0, _, _ => none
  | fu + 1, zx3, zI7 => if p2 ≤ zx3 then kont zI7 else (pd_gd (pd_in zx3 200) (pd_let (pd_ui zI7 121 zx3.toNatClampNeg 0) fun zI9 => pd_bd (fn_X12_isKept zI9 p0 zx3 0) fun zr7 => pd_bd (fn_X12_sentAhead zI9 p0 zx3) fun zr8 => fl_X12_talk_127 p1 zx3 zr7 zr8 (fun zI11 => pd_let (zx3 + 1) fun zv2 => fl_X12_talk_91 p0 p1 p2 kont fu zv2 zI11) pd_FU 0 zI9))
set_option maxRecDepth 100000 in
set_option maxHeartbeats 4000000 in
theorem el_X12_talk_91 {cx : pd_X} (C : pd_C cx "PathDecoderModel" cX12_talk rm_X12_talk) {p0 : Int32} {p1 : Int32} {p2 : Int32} {p3 : Int32} {J : pd_J} {Z : pd_R} {n : Nat} (hn : 133 ≤ n)  {O : Type} {kont : pd_I → Option O} {out : O} (K : ∀ (zI8 : pd_I), kont zI8 = some out → pd_V cx 0 0 175 [some (.ref 92), some (.int p0), some (.int p1), some (.int p2), some (.int p3), none, none, none, none] [] zI8 J (pd_RF Z) n) :
    ∀ (fu : Nat) (zx3 : Int32) (zI7 : pd_I), fl_X12_talk_91 p0 p1 p2 kont fu zx3 zI7 = some out → pd_V cx 0 0 91 [some (.ref 92), some (.int p0), some (.int p1), some (.int p2), some (.int p3), some (.int zx3), none, none, none] [] zI7 J (pd_RF Z) n := by
  intro fu
  induction fu with
  | zero => intro zx3 zI7 hF; rw [fl_X12_talk_91] at hF; cases hF
  | succ fu ih =>
    intro zx3 zI7 hF
    rw [fl_X12_talk_91] at hF
    refine pd_iload C dX12_talk_91 rfl ?_
    refine pd_iload_n C dX12_talk_93 rfl rfl ?_
    refine pd_icmp_ge (tgt := 175) C dX12_talk_94 (by decide) (fun zc3 => ?_) (fun zc3 => ?_)
    · have hF := pd_t zc3 hF
      refine pd_wk (ls' := [some (.ref 92), some (.int p0), some (.int p1), some (.int p2), some (.int p3), none, none, none, none]) (And.intro rfl (And.intro rfl (And.intro rfl (And.intro rfl (And.intro rfl True.intro))))) ?_
      exact K _ hF
    · have hF := pd_f zc3 hF
      refine pd_aload_n C dX12_talk_97 rfl rfl ?_
      refine gr_12_33 C wd_5_158 (pd_lt (by decide) hn) sh_92 (rf_92_33 _) dX12_talk_98 ?_
      refine pd_iload C dX12_talk_101 rfl ?_
      refine pd_iconst (v := 0) C dX12_talk_103 (by decide) ?_
      obtain ⟨zg2, hF⟩ := pd_gd_some hF
      refine pd_iast C (pd_lt (by decide) hn) sh_121 zg2 dX12_talk_104 ?_
      refine pd_memI (fun zI9 hzI9 => ?_)
      have hF := pd_let_at hF hzI9
      refine pd_aload_n C dX12_talk_105 rfl rfl ?_
      refine pd_iload_n C dX12_talk_106 rfl rfl ?_
      refine pd_iload C dX12_talk_107 rfl ?_
      refine pd_iconst (v := 0) C dX12_talk_109 (by decide) ?_
      obtain ⟨zr7, zh7, hF⟩ := pd_bd_some hF
      refine pd_callV C [.int p0, .int zx3, .int 0] [] (em_X12_isKept (pd_C_st C) hn  zh7) mw_X12_isKept wd_6_132 rfl (by decide) (pd_lt (by decide) hn) sh_92 ⟨by decide, by decide, by decide, by decide⟩ rfl (Nat.le_of_ble_eq_true rfl) pd_oldL_same (fun _ _ => pd_old_same _) dX12_talk_110 (stk' := [.int zr7]) rfl ?_
      refine pd_istore (ls' := [some (.ref 92), some (.int p0), some (.int p1), some (.int p2), some (.int p3), some (.int zx3), some (.int zr7), none, none]) C dX12_talk_113 (Nat.le_of_ble_eq_true rfl) rfl rfl ?_
      refine pd_aload_n C dX12_talk_115 rfl rfl ?_
      refine pd_iload_n C dX12_talk_116 rfl rfl ?_
      refine pd_iload C dX12_talk_117 rfl ?_
      obtain ⟨zr8, zh8, hF⟩ := pd_bd_some hF
      refine pd_callV C [.int p0, .int zx3] [] (em_X12_sentAhead (pd_C_st C) hn  zh8) mw_X12_sentAhead wd_6_144 rfl (by decide) (pd_lt (by decide) hn) sh_92 ⟨by decide, by decide, by decide, by decide⟩ rfl (Nat.le_of_ble_eq_true rfl) pd_oldL_same (fun _ _ => pd_old_same _) dX12_talk_119 (stk' := [.int zr8]) rfl ?_
      refine pd_istore (ls' := [some (.ref 92), some (.int p0), some (.int p1), some (.int p2), some (.int p3), some (.int zx3), some (.int zr7), some (.int zr8), none]) C dX12_talk_122 (Nat.le_of_ble_eq_true rfl) rfl rfl ?_
      refine pd_iconst (v := 0) C dX12_talk_124 (by decide) ?_
      refine pd_istore (ls' := [some (.ref 92), some (.int p0), some (.int p1), some (.int p2), some (.int p3), some (.int zx3), some (.int zr7), some (.int zr8), some (.int 0)]) C dX12_talk_125 (Nat.le_of_ble_eq_true rfl) rfl rfl ?_
      refine el_X12_talk_127 C hn (fun zI11 hF => ?_) pd_FU _ _ hF
      refine pd_iincG (zz := 1) C dX12_talk_169 rfl (by decide) rfl (fun zv2 hzv2 => ?_)
      have hF := pd_let_at hF hzv2
      refine pd_lsE (ls' := [some (.ref 92), some (.int p0), some (.int p1), some (.int p2), some (.int p3), some (.int zv2), none, none, none]) rfl ?_
      refine pd_goto (tgt := 91) C dX12_talk_172 (by decide) ?_
      exact ih _ _ hF
def fl_X12_talk_208 {O : Type} (p2 : Int32) (kont : pd_I → Option O) : Nat → Int32 → pd_I → Option O
  | 0, _, _ => none
  | fu + 1, zx8, zI17 => if p2 ≤ zx8 then kont zI17 else (pd_gd (pd_in zx8 200) (pd_bd (if 0 ≤ (zI17 109 zx8.toNatClampNeg) then some 0 else (some 1)) fun (zx9 : Int32) => pd_gd (pd_in zx8 200) (pd_let (pd_ui zI17 123 zx8.toNatClampNeg zx9) fun zI19 => pd_let (zx8 + 1) fun zv3 => fl_X12_talk_208 p2 kont fu zv3 zI19)))
set_option maxRecDepth 100000 in
set_option maxHeartbeats 4000000 in
theorem el_X12_talk_208 {cx : pd_X} (C : pd_C cx "PathDecoderModel" cX12_talk rm_X12_talk) {p0 : Int32} {p1 : Int32} {p2 : Int32} {p3 : Int32} {zx6 : Int32} {J : pd_J} {Z : pd_R} {n : Nat} (hn : 133 ≤ n)  {O : Type} {kont : pd_I → Option O} {out : O} (K : ∀ (zI18 : pd_I), kont zI18 = some out → pd_V cx 0 0 242 [some (.ref 92), some (.int p0), some (.int p1), some (.int p2), some (.int p3), some (.int zx6), none, none, none] [] zI18 J (pd_RF Z) n) :
    ∀ (fu : Nat) (zx8 : Int32) (zI17 : pd_I), fl_X12_talk_208 p2 kont fu zx8 zI17 = some out → pd_V cx 0 0 208 [some (.ref 92), some (.int p0), some (.int p1), some (.int p2), some (.int p3), some (.int zx6), some (.int zx8), none, none] [] zI17 J (pd_RF Z) n := by
  intro fu
  induction fu with
  | zero => intro zx8 zI17 hF; rw [fl_X12_talk_208] at hF; cases hF
  | succ fu ih =>
    intro zx8 zI17 hF
    rw [fl_X12_talk_208] at hF
    refine pd_iload C dX12_talk_208 rfl ?_
    refine pd_iload_n C dX12_talk_210 rfl rfl ?_
    refine pd_icmp_ge (tgt := 242) C dX12_talk_211 (by decide) (fun zc6 => ?_) (fun zc6 => ?_)
    · have hF := pd_t zc6 hF
      refine pd_wk (ls' := [some (.ref 92), some (.int p0), some (.int p1), some (.int p2), some (.int p3), some (.int zx6), none, none, none]) (And.intro rfl (And.intro rfl (And.intro rfl (And.intro rfl (And.intro rfl (And.intro rfl True.intro)))))) ?_
      exact K _ hF
    · have hF := pd_f zc6 hF
      refine pd_aload_n C dX12_talk_214 rfl rfl ?_
      refine gr_12_35 C wd_5_160 (pd_lt (by decide) hn) sh_92 (rf_92_35 _) dX12_talk_215 ?_
      refine pd_iload C dX12_talk_218 rfl ?_
      refine pd_aload_n C dX12_talk_220 rfl rfl ?_
      refine gr_12_20 C wd_5_145 (pd_lt (by decide) hn) sh_92 (rf_92_20 _) dX12_talk_221 ?_
      refine pd_iload C dX12_talk_224 rfl ?_
      obtain ⟨zg4, hF⟩ := pd_gd_some hF
      refine pd_iald C (pd_lt (by decide) hn) sh_109 zg4 dX12_talk_226 ?_
      obtain ⟨zx9, hS, hF⟩ := pd_bd_some hF
      have hJ235 : pd_V cx 0 0 235 [some (.ref 92), some (.int p0), some (.int p1), some (.int p2), some (.int p3), some (.int zx6), some (.int zx8), none, none] [.int zx9, .int zx8, .ref 123] zI17 J (pd_RF Z) n := by
        obtain ⟨zg5, hF⟩ := pd_gd_some hF
        refine pd_iast C (pd_lt (by decide) hn) sh_123 zg5 dX12_talk_235 ?_
        refine pd_memI (fun zI19 hzI19 => ?_)
        have hF := pd_let_at hF hzI19
        refine pd_iincG (zz := 1) C dX12_talk_236 rfl (by decide) rfl (fun zv3 hzv3 => ?_)
        have hF := pd_let_at hF hzv3
        refine pd_lsE (ls' := [some (.ref 92), some (.int p0), some (.int p1), some (.int p2), some (.int p3), some (.int zx6), some (.int zv3), none, none]) rfl ?_
        refine pd_goto (tgt := 208) C dX12_talk_239 (by decide) ?_
        exact ih _ _ hF
      replace hF := hS
      clear hS
      refine pd_if_ge (tgt := 234) C dX12_talk_227 (by decide) (fun zc5 => ?_) (fun zc5 => ?_)
      · have hF := pd_t zc5 hF
        refine pd_iconst (v := 0) C dX12_talk_234 (by decide) ?_
        have hF := hF.symm
        cases hF
        exact hJ235
      · have hF := pd_f zc5 hF
        refine pd_iconst (v := 1) C dX12_talk_230 (by decide) ?_
        refine pd_goto (tgt := 235) C dX12_talk_231 (by decide) ?_
        have hF := hF.symm
        cases hF
        exact hJ235
def fl_X12_talk_258 {O : Type} (p2 : Int32) (kont : pd_I → Option O) : Nat → Int32 → pd_I → Option O
  | 0, _, _ => none
  | fu + 1, zx10, zI22 => if p2 ≤ zx10 then kont zI22 else (pd_bd (if (zI22 92 21) = 0 then some 0 else (pd_gd (pd_in zx10 200) (pd_gd (pd_in zx10 200) (pd_bd (if 0 ≤ (zI22 109 zx10.toNatClampNeg) then some 0 else (some 1)) fun (zx12 : Int32) => if (zI22 123 zx10.toNatClampNeg) = zx12 then some 1 else (some 0))))) fun (zx11 : Int32) => pd_gd (pd_bo zx11) (pd_let (pd_ui zI22 92 21 zx11) fun zI24 => pd_let (zx10 + 1) fun zv4 => fl_X12_talk_258 p2 kont fu zv4 zI24))
set_option maxRecDepth 100000 in
set_option maxHeartbeats 4000000 in
theorem el_X12_talk_258 {cx : pd_X} (C : pd_C cx "PathDecoderModel" cX12_talk rm_X12_talk) {p0 : Int32} {p1 : Int32} {p2 : Int32} {p3 : Int32} {zx6 : Int32} {J : pd_J} {Z : pd_R} {n : Nat} (hn : 133 ≤ n)  {O : Type} {kont : pd_I → Option O} {out : O} (K : ∀ (zI23 : pd_I), kont zI23 = some out → pd_V cx 0 0 311 [some (.ref 92), some (.int p0), some (.int p1), some (.int p2), some (.int p3), some (.int zx6), none, none, none] [] zI23 J (pd_RF Z) n) :
    ∀ (fu : Nat) (zx10 : Int32) (zI22 : pd_I), fl_X12_talk_258 p2 kont fu zx10 zI22 = some out → pd_V cx 0 0 258 [some (.ref 92), some (.int p0), some (.int p1), some (.int p2), some (.int p3), some (.int zx6), some (.int zx10), none, none] [] zI22 J (pd_RF Z) n := by
  intro fu
  induction fu with
  | zero => intro zx10 zI22 hF; rw [fl_X12_talk_258] at hF; cases hF
  | succ fu ih =>
    intro zx10 zI22 hF
    rw [fl_X12_talk_258] at hF
    refine pd_iload C dX12_talk_258 rfl ?_
    refine pd_iload_n C dX12_talk_260 rfl rfl ?_
    refine pd_icmp_ge (tgt := 311) C dX12_talk_261 (by decide) (fun zc10 => ?_) (fun zc10 => ?_)
    · have hF := pd_t zc10 hF
      refine pd_wk (ls' := [some (.ref 92), some (.int p0), some (.int p1), some (.int p2), some (.int p3), some (.int zx6), none, none, none]) (And.intro rfl (And.intro rfl (And.intro rfl (And.intro rfl (And.intro rfl (And.intro rfl True.intro)))))) ?_
      exact K _ hF
    · have hF := pd_f zc10 hF
      refine pd_aload_n C dX12_talk_264 rfl rfl ?_
      refine pd_aload_n C dX12_talk_265 rfl rfl ?_
      refine gi_12_21 C wd_5_146 (pd_lt (by decide) hn) sh_92 dX12_talk_266 ?_
      obtain ⟨zx11, hS, hF⟩ := pd_bd_some hF
      have hJ302 : pd_V cx 0 0 302 [some (.ref 92), some (.int p0), some (.int p1), some (.int p2), some (.int p3), some (.int zx6), some (.int zx10), none, none] [.int zx11, .ref 92] zI22 J (pd_RF Z) n := by
        obtain ⟨zg6, hF⟩ := pd_gd_some hF
        refine pi_12_21 C wd_5_146 (pd_bo_nar zg6) (pd_bo_fit zg6) (pd_lt (by decide) hn) sh_92 dX12_talk_302 ?_
        refine pd_memI (fun zI24 hzI24 => ?_)
        have hF := pd_let_at hF hzI24
        refine pd_iincG (zz := 1) C dX12_talk_305 rfl (by decide) rfl (fun zv4 hzv4 => ?_)
        have hF := pd_let_at hF hzv4
        refine pd_lsE (ls' := [some (.ref 92), some (.int p0), some (.int p1), some (.int p2), some (.int p3), some (.int zx6), some (.int zv4), none, none]) rfl ?_
        refine pd_goto (tgt := 258) C dX12_talk_308 (by decide) ?_
        exact ih _ _ hF
      replace hF := hS
      clear hS
      refine pd_if_eq (tgt := 301) C dX12_talk_269 (by decide) (fun zc9 => ?_) (fun zc9 => ?_)
      · have hF := pd_t zc9 hF
        refine pd_iconst (v := 0) C dX12_talk_301 (by decide) ?_
        have hF := hF.symm
        cases hF
        exact hJ302
      · have hF := pd_f zc9 hF
        refine pd_aload_n C dX12_talk_272 rfl rfl ?_
        refine gr_12_35 C wd_5_160 (pd_lt (by decide) hn) sh_92 (rf_92_35 _) dX12_talk_273 ?_
        refine pd_iload C dX12_talk_276 rfl ?_
        obtain ⟨zg7, hF⟩ := pd_gd_some hF
        refine pd_iald C (pd_lt (by decide) hn) sh_123 zg7 dX12_talk_278 ?_
        refine pd_aload_n C dX12_talk_279 rfl rfl ?_
        refine gr_12_20 C wd_5_145 (pd_lt (by decide) hn) sh_92 (rf_92_20 _) dX12_talk_280 ?_
        refine pd_iload C dX12_talk_283 rfl ?_
        obtain ⟨zg8, hF⟩ := pd_gd_some hF
        refine pd_iald C (pd_lt (by decide) hn) sh_109 zg8 dX12_talk_285 ?_
        obtain ⟨zx12, hS, hF⟩ := pd_bd_some hF
        have hJ294 : pd_V cx 0 0 294 [some (.ref 92), some (.int p0), some (.int p1), some (.int p2), some (.int p3), some (.int zx6), some (.int zx10), none, none] [.int zx12, .int (zI22 123 zx10.toNatClampNeg), .ref 92] zI22 J (pd_RF Z) n := by
          refine pd_icmp_ne (tgt := 301) C dX12_talk_294 (by decide) (fun zc7 => ?_) (fun zc7 => ?_)
          · have hF := pd_f zc7 hF
            refine pd_iconst (v := 0) C dX12_talk_301 (by decide) ?_
            have hF := hF.symm
            cases hF
            exact hJ302
          · have hF := pd_t zc7 hF
            refine pd_iconst (v := 1) C dX12_talk_297 (by decide) ?_
            refine pd_goto (tgt := 302) C dX12_talk_298 (by decide) ?_
            have hF := hF.symm
            cases hF
            exact hJ302
        replace hF := hS
        clear hS
        refine pd_if_ge (tgt := 293) C dX12_talk_286 (by decide) (fun zc8 => ?_) (fun zc8 => ?_)
        · have hF := pd_t zc8 hF
          refine pd_iconst (v := 0) C dX12_talk_293 (by decide) ?_
          have hF := hF.symm
          cases hF
          exact hJ294
        · have hF := pd_f zc8 hF
          refine pd_iconst (v := 1) C dX12_talk_289 (by decide) ?_
          refine pd_goto (tgt := 294) C dX12_talk_290 (by decide) ?_
          have hF := hF.symm
          cases hF
          exact hJ294
def fl_X12_talk_183 {O : Type} (p0 : Int32) (p1 : Int32) (p2 : Int32) (p3 : Int32) (kont : Int32 → pd_I → Option O) : Nat → Int32 → pd_I → Option O
  | 0, _, _ => none
  | fu + 1, zx6, zI14 => pd_bd (if p3 ≤ zx6 then some false else (if (zI14 92 21) = 0 then some true else (some false))) fun zc4 => if zc4 = true then pd_bd (fn_X12_half zI14 p0 p1 p2 0) fun zI16 => fl_X12_talk_208 p2 (fun zI18 => pd_bd (fn_X12_half zI18 p0 p1 p2 1) fun zI20 => pd_let (pd_ui zI20 92 21 1) fun zI21 => fl_X12_talk_258 p2 (fun zI23 => pd_let (zx6 + 1) fun zv5 => fl_X12_talk_183 p0 p1 p2 p3 kont fu zv5 zI23) pd_FU 0 zI21) pd_FU 0 zI16 else (kont zx6 zI14)
set_option maxRecDepth 100000 in
set_option maxHeartbeats 4000000 in
theorem el_X12_talk_183 {cx : pd_X} (C : pd_C cx "PathDecoderModel" cX12_talk rm_X12_talk) {p0 : Int32} {p1 : Int32} {p2 : Int32} {p3 : Int32} {J : pd_J} {Z : pd_R} {n : Nat} (hn : 133 ≤ n)  {O : Type} {kont : Int32 → pd_I → Option O} {out : O} (K : ∀ (zx7 : Int32) (zI15 : pd_I), kont zx7 zI15 = some out → pd_V cx 0 0 317 [some (.ref 92), none, none, some (.int p2), none, some (.int zx7), none, none, none] [] zI15 J (pd_RF Z) n) :
    ∀ (fu : Nat) (zx6 : Int32) (zI14 : pd_I), fl_X12_talk_183 p0 p1 p2 p3 kont fu zx6 zI14 = some out → pd_V cx 0 0 183 [some (.ref 92), some (.int p0), some (.int p1), some (.int p2), some (.int p3), some (.int zx6), none, none, none] [] zI14 J (pd_RF Z) n := by
  intro fu
  induction fu with
  | zero => intro zx6 zI14 hF; rw [fl_X12_talk_183] at hF; cases hF
  | succ fu ih =>
    intro zx6 zI14 hF
    rw [fl_X12_talk_183] at hF
    refine pd_iload C dX12_talk_183 rfl ?_
    refine pd_iload C dX12_talk_185 rfl ?_
    obtain ⟨zc4, hS, hF⟩ := pd_bd_some hF
    have hTzc4 : zc4 = true → pd_V cx 0 0 197 [some (.ref 92), some (.int p0), some (.int p1), some (.int p2), some (.int p3), some (.int zx6), none, none, none] [] zI14 J (pd_RF Z) n := by
      intro hc
      have hF := pd_t hc hF
      refine pd_aload_n C dX12_talk_197 rfl rfl ?_
      refine pd_iload_n C dX12_talk_198 rfl rfl ?_
      refine pd_iload_n C dX12_talk_199 rfl rfl ?_
      refine pd_iload_n C dX12_talk_200 rfl rfl ?_
      refine pd_iconst (v := 0) C dX12_talk_201 (by decide) ?_
      obtain ⟨zI16, zh10, hF⟩ := pd_bd_some hF
      refine pd_callV C [.int p0, .int p1, .int p2, .int 0] [] (em_X12_half (pd_C_st C) hn  zh10) mw_X12_half wd_7_3 rfl (by decide) (pd_lt (by decide) hn) sh_92 ⟨by decide, by decide, by decide, by decide⟩ rfl (Nat.le_of_ble_eq_true rfl) pd_oldL_same (fun _ _ => pd_old_same _) dX12_talk_202 (stk' := []) rfl ?_
      refine pd_iconst (v := 0) C dX12_talk_205 (by decide) ?_
      refine pd_istore (ls' := [some (.ref 92), some (.int p0), some (.int p1), some (.int p2), some (.int p3), some (.int zx6), some (.int 0), none, none]) C dX12_talk_206 (Nat.le_of_ble_eq_true rfl) rfl rfl ?_
      refine el_X12_talk_208 C hn (fun zI18 hF => ?_) pd_FU _ _ hF
      refine pd_aload_n C dX12_talk_242 rfl rfl ?_
      refine pd_iload_n C dX12_talk_243 rfl rfl ?_
      refine pd_iload_n C dX12_talk_244 rfl rfl ?_
      refine pd_iload_n C dX12_talk_245 rfl rfl ?_
      refine pd_iconst (v := 1) C dX12_talk_246 (by decide) ?_
      obtain ⟨zI20, zh11, hF⟩ := pd_bd_some hF
      refine pd_callV C [.int p0, .int p1, .int p2, .int 1] [] (em_X12_half (pd_C_st C) hn  zh11) mw_X12_half wd_7_3 rfl (by decide) (pd_lt (by decide) hn) sh_92 ⟨by decide, by decide, by decide, by decide⟩ rfl (Nat.le_of_ble_eq_true rfl) pd_oldL_same (fun _ _ => pd_old_same _) dX12_talk_247 (stk' := []) rfl ?_
      refine pd_aload_n C dX12_talk_250 rfl rfl ?_
      refine pd_iconst (v := 1) C dX12_talk_251 (by decide) ?_
      refine pi_12_21 C wd_5_146 (pd_bo_nar (by decide)) (pd_bo_fit (by decide)) (pd_lt (by decide) hn) sh_92 dX12_talk_252 ?_
      refine pd_memI (fun zI21 hzI21 => ?_)
      have hF := pd_let_at hF hzI21
      refine pd_iconst (v := 0) C dX12_talk_255 (by decide) ?_
      refine pd_istore (ls' := [some (.ref 92), some (.int p0), some (.int p1), some (.int p2), some (.int p3), some (.int zx6), some (.int 0), none, none]) C dX12_talk_256 (Nat.le_of_ble_eq_true rfl) rfl rfl ?_
      refine el_X12_talk_258 C hn (fun zI23 hF => ?_) pd_FU _ _ hF
      refine pd_iincG (zz := 1) C dX12_talk_311 rfl (by decide) rfl (fun zv5 hzv5 => ?_)
      have hF := pd_let_at hF hzv5
      refine pd_lsE (ls' := [some (.ref 92), some (.int p0), some (.int p1), some (.int p2), some (.int p3), some (.int zv5), none, none, none]) rfl ?_
      refine pd_goto (tgt := 183) C dX12_talk_314 (by decide) ?_
      exact ih _ _ hF
    have hEzc4 : zc4 = false → pd_V cx 0 0 317 [some (.ref 92), some (.int p0), some (.int p1), some (.int p2), some (.int p3), some (.int zx6), none, none, none] [] zI14 J (pd_RF Z) n := by
      intro hc
      have hF := pd_bf hc hF
      refine pd_wk (ls' := [some (.ref 92), none, none, some (.int p2), none, some (.int zx6), none, none, none]) (And.intro rfl (And.intro rfl (And.intro rfl True.intro))) ?_
      exact K _ _ hF
    replace hF := hS
    clear hS
    refine pd_icmp_ge (tgt := 317) C dX12_talk_187 (by decide) (fun zc12 => ?_) (fun zc12 => ?_)
    · have hF := pd_t zc12 hF
      cases hF
      exact hEzc4 rfl
    · have hF := pd_f zc12 hF
      refine pd_aload_n C dX12_talk_190 rfl rfl ?_
      refine gi_12_21 C wd_5_146 (pd_lt (by decide) hn) sh_92 dX12_talk_191 ?_
      refine pd_if_ne (tgt := 317) C dX12_talk_194 (by decide) (fun zc11 => ?_) (fun zc11 => ?_)
      · have hF := pd_f zc11 hF
        cases hF
        exact hEzc4 rfl
      · have hF := pd_t zc11 hF
        cases hF
        exact hTzc4 rfl
def fl_X12_talk_351 {O : Type} (p2 : Int32) (kont : pd_I → Option O) : Nat → Int32 → pd_I → Option O
  | 0, _, _ => none
  | fu + 1, zx13, zI30 => if p2 ≤ zx13 then kont zI30 else (pd_gd (pd_in zx13 200) (pd_bd (if 0 ≤ (zI30 109 zx13.toNatClampNeg) then some 0 else (some 1)) fun (zx14 : Int32) => pd_gd (pd_in zx13 1600) (pd_let (pd_ui zI30 105 zx13.toNatClampNeg zx14) fun zI32 => pd_let (zx13 + 1) fun zv6 => fl_X12_talk_351 p2 kont fu zv6 zI32)))
set_option maxRecDepth 100000 in
set_option maxHeartbeats 4000000 in
theorem el_X12_talk_351 {cx : pd_X} (C : pd_C cx "PathDecoderModel" cX12_talk rm_X12_talk) {p2 : Int32} {zx7 : Int32} {J : pd_J} {Z : pd_R} {n : Nat} (hn : 133 ≤ n)  {O : Type} {kont : pd_I → Option O} {out : O} (K : ∀ (zI31 : pd_I), kont zI31 = some out → pd_V cx 0 0 385 [none, none, none, none, none, some (.int zx7), none, none, none] [] zI31 J (pd_RF Z) n) :
    ∀ (fu : Nat) (zx13 : Int32) (zI30 : pd_I), fl_X12_talk_351 p2 kont fu zx13 zI30 = some out → pd_V cx 0 0 351 [some (.ref 92), none, none, some (.int p2), none, some (.int zx7), some (.int zx13), none, none] [] zI30 J (pd_RF Z) n := by
  intro fu
  induction fu with
  | zero => intro zx13 zI30 hF; rw [fl_X12_talk_351] at hF; cases hF
  | succ fu ih =>
    intro zx13 zI30 hF
    rw [fl_X12_talk_351] at hF
    refine pd_iload C dX12_talk_351 rfl ?_
    refine pd_iload_n C dX12_talk_353 rfl rfl ?_
    refine pd_icmp_ge (tgt := 385) C dX12_talk_354 (by decide) (fun zc14 => ?_) (fun zc14 => ?_)
    · have hF := pd_t zc14 hF
      refine pd_wk (ls' := [none, none, none, none, none, some (.int zx7), none, none, none]) (And.intro rfl True.intro) ?_
      exact K _ hF
    · have hF := pd_f zc14 hF
      refine pd_aload_n C dX12_talk_357 rfl rfl ?_
      refine gr_12_15 C wd_5_140 (pd_lt (by decide) hn) sh_92 (rf_92_15 _) dX12_talk_358 ?_
      refine pd_iload C dX12_talk_361 rfl ?_
      refine pd_aload_n C dX12_talk_363 rfl rfl ?_
      refine gr_12_20 C wd_5_145 (pd_lt (by decide) hn) sh_92 (rf_92_20 _) dX12_talk_364 ?_
      refine pd_iload C dX12_talk_367 rfl ?_
      obtain ⟨zg12, hF⟩ := pd_gd_some hF
      refine pd_iald C (pd_lt (by decide) hn) sh_109 zg12 dX12_talk_369 ?_
      obtain ⟨zx14, hS, hF⟩ := pd_bd_some hF
      have hJ378 : pd_V cx 0 0 378 [some (.ref 92), none, none, some (.int p2), none, some (.int zx7), some (.int zx13), none, none] [.int zx14, .int zx13, .ref 105] zI30 J (pd_RF Z) n := by
        obtain ⟨zg13, hF⟩ := pd_gd_some hF
        refine pd_iast C (pd_lt (by decide) hn) sh_105 zg13 dX12_talk_378 ?_
        refine pd_memI (fun zI32 hzI32 => ?_)
        have hF := pd_let_at hF hzI32
        refine pd_iincG (zz := 1) C dX12_talk_379 rfl (by decide) rfl (fun zv6 hzv6 => ?_)
        have hF := pd_let_at hF hzv6
        refine pd_lsE (ls' := [some (.ref 92), none, none, some (.int p2), none, some (.int zx7), some (.int zv6), none, none]) rfl ?_
        refine pd_goto (tgt := 351) C dX12_talk_382 (by decide) ?_
        exact ih _ _ hF
      replace hF := hS
      clear hS
      refine pd_if_ge (tgt := 377) C dX12_talk_370 (by decide) (fun zc13 => ?_) (fun zc13 => ?_)
      · have hF := pd_t zc13 hF
        refine pd_iconst (v := 0) C dX12_talk_377 (by decide) ?_
        have hF := hF.symm
        cases hF
        exact hJ378
      · have hF := pd_f zc13 hF
        refine pd_iconst (v := 1) C dX12_talk_373 (by decide) ?_
        refine pd_goto (tgt := 378) C dX12_talk_374 (by decide) ?_
        have hF := hF.symm
        cases hF
        exact hJ378
def fn_X12_talk (I : pd_I) (p0 : Int32) (p1 : Int32) (p2 : Int32) (p3 : Int32) : Option (Int32 × pd_I) := pd_bd2 (fn_X12_isCode I p0) fun zr1 zI1 => pd_jn (fun (zI2 : pd_I) => some (0, zI2)) fun zj1 => if zr1 = 0 then zj1 zI1 else (pd_bd2 (fn_X12_isRow zI1 p1 1) fun zr2 zI3 => if zr2 = 0 then zj1 zI3 else (pd_gd (pd_in p0 12) (pd_bd (if (zI3 97 p0.toNatClampNeg) = 5 then some 1 else (some 0)) fun (zx1 : Int32) => pd_bd2 (fn_X12_right zI3 zx1 2) fun zr3 zI4 => if zr3 = 0 then zj1 zI4 else (pd_bd2 (fn_X12_isN zI4 p2 3) fun zr4 zI5 => if zr4 = 0 then zj1 zI5 else (pd_bd (pd_bd (if p3 < 1 then some false else (if 10 < p3 then some false else (some true))) fun zc17 => if zc17 = true then some 1 else (some 0)) fun (zx2 : Int32) => pd_bd2 (fn_X12_right zI5 zx2 3) fun zr5 zI6 => if zr5 = 0 then zj1 zI6 else (pd_bd (fn_X12_isOrder zI6 p0 p2) fun zr6 => if zr6 = 0 then some ((-1), zI6) else (fl_X12_talk_91 p0 p1 p2 (fun zI8 => pd_let (pd_ui zI8 92 21 0) fun zI13 => fl_X12_talk_183 p0 p1 p2 p3 (fun zx7 zI15 => pd_let (pd_ui zI15 92 19 p2) fun zI25 => pd_let (pd_ui zI25 92 14 1) fun zI26 => pd_gd (pd_in 0 8) (pd_let (pd_ui zI26 106 (0 : Int32).toNatClampNeg 0) fun zI27 => pd_gd (pd_in 0 8) (pd_let (pd_ui zI27 107 (0 : Int32).toNatClampNeg 0) fun zI28 => pd_gd (pd_in 0 8) (pd_let (pd_ui zI28 108 (0 : Int32).toNatClampNeg p2) fun zI29 => fl_X12_talk_351 p2 (fun zI31 => some (zx7, zI31)) pd_FU 0 zI29)))) pd_FU 0 zI13) pd_FU 0 zI6)))))))
set_option maxRecDepth 100000 in
set_option maxHeartbeats 4000000 in
theorem em_X12_talk {l : Launch} {D : va_G} {tc : Nat → ClassId} (hst : l.stackTraces = false) {I : pd_I} {J : pd_J} {Z : pd_R} {n : Nat} {p0 : Int32} {p1 : Int32} {p2 : Int32} {p3 : Int32} (hn : 133 ≤ n)  {out : Int32 × pd_I} (hF : fn_X12_talk I p0 p1 p2 p3 = some out) :
    pd_M l D tc yX12_talk (.code yX12_talk cX12_talk 9 (Option.some Jvm.ClassFile.FieldType.int)) rm_X12_talk [.ref 92, .int p0, .int p1, .int p2, .int p3] I J (pd_RF Z) n (.ok (some (.int out.1))) out.2 J (pd_RF Z) n := by
  refine pd_open (own := "PathDecoderModel") (ls0 := [some (.ref 92), some (.int p0), some (.int p1), some (.int p2), some (.int p3), none, none, none, none]) (by decide) rfl (Nat.le_of_ble_eq_true rfl) rfl rfl hst (fun cx hl hD htc C hE htab hnm => ?_)
  subst hl hD htc
  unfold fn_X12_talk at hF
  refine pd_aload_n C dX12_talk_0 rfl rfl ?_
  refine pd_iload_n C dX12_talk_1 rfl rfl ?_
  obtain ⟨zr1, zI1, zh1, hF⟩ := pd_bd2_some hF
  refine pd_callV C [.int p0] [] (em_X12_isCode (pd_C_st C) hn  zh1) mw_X12_isCode wd_6_69 rfl (by decide) (pd_lt (by decide) hn) sh_92 ⟨by decide, by decide, by decide, by decide⟩ rfl (Nat.le_of_ble_eq_true rfl) pd_oldL_same (fun _ _ => pd_old_same _) dX12_talk_2 (stk' := [.int zr1]) rfl ?_
  refine pd_jn_use hF (fun j => ∀ (zI2 : pd_I), j zI2 = some out → pd_V cx 0 0 75 [none, none, none, none, none, none, none, none, none] [] zI2 J (pd_RF Z) n) (fun zI2 hF => ?_) (fun zj1 hzj1 hF => ?_)
  · refine pd_iconst (v := 0) C dX12_talk_75 (by decide) ?_
    cases hF
    exact pd_iret C hE rfl rfl rfl ⟨by decide, by decide⟩ dX12_talk_76
  · refine pd_if_eq (tgt := 75) C dX12_talk_5 (by decide) (fun zc24 => ?_) (fun zc24 => ?_)
    · have hF := pd_t zc24 hF
      refine pd_wk (ls' := [none, none, none, none, none, none, none, none, none]) True.intro ?_
      exact hzj1 _ hF
    · have hF := pd_f zc24 hF
      refine pd_aload_n C dX12_talk_8 rfl rfl ?_
      refine pd_iload_n C dX12_talk_9 rfl rfl ?_
      refine pd_iconst (v := 1) C dX12_talk_10 (by decide) ?_
      obtain ⟨zr2, zI3, zh2, hF⟩ := pd_bd2_some hF
      refine pd_callV C [.int p1, .int 1] [] (em_X12_isRow (pd_C_st C) hn  zh2) mw_X12_isRow wd_6_26 rfl (by decide) (pd_lt (by decide) hn) sh_92 ⟨by decide, by decide, by decide, by decide⟩ rfl (Nat.le_of_ble_eq_true rfl) pd_oldL_same (fun _ _ => pd_old_same _) dX12_talk_11 (stk' := [.int zr2]) rfl ?_
      refine pd_if_eq (tgt := 75) C dX12_talk_14 (by decide) (fun zc23 => ?_) (fun zc23 => ?_)
      · have hF := pd_t zc23 hF
        refine pd_wk (ls' := [none, none, none, none, none, none, none, none, none]) True.intro ?_
        exact hzj1 _ hF
      · have hF := pd_f zc23 hF
        refine pd_aload_n C dX12_talk_17 rfl rfl ?_
        refine pd_aload_n C dX12_talk_18 rfl rfl ?_
        refine gr_12_6 C wd_5_131 (pd_lt (by decide) hn) sh_92 (rf_92_6 _) dX12_talk_19 ?_
        refine pd_iload_n C dX12_talk_22 rfl rfl ?_
        obtain ⟨zg1, hF⟩ := pd_gd_some hF
        refine pd_iald C (pd_lt (by decide) hn) sh_97 zg1 dX12_talk_23 ?_
        refine pd_iconst (v := 5) C dX12_talk_24 (by decide) ?_
        obtain ⟨zx1, hS, hF⟩ := pd_bd_some hF
        have hJ33 : pd_V cx 0 0 33 [some (.ref 92), some (.int p0), some (.int p1), some (.int p2), some (.int p3), none, none, none, none] [.int zx1, .ref 92] zI3 J (pd_RF Z) n := by
          refine pd_iconst (v := 2) C dX12_talk_33 (by decide) ?_
          obtain ⟨zr3, zI4, zh3, hF⟩ := pd_bd2_some hF
          refine pd_callV C [.int zx1, .int 2] [] (em_X12_right (pd_C_st C) hn  zh3) mw_X12_right wd_6_30 rfl (by decide) (pd_lt (by decide) hn) sh_92 ⟨by decide, by decide, by decide, by decide⟩ rfl (Nat.le_of_ble_eq_true rfl) pd_oldL_same (fun _ _ => pd_old_same _) dX12_talk_34 (stk' := [.int zr3]) rfl ?_
          refine pd_if_eq (tgt := 75) C dX12_talk_37 (by decide) (fun zc21 => ?_) (fun zc21 => ?_)
          · have hF := pd_t zc21 hF
            refine pd_wk (ls' := [none, none, none, none, none, none, none, none, none]) True.intro ?_
            exact hzj1 _ hF
          · have hF := pd_f zc21 hF
            refine pd_aload_n C dX12_talk_40 rfl rfl ?_
            refine pd_iload_n C dX12_talk_41 rfl rfl ?_
            refine pd_iconst (v := 3) C dX12_talk_42 (by decide) ?_
            obtain ⟨zr4, zI5, zh4, hF⟩ := pd_bd2_some hF
            refine pd_callV C [.int p2, .int 3] [] (em_X12_isN (pd_C_st C) hn  zh4) mw_X12_isN wd_6_93 rfl (by decide) (pd_lt (by decide) hn) sh_92 ⟨by decide, by decide, by decide, by decide⟩ rfl (Nat.le_of_ble_eq_true rfl) pd_oldL_same (fun _ _ => pd_old_same _) dX12_talk_43 (stk' := [.int zr4]) rfl ?_
            refine pd_if_eq (tgt := 75) C dX12_talk_46 (by decide) (fun zc20 => ?_) (fun zc20 => ?_)
            · have hF := pd_t zc20 hF
              refine pd_wk (ls' := [none, none, none, none, none, none, none, none, none]) True.intro ?_
              exact hzj1 _ hF
            · have hF := pd_f zc20 hF
              refine pd_aload_n C dX12_talk_49 rfl rfl ?_
              refine pd_iload C dX12_talk_50 rfl ?_
              refine pd_iconst (v := 1) C dX12_talk_52 (by decide) ?_
              obtain ⟨zx2, hS, hF⟩ := pd_bd_some hF
              have hJ68 : pd_V cx 0 0 68 [some (.ref 92), some (.int p0), some (.int p1), some (.int p2), some (.int p3), none, none, none, none] [.int zx2, .ref 92] zI5 J (pd_RF Z) n := by
                refine pd_iconst (v := 3) C dX12_talk_68 (by decide) ?_
                obtain ⟨zr5, zI6, zh5, hF⟩ := pd_bd2_some hF
                refine pd_callV C [.int zx2, .int 3] [] (em_X12_right (pd_C_st C) hn  zh5) mw_X12_right wd_6_30 rfl (by decide) (pd_lt (by decide) hn) sh_92 ⟨by decide, by decide, by decide, by decide⟩ rfl (Nat.le_of_ble_eq_true rfl) pd_oldL_same (fun _ _ => pd_old_same _) dX12_talk_69 (stk' := [.int zr5]) rfl ?_
                refine pd_if_ne (tgt := 77) C dX12_talk_72 (by decide) (fun zc16 => ?_) (fun zc16 => ?_)
                · have hF := pd_f zc16 hF
                  refine pd_aload_n C dX12_talk_77 rfl rfl ?_
                  refine pd_iload_n C dX12_talk_78 rfl rfl ?_
                  refine pd_iload_n C dX12_talk_79 rfl rfl ?_
                  obtain ⟨zr6, zh6, hF⟩ := pd_bd_some hF
                  refine pd_callV C [.int p0, .int p2] [] (em_X12_isOrder (pd_C_st C) hn  zh6) mw_X12_isOrder wd_6_120 rfl (by decide) (pd_lt (by decide) hn) sh_92 ⟨by decide, by decide, by decide, by decide⟩ rfl (Nat.le_of_ble_eq_true rfl) pd_oldL_same (fun _ _ => pd_old_same _) dX12_talk_80 (stk' := [.int zr6]) rfl ?_
                  refine pd_if_ne (tgt := 88) C dX12_talk_83 (by decide) (fun zc15 => ?_) (fun zc15 => ?_)
                  · have hF := pd_f zc15 hF
                    refine pd_iconst (v := 0) C dX12_talk_88 (by decide) ?_
                    refine pd_istore (ls' := [some (.ref 92), some (.int p0), some (.int p1), some (.int p2), some (.int p3), some (.int 0), none, none, none]) C dX12_talk_89 (Nat.le_of_ble_eq_true rfl) rfl rfl ?_
                    refine el_X12_talk_91 C hn (fun zI8 hF => ?_) pd_FU _ _ hF
                    refine pd_iconst (v := 0) C dX12_talk_175 (by decide) ?_
                    refine pd_istore (ls' := [some (.ref 92), some (.int p0), some (.int p1), some (.int p2), some (.int p3), some (.int 0), none, none, none]) C dX12_talk_176 (Nat.le_of_ble_eq_true rfl) rfl rfl ?_
                    refine pd_aload_n C dX12_talk_178 rfl rfl ?_
                    refine pd_iconst (v := 0) C dX12_talk_179 (by decide) ?_
                    refine pi_12_21 C wd_5_146 (pd_bo_nar (by decide)) (pd_bo_fit (by decide)) (pd_lt (by decide) hn) sh_92 dX12_talk_180 ?_
                    refine pd_memI (fun zI13 hzI13 => ?_)
                    have hF := pd_let_at hF hzI13
                    refine el_X12_talk_183 C hn (fun zx7 zI15 hF => ?_) pd_FU _ _ hF
                    refine pd_aload_n C dX12_talk_317 rfl rfl ?_
                    refine pd_iload_n C dX12_talk_318 rfl rfl ?_
                    refine pi_12_19 C wd_5_144 rfl rfl (pd_lt (by decide) hn) sh_92 dX12_talk_319 ?_
                    refine pd_memI (fun zI25 hzI25 => ?_)
                    have hF := pd_let_at hF hzI25
                    refine pd_aload_n C dX12_talk_322 rfl rfl ?_
                    refine pd_iconst (v := 1) C dX12_talk_323 (by decide) ?_
                    refine pi_12_14 C wd_5_139 rfl rfl (pd_lt (by decide) hn) sh_92 dX12_talk_324 ?_
                    refine pd_memI (fun zI26 hzI26 => ?_)
                    have hF := pd_let_at hF hzI26
                    refine pd_aload_n C dX12_talk_327 rfl rfl ?_
                    refine gr_12_16 C wd_5_141 (pd_lt (by decide) hn) sh_92 (rf_92_16 _) dX12_talk_328 ?_
                    refine pd_iconst (v := 0) C dX12_talk_331 (by decide) ?_
                    refine pd_iconst (v := 0) C dX12_talk_332 (by decide) ?_
                    obtain ⟨zg9, hF⟩ := pd_gd_some hF
                    refine pd_iast C (pd_lt (by decide) hn) sh_106 zg9 dX12_talk_333 ?_
                    refine pd_memI (fun zI27 hzI27 => ?_)
                    have hF := pd_let_at hF hzI27
                    refine pd_aload_n C dX12_talk_334 rfl rfl ?_
                    refine gr_12_17 C wd_5_142 (pd_lt (by decide) hn) sh_92 (rf_92_17 _) dX12_talk_335 ?_
                    refine pd_iconst (v := 0) C dX12_talk_338 (by decide) ?_
                    refine pd_iconst (v := 0) C dX12_talk_339 (by decide) ?_
                    obtain ⟨zg10, hF⟩ := pd_gd_some hF
                    refine pd_iast C (pd_lt (by decide) hn) sh_107 zg10 dX12_talk_340 ?_
                    refine pd_memI (fun zI28 hzI28 => ?_)
                    have hF := pd_let_at hF hzI28
                    refine pd_aload_n C dX12_talk_341 rfl rfl ?_
                    refine gr_12_18 C wd_5_143 (pd_lt (by decide) hn) sh_92 (rf_92_18 _) dX12_talk_342 ?_
                    refine pd_iconst (v := 0) C dX12_talk_345 (by decide) ?_
                    refine pd_iload_n C dX12_talk_346 rfl rfl ?_
                    obtain ⟨zg11, hF⟩ := pd_gd_some hF
                    refine pd_iast C (pd_lt (by decide) hn) sh_108 zg11 dX12_talk_347 ?_
                    refine pd_memI (fun zI29 hzI29 => ?_)
                    have hF := pd_let_at hF hzI29
                    refine pd_iconst (v := 0) C dX12_talk_348 (by decide) ?_
                    refine pd_istore (ls' := [some (.ref 92), none, none, some (.int p2), none, some (.int zx7), some (.int 0), none, none]) C dX12_talk_349 (Nat.le_of_ble_eq_true rfl) rfl rfl ?_
                    refine el_X12_talk_351 C hn (fun zI31 hF => ?_) pd_FU _ _ hF
                    refine pd_iload C dX12_talk_385 rfl ?_
                    cases hF
                    exact pd_iret C hE rfl rfl rfl ⟨by decide, by decide⟩ dX12_talk_387
                  · have hF := pd_t zc15 hF
                    refine pd_iconst (v := (-1)) C dX12_talk_86 (by decide) ?_
                    cases hF
                    exact pd_iret C hE rfl rfl rfl ⟨by decide, by decide⟩ dX12_talk_87
                · have hF := pd_t zc16 hF
                  refine pd_wk (ls' := [none, none, none, none, none, none, none, none, none]) True.intro ?_
                  exact hzj1 _ hF
              replace hF := hS
              clear hS
              obtain ⟨zc17, hS, hF⟩ := pd_bd_some hF
              have hTzc17 : zc17 = true → pd_V cx 0 0 63 [some (.ref 92), some (.int p0), some (.int p1), some (.int p2), some (.int p3), none, none, none, none] [.ref 92] zI5 J (pd_RF Z) n := by
                intro hc
                have hF := pd_t hc hF
                refine pd_iconst (v := 1) C dX12_talk_63 (by decide) ?_
                refine pd_goto (tgt := 68) C dX12_talk_64 (by decide) ?_
                have hF := hF.symm
                cases hF
                exact hJ68
              have hEzc17 : zc17 = false → pd_V cx 0 0 67 [some (.ref 92), some (.int p0), some (.int p1), some (.int p2), some (.int p3), none, none, none, none] [.ref 92] zI5 J (pd_RF Z) n := by
                intro hc
                have hF := pd_bf hc hF
                refine pd_iconst (v := 0) C dX12_talk_67 (by decide) ?_
                have hF := hF.symm
                cases hF
                exact hJ68
              replace hF := hS
              clear hS
              refine pd_icmp_lt (tgt := 67) C dX12_talk_53 (by decide) (fun zc19 => ?_) (fun zc19 => ?_)
              · have hF := pd_t zc19 hF
                cases hF
                exact hEzc17 rfl
              · have hF := pd_f zc19 hF
                refine pd_iload C dX12_talk_56 rfl ?_
                refine pd_bipush (v := 10) C dX12_talk_58 (by decide) ?_
                refine pd_icmp_gt (tgt := 67) C dX12_talk_60 (by decide) (fun zc18 => ?_) (fun zc18 => ?_)
                · have hF := pd_t zc18 hF
                  cases hF
                  exact hEzc17 rfl
                · have hF := pd_f zc18 hF
                  cases hF
                  exact hTzc17 rfl
        replace hF := hS
        clear hS
        refine pd_icmp_ne (tgt := 32) C dX12_talk_25 (by decide) (fun zc22 => ?_) (fun zc22 => ?_)
        · have hF := pd_f zc22 hF
          refine pd_iconst (v := 0) C dX12_talk_32 (by decide) ?_
          have hF := hF.symm
          cases hF
          exact hJ33
        · have hF := pd_t zc22 hF
          refine pd_iconst (v := 1) C dX12_talk_28 (by decide) ?_
          refine pd_goto (tgt := 33) C dX12_talk_29 (by decide) ?_
          have hF := hF.symm
          cases hF
          exact hJ33

def fn_X12_agreed (I : pd_I) : Option (Int32 × pd_I) := pd_let (pd_ui I 92 0 0) fun zI1 => pd_gd (pd_bo (zI1 92 21)) (some ((zI1 92 21), zI1))
set_option maxRecDepth 100000 in
set_option maxHeartbeats 4000000 in
theorem em_X12_agreed {l : Launch} {D : va_G} {tc : Nat → ClassId} (hst : l.stackTraces = false) {I : pd_I} {J : pd_J} {Z : pd_R} {n : Nat} (hn : 133 ≤ n)  {out : Int32 × pd_I} (hF : fn_X12_agreed I = some out) :
    pd_M l D tc yX12_agreed (.code yX12_agreed cX12_agreed 1 (Option.some Jvm.ClassFile.FieldType.boolean)) rm_X12_agreed [.ref 92] I J (pd_RF Z) n (.ok (some (.int out.1))) out.2 J (pd_RF Z) n := by
  refine pd_open (own := "PathDecoderModel") (ls0 := [some (.ref 92)]) (by decide) rfl (Nat.le_of_ble_eq_true rfl) rfl rfl hst (fun cx hl hD htc C hE htab hnm => ?_)
  subst hl hD htc
  unfold fn_X12_agreed at hF
  refine pd_aload_n C dX12_agreed_0 rfl rfl ?_
  refine pd_iconst (v := 0) C dX12_agreed_1 (by decide) ?_
  refine pi_12_0 C wd_5_125 rfl rfl (pd_lt (by decide) hn) sh_92 dX12_agreed_2 ?_
  refine pd_memI (fun zI1 hzI1 => ?_)
  have hF := pd_let_at hF hzI1
  refine pd_aload_n C dX12_agreed_5 rfl rfl ?_
  refine gi_12_21 C wd_5_146 (pd_lt (by decide) hn) sh_92 dX12_agreed_6 ?_
  obtain ⟨zg1, hF⟩ := pd_gd_some hF
  cases hF
  exact pd_iret C hE rfl rfl (pd_bo_nar zg1) ⟨by decide, by decide⟩ dX12_agreed_9

def fn_X12_seems (I : pd_I) (p0 : Int32) : Option (Int32 × pd_I) := pd_let (pd_ui I 92 0 0) fun zI1 => pd_bd (pd_bd (if p0 < 0 then some false else (if (zI1 92 19) ≤ p0 then some false else (some true))) fun zc2 => if zc2 = true then some 1 else (some 0)) fun (zx1 : Int32) => pd_bd2 (fn_X12_right zI1 zx1 1) fun zr1 zI2 => pd_bd (if zr1 = 0 then some 0 else (pd_gd (pd_in p0 200) (some (zI2 109 p0.toNatClampNeg)))) fun (zx2 : Int32) => some (zx2, zI2)
set_option maxRecDepth 100000 in
set_option maxHeartbeats 4000000 in
theorem em_X12_seems {l : Launch} {D : va_G} {tc : Nat → ClassId} (hst : l.stackTraces = false) {I : pd_I} {J : pd_J} {Z : pd_R} {n : Nat} {p0 : Int32} (hn : 133 ≤ n)  {out : Int32 × pd_I} (hF : fn_X12_seems I p0 = some out) :
    pd_M l D tc yX12_seems (.code yX12_seems cX12_seems 2 (Option.some Jvm.ClassFile.FieldType.int)) rm_X12_seems [.ref 92, .int p0] I J (pd_RF Z) n (.ok (some (.int out.1))) out.2 J (pd_RF Z) n := by
  refine pd_open (own := "PathDecoderModel") (ls0 := [some (.ref 92), some (.int p0)]) (by decide) rfl (Nat.le_of_ble_eq_true rfl) rfl rfl hst (fun cx hl hD htc C hE htab hnm => ?_)
  subst hl hD htc
  unfold fn_X12_seems at hF
  refine pd_aload_n C dX12_seems_0 rfl rfl ?_
  refine pd_iconst (v := 0) C dX12_seems_1 (by decide) ?_
  refine pi_12_0 C wd_5_125 rfl rfl (pd_lt (by decide) hn) sh_92 dX12_seems_2 ?_
  refine pd_memI (fun zI1 hzI1 => ?_)
  have hF := pd_let_at hF hzI1
  refine pd_aload_n C dX12_seems_5 rfl rfl ?_
  refine pd_iload_n C dX12_seems_6 rfl rfl ?_
  obtain ⟨zx1, hS, hF⟩ := pd_bd_some hF
  have hJ23 : pd_V cx 0 0 23 [some (.ref 92), some (.int p0)] [.int zx1, .ref 92] zI1 J (pd_RF Z) n := by
    refine pd_iconst (v := 1) C dX12_seems_23 (by decide) ?_
    obtain ⟨zr1, zI2, zh1, hF⟩ := pd_bd2_some hF
    refine pd_callV C [.int zx1, .int 1] [] (em_X12_right (pd_C_st C) hn  zh1) mw_X12_right wd_6_30 rfl (by decide) (pd_lt (by decide) hn) sh_92 ⟨by decide, by decide, by decide, by decide⟩ rfl (Nat.le_of_ble_eq_true rfl) pd_oldL_same (fun _ _ => pd_old_same _) dX12_seems_24 (stk' := [.int zr1]) rfl ?_
    obtain ⟨zx2, hS, hF⟩ := pd_bd_some hF
    have hJ40 : pd_V cx 0 0 40 [none, none] [.int zx2] zI2 J (pd_RF Z) n := by
      cases hF
      exact pd_iret C hE rfl rfl rfl ⟨by decide, by decide⟩ dX12_seems_40
    replace hF := hS
    clear hS
    refine pd_if_eq (tgt := 39) C dX12_seems_27 (by decide) (fun zc1 => ?_) (fun zc1 => ?_)
    · have hF := pd_t zc1 hF
      refine pd_iconst (v := 0) C dX12_seems_39 (by decide) ?_
      refine pd_wk (ls' := [none, none]) True.intro ?_
      have hF := hF.symm
      cases hF
      exact hJ40
    · have hF := pd_f zc1 hF
      refine pd_aload_n C dX12_seems_30 rfl rfl ?_
      refine gr_12_20 C wd_5_145 (pd_lt (by decide) hn) sh_92 (rf_92_20 _) dX12_seems_31 ?_
      refine pd_iload_n C dX12_seems_34 rfl rfl ?_
      obtain ⟨zg1, hF⟩ := pd_gd_some hF
      refine pd_iald C (pd_lt (by decide) hn) sh_109 zg1 dX12_seems_35 ?_
      refine pd_goto (tgt := 40) C dX12_seems_36 (by decide) ?_
      refine pd_wk (ls' := [none, none]) True.intro ?_
      have hF := hF.symm
      cases hF
      exact hJ40
  replace hF := hS
  clear hS
  obtain ⟨zc2, hS, hF⟩ := pd_bd_some hF
  have hTzc2 : zc2 = true → pd_V cx 0 0 18 [some (.ref 92), some (.int p0)] [.ref 92] zI1 J (pd_RF Z) n := by
    intro hc
    have hF := pd_t hc hF
    refine pd_iconst (v := 1) C dX12_seems_18 (by decide) ?_
    refine pd_goto (tgt := 23) C dX12_seems_19 (by decide) ?_
    have hF := hF.symm
    cases hF
    exact hJ23
  have hEzc2 : zc2 = false → pd_V cx 0 0 22 [some (.ref 92), some (.int p0)] [.ref 92] zI1 J (pd_RF Z) n := by
    intro hc
    have hF := pd_bf hc hF
    refine pd_iconst (v := 0) C dX12_seems_22 (by decide) ?_
    have hF := hF.symm
    cases hF
    exact hJ23
  replace hF := hS
  clear hS
  refine pd_if_lt (tgt := 22) C dX12_seems_7 (by decide) (fun zc4 => ?_) (fun zc4 => ?_)
  · have hF := pd_t zc4 hF
    cases hF
    exact hEzc2 rfl
  · have hF := pd_f zc4 hF
    refine pd_iload_n C dX12_seems_10 rfl rfl ?_
    refine pd_aload_n C dX12_seems_11 rfl rfl ?_
    refine gi_12_19 C wd_5_144 (pd_lt (by decide) hn) sh_92 dX12_seems_12 ?_
    refine pd_icmp_ge (tgt := 22) C dX12_seems_15 (by decide) (fun zc3 => ?_) (fun zc3 => ?_)
    · have hF := pd_t zc3 hF
      cases hF
      exact hEzc2 rfl
    · have hF := pd_f zc3 hF
      cases hF
      exact hTzc2 rfl

def fn_X12_way (I : pd_I) (p0 : Int32) (p1 : Int32) : Option (Int32 × pd_I) := pd_let (pd_ui I 92 0 0) fun zI1 => pd_bd (pd_bd (if p0 < 0 then some false else (if (zI1 92 14) ≤ p0 then some false else (if p1 < (-3) then some false else (pd_gd (pd_in p0 8) (if (zI1 108 p0.toNatClampNeg) ≤ p1 then some false else (some true)))))) fun zc5 => if zc5 = true then some 1 else (some 0)) fun (zx1 : Int32) => pd_bd2 (fn_X12_right zI1 zx1 1) fun zr1 zI2 => if zr1 = 0 then some (0, zI2) else (pd_bd (if p1 = (-1) then pd_gd (pd_in p0 8) (some (zI2 106 p0.toNatClampNeg)) else (if p1 = (-2) then pd_gd (pd_in p0 8) (some (zI2 107 p0.toNatClampNeg)) else (if p1 = (-3) then pd_gd (pd_in p0 8) (some (zI2 108 p0.toNatClampNeg)) else (pd_gd (pd_in ((200 * p0) + p1) 1600) (some (zI2 105 ((200 * p0) + p1).toNatClampNeg)))))) fun (zx2 : Int32) => some (zx2, zI2))
set_option maxRecDepth 100000 in
set_option maxHeartbeats 4000000 in
theorem em_X12_way {l : Launch} {D : va_G} {tc : Nat → ClassId} (hst : l.stackTraces = false) {I : pd_I} {J : pd_J} {Z : pd_R} {n : Nat} {p0 : Int32} {p1 : Int32} (hn : 133 ≤ n)  {out : Int32 × pd_I} (hF : fn_X12_way I p0 p1 = some out) :
    pd_M l D tc yX12_way (.code yX12_way cX12_way 3 (Option.some Jvm.ClassFile.FieldType.int)) rm_X12_way [.ref 92, .int p0, .int p1] I J (pd_RF Z) n (.ok (some (.int out.1))) out.2 J (pd_RF Z) n := by
  refine pd_open (own := "PathDecoderModel") (ls0 := [some (.ref 92), some (.int p0), some (.int p1)]) (by decide) rfl (Nat.le_of_ble_eq_true rfl) rfl rfl hst (fun cx hl hD htc C hE htab hnm => ?_)
  subst hl hD htc
  unfold fn_X12_way at hF
  refine pd_aload_n C dX12_way_0 rfl rfl ?_
  refine pd_iconst (v := 0) C dX12_way_1 (by decide) ?_
  refine pi_12_0 C wd_5_125 rfl rfl (pd_lt (by decide) hn) sh_92 dX12_way_2 ?_
  refine pd_memI (fun zI1 hzI1 => ?_)
  have hF := pd_let_at hF hzI1
  refine pd_aload_n C dX12_way_5 rfl rfl ?_
  refine pd_iload_n C dX12_way_6 rfl rfl ?_
  obtain ⟨zx1, hS, hF⟩ := pd_bd_some hF
  have hJ39 : pd_V cx 0 0 39 [some (.ref 92), some (.int p0), some (.int p1)] [.int zx1, .ref 92] zI1 J (pd_RF Z) n := by
    refine pd_iconst (v := 1) C dX12_way_39 (by decide) ?_
    obtain ⟨zr1, zI2, zh1, hF⟩ := pd_bd2_some hF
    refine pd_callV C [.int zx1, .int 1] [] (em_X12_right (pd_C_st C) hn  zh1) mw_X12_right wd_6_30 rfl (by decide) (pd_lt (by decide) hn) sh_92 ⟨by decide, by decide, by decide, by decide⟩ rfl (Nat.le_of_ble_eq_true rfl) pd_oldL_same (fun _ _ => pd_old_same _) dX12_way_40 (stk' := [.int zr1]) rfl ?_
    refine pd_if_ne (tgt := 48) C dX12_way_43 (by decide) (fun zc4 => ?_) (fun zc4 => ?_)
    · have hF := pd_f zc4 hF
      refine pd_iload_n C dX12_way_48 rfl rfl ?_
      refine pd_iconst (v := (-1)) C dX12_way_49 (by decide) ?_
      obtain ⟨zx2, hS, hF⟩ := pd_bd_some hF
      have hJ104 : pd_V cx 0 0 104 [none, none, none] [.int zx2] zI2 J (pd_RF Z) n := by
        cases hF
        exact pd_iret C hE rfl rfl rfl ⟨by decide, by decide⟩ dX12_way_104
      replace hF := hS
      clear hS
      refine pd_icmp_ne (tgt := 62) C dX12_way_50 (by decide) (fun zc3 => ?_) (fun zc3 => ?_)
      · have hF := pd_f zc3 hF
        refine pd_iload_n C dX12_way_62 rfl rfl ?_
        refine pd_bipush (v := (-2)) C dX12_way_63 (by decide) ?_
        refine pd_icmp_ne (tgt := 77) C dX12_way_65 (by decide) (fun zc2 => ?_) (fun zc2 => ?_)
        · have hF := pd_f zc2 hF
          refine pd_iload_n C dX12_way_77 rfl rfl ?_
          refine pd_bipush (v := (-3)) C dX12_way_78 (by decide) ?_
          refine pd_icmp_ne (tgt := 92) C dX12_way_80 (by decide) (fun zc1 => ?_) (fun zc1 => ?_)
          · have hF := pd_f zc1 hF
            refine pd_aload_n C dX12_way_92 rfl rfl ?_
            refine gr_12_15 C wd_5_140 (pd_lt (by decide) hn) sh_92 (rf_92_15 _) dX12_way_93 ?_
            refine pd_sipush (v := 200) C dX12_way_96 (by decide) ?_
            refine pd_iload_n C dX12_way_99 rfl rfl ?_
            refine pd_imul C dX12_way_100 ?_
            refine pd_iload_n C dX12_way_101 rfl rfl ?_
            refine pd_iadd C dX12_way_102 ?_
            obtain ⟨zg1, hF⟩ := pd_gd_some hF
            refine pd_iald C (pd_lt (by decide) hn) sh_105 zg1 dX12_way_103 ?_
            refine pd_wk (ls' := [none, none, none]) True.intro ?_
            have hF := hF.symm
            cases hF
            exact hJ104
          · have hF := pd_t zc1 hF
            refine pd_aload_n C dX12_way_83 rfl rfl ?_
            refine gr_12_18 C wd_5_143 (pd_lt (by decide) hn) sh_92 (rf_92_18 _) dX12_way_84 ?_
            refine pd_iload_n C dX12_way_87 rfl rfl ?_
            obtain ⟨zg2, hF⟩ := pd_gd_some hF
            refine pd_iald C (pd_lt (by decide) hn) sh_108 zg2 dX12_way_88 ?_
            refine pd_goto (tgt := 104) C dX12_way_89 (by decide) ?_
            refine pd_wk (ls' := [none, none, none]) True.intro ?_
            have hF := hF.symm
            cases hF
            exact hJ104
        · have hF := pd_t zc2 hF
          refine pd_aload_n C dX12_way_68 rfl rfl ?_
          refine gr_12_17 C wd_5_142 (pd_lt (by decide) hn) sh_92 (rf_92_17 _) dX12_way_69 ?_
          refine pd_iload_n C dX12_way_72 rfl rfl ?_
          obtain ⟨zg3, hF⟩ := pd_gd_some hF
          refine pd_iald C (pd_lt (by decide) hn) sh_107 zg3 dX12_way_73 ?_
          refine pd_goto (tgt := 104) C dX12_way_74 (by decide) ?_
          refine pd_wk (ls' := [none, none, none]) True.intro ?_
          have hF := hF.symm
          cases hF
          exact hJ104
      · have hF := pd_t zc3 hF
        refine pd_aload_n C dX12_way_53 rfl rfl ?_
        refine gr_12_16 C wd_5_141 (pd_lt (by decide) hn) sh_92 (rf_92_16 _) dX12_way_54 ?_
        refine pd_iload_n C dX12_way_57 rfl rfl ?_
        obtain ⟨zg4, hF⟩ := pd_gd_some hF
        refine pd_iald C (pd_lt (by decide) hn) sh_106 zg4 dX12_way_58 ?_
        refine pd_goto (tgt := 104) C dX12_way_59 (by decide) ?_
        refine pd_wk (ls' := [none, none, none]) True.intro ?_
        have hF := hF.symm
        cases hF
        exact hJ104
    · have hF := pd_t zc4 hF
      refine pd_iconst (v := 0) C dX12_way_46 (by decide) ?_
      cases hF
      exact pd_iret C hE rfl rfl rfl ⟨by decide, by decide⟩ dX12_way_47
  replace hF := hS
  clear hS
  obtain ⟨zc5, hS, hF⟩ := pd_bd_some hF
  have hTzc5 : zc5 = true → pd_V cx 0 0 34 [some (.ref 92), some (.int p0), some (.int p1)] [.ref 92] zI1 J (pd_RF Z) n := by
    intro hc
    have hF := pd_t hc hF
    refine pd_iconst (v := 1) C dX12_way_34 (by decide) ?_
    refine pd_goto (tgt := 39) C dX12_way_35 (by decide) ?_
    have hF := hF.symm
    cases hF
    exact hJ39
  have hEzc5 : zc5 = false → pd_V cx 0 0 38 [some (.ref 92), some (.int p0), some (.int p1)] [.ref 92] zI1 J (pd_RF Z) n := by
    intro hc
    have hF := pd_bf hc hF
    refine pd_iconst (v := 0) C dX12_way_38 (by decide) ?_
    have hF := hF.symm
    cases hF
    exact hJ39
  replace hF := hS
  clear hS
  refine pd_if_lt (tgt := 38) C dX12_way_7 (by decide) (fun zc9 => ?_) (fun zc9 => ?_)
  · have hF := pd_t zc9 hF
    cases hF
    exact hEzc5 rfl
  · have hF := pd_f zc9 hF
    refine pd_iload_n C dX12_way_10 rfl rfl ?_
    refine pd_aload_n C dX12_way_11 rfl rfl ?_
    refine gi_12_14 C wd_5_139 (pd_lt (by decide) hn) sh_92 dX12_way_12 ?_
    refine pd_icmp_ge (tgt := 38) C dX12_way_15 (by decide) (fun zc8 => ?_) (fun zc8 => ?_)
    · have hF := pd_t zc8 hF
      cases hF
      exact hEzc5 rfl
    · have hF := pd_f zc8 hF
      refine pd_iload_n C dX12_way_18 rfl rfl ?_
      refine pd_bipush (v := (-3)) C dX12_way_19 (by decide) ?_
      refine pd_icmp_lt (tgt := 38) C dX12_way_21 (by decide) (fun zc7 => ?_) (fun zc7 => ?_)
      · have hF := pd_t zc7 hF
        cases hF
        exact hEzc5 rfl
      · have hF := pd_f zc7 hF
        refine pd_iload_n C dX12_way_24 rfl rfl ?_
        refine pd_aload_n C dX12_way_25 rfl rfl ?_
        refine gr_12_18 C wd_5_143 (pd_lt (by decide) hn) sh_92 (rf_92_18 _) dX12_way_26 ?_
        refine pd_iload_n C dX12_way_29 rfl rfl ?_
        obtain ⟨zg5, hF⟩ := pd_gd_some hF
        refine pd_iald C (pd_lt (by decide) hn) sh_108 zg5 dX12_way_30 ?_
        refine pd_icmp_ge (tgt := 38) C dX12_way_31 (by decide) (fun zc6 => ?_) (fun zc6 => ?_)
        · have hF := pd_t zc6 hF
          cases hF
          exact hEzc5 rfl
        · have hF := pd_f zc6 hF
          cases hF
          exact hTzc5 rfl

