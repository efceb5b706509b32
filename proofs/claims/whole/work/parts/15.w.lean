def fl_X6_reach_2 {O : Type} (p1 : Int32) (kont : pd_I → Option O) : Nat → Int32 → pd_I → Option O
  | 0, _, _ => none
  | fu + 1, zx1, zI1 => if (p1 * 64) ≤ zx1 then kont zI1 else (pd_gd (pd_in zx1 12800) (pd_let (pd_ui zI1 44 zx1.toNatClampNeg 536870912) fun zI3 => pd_let (zx1 + 1) fun zv1 => fl_X6_reach_2 p1 kont fu zv1 zI3))
set_option maxRecDepth 100000 in
set_option maxHeartbeats 4000000 in
theorem el_X6_reach_2 {cx : pd_X} (C : pd_C cx "PathDecoder$Seeming" cX6_reach rm_X6_reach) {p0 : Int32} {p1 : Int32} {J : pd_J} {Z : pd_R} {n : Nat} (hn : 133 ≤ n)  {O : Type} {kont : pd_I → Option O} {out : O} (K : ∀ (zI2 : pd_I), kont zI2 = some out → pd_V cx 0 0 24 [some (.ref 43), some (.int p0), some (.int p1), none, none, none, none] [] zI2 J (pd_RF Z) n) :
    ∀ (fu : Nat) (zx1 : Int32) (zI1 : pd_I), fl_X6_reach_2 p1 kont fu zx1 zI1 = some out → pd_V cx 0 0 2 [some (.ref 43), some (.int p0), some (.int p1), some (.int zx1), none, none, none] [] zI1 J (pd_RF Z) n := by
  intro fu
  induction fu with
  | zero => intro zx1 zI1 hF; rw [fl_X6_reach_2] at hF; cases hF
  | succ fu ih =>
    intro zx1 zI1 hF
    rw [fl_X6_reach_2] at hF
    refine pd_iload_n C dX6_reach_2 rfl rfl ?_
    refine pd_iload_n C dX6_reach_3 rfl rfl ?_
    refine pd_bipush (v := 64) C dX6_reach_4 (by decide) ?_
    refine pd_imul C dX6_reach_6 ?_
    refine pd_icmp_ge (tgt := 24) C dX6_reach_7 (by decide) (fun zc1 => ?_) (fun zc1 => ?_)
    · have hF := pd_t zc1 hF
      refine pd_wk (ls' := [some (.ref 43), some (.int p0), some (.int p1), none, none, none, none]) (And.intro rfl (And.intro rfl (And.intro rfl True.intro))) ?_
      exact K _ hF
    · have hF := pd_f zc1 hF
      refine pd_aload_n C dX6_reach_10 rfl rfl ?_
      refine gr_6_1 C wd_1_184 (pd_lt (by decide) hn) sh_43 (rf_43_1 _) dX6_reach_11 ?_
      refine pd_iload_n C dX6_reach_14 rfl rfl ?_
      refine pd_ldc C wd_4_185 dX6_reach_15 ?_
      obtain ⟨zg1, hF⟩ := pd_gd_some hF
      refine pd_iast C (pd_lt (by decide) hn) sh_44 zg1 dX6_reach_17 ?_
      refine pd_memI (fun zI3 hzI3 => ?_)
      have hF := pd_let_at hF hzI3
      refine pd_iincG (zz := 1) C dX6_reach_18 rfl (by decide) rfl (fun zv1 hzv1 => ?_)
      have hF := pd_let_at hF hzv1
      refine pd_lsE (ls' := [some (.ref 43), some (.int p0), some (.int p1), some (.int zv1), none, none, none]) rfl ?_
      refine pd_goto (tgt := 2) C dX6_reach_21 (by decide) ?_
      exact ih _ _ hF
def fl_X6_reach_43 {O : Type} (zx2 : Int32) (kont : pd_I → Option O) : Nat → Int32 → pd_I → Option O
  | 0, _, _ => none
  | fu + 1, zx3, zI7 => if (2 * (zI7 11 3)) ≤ zx3 then kont zI7 else (pd_let ((zx2 * 64) + (zx3 / 2)) fun zv2 => pd_gd (pd_in zx3 128) (pd_let (((zx2 + 1) * 64) + (zI7 12 zx3.toNatClampNeg)) fun zv3 => pd_gd (pd_in zv2 12800) (pd_bd (if 536870912 ≤ (zI7 44 zv2.toNatClampNeg) then some zI7 else (pd_gd (pd_in zv3 12800) (pd_gd (pd_in zv2 12800) (pd_bd (fn_X1_priceOf zI7 zx2 zx3) fun zr1 => pd_gd (pd_in zv3 12800) (pd_let (pd_ui zI7 44 zv3.toNatClampNeg (pd_min (zI7 44 zv3.toNatClampNeg) ((zI7 44 zv2.toNatClampNeg) + zr1))) fun zI10 => some zI10))))) fun (zI9 : pd_I) => pd_let (zx3 + 1) fun zv4 => fl_X6_reach_43 zx2 kont fu zv4 zI9)))
set_option maxRecDepth 100000 in
set_option maxHeartbeats 4000000 in
theorem el_X6_reach_43 {cx : pd_X} (C : pd_C cx "PathDecoder$Seeming" cX6_reach rm_X6_reach) {p1 : Int32} {zx2 : Int32} {J : pd_J} {Z : pd_R} {n : Nat} (hn : 133 ≤ n)  {O : Type} {kont : pd_I → Option O} {out : O} (K : ∀ (zI8 : pd_I), kont zI8 = some out → pd_V cx 0 0 140 [some (.ref 43), none, some (.int p1), some (.int zx2), none, none, none] [] zI8 J (pd_RF Z) n) :
    ∀ (fu : Nat) (zx3 : Int32) (zI7 : pd_I), fl_X6_reach_43 zx2 kont fu zx3 zI7 = some out → pd_V cx 0 0 43 [some (.ref 43), none, some (.int p1), some (.int zx2), some (.int zx3), none, none] [] zI7 J (pd_RF Z) n := by
  intro fu
  induction fu with
  | zero => intro zx3 zI7 hF; rw [fl_X6_reach_43] at hF; cases hF
  | succ fu ih =>
    intro zx3 zI7 hF
    rw [fl_X6_reach_43] at hF
    refine pd_iload C dX6_reach_43 rfl ?_
    refine pd_iconst (v := 2) C dX6_reach_45 (by decide) ?_
    refine pd_aload_n C dX6_reach_46 rfl rfl ?_
    refine gr_6_0 C wd_1_183 (pd_lt (by decide) hn) sh_43 (rf_43_0 _) dX6_reach_47 ?_
    refine gi_1_3 C wd_1_88 (pd_lt (by decide) hn) sh_11 dX6_reach_50 ?_
    refine pd_imul C dX6_reach_53 ?_
    refine pd_icmp_ge (tgt := 140) C dX6_reach_54 (by decide) (fun zc3 => ?_) (fun zc3 => ?_)
    · have hF := pd_t zc3 hF
      refine pd_wk (ls' := [some (.ref 43), none, some (.int p1), some (.int zx2), none, none, none]) (And.intro rfl (And.intro rfl (And.intro rfl True.intro))) ?_
      exact K _ hF
    · have hF := pd_f zc3 hF
      refine pd_iload_n C dX6_reach_57 rfl rfl ?_
      refine pd_bipush (v := 64) C dX6_reach_58 (by decide) ?_
      refine pd_imul C dX6_reach_60 ?_
      refine pd_iload C dX6_reach_61 rfl ?_
      refine pd_iconst (v := 2) C dX6_reach_63 (by decide) ?_
      refine pd_idiv C dX6_reach_64 (by decide) ?_
      refine pd_iadd C dX6_reach_65 ?_
      refine pd_topi (fun zv2 hzv2 => ?_)
      have hF := pd_let_at hF hzv2
      refine pd_istore (ls' := [some (.ref 43), none, some (.int p1), some (.int zx2), some (.int zx3), some (.int zv2), none]) C dX6_reach_66 (Nat.le_of_ble_eq_true rfl) rfl rfl ?_
      refine pd_iload_n C dX6_reach_68 rfl rfl ?_
      refine pd_iconst (v := 1) C dX6_reach_69 (by decide) ?_
      refine pd_iadd C dX6_reach_70 ?_
      refine pd_bipush (v := 64) C dX6_reach_71 (by decide) ?_
      refine pd_imul C dX6_reach_73 ?_
      refine pd_aload_n C dX6_reach_74 rfl rfl ?_
      refine gr_6_0 C wd_1_183 (pd_lt (by decide) hn) sh_43 (rf_43_0 _) dX6_reach_75 ?_
      refine gr_1_0 C wd_1_80 (pd_lt (by decide) hn) sh_11 (rf_11_0 _) dX6_reach_78 ?_
      refine pd_iload C dX6_reach_81 rfl ?_
      obtain ⟨zg3, hF⟩ := pd_gd_some hF
      refine pd_iald C (pd_lt (by decide) hn) sh_12 zg3 dX6_reach_83 ?_
      refine pd_iadd C dX6_reach_84 ?_
      refine pd_topi (fun zv3 hzv3 => ?_)
      have hF := pd_let_at hF hzv3
      refine pd_istore (ls' := [some (.ref 43), none, some (.int p1), some (.int zx2), some (.int zx3), some (.int zv2), some (.int zv3)]) C dX6_reach_85 (Nat.le_of_ble_eq_true rfl) rfl rfl ?_
      refine pd_aload_n C dX6_reach_87 rfl rfl ?_
      refine gr_6_1 C wd_1_184 (pd_lt (by decide) hn) sh_43 (rf_43_1 _) dX6_reach_88 ?_
      refine pd_iload C dX6_reach_91 rfl ?_
      obtain ⟨zg4, hF⟩ := pd_gd_some hF
      refine pd_iald C (pd_lt (by decide) hn) sh_44 zg4 dX6_reach_93 ?_
      refine pd_ldc C wd_4_185 dX6_reach_94 ?_
      obtain ⟨zI9, hS, hF⟩ := pd_bd_some hF
      have hJ134 : pd_V cx 0 0 134 [some (.ref 43), none, some (.int p1), some (.int zx2), some (.int zx3), none, none] [] zI9 J (pd_RF Z) n := by
        refine pd_iincG (zz := 1) C dX6_reach_134 rfl (by decide) rfl (fun zv4 hzv4 => ?_)
        have hF := pd_let_at hF hzv4
        refine pd_lsE (ls' := [some (.ref 43), none, some (.int p1), some (.int zx2), some (.int zv4), none, none]) rfl ?_
        refine pd_goto (tgt := 43) C dX6_reach_137 (by decide) ?_
        exact ih _ _ hF
      replace hF := hS
      clear hS
      refine pd_icmp_ge (tgt := 134) C dX6_reach_96 (by decide) (fun zc2 => ?_) (fun zc2 => ?_)
      · have hF := pd_t zc2 hF
        refine pd_wk (ls' := [some (.ref 43), none, some (.int p1), some (.int zx2), some (.int zx3), none, none]) (And.intro rfl (And.intro rfl (And.intro rfl (And.intro rfl True.intro)))) ?_
        have hF := hF.symm
        cases hF
        exact hJ134
      · have hF := pd_f zc2 hF
        refine pd_aload_n C dX6_reach_99 rfl rfl ?_
        refine gr_6_1 C wd_1_184 (pd_lt (by decide) hn) sh_43 (rf_43_1 _) dX6_reach_100 ?_
        refine pd_iload C dX6_reach_103 rfl ?_
        refine pd_aload_n C dX6_reach_105 rfl rfl ?_
        refine gr_6_1 C wd_1_184 (pd_lt (by decide) hn) sh_43 (rf_43_1 _) dX6_reach_106 ?_
        refine pd_iload C dX6_reach_109 rfl ?_
        obtain ⟨zg5, hF⟩ := pd_gd_some hF
        refine pd_iald C (pd_lt (by decide) hn) sh_44 zg5 dX6_reach_111 ?_
        refine pd_aload_n C dX6_reach_112 rfl rfl ?_
        refine gr_6_1 C wd_1_184 (pd_lt (by decide) hn) sh_43 (rf_43_1 _) dX6_reach_113 ?_
        refine pd_iload C dX6_reach_116 rfl ?_
        obtain ⟨zg6, hF⟩ := pd_gd_some hF
        refine pd_iald C (pd_lt (by decide) hn) sh_44 zg6 dX6_reach_118 ?_
        refine pd_aload_n C dX6_reach_119 rfl rfl ?_
        refine gr_6_0 C wd_1_183 (pd_lt (by decide) hn) sh_43 (rf_43_0 _) dX6_reach_120 ?_
        refine pd_iload_n C dX6_reach_123 rfl rfl ?_
        refine pd_iload C dX6_reach_124 rfl ?_
        obtain ⟨zr1, zh1, hF⟩ := pd_bd_some hF
        refine pd_callV C [.int zx2, .int zx3] [.int (zI7 44 zv2.toNatClampNeg), .int (zI7 44 zv3.toNatClampNeg), .int zv3, .ref 44] (em_X1_priceOf (pd_C_st C) hn  zh1) mw_X1_priceOf wd_4_192 rfl (by decide) (pd_lt (by decide) hn) sh_11 ⟨by decide, by decide, by decide, by decide⟩ rfl (Nat.le_of_ble_eq_true rfl) pd_oldL_same (fun _ _ => pd_old_same _) dX6_reach_126 (stk' := [.int zr1, .int (zI7 44 zv2.toNatClampNeg), .int (zI7 44 zv3.toNatClampNeg), .int zv3, .ref 44]) rfl ?_
        refine pd_iadd C dX6_reach_129 ?_
        refine pd_mmin C wd_4_193 wd_2_187 wd_1_18 wd_2_188 ⟨by decide, Nat.le_of_ble_eq_true rfl, by decide, by decide⟩ dX6_reach_130 ?_
        obtain ⟨zg7, hF⟩ := pd_gd_some hF
        refine pd_iast C (pd_lt (by decide) hn) sh_44 zg7 dX6_reach_133 ?_
        refine pd_memI (fun zI10 hzI10 => ?_)
        have hF := pd_let_at hF hzI10
        refine pd_wk (ls' := [some (.ref 43), none, some (.int p1), some (.int zx2), some (.int zx3), none, none]) (And.intro rfl (And.intro rfl (And.intro rfl (And.intro rfl True.intro)))) ?_
        have hF := hF.symm
        cases hF
        exact hJ134
def fl_X6_reach_33 {O : Type} (p1 : Int32) (kont : pd_I → Option O) : Nat → Int32 → pd_I → Option O
  | 0, _, _ => none
  | fu + 1, zx2, zI5 => if (p1 - 1) ≤ zx2 then kont zI5 else (fl_X6_reach_43 zx2 (fun zI8 => pd_let (zx2 + 1) fun zv5 => fl_X6_reach_33 p1 kont fu zv5 zI8) pd_FU 0 zI5)
set_option maxRecDepth 100000 in
set_option maxHeartbeats 4000000 in
theorem el_X6_reach_33 {cx : pd_X} (C : pd_C cx "PathDecoder$Seeming" cX6_reach rm_X6_reach) {p1 : Int32} {J : pd_J} {Z : pd_R} {n : Nat} (hn : 133 ≤ n)  {O : Type} {kont : pd_I → Option O} {out : O} (K : ∀ (zI6 : pd_I), kont zI6 = some out → pd_V cx 0 0 146 [none, none, none, none, none, none, none] [] zI6 J (pd_RF Z) n) :
    ∀ (fu : Nat) (zx2 : Int32) (zI5 : pd_I), fl_X6_reach_33 p1 kont fu zx2 zI5 = some out → pd_V cx 0 0 33 [some (.ref 43), none, some (.int p1), some (.int zx2), none, none, none] [] zI5 J (pd_RF Z) n := by
  intro fu
  induction fu with
  | zero => intro zx2 zI5 hF; rw [fl_X6_reach_33] at hF; cases hF
  | succ fu ih =>
    intro zx2 zI5 hF
    rw [fl_X6_reach_33] at hF
    refine pd_iload_n C dX6_reach_33 rfl rfl ?_
    refine pd_iload_n C dX6_reach_34 rfl rfl ?_
    refine pd_iconst (v := 1) C dX6_reach_35 (by decide) ?_
    refine pd_isub C dX6_reach_36 ?_
    refine pd_icmp_ge (tgt := 146) C dX6_reach_37 (by decide) (fun zc4 => ?_) (fun zc4 => ?_)
    · have hF := pd_t zc4 hF
      refine pd_wk (ls' := [none, none, none, none, none, none, none]) True.intro ?_
      exact K _ hF
    · have hF := pd_f zc4 hF
      refine pd_iconst (v := 0) C dX6_reach_40 (by decide) ?_
      refine pd_istore (ls' := [some (.ref 43), none, some (.int p1), some (.int zx2), some (.int 0), none, none]) C dX6_reach_41 (Nat.le_of_ble_eq_true rfl) rfl rfl ?_
      refine el_X6_reach_43 C hn (fun zI8 hF => ?_) pd_FU _ _ hF
      refine pd_iincG (zz := 1) C dX6_reach_140 rfl (by decide) rfl (fun zv5 hzv5 => ?_)
      have hF := pd_let_at hF hzv5
      refine pd_lsE (ls' := [some (.ref 43), none, some (.int p1), some (.int zv5), none, none, none]) rfl ?_
      refine pd_goto (tgt := 33) C dX6_reach_143 (by decide) ?_
      exact ih _ _ hF
def fn_X6_reach (I : pd_I) (p0 : Int32) (p1 : Int32) : Option pd_I := fl_X6_reach_2 p1 (fun zI2 => pd_gd (pd_in p0 12800) (pd_let (pd_ui zI2 44 p0.toNatClampNeg 0) fun zI4 => fl_X6_reach_33 p1 (fun zI6 => some zI6) pd_FU 0 zI4)) pd_FU 0 I
set_option maxRecDepth 100000 in
set_option maxHeartbeats 4000000 in
theorem em_X6_reach {l : Launch} {D : va_G} {tc : Nat → ClassId} (hst : l.stackTraces = false) {I : pd_I} {J : pd_J} {Z : pd_R} {n : Nat} {p0 : Int32} {p1 : Int32} (hn : 133 ≤ n)  {out : pd_I} (hF : fn_X6_reach I p0 p1 = some out) :
    pd_M l D tc yX6_reach (.code yX6_reach cX6_reach 7 (Option.none : Option Jvm.ClassFile.FieldType)) rm_X6_reach [.ref 43, .int p0, .int p1] I J (pd_RF Z) n (.ok (none)) out J (pd_RF Z) n := by
  refine pd_open (own := "PathDecoder$Seeming") (ls0 := [some (.ref 43), some (.int p0), some (.int p1), none, none, none, none]) (by decide) rfl (Nat.le_of_ble_eq_true rfl) rfl rfl hst (fun cx hl hD htc C hE htab hnm => ?_)
  subst hl hD htc
  unfold fn_X6_reach at hF
  refine pd_iconst (v := 0) C dX6_reach_0 (by decide) ?_
  refine pd_istore_n (ls' := [some (.ref 43), some (.int p0), some (.int p1), some (.int 0), none, none, none]) C dX6_reach_1 rfl (Nat.le_of_ble_eq_true rfl) rfl rfl ?_
  refine el_X6_reach_2 C hn (fun zI2 hF => ?_) pd_FU _ _ hF
  refine pd_aload_n C dX6_reach_24 rfl rfl ?_
  refine gr_6_1 C wd_1_184 (pd_lt (by decide) hn) sh_43 (rf_43_1 _) dX6_reach_25 ?_
  refine pd_iload_n C dX6_reach_28 rfl rfl ?_
  refine pd_iconst (v := 0) C dX6_reach_29 (by decide) ?_
  obtain ⟨zg2, hF⟩ := pd_gd_some hF
  refine pd_iast C (pd_lt (by decide) hn) sh_44 zg2 dX6_reach_30 ?_
  refine pd_memI (fun zI4 hzI4 => ?_)
  have hF := pd_let_at hF hzI4
  refine pd_iconst (v := 0) C dX6_reach_31 (by decide) ?_
  refine pd_istore_n (ls' := [some (.ref 43), some (.int p0), some (.int p1), some (.int 0), none, none, none]) C dX6_reach_32 rfl (Nat.le_of_ble_eq_true rfl) rfl rfl ?_
  refine pd_wk (ls' := [some (.ref 43), none, some (.int p1), some (.int 0), none, none, none]) (And.intro rfl (And.intro rfl (And.intro rfl True.intro))) ?_
  refine el_X6_reach_33 C hn (fun zI6 hF => ?_) pd_FU _ _ hF
  cases hF
  exact pd_vret C hE rfl ⟨by decide, by decide⟩ dX6_reach_146

def fn_X6_behind (I : pd_I) (Z : pd_R) (n : Nat) (p0 : Int32) (p1 : Int32) : Option Int32 := pd_bd (Z 43 3) fun zq1 => pd_gd (pd_isArr zq1 64 n) (pd_gd (pd_in p1 128) (pd_gd (pd_in (I 12 p1.toNatClampNeg) 64) (pd_let (I zq1 (I 12 p1.toNatClampNeg).toNatClampNeg) fun zv1 => pd_bd (if 536870912 ≤ zv1 then some 536870912 else (pd_bd (fn_X1_priceOf I p0 p1) fun zr1 => some (zv1 + zr1))) fun (zx1 : Int32) => some zx1)))
set_option maxRecDepth 100000 in
set_option maxHeartbeats 4000000 in
theorem em_X6_behind {l : Launch} {D : va_G} {tc : Nat → ClassId} (hst : l.stackTraces = false) {I : pd_I} {J : pd_J} {Z : pd_R} {n : Nat} {p0 : Int32} {p1 : Int32} (hn : 133 ≤ n)  {out : Int32} (hF : fn_X6_behind I Z n p0 p1 = some out) :
    pd_M l D tc yX6_behind (.code yX6_behind cX6_behind 4 (Option.some Jvm.ClassFile.FieldType.int)) rm_X6_behind [.ref 43, .int p0, .int p1] I J (pd_RF Z) n (.ok (some (.int out))) I J (pd_RF Z) n := by
  refine pd_open (own := "PathDecoder$Seeming") (ls0 := [some (.ref 43), some (.int p0), some (.int p1), none]) (by decide) rfl (Nat.le_of_ble_eq_true rfl) rfl rfl hst (fun cx hl hD htc C hE htab hnm => ?_)
  subst hl hD htc
  unfold fn_X6_behind at hF
  refine pd_aload_n C dX6_behind_0 rfl rfl ?_
  obtain ⟨zq1, hzq1, hF⟩ := pd_bd_some hF
  obtain ⟨zg1, hF⟩ := pd_gd_some hF
  refine gr_6_3 C wd_1_186 (pd_lt (by decide) hn) sh_43 ((pd_RF_dyn rfl).trans hzq1) dX6_behind_1 ?_
  refine pd_aload_n C dX6_behind_4 rfl rfl ?_
  refine gr_6_0 C wd_1_183 (pd_lt (by decide) hn) sh_43 (rf_43_0 _) dX6_behind_5 ?_
  refine gr_1_0 C wd_1_80 (pd_lt (by decide) hn) sh_11 (rf_11_0 _) dX6_behind_8 ?_
  refine pd_iload_n C dX6_behind_11 rfl rfl ?_
  obtain ⟨zg2, hF⟩ := pd_gd_some hF
  refine pd_iald C (pd_lt (by decide) hn) sh_12 zg2 dX6_behind_12 ?_
  obtain ⟨zg3, hF⟩ := pd_gd_some hF
  refine pd_iald C (pd_arr_lt zg1) (pd_arr_sh zg1) zg3 dX6_behind_13 ?_
  refine pd_topi (fun zv1 hzv1 => ?_)
  have hF := pd_let_at hF hzv1
  refine pd_istore_n (ls' := [some (.ref 43), some (.int p0), some (.int p1), some (.int zv1)]) C dX6_behind_14 rfl (Nat.le_of_ble_eq_true rfl) rfl rfl ?_
  refine pd_iload_n C dX6_behind_15 rfl rfl ?_
  refine pd_ldc C wd_4_185 dX6_behind_16 ?_
  obtain ⟨zx1, hS, hF⟩ := pd_bd_some hF
  have hJ37 : pd_V cx 0 0 37 [none, none, none, none] [.int zx1] I J (pd_RF Z) n := by
    cases hF
    exact pd_iret C hE rfl rfl rfl ⟨by decide, by decide⟩ dX6_behind_37
  replace hF := hS
  clear hS
  refine pd_icmp_ge (tgt := 35) C dX6_behind_18 (by decide) (fun zc1 => ?_) (fun zc1 => ?_)
  · have hF := pd_t zc1 hF
    refine pd_ldc C wd_4_185 dX6_behind_35 ?_
    refine pd_wk (ls' := [none, none, none, none]) True.intro ?_
    have hF := hF.symm
    cases hF
    exact hJ37
  · have hF := pd_f zc1 hF
    refine pd_iload_n C dX6_behind_21 rfl rfl ?_
    refine pd_aload_n C dX6_behind_22 rfl rfl ?_
    refine gr_6_0 C wd_1_183 (pd_lt (by decide) hn) sh_43 (rf_43_0 _) dX6_behind_23 ?_
    refine pd_iload_n C dX6_behind_26 rfl rfl ?_
    refine pd_iload_n C dX6_behind_27 rfl rfl ?_
    obtain ⟨zr1, zh1, hF⟩ := pd_bd_some hF
    refine pd_callV C [.int p0, .int p1] [.int zv1] (em_X1_priceOf (pd_C_st C) hn  zh1) mw_X1_priceOf wd_4_192 rfl (by decide) (pd_lt (by decide) hn) sh_11 ⟨by decide, by decide, by decide, by decide⟩ rfl (Nat.le_of_ble_eq_true rfl) pd_oldL_same (fun _ _ => pd_old_same _) dX6_behind_28 (stk' := [.int zr1, .int zv1]) rfl ?_
    refine pd_iadd C dX6_behind_31 ?_
    refine pd_goto (tgt := 37) C dX6_behind_32 (by decide) ?_
    refine pd_wk (ls' := [none, none, none, none]) True.intro ?_
    have hF := hF.symm
    cases hF
    exact hJ37

def fl_X6_meet_2 {O : Type} (Z : pd_R) (n : Nat) (kont : pd_I → Option O) : Nat → Int32 → pd_I → Option O
  | 0, _, _ => none
  | fu + 1, zx1, zI1 => if (zI1 11 3) ≤ zx1 then kont zI1 else (pd_bd (Z 43 3) fun zq1 => pd_gd (pd_isArr zq1 64 n) (pd_gd (pd_in zx1 64) (pd_gd (pd_in zx1 64) (pd_let (pd_ui zI1 zq1 zx1.toNatClampNeg (zI1 14 zx1.toNatClampNeg)) fun zI3 => pd_let (zx1 + 1) fun zv1 => fl_X6_meet_2 Z n kont fu zv1 zI3))))
set_option maxRecDepth 100000 in
set_option maxHeartbeats 4000000 in
theorem el_X6_meet_2 {cx : pd_X} (C : pd_C cx "PathDecoder$Seeming" cX6_meet rm_X6_meet) {p0 : Int32} {J : pd_J} {Z : pd_R} {n : Nat} (hn : 133 ≤ n)  {O : Type} {kont : pd_I → Option O} {out : O} (K : ∀ (zI2 : pd_I), kont zI2 = some out → pd_V cx 0 0 34 [some (.ref 43), some (.int p0), none, none, none, none, none] [] zI2 J (pd_RF Z) n) :
    ∀ (fu : Nat) (zx1 : Int32) (zI1 : pd_I), fl_X6_meet_2 Z n kont fu zx1 zI1 = some out → pd_V cx 0 0 2 [some (.ref 43), some (.int p0), some (.int zx1), none, none, none, none] [] zI1 J (pd_RF Z) n := by
  intro fu
  induction fu with
  | zero => intro zx1 zI1 hF; rw [fl_X6_meet_2] at hF; cases hF
  | succ fu ih =>
    intro zx1 zI1 hF
    rw [fl_X6_meet_2] at hF
    refine pd_iload_n C dX6_meet_2 rfl rfl ?_
    refine pd_aload_n C dX6_meet_3 rfl rfl ?_
    refine gr_6_0 C wd_1_183 (pd_lt (by decide) hn) sh_43 (rf_43_0 _) dX6_meet_4 ?_
    refine gi_1_3 C wd_1_88 (pd_lt (by decide) hn) sh_11 dX6_meet_7 ?_
    refine pd_icmp_ge (tgt := 34) C dX6_meet_10 (by decide) (fun zc1 => ?_) (fun zc1 => ?_)
    · have hF := pd_t zc1 hF
      refine pd_wk (ls' := [some (.ref 43), some (.int p0), none, none, none, none, none]) (And.intro rfl (And.intro rfl True.intro)) ?_
      exact K _ hF
    · have hF := pd_f zc1 hF
      refine pd_aload_n C dX6_meet_13 rfl rfl ?_
      obtain ⟨zq1, hzq1, hF⟩ := pd_bd_some hF
      obtain ⟨zg1, hF⟩ := pd_gd_some hF
      refine gr_6_3 C wd_1_186 (pd_lt (by decide) hn) sh_43 ((pd_RF_dyn rfl).trans hzq1) dX6_meet_14 ?_
      refine pd_iload_n C dX6_meet_17 rfl rfl ?_
      refine pd_aload_n C dX6_meet_18 rfl rfl ?_
      refine gr_6_0 C wd_1_183 (pd_lt (by decide) hn) sh_43 (rf_43_0 _) dX6_meet_19 ?_
      refine gr_1_2 C wd_1_85 (pd_lt (by decide) hn) sh_11 (rf_11_2 _) dX6_meet_22 ?_
      refine pd_iload_n C dX6_meet_25 rfl rfl ?_
      obtain ⟨zg2, hF⟩ := pd_gd_some hF
      refine pd_iald C (pd_lt (by decide) hn) sh_14 zg2 dX6_meet_26 ?_
      obtain ⟨zg3, hF⟩ := pd_gd_some hF
      refine pd_iast C (pd_arr_lt zg1) (pd_arr_sh zg1) zg3 dX6_meet_27 ?_
      refine pd_memI (fun zI3 hzI3 => ?_)
      have hF := pd_let_at hF hzI3
      refine pd_iincG (zz := 1) C dX6_meet_28 rfl (by decide) rfl (fun zv1 hzv1 => ?_)
      have hF := pd_let_at hF hzv1
      refine pd_lsE (ls' := [some (.ref 43), some (.int p0), some (.int zv1), none, none, none, none]) rfl ?_
      refine pd_goto (tgt := 2) C dX6_meet_31 (by decide) ?_
      exact ih _ _ hF
def fl_X6_meet_44 {O : Type} (zx2 : Int32) (zZ1 : pd_R) (n : Nat) (kont : pd_I → Option O) : Nat → Int32 → pd_I → Option O
  | 0, _, _ => none
  | fu + 1, zx3, zI6 => if (zI6 11 3) ≤ zx3 then kont zI6 else (pd_gd (pd_in ((zx2 * 64) + zx3) 12800) (pd_let (zI6 44 ((zx2 * 64) + zx3).toNatClampNeg) fun zv3 => pd_bd (fn_X6_behind zI6 zZ1 n zx2 (2 * zx3)) fun zr1 => pd_bd (fn_X6_behind zI6 zZ1 n zx2 ((2 * zx3) + 1)) fun zr2 => pd_bd (zZ1 43 2) fun zq2 => pd_gd (pd_isArr zq2 64 n) (pd_gd (pd_in zx3 64) (pd_let (pd_ui zI6 zq2 zx3.toNatClampNeg (pd_min zr1 zr2)) fun zI8 => pd_bd (if 536870912 ≤ zv3 then some zI8 else (pd_gd (pd_in zx2 200) (pd_gd (pd_in zx2 200) (pd_let (pd_ui zI8 47 zx2.toNatClampNeg (pd_min (zI8 47 zx2.toNatClampNeg) (zv3 + zr1))) fun zI10 => pd_gd (pd_in zx2 200) (pd_gd (pd_in zx2 200) (pd_let (pd_ui zI10 48 zx2.toNatClampNeg (pd_min (zI10 48 zx2.toNatClampNeg) (zv3 + zr2))) fun zI11 => some zI11)))))) fun (zI9 : pd_I) => pd_let (zx3 + 1) fun zv4 => fl_X6_meet_44 zx2 zZ1 n kont fu zv4 zI9))))
set_option maxRecDepth 100000 in
set_option maxHeartbeats 4000000 in
theorem el_X6_meet_44 {cx : pd_X} (C : pd_C cx "PathDecoder$Seeming" cX6_meet rm_X6_meet) {zx2 : Int32} {J : pd_J} {zZ1 : pd_R} {n : Nat} (hn : 133 ≤ n)  {O : Type} {kont : pd_I → Option O} {out : O} (K : ∀ (zI7 : pd_I), kont zI7 = some out → pd_V cx 0 0 156 [some (.ref 43), none, some (.int zx2), none, none, none, none] [] zI7 J (pd_RF zZ1) n) :
    ∀ (fu : Nat) (zx3 : Int32) (zI6 : pd_I), fl_X6_meet_44 zx2 zZ1 n kont fu zx3 zI6 = some out → pd_V cx 0 0 44 [some (.ref 43), none, some (.int zx2), some (.int zx3), none, none, none] [] zI6 J (pd_RF zZ1) n := by
  intro fu
  induction fu with
  | zero => intro zx3 zI6 hF; rw [fl_X6_meet_44] at hF; cases hF
  | succ fu ih =>
    intro zx3 zI6 hF
    rw [fl_X6_meet_44] at hF
    refine pd_iload_n C dX6_meet_44 rfl rfl ?_
    refine pd_aload_n C dX6_meet_45 rfl rfl ?_
    refine gr_6_0 C wd_1_183 (pd_lt (by decide) hn) sh_43 (rf_43_0 _) dX6_meet_46 ?_
    refine gi_1_3 C wd_1_88 (pd_lt (by decide) hn) sh_11 dX6_meet_49 ?_
    refine pd_icmp_ge (tgt := 156) C dX6_meet_52 (by decide) (fun zc3 => ?_) (fun zc3 => ?_)
    · have hF := pd_t zc3 hF
      refine pd_wk (ls' := [some (.ref 43), none, some (.int zx2), none, none, none, none]) (And.intro rfl (And.intro rfl True.intro)) ?_
      exact K _ hF
    · have hF := pd_f zc3 hF
      refine pd_aload_n C dX6_meet_55 rfl rfl ?_
      refine gr_6_1 C wd_1_184 (pd_lt (by decide) hn) sh_43 (rf_43_1 _) dX6_meet_56 ?_
      refine pd_iload_n C dX6_meet_59 rfl rfl ?_
      refine pd_bipush (v := 64) C dX6_meet_60 (by decide) ?_
      refine pd_imul C dX6_meet_62 ?_
      refine pd_iload_n C dX6_meet_63 rfl rfl ?_
      refine pd_iadd C dX6_meet_64 ?_
      obtain ⟨zg4, hF⟩ := pd_gd_some hF
      refine pd_iald C (pd_lt (by decide) hn) sh_44 zg4 dX6_meet_65 ?_
      refine pd_topi (fun zv3 hzv3 => ?_)
      have hF := pd_let_at hF hzv3
      refine pd_istore (ls' := [some (.ref 43), none, some (.int zx2), some (.int zx3), some (.int zv3), none, none]) C dX6_meet_66 (Nat.le_of_ble_eq_true rfl) rfl rfl ?_
      refine pd_aload_n C dX6_meet_68 rfl rfl ?_
      refine pd_iload_n C dX6_meet_69 rfl rfl ?_
      refine pd_iconst (v := 2) C dX6_meet_70 (by decide) ?_
      refine pd_iload_n C dX6_meet_71 rfl rfl ?_
      refine pd_imul C dX6_meet_72 ?_
      obtain ⟨zr1, zh1, hF⟩ := pd_bd_some hF
      refine pd_callV C [.int zx2, .int (2 * zx3)] [] (em_X6_behind (pd_C_st C) hn  zh1) mw_X6_behind wd_4_198 rfl (by decide) (pd_lt (by decide) hn) sh_43 ⟨by decide, by decide, by decide, by decide⟩ rfl (Nat.le_of_ble_eq_true rfl) pd_oldL_same (fun _ _ => pd_old_same _) dX6_meet_73 (stk' := [.int zr1]) rfl ?_
      refine pd_istore (ls' := [some (.ref 43), none, some (.int zx2), some (.int zx3), some (.int zv3), some (.int zr1), none]) C dX6_meet_76 (Nat.le_of_ble_eq_true rfl) rfl rfl ?_
      refine pd_aload_n C dX6_meet_78 rfl rfl ?_
      refine pd_iload_n C dX6_meet_79 rfl rfl ?_
      refine pd_iconst (v := 2) C dX6_meet_80 (by decide) ?_
      refine pd_iload_n C dX6_meet_81 rfl rfl ?_
      refine pd_imul C dX6_meet_82 ?_
      refine pd_iconst (v := 1) C dX6_meet_83 (by decide) ?_
      refine pd_iadd C dX6_meet_84 ?_
      obtain ⟨zr2, zh2, hF⟩ := pd_bd_some hF
      refine pd_callV C [.int zx2, .int ((2 * zx3) + 1)] [] (em_X6_behind (pd_C_st C) hn  zh2) mw_X6_behind wd_4_198 rfl (by decide) (pd_lt (by decide) hn) sh_43 ⟨by decide, by decide, by decide, by decide⟩ rfl (Nat.le_of_ble_eq_true rfl) pd_oldL_same (fun _ _ => pd_old_same _) dX6_meet_85 (stk' := [.int zr2]) rfl ?_
      refine pd_istore (ls' := [some (.ref 43), none, some (.int zx2), some (.int zx3), some (.int zv3), some (.int zr1), some (.int zr2)]) C dX6_meet_88 (Nat.le_of_ble_eq_true rfl) rfl rfl ?_
      refine pd_aload_n C dX6_meet_90 rfl rfl ?_
      obtain ⟨zq2, hzq2, hF⟩ := pd_bd_some hF
      obtain ⟨zg5, hF⟩ := pd_gd_some hF
      refine gr_6_2 C wd_1_185 (pd_lt (by decide) hn) sh_43 ((pd_RF_dyn rfl).trans hzq2) dX6_meet_91 ?_
      refine pd_iload_n C dX6_meet_94 rfl rfl ?_
      refine pd_iload C dX6_meet_95 rfl ?_
      refine pd_iload C dX6_meet_97 rfl ?_
      refine pd_mmin C wd_4_193 wd_2_187 wd_1_18 wd_2_188 ⟨by decide, Nat.le_of_ble_eq_true rfl, by decide, by decide⟩ dX6_meet_99 ?_
      obtain ⟨zg6, hF⟩ := pd_gd_some hF
      refine pd_iast C (pd_arr_lt zg5) (pd_arr_sh zg5) zg6 dX6_meet_102 ?_
      refine pd_memI (fun zI8 hzI8 => ?_)
      have hF := pd_let_at hF hzI8
      refine pd_iload C dX6_meet_103 rfl ?_
      refine pd_ldc C wd_4_185 dX6_meet_105 ?_
      obtain ⟨zI9, hS, hF⟩ := pd_bd_some hF
      have hJ150 : pd_V cx 0 0 150 [some (.ref 43), none, some (.int zx2), some (.int zx3), none, none, none] [] zI9 J (pd_RF zZ1) n := by
        refine pd_iincG (zz := 1) C dX6_meet_150 rfl (by decide) rfl (fun zv4 hzv4 => ?_)
        have hF := pd_let_at hF hzv4
        refine pd_lsE (ls' := [some (.ref 43), none, some (.int zx2), some (.int zv4), none, none, none]) rfl ?_
        refine pd_goto (tgt := 44) C dX6_meet_153 (by decide) ?_
        exact ih _ _ hF
      replace hF := hS
      clear hS
      refine pd_icmp_ge (tgt := 150) C dX6_meet_107 (by decide) (fun zc2 => ?_) (fun zc2 => ?_)
      · have hF := pd_t zc2 hF
        refine pd_wk (ls' := [some (.ref 43), none, some (.int zx2), some (.int zx3), none, none, none]) (And.intro rfl (And.intro rfl (And.intro rfl True.intro))) ?_
        have hF := hF.symm
        cases hF
        exact hJ150
      · have hF := pd_f zc2 hF
        refine pd_aload_n C dX6_meet_110 rfl rfl ?_
        refine gr_6_4 C wd_1_187 (pd_lt (by decide) hn) sh_43 (rf_43_4 _) dX6_meet_111 ?_
        refine pd_iload_n C dX6_meet_114 rfl rfl ?_
        refine pd_aload_n C dX6_meet_115 rfl rfl ?_
        refine gr_6_4 C wd_1_187 (pd_lt (by decide) hn) sh_43 (rf_43_4 _) dX6_meet_116 ?_
        refine pd_iload_n C dX6_meet_119 rfl rfl ?_
        obtain ⟨zg7, hF⟩ := pd_gd_some hF
        refine pd_iald C (pd_lt (by decide) hn) sh_47 zg7 dX6_meet_120 ?_
        refine pd_iload C dX6_meet_121 rfl ?_
        refine pd_iload C dX6_meet_123 rfl ?_
        refine pd_iadd C dX6_meet_125 ?_
        refine pd_mmin C wd_4_193 wd_2_187 wd_1_18 wd_2_188 ⟨by decide, Nat.le_of_ble_eq_true rfl, by decide, by decide⟩ dX6_meet_126 ?_
        obtain ⟨zg8, hF⟩ := pd_gd_some hF
        refine pd_iast C (pd_lt (by decide) hn) sh_47 zg8 dX6_meet_129 ?_
        refine pd_memI (fun zI10 hzI10 => ?_)
        have hF := pd_let_at hF hzI10
        refine pd_aload_n C dX6_meet_130 rfl rfl ?_
        refine gr_6_5 C wd_1_188 (pd_lt (by decide) hn) sh_43 (rf_43_5 _) dX6_meet_131 ?_
        refine pd_iload_n C dX6_meet_134 rfl rfl ?_
        refine pd_aload_n C dX6_meet_135 rfl rfl ?_
        refine gr_6_5 C wd_1_188 (pd_lt (by decide) hn) sh_43 (rf_43_5 _) dX6_meet_136 ?_
        refine pd_iload_n C dX6_meet_139 rfl rfl ?_
        obtain ⟨zg9, hF⟩ := pd_gd_some hF
        refine pd_iald C (pd_lt (by decide) hn) sh_48 zg9 dX6_meet_140 ?_
        refine pd_iload C dX6_meet_141 rfl ?_
        refine pd_iload C dX6_meet_143 rfl ?_
        refine pd_iadd C dX6_meet_145 ?_
        refine pd_mmin C wd_4_193 wd_2_187 wd_1_18 wd_2_188 ⟨by decide, Nat.le_of_ble_eq_true rfl, by decide, by decide⟩ dX6_meet_146 ?_
        obtain ⟨zg10, hF⟩ := pd_gd_some hF
        refine pd_iast C (pd_lt (by decide) hn) sh_48 zg10 dX6_meet_149 ?_
        refine pd_memI (fun zI11 hzI11 => ?_)
        have hF := pd_let_at hF hzI11
        refine pd_wk (ls' := [some (.ref 43), none, some (.int zx2), some (.int zx3), none, none, none]) (And.intro rfl (And.intro rfl (And.intro rfl True.intro))) ?_
        have hF := hF.symm
        cases hF
        exact hJ150
def fl_X6_meet_38 {O : Type} (n : Nat) (kont : pd_I → pd_R → Option O) : Nat → Int32 → pd_I → pd_R → Option O
  | 0, _, _, _ => none
  | fu + 1, zx2, zI4, zZ1 => if zx2 < 0 then kont zI4 zZ1 else (fl_X6_meet_44 zx2 zZ1 n (fun zI7 => pd_bd (zZ1 43 2) fun zq3 => pd_gd (pd_isArr zq3 64 n) (pd_bd (zZ1 43 3) fun zq4 => pd_gd (pd_isArr zq4 64 n) (pd_let (pd_ur zZ1 43 2 (some zq4)) fun zZ3 => pd_let (pd_ur zZ3 43 3 (some zq3)) fun zZ4 => pd_let (zx2 + (-1)) fun zv5 => fl_X6_meet_38 n kont fu zv5 zI7 zZ4))) pd_FU 0 zI4)
set_option maxRecDepth 100000 in
set_option maxHeartbeats 4000000 in
theorem el_X6_meet_38 {cx : pd_X} (C : pd_C cx "PathDecoder$Seeming" cX6_meet rm_X6_meet) {J : pd_J} {n : Nat} (hn : 133 ≤ n)  {O : Type} {kont : pd_I → pd_R → Option O} {out : O} (K : ∀ (zI5 : pd_I) (zZ2 : pd_R), kont zI5 zZ2 = some out → pd_V cx 0 0 180 [none, none, none, none, none, none, none] [] zI5 J (pd_RF zZ2) n) :
    ∀ (fu : Nat) (zx2 : Int32) (zI4 : pd_I) (zZ1 : pd_R), fl_X6_meet_38 n kont fu zx2 zI4 zZ1 = some out → pd_V cx 0 0 38 [some (.ref 43), none, some (.int zx2), none, none, none, none] [] zI4 J (pd_RF zZ1) n := by
  intro fu
  induction fu with
  | zero => intro zx2 zI4 zZ1 hF; rw [fl_X6_meet_38] at hF; cases hF
  | succ fu ih =>
    intro zx2 zI4 zZ1 hF
    rw [fl_X6_meet_38] at hF
    refine pd_iload_n C dX6_meet_38 rfl rfl ?_
    refine pd_if_lt (tgt := 180) C dX6_meet_39 (by decide) (fun zc4 => ?_) (fun zc4 => ?_)
    · have hF := pd_t zc4 hF
      refine pd_wk (ls' := [none, none, none, none, none, none, none]) True.intro ?_
      exact K _ _ hF
    · have hF := pd_f zc4 hF
      refine pd_iconst (v := 0) C dX6_meet_42 (by decide) ?_
      refine pd_istore_n (ls' := [some (.ref 43), none, some (.int zx2), some (.int 0), none, none, none]) C dX6_meet_43 rfl (Nat.le_of_ble_eq_true rfl) rfl rfl ?_
      refine el_X6_meet_44 C hn (fun zI7 hF => ?_) pd_FU _ _ hF
      refine pd_aload_n C dX6_meet_156 rfl rfl ?_
      obtain ⟨zq3, hzq3, hF⟩ := pd_bd_some hF
      obtain ⟨zg11, hF⟩ := pd_gd_some hF
      refine gr_6_2 C wd_1_185 (pd_lt (by decide) hn) sh_43 ((pd_RF_dyn rfl).trans hzq3) dX6_meet_157 ?_
      refine pd_astore_n (ls' := [some (.ref 43), none, some (.int zx2), some (.ref zq3), none, none, none]) C dX6_meet_160 rfl (Nat.le_of_ble_eq_true rfl) rfl rfl ?_
      refine pd_aload_n C dX6_meet_161 rfl rfl ?_
      refine pd_aload_n C dX6_meet_162 rfl rfl ?_
      obtain ⟨zq4, hzq4, hF⟩ := pd_bd_some hF
      obtain ⟨zg12, hF⟩ := pd_gd_some hF
      refine gr_6_3 C wd_1_186 (pd_lt (by decide) hn) sh_43 ((pd_RF_dyn rfl).trans hzq4) dX6_meet_163 ?_
      refine pr_6_2 C wd_1_185 (pd_lt (by decide) hn) sh_43 dX6_meet_166 ?_
      rw [pd_RF_ur rfl]
      refine pd_memZ (fun zZ3 hzZ3 => ?_)
      have hF := pd_let_at hF hzZ3
      refine pd_aload_n C dX6_meet_169 rfl rfl ?_
      refine pd_aload_n C dX6_meet_170 rfl rfl ?_
      refine pr_6_3 C wd_1_186 (pd_lt (by decide) hn) sh_43 dX6_meet_171 ?_
      rw [pd_RF_ur rfl]
      refine pd_memZ (fun zZ4 hzZ4 => ?_)
      have hF := pd_let_at hF hzZ4
      refine pd_iincG (zz := (-1)) C dX6_meet_174 rfl (by decide) rfl (fun zv5 hzv5 => ?_)
      have hF := pd_let_at hF hzv5
      refine pd_lsE (ls' := [some (.ref 43), none, some (.int zv5), some (.ref zq3), none, none, none]) rfl ?_
      refine pd_goto (tgt := 38) C dX6_meet_177 (by decide) ?_
      refine pd_wk (ls' := [some (.ref 43), none, some (.int zv5), none, none, none, none]) (And.intro rfl (And.intro rfl True.intro)) ?_
      exact ih _ _ _ hF
def fn_X6_meet (I : pd_I) (Z : pd_R) (n : Nat) (p0 : Int32) : Option (pd_I × pd_R) := fl_X6_meet_2 Z n (fun zI2 => pd_let (p0 - 1) fun zv2 => fl_X6_meet_38 n (fun zI5 zZ2 => some (zI5, zZ2)) pd_FU zv2 zI2 Z) pd_FU 0 I
set_option maxRecDepth 100000 in
set_option maxHeartbeats 4000000 in
theorem em_X6_meet {l : Launch} {D : va_G} {tc : Nat → ClassId} (hst : l.stackTraces = false) {I : pd_I} {J : pd_J} {Z : pd_R} {n : Nat} {p0 : Int32} (hn : 133 ≤ n)  {out : pd_I × pd_R} (hF : fn_X6_meet I Z n p0 = some out) :
    pd_M l D tc yX6_meet (.code yX6_meet cX6_meet 7 (Option.none : Option Jvm.ClassFile.FieldType)) rm_X6_meet [.ref 43, .int p0] I J (pd_RF Z) n (.ok (none)) out.1 J (pd_RF out.2) n := by
  refine pd_open (own := "PathDecoder$Seeming") (ls0 := [some (.ref 43), some (.int p0), none, none, none, none, none]) (by decide) rfl (Nat.le_of_ble_eq_true rfl) rfl rfl hst (fun cx hl hD htc C hE htab hnm => ?_)
  subst hl hD htc
  unfold fn_X6_meet at hF
  refine pd_iconst (v := 0) C dX6_meet_0 (by decide) ?_
  refine pd_istore_n (ls' := [some (.ref 43), some (.int p0), some (.int 0), none, none, none, none]) C dX6_meet_1 rfl (Nat.le_of_ble_eq_true rfl) rfl rfl ?_
  refine el_X6_meet_2 C hn (fun zI2 hF => ?_) pd_FU _ _ hF
  refine pd_iload_n C dX6_meet_34 rfl rfl ?_
  refine pd_iconst (v := 1) C dX6_meet_35 (by decide) ?_
  refine pd_isub C dX6_meet_36 ?_
  refine pd_topi (fun zv2 hzv2 => ?_)
  have hF := pd_let_at hF hzv2
  refine pd_istore_n (ls' := [some (.ref 43), some (.int p0), some (.int zv2), none, none, none, none]) C dX6_meet_37 rfl (Nat.le_of_ble_eq_true rfl) rfl rfl ?_
  refine pd_wk (ls' := [some (.ref 43), none, some (.int zv2), none, none, none, none]) (And.intro rfl (And.intro rfl True.intro)) ?_
  refine el_X6_meet_38 C hn (fun zI5 zZ2 hF => ?_) pd_FU _ _ _ hF
  cases hF
  exact pd_vret C hE rfl ⟨by decide, by decide⟩ dX6_meet_180

def fl_X6_tell_3 {O : Type} (p1 : Int32) (kont : pd_I → Option O) : Nat → Int32 → pd_I → Option O
  | 0, _, _ => none
  | fu + 1, zx1, zI1 => if p1 ≤ zx1 then kont zI1 else (pd_gd (pd_in zx1 200) (pd_let (pd_ui zI1 47 zx1.toNatClampNeg 536870912) fun zI3 => pd_gd (pd_in zx1 200) (pd_let (pd_ui zI3 48 zx1.toNatClampNeg 536870912) fun zI4 => pd_let (zx1 + 1) fun zv1 => fl_X6_tell_3 p1 kont fu zv1 zI4)))
set_option maxRecDepth 100000 in
set_option maxHeartbeats 4000000 in
theorem el_X6_tell_3 {cx : pd_X} (C : pd_C cx "PathDecoder$Seeming" cX6_tell rm_X6_tell) {a0 : Nat} {p1 : Int32} {b2 : Nat} {J : pd_J} {Z : pd_R} {n : Nat} (hn : 133 ≤ n) (ha0 : pd_isCode a0 n = true) (hb2 : pd_isArr b2 200 n = true) {O : Type} {kont : pd_I → Option O} {out : O} (K : ∀ (zI2 : pd_I), kont zI2 = some out → pd_V cx 0 0 33 [some (.ref 43), some (.ref a0), some (.int p1), some (.ref b2), none] [] zI2 J (pd_RF Z) n) :
    ∀ (fu : Nat) (zx1 : Int32) (zI1 : pd_I), fl_X6_tell_3 p1 kont fu zx1 zI1 = some out → pd_V cx 0 0 3 [some (.ref 43), some (.ref a0), some (.int p1), some (.ref b2), some (.int zx1)] [] zI1 J (pd_RF Z) n := by
  intro fu
  induction fu with
  | zero => intro zx1 zI1 hF; rw [fl_X6_tell_3] at hF; cases hF
  | succ fu ih =>
    intro zx1 zI1 hF
    rw [fl_X6_tell_3] at hF
    refine pd_iload C dX6_tell_3 rfl ?_
    refine pd_iload_n C dX6_tell_5 rfl rfl ?_
    refine pd_icmp_ge (tgt := 33) C dX6_tell_6 (by decide) (fun zc1 => ?_) (fun zc1 => ?_)
    · have hF := pd_t zc1 hF
      refine pd_wk (ls' := [some (.ref 43), some (.ref a0), some (.int p1), some (.ref b2), none]) (And.intro rfl (And.intro rfl (And.intro rfl (And.intro rfl True.intro)))) ?_
      exact K _ hF
    · have hF := pd_f zc1 hF
      refine pd_aload_n C dX6_tell_9 rfl rfl ?_
      refine gr_6_4 C wd_1_187 (pd_lt (by decide) hn) sh_43 (rf_43_4 _) dX6_tell_10 ?_
      refine pd_iload C dX6_tell_13 rfl ?_
      refine pd_ldc C wd_4_185 dX6_tell_15 ?_
      obtain ⟨zg1, hF⟩ := pd_gd_some hF
      refine pd_iast C (pd_lt (by decide) hn) sh_47 zg1 dX6_tell_17 ?_
      refine pd_memI (fun zI3 hzI3 => ?_)
      have hF := pd_let_at hF hzI3
      refine pd_aload_n C dX6_tell_18 rfl rfl ?_
      refine gr_6_5 C wd_1_188 (pd_lt (by decide) hn) sh_43 (rf_43_5 _) dX6_tell_19 ?_
      refine pd_iload C dX6_tell_22 rfl ?_
      refine pd_ldc C wd_4_185 dX6_tell_24 ?_
      obtain ⟨zg2, hF⟩ := pd_gd_some hF
      refine pd_iast C (pd_lt (by decide) hn) sh_48 zg2 dX6_tell_26 ?_
      refine pd_memI (fun zI4 hzI4 => ?_)
      have hF := pd_let_at hF hzI4
      refine pd_iincG (zz := 1) C dX6_tell_27 rfl (by decide) rfl (fun zv1 hzv1 => ?_)
      have hF := pd_let_at hF hzv1
      refine pd_lsE (ls' := [some (.ref 43), some (.ref a0), some (.int p1), some (.ref b2), some (.int zv1)]) rfl ?_
      refine pd_goto (tgt := 3) C dX6_tell_30 (by decide) ?_
      exact ih _ _ hF
def fl_X6_tell_36 {O : Type} (a0 : Nat) (p1 : Int32) (n : Nat) (kont : pd_I → pd_R → Option O) : Nat → Int32 → pd_I → pd_R → Option O
  | 0, _, _, _ => none
  | fu + 1, zx2, zI5, zZ1 => pd_bd (fn_X0_beginnings zI5 a0) fun zr1 => if zr1 ≤ zx2 then kont zI5 zZ1 else (pd_bd (fn_X1_setEnds zI5 a0 p1 zx2) fun zI7 => pd_bd (fn_X6_reach zI7 zx2 p1) fun zI8 => pd_bd2 (fn_X6_meet zI8 zZ1 n p1) fun zI9 zZ3 => pd_let (zx2 + 1) fun zv2 => fl_X6_tell_36 a0 p1 n kont fu zv2 zI9 zZ3)
set_option maxRecDepth 100000 in
set_option maxHeartbeats 4000000 in
theorem el_X6_tell_36 {cx : pd_X} (C : pd_C cx "PathDecoder$Seeming" cX6_tell rm_X6_tell) {a0 : Nat} {p1 : Int32} {b2 : Nat} {J : pd_J} {n : Nat} (hn : 133 ≤ n) (ha0 : pd_isCode a0 n = true) (hb2 : pd_isArr b2 200 n = true) {O : Type} {kont : pd_I → pd_R → Option O} {out : O} (K : ∀ (zI6 : pd_I) (zZ2 : pd_R), kont zI6 zZ2 = some out → pd_V cx 0 0 74 [some (.ref 43), none, some (.int p1), some (.ref b2), none] [] zI6 J (pd_RF zZ2) n) :
    ∀ (fu : Nat) (zx2 : Int32) (zI5 : pd_I) (zZ1 : pd_R), fl_X6_tell_36 a0 p1 n kont fu zx2 zI5 zZ1 = some out → pd_V cx 0 0 36 [some (.ref 43), some (.ref a0), some (.int p1), some (.ref b2), some (.int zx2)] [] zI5 J (pd_RF zZ1) n := by
  intro fu
  induction fu with
  | zero => intro zx2 zI5 zZ1 hF; rw [fl_X6_tell_36] at hF; cases hF
  | succ fu ih =>
    intro zx2 zI5 zZ1 hF
    rw [fl_X6_tell_36] at hF
    refine pd_iload C dX6_tell_36 rfl ?_
    refine pd_aload_n C dX6_tell_38 rfl rfl ?_
    obtain ⟨zr1, zh1, hF⟩ := pd_bd_some hF
    refine pd_callV C [] [.int zx2] (em_X0_beginnings (pd_C_st C) hn ha0 zh1) mw_X0_beginnings wd_4_186 rfl (by decide) (pd_code_lt ha0) (pd_code_sh ha0) ⟨by decide, by decide, by decide, by decide⟩ rfl (Nat.le_of_ble_eq_true rfl) pd_oldL_same (fun _ _ => pd_old_same _) dX6_tell_39 (stk' := [.int zr1, .int zx2]) rfl ?_
    refine pd_icmp_ge (tgt := 74) C dX6_tell_42 (by decide) (fun zc2 => ?_) (fun zc2 => ?_)
    · have hF := pd_t zc2 hF
      refine pd_wk (ls' := [some (.ref 43), none, some (.int p1), some (.ref b2), none]) (And.intro rfl (And.intro rfl (And.intro rfl True.intro))) ?_
      exact K _ _ hF
    · have hF := pd_f zc2 hF
      refine pd_aload_n C dX6_tell_45 rfl rfl ?_
      refine gr_6_0 C wd_1_183 (pd_lt (by decide) hn) sh_43 (rf_43_0 _) dX6_tell_46 ?_
      refine pd_aload_n C dX6_tell_49 rfl rfl ?_
      refine pd_iload_n C dX6_tell_50 rfl rfl ?_
      refine pd_iload C dX6_tell_51 rfl ?_
      obtain ⟨zI7, zh2, hF⟩ := pd_bd_some hF
      refine pd_callV C [.ref a0, .int p1, .int zx2] [] (em_X1_setEnds (pd_C_st C) hn ha0 zh2) mw_X1_setEnds wd_4_187 rfl (by decide) (pd_lt (by decide) hn) sh_11 ⟨by decide, by decide, by decide, by decide⟩ rfl (Nat.le_of_ble_eq_true rfl) pd_oldL_same (fun _ _ => pd_old_same _) dX6_tell_53 (stk' := []) rfl ?_
      refine pd_aload_n C dX6_tell_56 rfl rfl ?_
      refine pd_iload C dX6_tell_57 rfl ?_
      refine pd_iload_n C dX6_tell_59 rfl rfl ?_
      obtain ⟨zI8, zh3, hF⟩ := pd_bd_some hF
      refine pd_callV C [.int zx2, .int p1] [] (em_X6_reach (pd_C_st C) hn  zh3) mw_X6_reach wd_4_188 rfl (by decide) (pd_lt (by decide) hn) sh_43 ⟨by decide, by decide, by decide, by decide⟩ rfl (Nat.le_of_ble_eq_true rfl) pd_oldL_same (fun _ _ => pd_old_same _) dX6_tell_60 (stk' := []) rfl ?_
      refine pd_aload_n C dX6_tell_63 rfl rfl ?_
      refine pd_iload_n C dX6_tell_64 rfl rfl ?_
      obtain ⟨zI9, zZ3, zh4, hF⟩ := pd_bd2_some hF
      refine pd_callV C [.int p1] [] (em_X6_meet (pd_C_st C) hn  zh4) mw_X6_meet wd_4_194 rfl (by decide) (pd_lt (by decide) hn) sh_43 ⟨by decide, by decide, by decide, by decide⟩ rfl (Nat.le_of_ble_eq_true rfl) pd_oldL_same (fun _ _ => pd_old_same _) dX6_tell_65 (stk' := []) rfl ?_
      refine pd_iincG (zz := 1) C dX6_tell_68 rfl (by decide) rfl (fun zv2 hzv2 => ?_)
      have hF := pd_let_at hF hzv2
      refine pd_lsE (ls' := [some (.ref 43), some (.ref a0), some (.int p1), some (.ref b2), some (.int zv2)]) rfl ?_
      refine pd_goto (tgt := 36) C dX6_tell_71 (by decide) ?_
      exact ih _ _ _ hF
def fl_X6_tell_77 {O : Type} (p1 : Int32) (b2 : Nat) (kont : pd_I → Option O) : Nat → Int32 → pd_I → Option O
  | 0, _, _ => none
  | fu + 1, zx3, zI10 => if p1 ≤ zx3 then kont zI10 else (if 200 ≤ zx3 then kont zI10 else (pd_gd (pd_in zx3 200) (pd_bd (if (zI10 48 zx3.toNatClampNeg) < 536870912 then pd_gd (pd_in zx3 200) (if (zI10 47 zx3.toNatClampNeg) < 536870912 then pd_gd (pd_in zx3 200) (pd_gd (pd_in zx3 200) (pd_gd (pd_in zx3 200) (pd_let (pd_ui zI10 b2 zx3.toNatClampNeg ((zI10 48 zx3.toNatClampNeg) - (zI10 47 zx3.toNatClampNeg))) fun zI13 => some zI13))) else (pd_gd (pd_in zx3 200) (pd_let (pd_ui zI10 b2 zx3.toNatClampNeg (-1000000)) fun zI14 => some zI14))) else (pd_gd (pd_in zx3 200) (pd_let (pd_ui zI10 b2 zx3.toNatClampNeg 1000000) fun zI15 => some zI15))) fun (zI12 : pd_I) => pd_let (zx3 + 1) fun zv3 => fl_X6_tell_77 p1 b2 kont fu zv3 zI12)))
set_option maxRecDepth 100000 in
set_option maxHeartbeats 4000000 in
theorem el_X6_tell_77 {cx : pd_X} (C : pd_C cx "PathDecoder$Seeming" cX6_tell rm_X6_tell) {p1 : Int32} {b2 : Nat} {J : pd_J} {zZ2 : pd_R} {n : Nat} (hn : 133 ≤ n) (hb2 : pd_isArr b2 200 n = true) {O : Type} {kont : pd_I → Option O} {out : O} (K : ∀ (zI11 : pd_I), kont zI11 = some out → pd_V cx 0 0 157 [none, none, none, none, none] [] zI11 J (pd_RF zZ2) n) :
    ∀ (fu : Nat) (zx3 : Int32) (zI10 : pd_I), fl_X6_tell_77 p1 b2 kont fu zx3 zI10 = some out → pd_V cx 0 0 77 [some (.ref 43), none, some (.int p1), some (.ref b2), some (.int zx3)] [] zI10 J (pd_RF zZ2) n := by
  intro fu
  induction fu with
  | zero => intro zx3 zI10 hF; rw [fl_X6_tell_77] at hF; cases hF
  | succ fu ih =>
    intro zx3 zI10 hF
    rw [fl_X6_tell_77] at hF
    refine pd_iload C dX6_tell_77 rfl ?_
    refine pd_iload_n C dX6_tell_79 rfl rfl ?_
    refine pd_icmp_ge (tgt := 157) C dX6_tell_80 (by decide) (fun zc6 => ?_) (fun zc6 => ?_)
    · have hF := pd_t zc6 hF
      refine pd_wk (ls' := [none, none, none, none, none]) True.intro ?_
      exact K _ hF
    · have hF := pd_f zc6 hF
      refine pd_iload C dX6_tell_83 rfl ?_
      refine pd_aload_n C dX6_tell_85 rfl rfl ?_
      refine pd_alen (v := 200) C (pd_arr_lt hb2) (pd_arr_sh hb2) (by decide) dX6_tell_86 ?_
      refine pd_icmp_ge (tgt := 157) C dX6_tell_87 (by decide) (fun zc5 => ?_) (fun zc5 => ?_)
      · have hF := pd_t zc5 hF
        refine pd_wk (ls' := [none, none, none, none, none]) True.intro ?_
        exact K _ hF
      · have hF := pd_f zc5 hF
        refine pd_aload_n C dX6_tell_90 rfl rfl ?_
        refine gr_6_5 C wd_1_188 (pd_lt (by decide) hn) sh_43 (rf_43_5 _) dX6_tell_91 ?_
        refine pd_iload C dX6_tell_94 rfl ?_
        obtain ⟨zg3, hF⟩ := pd_gd_some hF
        refine pd_iald C (pd_lt (by decide) hn) sh_48 zg3 dX6_tell_96 ?_
        refine pd_ldc C wd_4_185 dX6_tell_97 ?_
        obtain ⟨zI12, hS, hF⟩ := pd_bd_some hF
        have hJ151 : pd_V cx 0 0 151 [some (.ref 43), none, some (.int p1), some (.ref b2), some (.int zx3)] [] zI12 J (pd_RF zZ2) n := by
          refine pd_iincG (zz := 1) C dX6_tell_151 rfl (by decide) rfl (fun zv3 hzv3 => ?_)
          have hF := pd_let_at hF hzv3
          refine pd_lsE (ls' := [some (.ref 43), none, some (.int p1), some (.ref b2), some (.int zv3)]) rfl ?_
          refine pd_goto (tgt := 77) C dX6_tell_154 (by decide) ?_
          exact ih _ _ hF
        replace hF := hS
        clear hS
        refine pd_icmp_lt (tgt := 111) C dX6_tell_99 (by decide) (fun zc4 => ?_) (fun zc4 => ?_)
        · have hF := pd_t zc4 hF
          refine pd_aload_n C dX6_tell_111 rfl rfl ?_
          refine gr_6_4 C wd_1_187 (pd_lt (by decide) hn) sh_43 (rf_43_4 _) dX6_tell_112 ?_
          refine pd_iload C dX6_tell_115 rfl ?_
          obtain ⟨zg4, hF⟩ := pd_gd_some hF
          refine pd_iald C (pd_lt (by decide) hn) sh_47 zg4 dX6_tell_117 ?_
          refine pd_ldc C wd_4_185 dX6_tell_118 ?_
          refine pd_icmp_lt (tgt := 132) C dX6_tell_120 (by decide) (fun zc3 => ?_) (fun zc3 => ?_)
          · have hF := pd_t zc3 hF
            refine pd_aload_n C dX6_tell_132 rfl rfl ?_
            refine pd_iload C dX6_tell_133 rfl ?_
            refine pd_aload_n C dX6_tell_135 rfl rfl ?_
            refine gr_6_5 C wd_1_188 (pd_lt (by decide) hn) sh_43 (rf_43_5 _) dX6_tell_136 ?_
            refine pd_iload C dX6_tell_139 rfl ?_
            obtain ⟨zg5, hF⟩ := pd_gd_some hF
            refine pd_iald C (pd_lt (by decide) hn) sh_48 zg5 dX6_tell_141 ?_
            refine pd_aload_n C dX6_tell_142 rfl rfl ?_
            refine gr_6_4 C wd_1_187 (pd_lt (by decide) hn) sh_43 (rf_43_4 _) dX6_tell_143 ?_
            refine pd_iload C dX6_tell_146 rfl ?_
            obtain ⟨zg6, hF⟩ := pd_gd_some hF
            refine pd_iald C (pd_lt (by decide) hn) sh_47 zg6 dX6_tell_148 ?_
            refine pd_isub C dX6_tell_149 ?_
            obtain ⟨zg7, hF⟩ := pd_gd_some hF
            refine pd_iast C (pd_arr_lt hb2) (pd_arr_sh hb2) zg7 dX6_tell_150 ?_
            refine pd_memI (fun zI13 hzI13 => ?_)
            have hF := pd_let_at hF hzI13
            have hF := hF.symm
            cases hF
            exact hJ151
          · have hF := pd_f zc3 hF
            refine pd_aload_n C dX6_tell_123 rfl rfl ?_
            refine pd_iload C dX6_tell_124 rfl ?_
            refine pd_ldc C wd_4_203 dX6_tell_126 ?_
            obtain ⟨zg8, hF⟩ := pd_gd_some hF
            refine pd_iast C (pd_arr_lt hb2) (pd_arr_sh hb2) zg8 dX6_tell_128 ?_
            refine pd_memI (fun zI14 hzI14 => ?_)
            have hF := pd_let_at hF hzI14
            refine pd_goto (tgt := 151) C dX6_tell_129 (by decide) ?_
            have hF := hF.symm
            cases hF
            exact hJ151
        · have hF := pd_f zc4 hF
          refine pd_aload_n C dX6_tell_102 rfl rfl ?_
          refine pd_iload C dX6_tell_103 rfl ?_
          refine pd_ldc C wd_4_202 dX6_tell_105 ?_
          obtain ⟨zg9, hF⟩ := pd_gd_some hF
          refine pd_iast C (pd_arr_lt hb2) (pd_arr_sh hb2) zg9 dX6_tell_107 ?_
          refine pd_memI (fun zI15 hzI15 => ?_)
          have hF := pd_let_at hF hzI15
          refine pd_goto (tgt := 151) C dX6_tell_108 (by decide) ?_
          have hF := hF.symm
          cases hF
          exact hJ151
def fn_X6_tell (I : pd_I) (Z : pd_R) (n : Nat) (a0 : Nat) (p1 : Int32) (b2 : Nat) : Option (pd_I × pd_R) := fl_X6_tell_3 p1 (fun zI2 => fl_X6_tell_36 a0 p1 n (fun zI6 zZ2 => fl_X6_tell_77 p1 b2 (fun zI11 => some (zI11, zZ2)) pd_FU 0 zI6) pd_FU 0 zI2 Z) pd_FU 0 I
set_option maxRecDepth 100000 in
set_option maxHeartbeats 4000000 in
theorem em_X6_tell {l : Launch} {D : va_G} {tc : Nat → ClassId} (hst : l.stackTraces = false) {I : pd_I} {J : pd_J} {Z : pd_R} {n : Nat} {a0 : Nat} {p1 : Int32} {b2 : Nat} (hn : 133 ≤ n) (ha0 : pd_isCode a0 n = true) (hb2 : pd_isArr b2 200 n = true) {out : pd_I × pd_R} (hF : fn_X6_tell I Z n a0 p1 b2 = some out) :
    pd_M l D tc yX6_tell (.code yX6_tell cX6_tell 5 (Option.none : Option Jvm.ClassFile.FieldType)) rm_X6_tell [.ref 43, .ref a0, .int p1, .ref b2] I J (pd_RF Z) n (.ok (none)) out.1 J (pd_RF out.2) n := by
  refine pd_open (own := "PathDecoder$Seeming") (ls0 := [some (.ref 43), some (.ref a0), some (.int p1), some (.ref b2), none]) (by decide) rfl (Nat.le_of_ble_eq_true rfl) rfl rfl hst (fun cx hl hD htc C hE htab hnm => ?_)
  subst hl hD htc
  unfold fn_X6_tell at hF
  refine pd_iconst (v := 0) C dX6_tell_0 (by decide) ?_
  refine pd_istore (ls' := [some (.ref 43), some (.ref a0), some (.int p1), some (.ref b2), some (.int 0)]) C dX6_tell_1 (Nat.le_of_ble_eq_true rfl) rfl rfl ?_
  refine el_X6_tell_3 C hn ha0 hb2 (fun zI2 hF => ?_) pd_FU _ _ hF
  refine pd_iconst (v := 0) C dX6_tell_33 (by decide) ?_
  refine pd_istore (ls' := [some (.ref 43), some (.ref a0), some (.int p1), some (.ref b2), some (.int 0)]) C dX6_tell_34 (Nat.le_of_ble_eq_true rfl) rfl rfl ?_
  refine el_X6_tell_36 C hn ha0 hb2 (fun zI6 zZ2 hF => ?_) pd_FU _ _ _ hF
  refine pd_iconst (v := 0) C dX6_tell_74 (by decide) ?_
  refine pd_istore (ls' := [some (.ref 43), none, some (.int p1), some (.ref b2), some (.int 0)]) C dX6_tell_75 (Nat.le_of_ble_eq_true rfl) rfl rfl ?_
  refine el_X6_tell_77 C hn hb2 (fun zI11 hF => ?_) pd_FU _ _ hF
  cases hF
  exact pd_vret C hE rfl ⟨by decide, by decide⟩ dX6_tell_157

def fl_X11_each_57 {O : Type} (p2 : Int32) (zI3 : pd_I) (kont : Int32 → Option O) : Nat → Int32 → Int32 → Option O
  | 0, _, _ => none
  | fu + 1, zx1, zx2 => if p2 ≤ zx2 then kont zx1 else (pd_gd (pd_in zx2 200) (pd_bd (if 0 ≤ (zI3 59 zx2.toNatClampNeg) then some 0 else (some 1)) fun (zx4 : Int32) => pd_let (zx1 + zx4) fun zv1 => pd_let (zx2 + 1) fun zv2 => fl_X11_each_57 p2 zI3 kont fu zv1 zv2))
set_option maxRecDepth 100000 in
set_option maxHeartbeats 4000000 in
theorem el_X11_each_57 {cx : pd_X} (C : pd_C cx "PathDecoder" cX11_each rm_X11_each) {p2 : Int32} {zI3 : pd_I} {J : pd_J} {zZ1 : pd_R} {n : Nat} (hn : 133 ≤ n)  {O : Type} {kont : Int32 → Option O} {out : O} (K : ∀ (zx3 : Int32), kont zx3 = some out → pd_V cx 4 24 89 [none, none, none, none, none, none, some (.int zx3), none] [] zI3 J (pd_RF zZ1) n) :
    ∀ (fu : Nat) (zx1 : Int32) (zx2 : Int32), fl_X11_each_57 p2 zI3 kont fu zx1 zx2 = some out → pd_V cx 4 24 57 [some (.ref 0), none, none, some (.int p2), none, none, some (.int zx1), some (.int zx2)] [] zI3 J (pd_RF zZ1) n := by
  intro fu
  induction fu with
  | zero => intro zx1 zx2 hF; rw [fl_X11_each_57] at hF; cases hF
  | succ fu ih =>
    intro zx1 zx2 hF
    rw [fl_X11_each_57] at hF
    refine pd_iload C dX11_each_57 rfl ?_
    refine pd_iload_n C dX11_each_59 rfl rfl ?_
    refine pd_icmp_ge (tgt := 89) C dX11_each_60 (by decide) (fun zc2 => ?_) (fun zc2 => ?_)
    · have hF := pd_t zc2 hF
      refine pd_wk (ls' := [none, none, none, none, none, none, some (.int zx1), none]) (And.intro rfl True.intro) ?_
      exact K _ hF
    · have hF := pd_f zc2 hF
      refine pd_iload C dX11_each_63 rfl ?_
      refine pd_aload_n C dX11_each_65 rfl rfl ?_
      refine gr_11_11 C wd_2_43 (pd_lt (by decide) hn) sh_0 (rf_0_11 _) dX11_each_66 ?_
      refine pd_iload C dX11_each_69 rfl ?_
      obtain ⟨zg3, hF⟩ := pd_gd_some hF
      refine pd_iald C (pd_lt (by decide) hn) sh_59 zg3 dX11_each_71 ?_
      obtain ⟨zx4, hS, hF⟩ := pd_bd_some hF
      have hJ80 : pd_V cx 4 24 80 [some (.ref 0), none, none, some (.int p2), none, none, none, some (.int zx2)] [.int zx4, .int zx1] zI3 J (pd_RF zZ1) n := by
        refine pd_iadd C dX11_each_80 ?_
        refine pd_topi (fun zv1 hzv1 => ?_)
        have hF := pd_let_at hF hzv1
        refine pd_istore (ls' := [some (.ref 0), none, none, some (.int p2), none, none, some (.int zv1), some (.int zx2)]) C dX11_each_81 (Nat.le_of_ble_eq_true rfl) rfl rfl ?_
        refine pd_iincG (zz := 1) C dX11_each_83 rfl (by decide) rfl (fun zv2 hzv2 => ?_)
        have hF := pd_let_at hF hzv2
        refine pd_lsE (ls' := [some (.ref 0), none, none, some (.int p2), none, none, some (.int zv1), some (.int zv2)]) rfl ?_
        refine pd_goto (tgt := 57) C dX11_each_86 (by decide) ?_
        exact ih _ _ hF
      replace hF := hS
      clear hS
      refine pd_if_ge (tgt := 79) C dX11_each_72 (by decide) (fun zc1 => ?_) (fun zc1 => ?_)
      · have hF := pd_t zc1 hF
        refine pd_iconst (v := 0) C dX11_each_79 (by decide) ?_
        refine pd_wk (ls' := [some (.ref 0), none, none, some (.int p2), none, none, none, some (.int zx2)]) (And.intro rfl (And.intro rfl (And.intro rfl True.intro))) ?_
        have hF := hF.symm
        cases hF
        exact hJ80
      · have hF := pd_f zc1 hF
        refine pd_iconst (v := 1) C dX11_each_75 (by decide) ?_
        refine pd_goto (tgt := 80) C dX11_each_76 (by decide) ?_
        refine pd_wk (ls' := [some (.ref 0), none, none, some (.int p2), none, none, none, some (.int zx2)]) (And.intro rfl (And.intro rfl (And.intro rfl True.intro))) ?_
        have hF := hF.symm
        cases hF
        exact hJ80
def fn_X11_each (I : pd_I) (Z : pd_R) (n : Nat) (p0 : Int32) (p1 : Int32) (p2 : Int32) : Option (Except String (Int32 × pd_I × pd_R)) := pd_bx (fn_X11_codeOf I Z n p0) fun zq1 => pd_gd (pd_isCode zq1 n) (pd_bx (fn_X11_rowOf Z n p1) fun zq2 => pd_gd (pd_isRow zq2) (pd_bx (fn_X11_demandOneWay I zq1) fun _ => pd_bx (fn_X11_demandBitCount p2) fun _ => pd_bd (fn_X11_prepare I zq1 zq2 p2) fun zI1 => pd_bd2 (fn_X6_tell zI1 Z n zq1 p2 59) fun zI2 zZ1 => pd_let (pd_ui zI2 0 12 p2) fun zI3 => fl_X11_each_57 p2 zI3 (fun zx3 => some (.ok (zx3, zI3, zZ1))) pd_FU 0 0))
set_option maxRecDepth 100000 in
set_option maxHeartbeats 4000000 in
theorem em_X11_each {l : Launch} {D : va_G} {tc : Nat → ClassId} (hst : l.stackTraces = false) {I : pd_I} {J : pd_J} {Z : pd_R} {n : Nat} {p0 : Int32} {p1 : Int32} {p2 : Int32} (hn : 133 ≤ n)  {out : Except String (Int32 × pd_I × pd_R)} (hF : fn_X11_each I Z n p0 p1 p2 = some out) :
    pd_M l D tc yX11_each (.code yX11_each cX11_each 8 (Option.some Jvm.ClassFile.FieldType.int)) rm_X11_each [.ref 0, .int p0, .int p1, .int p2] I J (pd_RF Z) n (pd_oo (fun (p : Int32 × pd_I × pd_R) => some (.int p.1)) out) (pd_os (fun (p : Int32 × pd_I × pd_R) => p.2.1) I out) J (pd_RF (pd_os (fun (p : Int32 × pd_I × pd_R) => p.2.2) Z out)) n := by
  refine pd_open (own := "PathDecoder") (ls0 := [some (.ref 0), some (.int p0), some (.int p1), some (.int p2), none, none, none, none]) (by decide) rfl (Nat.le_of_ble_eq_true rfl) rfl rfl hst (fun cx hl hD htc C hE htab hnm => ?_)
  subst hl hD htc
  unfold fn_X11_each at hF
  refine pd_aload_n C dX11_each_0 rfl rfl ?_
  refine pd_iload_n C dX11_each_1 rfl rfl ?_
  rcases pd_bx_some hF with ⟨e9, zh1, he9⟩ | ⟨zq1, zh1, hF⟩
  · subst he9
    exact pd_callVX C [.int p0] [] (em_X11_codeOf (pd_C_st C) hn  zh1) mw_X11_codeOf wd_3_100 rfl (by decide) (pd_lt (by decide) hn) sh_0 ⟨by decide, by decide, by decide, by decide⟩ rfl (Nat.le_of_ble_eq_true rfl) dX11_each_2 (pd_prop C hE rfl htab ⟨by decide, by decide⟩)
  obtain ⟨zg1, hF⟩ := pd_gd_some hF
  refine pd_callV C [.int p0] [] (em_X11_codeOf (pd_C_st C) hn  zh1) mw_X11_codeOf wd_3_100 rfl (by decide) (pd_lt (by decide) hn) sh_0 ⟨by decide, by decide, by decide, by decide⟩ rfl (Nat.le_of_ble_eq_true rfl) pd_oldL_same (fun _ _ => pd_old_same _) dX11_each_2 (stk' := [.ref zq1]) rfl ?_
  refine pd_astore (ls' := [some (.ref 0), some (.int p0), some (.int p1), some (.int p2), some (.ref zq1), none, none, none]) C dX11_each_5 (Nat.le_of_ble_eq_true rfl) rfl rfl ?_
  refine pd_aload_n C dX11_each_7 rfl rfl ?_
  refine pd_iload_n C dX11_each_8 rfl rfl ?_
  rcases pd_bx_some hF with ⟨e9, zh2, he9⟩ | ⟨zq2, zh2, hF⟩
  · subst he9
    exact pd_callVX C [.int p1] [] (em_X11_rowOf (pd_C_st C) hn  zh2) mw_X11_rowOf wd_2_88 rfl (by decide) (pd_lt (by decide) hn) sh_0 ⟨by decide, by decide, by decide, by decide⟩ rfl (Nat.le_of_ble_eq_true rfl) dX11_each_9 (pd_prop C hE rfl htab ⟨by decide, by decide⟩)
  obtain ⟨zg2, hF⟩ := pd_gd_some hF
  refine pd_callV C [.int p1] [] (em_X11_rowOf (pd_C_st C) hn  zh2) mw_X11_rowOf wd_2_88 rfl (by decide) (pd_lt (by decide) hn) sh_0 ⟨by decide, by decide, by decide, by decide⟩ rfl (Nat.le_of_ble_eq_true rfl) pd_oldL_same (fun _ _ => pd_old_same _) dX11_each_9 (stk' := [.ref zq2]) rfl ?_
  refine pd_astore (ls' := [some (.ref 0), some (.int p0), some (.int p1), some (.int p2), some (.ref zq1), some (.ref zq2), none, none]) C dX11_each_12 (Nat.le_of_ble_eq_true rfl) rfl rfl ?_
  refine pd_aload C dX11_each_14 rfl ?_
  rcases pd_bx_some hF with ⟨e9, zh3, he9⟩ | ⟨_, zh3, hF⟩
  · subst he9
    exact pd_callSX C [.ref zq1] [] (em_X11_demandOneWay (pd_C_st C) hn zg1 zh3) mw_X11_demandOneWay wd_4_31 ⟨by decide, by decide, by decide, by decide⟩ rfl (Nat.le_of_ble_eq_true rfl) dX11_each_16 (pd_prop C hE rfl htab ⟨by decide, by decide⟩)
  refine pd_callS C [.ref zq1] [] (em_X11_demandOneWay (pd_C_st C) hn zg1 zh3) mw_X11_demandOneWay wd_4_31 ⟨by decide, by decide, by decide, by decide⟩ rfl (Nat.le_of_ble_eq_true rfl) pd_oldL_same (fun _ _ => pd_old_same _) dX11_each_16 (stk' := []) rfl ?_
  refine pd_iload_n C dX11_each_19 rfl rfl ?_
  rcases pd_bx_some hF with ⟨e9, zh4, he9⟩ | ⟨_, zh4, hF⟩
  · subst he9
    exact pd_callSX C [.int p2] [] (em_X11_demandBitCount (pd_C_st C) hn  zh4) mw_X11_demandBitCount wd_3_154 ⟨by decide, by decide, by decide, by decide⟩ rfl (Nat.le_of_ble_eq_true rfl) dX11_each_20 (pd_prop C hE rfl htab ⟨by decide, by decide⟩)
  refine pd_callS C [.int p2] [] (em_X11_demandBitCount (pd_C_st C) hn  zh4) mw_X11_demandBitCount wd_3_154 ⟨by decide, by decide, by decide, by decide⟩ rfl (Nat.le_of_ble_eq_true rfl) pd_oldL_same (fun _ _ => pd_old_same _) dX11_each_20 (stk' := []) rfl ?_
  refine pd_aload_n C dX11_each_23 rfl rfl ?_
  refine pd_aload C dX11_each_24 rfl ?_
  refine pd_aload C dX11_each_26 rfl ?_
  refine pd_iload_n C dX11_each_28 rfl rfl ?_
  obtain ⟨zI1, zh5, hF⟩ := pd_bd_some hF
  refine pd_callV C [.ref zq1, .ref zq2, .int p2] [] (em_X11_prepare (pd_C_st C) hn zg1 zg2 zh5) mw_X11_prepare wd_4_35 rfl (by decide) (pd_lt (by decide) hn) sh_0 ⟨by decide, by decide, by decide, by decide⟩ rfl (Nat.le_of_ble_eq_true rfl) pd_oldL_same (fun _ _ => pd_old_same _) dX11_each_29 (stk' := []) rfl ?_
  refine pd_aload_n C dX11_each_32 rfl rfl ?_
  refine gr_11_8 C wd_2_40 (pd_lt (by decide) hn) sh_0 (rf_0_8 _) dX11_each_33 ?_
  refine pd_aload C dX11_each_36 rfl ?_
  refine pd_iload_n C dX11_each_38 rfl rfl ?_
  refine pd_aload_n C dX11_each_39 rfl rfl ?_
  refine gr_11_11 C wd_2_43 (pd_lt (by decide) hn) sh_0 (rf_0_11 _) dX11_each_40 ?_
  obtain ⟨zI2, zZ1, zh6, hF⟩ := pd_bd2_some hF
  refine pd_callV C [.ref zq1, .int p2, .ref 59] [] (em_X6_tell (pd_C_st C) hn zg1 (pd_arr_lit 59 hn) zh6) mw_X6_tell wd_4_181 rfl (by decide) (pd_lt (by decide) hn) sh_43 ⟨by decide, by decide, by decide, by decide⟩ rfl (Nat.le_of_ble_eq_true rfl) pd_oldL_same (fun _ _ => pd_old_same _) dX11_each_43 (stk' := []) rfl ?_
  refine pd_aload_n C dX11_each_46 rfl rfl ?_
  refine pd_iload_n C dX11_each_47 rfl rfl ?_
  refine pi_11_12 C wd_2_44 rfl rfl (pd_lt (by decide) hn) sh_0 dX11_each_48 ?_
  refine pd_memI (fun zI3 hzI3 => ?_)
  have hF := pd_let_at hF hzI3
  refine pd_iconst (v := 0) C dX11_each_51 (by decide) ?_
  refine pd_istore (ls' := [some (.ref 0), some (.int p0), some (.int p1), some (.int p2), some (.ref zq1), some (.ref zq2), some (.int 0), none]) C dX11_each_52 (Nat.le_of_ble_eq_true rfl) rfl rfl ?_
  refine pd_iconst (v := 0) C dX11_each_54 (by decide) ?_
  refine pd_istore (ls' := [some (.ref 0), some (.int p0), some (.int p1), some (.int p2), some (.ref zq1), some (.ref zq2), some (.int 0), some (.int 0)]) C dX11_each_55 (Nat.le_of_ble_eq_true rfl) rfl rfl ?_
  refine pd_wk (ls' := [some (.ref 0), none, none, some (.int p2), none, none, some (.int 0), some (.int 0)]) (And.intro rfl (And.intro rfl (And.intro rfl (And.intro rfl True.intro)))) ?_
  refine el_X11_each_57 C hn (fun zx3 hF => ?_) pd_FU _ _ hF
  refine pd_iload C dX11_each_89 rfl ?_
  cases hF
  exact pd_iret C hE rfl rfl rfl ⟨by decide, by decide⟩ dX11_each_91

def fl_X8_price_77 {O : Type} (a0 : Nat) (p1 : Int32) (p3 : Int32) (kont : pd_I → Option O) : Nat → Int32 → pd_I → Option O
  | 0, _, _ => none
  | fu + 1, zx1, zI3 => if (zI3 a0 2) ≤ zx1 then kont zI3 else (pd_bd (if p3 = 0 then some 0 else (some ((zI3 a0 2) - 1))) fun (zx2 : Int32) => pd_let (((p1 * 7) + zx1) + zx2) fun zv4 => pd_gd (pd_in zv4 1442) (pd_gd (pd_in zv4 1442) (pd_bd (fn_X1_addSign zI3 p1 zx1 (zI3 9 zv4.toNatClampNeg) (zI3 10 zv4.toNatClampNeg)) fun zI5 => pd_let (zx1 + 1) fun zv5 => fl_X8_price_77 a0 p1 p3 kont fu zv5 zI5)))
set_option maxRecDepth 100000 in
set_option maxHeartbeats 4000000 in
theorem el_X8_price_77 {cx : pd_X} (C : pd_C cx "PathDecoder$Turns" cX8_price rm_X8_price) {a0 : Nat} {p1 : Int32} {p3 : Int32} {J : pd_J} {Z : pd_R} {n : Nat} (hn : 133 ≤ n) (ha0 : pd_isCode a0 n = true) {O : Type} {kont : pd_I → Option O} {out : O} (K : ∀ (zI4 : pd_I), kont zI4 = some out → pd_V cx 0 0 147 [none, none, none, none, none, none, none, none, none, none] [] zI4 J (pd_RF Z) n) :
    ∀ (fu : Nat) (zx1 : Int32) (zI3 : pd_I), fl_X8_price_77 a0 p1 p3 kont fu zx1 zI3 = some out → pd_V cx 0 0 77 [some (.ref 49), some (.ref a0), some (.int p1), none, some (.int p3), none, none, none, some (.int zx1), none] [] zI3 J (pd_RF Z) n := by
  intro fu
  induction fu with
  | zero => intro zx1 zI3 hF; rw [fl_X8_price_77] at hF; cases hF
  | succ fu ih =>
    intro zx1 zI3 hF
    rw [fl_X8_price_77] at hF
    refine pd_iload C dX8_price_77 rfl ?_
    refine pd_aload_n C dX8_price_79 rfl rfl ?_
    refine gi_0_2 C wd_3_65 (pd_code_lt ha0) (pd_code_sh ha0) dX8_price_80 ?_
    refine pd_icmp_ge (tgt := 147) C dX8_price_83 (by decide) (fun zc2 => ?_) (fun zc2 => ?_)
    · have hF := pd_t zc2 hF
      refine pd_wk (ls' := [none, none, none, none, none, none, none, none, none, none]) True.intro ?_
      exact K _ hF
    · have hF := pd_f zc2 hF
      refine pd_iload_n C dX8_price_86 rfl rfl ?_
      refine pd_bipush (v := 7) C dX8_price_87 (by decide) ?_
      refine pd_imul C dX8_price_89 ?_
      refine pd_iload C dX8_price_90 rfl ?_
      refine pd_iadd C dX8_price_92 ?_
      refine pd_iload C dX8_price_93 rfl ?_
      obtain ⟨zx2, hS, hF⟩ := pd_bd_some hF
      have hJ108 : pd_V cx 0 0 108 [some (.ref 49), some (.ref a0), some (.int p1), none, some (.int p3), none, none, none, some (.int zx1), none] [.int zx2, .int ((p1 * 7) + zx1)] zI3 J (pd_RF Z) n := by
        refine pd_iadd C dX8_price_108 ?_
        refine pd_topi (fun zv4 hzv4 => ?_)
        have hF := pd_let_at hF hzv4
        refine pd_istore (ls' := [some (.ref 49), some (.ref a0), some (.int p1), none, some (.int p3), none, none, none, some (.int zx1), some (.int zv4)]) C dX8_price_109 (Nat.le_of_ble_eq_true rfl) rfl rfl ?_
        refine pd_aload_n C dX8_price_111 rfl rfl ?_
        refine gr_8_1 C wd_1_209 (pd_lt (by decide) hn) sh_49 (rf_49_1 _) dX8_price_112 ?_
        refine pd_iload_n C dX8_price_115 rfl rfl ?_
        refine pd_iload C dX8_price_116 rfl ?_
        refine pd_aload_n C dX8_price_118 rfl rfl ?_
        refine gr_8_0 C wd_1_208 (pd_lt (by decide) hn) sh_49 (rf_49_0 _) dX8_price_119 ?_
        refine gr_3_2 C wd_1_58 (pd_lt (by decide) hn) sh_6 (rf_6_2 _) dX8_price_122 ?_
        refine pd_iload C dX8_price_125 rfl ?_
        obtain ⟨zg5, hF⟩ := pd_gd_some hF
        refine pd_iald C (pd_lt (by decide) hn) sh_9 zg5 dX8_price_127 ?_
        refine pd_aload_n C dX8_price_128 rfl rfl ?_
        refine gr_8_0 C wd_1_208 (pd_lt (by decide) hn) sh_49 (rf_49_0 _) dX8_price_129 ?_
        refine gr_3_3 C wd_1_61 (pd_lt (by decide) hn) sh_6 (rf_6_3 _) dX8_price_132 ?_
        refine pd_iload C dX8_price_135 rfl ?_
        obtain ⟨zg6, hF⟩ := pd_gd_some hF
        refine pd_iald C (pd_lt (by decide) hn) sh_10 zg6 dX8_price_137 ?_
        obtain ⟨zI5, zh3, hF⟩ := pd_bd_some hF
        refine pd_callV C [.int p1, .int zx1, .int (zI3 9 zv4.toNatClampNeg), .int (zI3 10 zv4.toNatClampNeg)] [] (em_X1_addSign (pd_C_st C) hn  zh3) mw_X1_addSign wd_4_228 rfl (by decide) (pd_lt (by decide) hn) sh_11 ⟨by decide, by decide, by decide, by decide⟩ rfl (Nat.le_of_ble_eq_true rfl) pd_oldL_same (fun _ _ => pd_old_same _) dX8_price_138 (stk' := []) rfl ?_
        refine pd_iincG (zz := 1) C dX8_price_141 rfl (by decide) rfl (fun zv5 hzv5 => ?_)
        have hF := pd_let_at hF hzv5
        refine pd_lsE (ls' := [some (.ref 49), some (.ref a0), some (.int p1), none, some (.int p3), none, none, none, some (.int zv5), some (.int zv4)]) rfl ?_
        refine pd_goto (tgt := 77) C dX8_price_144 (by decide) ?_
        refine pd_wk (ls' := [some (.ref 49), some (.ref a0), some (.int p1), none, some (.int p3), none, none, none, some (.int zv5), none]) (And.intro rfl (And.intro rfl (And.intro rfl (And.intro rfl (And.intro rfl True.intro))))) ?_
        exact ih _ _ hF
      replace hF := hS
      clear hS
      refine pd_if_eq (tgt := 107) C dX8_price_95 (by decide) (fun zc1 => ?_) (fun zc1 => ?_)
      · have hF := pd_t zc1 hF
        refine pd_iconst (v := 0) C dX8_price_107 (by decide) ?_
        have hF := hF.symm
        cases hF
        exact hJ108
      · have hF := pd_f zc1 hF
        refine pd_aload_n C dX8_price_98 rfl rfl ?_
        refine gi_0_2 C wd_3_65 (pd_code_lt ha0) (pd_code_sh ha0) dX8_price_99 ?_
        refine pd_iconst (v := 1) C dX8_price_102 (by decide) ?_
        refine pd_isub C dX8_price_103 ?_
        refine pd_goto (tgt := 108) C dX8_price_104 (by decide) ?_
        have hF := hF.symm
        cases hF
        exact hJ108
def fn_X8_price (I : pd_I) (a0 : Nat) (p1 : Int32) (p2 : Int32) (p3 : Int32) : Option pd_I := pd_let (p2 * 7) fun zv1 => pd_gd (pd_in zv1 1442) (pd_gd (pd_in p2 200) (pd_let ((I 9 zv1.toNatClampNeg) + (pd_max 0 (-(I 50 p2.toNatClampNeg)))) fun zv2 => pd_gd (pd_in zv1 1442) (pd_gd (pd_in p2 200) (pd_let ((I 10 zv1.toNatClampNeg) + (pd_max 0 (I 50 p2.toNatClampNeg))) fun zv3 => pd_bd (fn_X1_clearStep I p1) fun zI1 => pd_bd (fn_X1_addSign zI1 p1 0 zv2 zv3) fun zI2 => fl_X8_price_77 a0 p1 p3 (fun zI4 => some zI4) pd_FU 1 zI2))))
set_option maxRecDepth 100000 in
set_option maxHeartbeats 4000000 in
theorem em_X8_price {l : Launch} {D : va_G} {tc : Nat → ClassId} (hst : l.stackTraces = false) {I : pd_I} {J : pd_J} {Z : pd_R} {n : Nat} {a0 : Nat} {p1 : Int32} {p2 : Int32} {p3 : Int32} (hn : 133 ≤ n) (ha0 : pd_isCode a0 n = true) {out : pd_I} (hF : fn_X8_price I a0 p1 p2 p3 = some out) :
    pd_M l D tc yX8_price (.code yX8_price cX8_price 10 (Option.none : Option Jvm.ClassFile.FieldType)) rm_X8_price [.ref 49, .ref a0, .int p1, .int p2, .int p3] I J (pd_RF Z) n (.ok (none)) out J (pd_RF Z) n := by
  refine pd_open (own := "PathDecoder$Turns") (ls0 := [some (.ref 49), some (.ref a0), some (.int p1), some (.int p2), some (.int p3), none, none, none, none, none]) (by decide) rfl (Nat.le_of_ble_eq_true rfl) rfl rfl hst (fun cx hl hD htc C hE htab hnm => ?_)
  subst hl hD htc
  unfold fn_X8_price at hF
  refine pd_iload_n C dX8_price_0 rfl rfl ?_
  refine pd_bipush (v := 7) C dX8_price_1 (by decide) ?_
  refine pd_imul C dX8_price_3 ?_
  refine pd_topi (fun zv1 hzv1 => ?_)
  have hF := pd_let_at hF hzv1
  refine pd_istore (ls' := [some (.ref 49), some (.ref a0), some (.int p1), some (.int p2), some (.int p3), some (.int zv1), none, none, none, none]) C dX8_price_4 (Nat.le_of_ble_eq_true rfl) rfl rfl ?_
  refine pd_aload_n C dX8_price_6 rfl rfl ?_
  refine gr_8_0 C wd_1_208 (pd_lt (by decide) hn) sh_49 (rf_49_0 _) dX8_price_7 ?_
  refine gr_3_2 C wd_1_58 (pd_lt (by decide) hn) sh_6 (rf_6_2 _) dX8_price_10 ?_
  refine pd_iload C dX8_price_13 rfl ?_
  obtain ⟨zg1, hF⟩ := pd_gd_some hF
  refine pd_iald C (pd_lt (by decide) hn) sh_9 zg1 dX8_price_15 ?_
  refine pd_iconst (v := 0) C dX8_price_16 (by decide) ?_
  refine pd_aload_n C dX8_price_17 rfl rfl ?_
  refine gr_8_3 C wd_1_211 (pd_lt (by decide) hn) sh_49 (rf_49_3 _) dX8_price_18 ?_
  refine pd_iload_n C dX8_price_21 rfl rfl ?_
  obtain ⟨zg2, hF⟩ := pd_gd_some hF
  refine pd_iald C (pd_lt (by decide) hn) sh_50 zg2 dX8_price_22 ?_
  refine pd_ineg C dX8_price_23 ?_
  refine pd_mmax C wd_4_226 wd_2_190 wd_1_18 wd_2_191 ⟨by decide, Nat.le_of_ble_eq_true rfl, by decide, by decide⟩ dX8_price_24 ?_
  refine pd_iadd C dX8_price_27 ?_
  refine pd_topi (fun zv2 hzv2 => ?_)
  have hF := pd_let_at hF hzv2
  refine pd_istore (ls' := [some (.ref 49), some (.ref a0), some (.int p1), some (.int p2), some (.int p3), some (.int zv1), some (.int zv2), none, none, none]) C dX8_price_28 (Nat.le_of_ble_eq_true rfl) rfl rfl ?_
  refine pd_aload_n C dX8_price_30 rfl rfl ?_
  refine gr_8_0 C wd_1_208 (pd_lt (by decide) hn) sh_49 (rf_49_0 _) dX8_price_31 ?_
  refine gr_3_3 C wd_1_61 (pd_lt (by decide) hn) sh_6 (rf_6_3 _) dX8_price_34 ?_
  refine pd_iload C dX8_price_37 rfl ?_
  obtain ⟨zg3, hF⟩ := pd_gd_some hF
  refine pd_iald C (pd_lt (by decide) hn) sh_10 zg3 dX8_price_39 ?_
  refine pd_iconst (v := 0) C dX8_price_40 (by decide) ?_
  refine pd_aload_n C dX8_price_41 rfl rfl ?_
  refine gr_8_3 C wd_1_211 (pd_lt (by decide) hn) sh_49 (rf_49_3 _) dX8_price_42 ?_
  refine pd_iload_n C dX8_price_45 rfl rfl ?_
  obtain ⟨zg4, hF⟩ := pd_gd_some hF
  refine pd_iald C (pd_lt (by decide) hn) sh_50 zg4 dX8_price_46 ?_
  refine pd_mmax C wd_4_226 wd_2_190 wd_1_18 wd_2_191 ⟨by decide, Nat.le_of_ble_eq_true rfl, by decide, by decide⟩ dX8_price_47 ?_
  refine pd_iadd C dX8_price_50 ?_
  refine pd_topi (fun zv3 hzv3 => ?_)
  have hF := pd_let_at hF hzv3
  refine pd_istore (ls' := [some (.ref 49), some (.ref a0), some (.int p1), some (.int p2), some (.int p3), some (.int zv1), some (.int zv2), some (.int zv3), none, none]) C dX8_price_51 (Nat.le_of_ble_eq_true rfl) rfl rfl ?_
  refine pd_aload_n C dX8_price_53 rfl rfl ?_
  refine gr_8_1 C wd_1_209 (pd_lt (by decide) hn) sh_49 (rf_49_1 _) dX8_price_54 ?_
  refine pd_iload_n C dX8_price_57 rfl rfl ?_
  obtain ⟨zI1, zh1, hF⟩ := pd_bd_some hF
  refine pd_callV C [.int p1] [] (em_X1_clearStep (pd_C_st C) hn  zh1) mw_X1_clearStep wd_4_227 rfl (by decide) (pd_lt (by decide) hn) sh_11 ⟨by decide, by decide, by decide, by decide⟩ rfl (Nat.le_of_ble_eq_true rfl) pd_oldL_same (fun _ _ => pd_old_same _) dX8_price_58 (stk' := []) rfl ?_
  refine pd_aload_n C dX8_price_61 rfl rfl ?_
  refine gr_8_1 C wd_1_209 (pd_lt (by decide) hn) sh_49 (rf_49_1 _) dX8_price_62 ?_
  refine pd_iload_n C dX8_price_65 rfl rfl ?_
  refine pd_iconst (v := 0) C dX8_price_66 (by decide) ?_
  refine pd_iload C dX8_price_67 rfl ?_
  refine pd_iload C dX8_price_69 rfl ?_
  obtain ⟨zI2, zh2, hF⟩ := pd_bd_some hF
  refine pd_callV C [.int p1, .int 0, .int zv2, .int zv3] [] (em_X1_addSign (pd_C_st C) hn  zh2) mw_X1_addSign wd_4_228 rfl (by decide) (pd_lt (by decide) hn) sh_11 ⟨by decide, by decide, by decide, by decide⟩ rfl (Nat.le_of_ble_eq_true rfl) pd_oldL_same (fun _ _ => pd_old_same _) dX8_price_71 (stk' := []) rfl ?_
  refine pd_iconst (v := 1) C dX8_price_74 (by decide) ?_
  refine pd_istore (ls' := [some (.ref 49), some (.ref a0), some (.int p1), some (.int p2), some (.int p3), some (.int zv1), some (.int zv2), some (.int zv3), some (.int 1), none]) C dX8_price_75 (Nat.le_of_ble_eq_true rfl) rfl rfl ?_
  refine pd_wk (ls' := [some (.ref 49), some (.ref a0), some (.int p1), none, some (.int p3), none, none, none, some (.int 1), none]) (And.intro rfl (And.intro rfl (And.intro rfl (And.intro rfl (And.intro rfl True.intro))))) ?_
  refine el_X8_price_77 C hn ha0 (fun zI4 hF => ?_) pd_FU _ _ hF
  cases hF
  exact pd_vret C hE rfl ⟨by decide, by decide⟩ dX8_price_147

def fn_X3_tells (I : pd_I) (p0 : Int32) : Option Int32 := pd_gd (pd_in p0 1442) (pd_gd (pd_in p0 1442) (some ((I 10 p0.toNatClampNeg) - (I 9 p0.toNatClampNeg))))
set_option maxRecDepth 100000 in
set_option maxHeartbeats 4000000 in
theorem em_X3_tells {l : Launch} {D : va_G} {tc : Nat → ClassId} (hst : l.stackTraces = false) {I : pd_I} {J : pd_J} {Z : pd_R} {n : Nat} {p0 : Int32} (hn : 133 ≤ n)  {out : Int32} (hF : fn_X3_tells I p0 = some out) :
    pd_M l D tc yX3_tells (.code yX3_tells cX3_tells 2 (Option.some Jvm.ClassFile.FieldType.int)) rm_X3_tells [.ref 6, .int p0] I J (pd_RF Z) n (.ok (some (.int out))) I J (pd_RF Z) n := by
  refine pd_open (own := "PathDecoder$Received") (ls0 := [some (.ref 6), some (.int p0)]) (by decide) rfl (Nat.le_of_ble_eq_true rfl) rfl rfl hst (fun cx hl hD htc C hE htab hnm => ?_)
  subst hl hD htc
  unfold fn_X3_tells at hF
  refine pd_aload_n C dX3_tells_0 rfl rfl ?_
  refine gr_3_3 C wd_1_60 (pd_lt (by decide) hn) sh_6 (rf_6_3 _) dX3_tells_1 ?_
  refine pd_iload_n C dX3_tells_4 rfl rfl ?_
  obtain ⟨zg1, hF⟩ := pd_gd_some hF
  refine pd_iald C (pd_lt (by decide) hn) sh_10 zg1 dX3_tells_5 ?_
  refine pd_aload_n C dX3_tells_6 rfl rfl ?_
  refine gr_3_2 C wd_1_57 (pd_lt (by decide) hn) sh_6 (rf_6_2 _) dX3_tells_7 ?_
  refine pd_iload_n C dX3_tells_10 rfl rfl ?_
  obtain ⟨zg2, hF⟩ := pd_gd_some hF
  refine pd_iald C (pd_lt (by decide) hn) sh_9 zg2 dX3_tells_11 ?_
  refine pd_isub C dX3_tells_12 ?_
  cases hF
  exact pd_iret C hE rfl rfl rfl ⟨by decide, by decide⟩ dX3_tells_13

def fl_X8_doHalf_3 {O : Type} (a0 : Nat) (p1 : Int32) (p2 : Int32) (kont : pd_I → Option O) : Nat → Int32 → pd_I → Option O
  | 0, _, _ => none
  | fu + 1, zx1, zI1 => if p1 ≤ zx1 then kont zI1 else (pd_bd (if p2 = 0 then some zx1 else (pd_bd (fn_X0_orderOf zI1 a0 zx1 p1) fun zr1 => some zr1)) fun (zx2 : Int32) => pd_bd (fn_X8_price zI1 a0 zx1 zx2 p2) fun zI3 => pd_let (zx1 + 1) fun zv1 => fl_X8_doHalf_3 a0 p1 p2 kont fu zv1 zI3)
set_option maxRecDepth 100000 in
set_option maxHeartbeats 4000000 in
theorem el_X8_doHalf_3 {cx : pd_X} (C : pd_C cx "PathDecoder$Turns" cX8_doHalf rm_X8_doHalf) {a0 : Nat} {p1 : Int32} {p2 : Int32} {J : pd_J} {Z : pd_R} {n : Nat} (hn : 133 ≤ n) (ha0 : pd_isCode a0 n = true) {O : Type} {kont : pd_I → Option O} {out : O} (K : ∀ (zI2 : pd_I), kont zI2 = some out → pd_V cx 0 0 39 [some (.ref 49), some (.ref a0), some (.int p1), some (.int p2), none, none, none] [] zI2 J (pd_RF Z) n) :
    ∀ (fu : Nat) (zx1 : Int32) (zI1 : pd_I), fl_X8_doHalf_3 a0 p1 p2 kont fu zx1 zI1 = some out → pd_V cx 0 0 3 [some (.ref 49), some (.ref a0), some (.int p1), some (.int p2), some (.int zx1), none, none] [] zI1 J (pd_RF Z) n := by
  intro fu
  induction fu with
  | zero => intro zx1 zI1 hF; rw [fl_X8_doHalf_3] at hF; cases hF
  | succ fu ih =>
    intro zx1 zI1 hF
    rw [fl_X8_doHalf_3] at hF
    refine pd_iload C dX8_doHalf_3 rfl ?_
    refine pd_iload_n C dX8_doHalf_5 rfl rfl ?_
    refine pd_icmp_ge (tgt := 39) C dX8_doHalf_6 (by decide) (fun zc2 => ?_) (fun zc2 => ?_)
    · have hF := pd_t zc2 hF
      refine pd_wk (ls' := [some (.ref 49), some (.ref a0), some (.int p1), some (.int p2), none, none, none]) (And.intro rfl (And.intro rfl (And.intro rfl (And.intro rfl True.intro)))) ?_
      exact K _ hF
    · have hF := pd_f zc2 hF
      refine pd_aload_n C dX8_doHalf_9 rfl rfl ?_
      refine pd_aload_n C dX8_doHalf_10 rfl rfl ?_
      refine pd_iload C dX8_doHalf_11 rfl ?_
      refine pd_iload_n C dX8_doHalf_13 rfl rfl ?_
      obtain ⟨zx2, hS, hF⟩ := pd_bd_some hF
      have hJ29 : pd_V cx 0 0 29 [some (.ref 49), some (.ref a0), some (.int p1), some (.int p2), some (.int zx1), none, none] [.int zx2, .int zx1, .ref a0, .ref 49] zI1 J (pd_RF Z) n := by
        refine pd_iload_n C dX8_doHalf_29 rfl rfl ?_
        obtain ⟨zI3, zh1, hF⟩ := pd_bd_some hF
        refine pd_callV C [.ref a0, .int zx1, .int zx2, .int p2] [] (em_X8_price (pd_C_st C) hn ha0 zh1) mw_X8_price wd_4_222 rfl (by decide) (pd_lt (by decide) hn) sh_49 ⟨by decide, by decide, by decide, by decide⟩ rfl (Nat.le_of_ble_eq_true rfl) pd_oldL_same (fun _ _ => pd_old_same _) dX8_doHalf_30 (stk' := []) rfl ?_
        refine pd_iincG (zz := 1) C dX8_doHalf_33 rfl (by decide) rfl (fun zv1 hzv1 => ?_)
        have hF := pd_let_at hF hzv1
        refine pd_lsE (ls' := [some (.ref 49), some (.ref a0), some (.int p1), some (.int p2), some (.int zv1), none, none]) rfl ?_
        refine pd_goto (tgt := 3) C dX8_doHalf_36 (by decide) ?_
        exact ih _ _ hF
      replace hF := hS
      clear hS
      refine pd_if_eq (tgt := 27) C dX8_doHalf_14 (by decide) (fun zc1 => ?_) (fun zc1 => ?_)
      · have hF := pd_t zc1 hF
        refine pd_iload C dX8_doHalf_27 rfl ?_
        have hF := hF.symm
        cases hF
        exact hJ29
      · have hF := pd_f zc1 hF
        refine pd_aload_n C dX8_doHalf_17 rfl rfl ?_
        refine pd_iload C dX8_doHalf_18 rfl ?_
        refine pd_iload_n C dX8_doHalf_20 rfl rfl ?_
        obtain ⟨zr1, zh2, hF⟩ := pd_bd_some hF
        refine pd_callV C [.int zx1, .int p1] [.int zx1, .ref a0, .ref 49] (em_X0_orderOf (pd_C_st C) hn ha0 zh2) mw_X0_orderOf wd_4_221 rfl (by decide) (pd_code_lt ha0) (pd_code_sh ha0) ⟨by decide, by decide, by decide, by decide⟩ rfl (Nat.le_of_ble_eq_true rfl) pd_oldL_same (fun _ _ => pd_old_same _) dX8_doHalf_21 (stk' := [.int zr1, .int zx1, .ref a0, .ref 49]) rfl ?_
        refine pd_goto (tgt := 29) C dX8_doHalf_24 (by decide) ?_
        have hF := hF.symm
        cases hF
        exact hJ29
def fl_X8_doHalf_55 {O : Type} (a0 : Nat) (p1 : Int32) (p2 : Int32) (kont : pd_I → Option O) : Nat → Int32 → pd_I → Option O
  | 0, _, _ => none
  | fu + 1, zx3, zI5 => if p1 ≤ zx3 then kont zI5 else (pd_bd (if p2 = 0 then some zx3 else (pd_bd (fn_X0_orderOf zI5 a0 zx3 p1) fun zr4 => some zr4)) fun (zx4 : Int32) => pd_gd (pd_in zx3 200) (pd_gd (pd_in zx4 200) (pd_bd (fn_X3_tells zI5 (zx4 * 7)) fun zr2 => pd_let (((zI5 51 zx3.toNatClampNeg) - (zI5 50 zx4.toNatClampNeg)) - zr2) fun zv2 => pd_bd (fn_X11_bounded zv2 (-5000) 5000) fun zr3 => pd_gd (pd_in zx4 200) (pd_let (pd_ui zI5 50 zx4.toNatClampNeg zr3) fun zI7 => pd_bd (if p2 = 0 then pd_gd (pd_in zx3 200) (pd_gd (pd_in zx4 200) (pd_let (pd_ui zI7 52 zx4.toNatClampNeg (zI7 51 zx3.toNatClampNeg)) fun zI9 => some zI9)) else (pd_gd (pd_in zx3 200) (pd_gd (pd_in zx4 200) (pd_let (pd_ui zI7 53 zx4.toNatClampNeg (zI7 51 zx3.toNatClampNeg)) fun zI10 => some zI10)))) fun (zI8 : pd_I) => pd_let (zx3 + 1) fun zv3 => fl_X8_doHalf_55 a0 p1 p2 kont fu zv3 zI8))))
set_option maxRecDepth 100000 in
set_option maxHeartbeats 4000000 in
theorem el_X8_doHalf_55 {cx : pd_X} (C : pd_C cx "PathDecoder$Turns" cX8_doHalf rm_X8_doHalf) {a0 : Nat} {p1 : Int32} {p2 : Int32} {J : pd_J} {zZ1 : pd_R} {n : Nat} (hn : 133 ≤ n) (ha0 : pd_isCode a0 n = true) {O : Type} {kont : pd_I → Option O} {out : O} (K : ∀ (zI6 : pd_I), kont zI6 = some out → pd_V cx 0 0 168 [none, none, none, none, none, none, none] [] zI6 J (pd_RF zZ1) n) :
    ∀ (fu : Nat) (zx3 : Int32) (zI5 : pd_I), fl_X8_doHalf_55 a0 p1 p2 kont fu zx3 zI5 = some out → pd_V cx 0 0 55 [some (.ref 49), some (.ref a0), some (.int p1), some (.int p2), some (.int zx3), none, none] [] zI5 J (pd_RF zZ1) n := by
  intro fu
  induction fu with
  | zero => intro zx3 zI5 hF; rw [fl_X8_doHalf_55] at hF; cases hF
  | succ fu ih =>
    intro zx3 zI5 hF
    rw [fl_X8_doHalf_55] at hF
    refine pd_iload C dX8_doHalf_55 rfl ?_
    refine pd_iload_n C dX8_doHalf_57 rfl rfl ?_
    refine pd_icmp_ge (tgt := 168) C dX8_doHalf_58 (by decide) (fun zc5 => ?_) (fun zc5 => ?_)
    · have hF := pd_t zc5 hF
      refine pd_wk (ls' := [none, none, none, none, none, none, none]) True.intro ?_
      exact K _ hF
    · have hF := pd_f zc5 hF
      refine pd_iload_n C dX8_doHalf_61 rfl rfl ?_
      obtain ⟨zx4, hS, hF⟩ := pd_bd_some hF
      have hJ77 : pd_V cx 0 0 77 [some (.ref 49), some (.ref a0), some (.int p1), some (.int p2), some (.int zx3), none, none] [.int zx4] zI5 J (pd_RF zZ1) n := by
        refine pd_istore (ls' := [some (.ref 49), some (.ref a0), some (.int p1), some (.int p2), some (.int zx3), some (.int zx4), none]) C dX8_doHalf_77 (Nat.le_of_ble_eq_true rfl) rfl rfl ?_
        refine pd_aload_n C dX8_doHalf_79 rfl rfl ?_
        refine gr_8_4 C wd_1_212 (pd_lt (by decide) hn) sh_49 (rf_49_4 _) dX8_doHalf_80 ?_
        refine pd_iload C dX8_doHalf_83 rfl ?_
        obtain ⟨zg1, hF⟩ := pd_gd_some hF
        refine pd_iald C (pd_lt (by decide) hn) sh_51 zg1 dX8_doHalf_85 ?_
        refine pd_aload_n C dX8_doHalf_86 rfl rfl ?_
        refine gr_8_3 C wd_1_211 (pd_lt (by decide) hn) sh_49 (rf_49_3 _) dX8_doHalf_87 ?_
        refine pd_iload C dX8_doHalf_90 rfl ?_
        obtain ⟨zg2, hF⟩ := pd_gd_some hF
        refine pd_iald C (pd_lt (by decide) hn) sh_50 zg2 dX8_doHalf_92 ?_
        refine pd_isub C dX8_doHalf_93 ?_
        refine pd_aload_n C dX8_doHalf_94 rfl rfl ?_
        refine gr_8_0 C wd_1_208 (pd_lt (by decide) hn) sh_49 (rf_49_0 _) dX8_doHalf_95 ?_
        refine pd_iload C dX8_doHalf_98 rfl ?_
        refine pd_bipush (v := 7) C dX8_doHalf_100 (by decide) ?_
        refine pd_imul C dX8_doHalf_102 ?_
        obtain ⟨zr2, zh4, hF⟩ := pd_bd_some hF
        refine pd_callV C [.int (zx4 * 7)] [.int ((zI5 51 zx3.toNatClampNeg) - (zI5 50 zx4.toNatClampNeg))] (em_X3_tells (pd_C_st C) hn  zh4) mw_X3_tells wd_4_230 rfl (by decide) (pd_lt (by decide) hn) sh_6 ⟨by decide, by decide, by decide, by decide⟩ rfl (Nat.le_of_ble_eq_true rfl) pd_oldL_same (fun _ _ => pd_old_same _) dX8_doHalf_103 (stk' := [.int zr2, .int ((zI5 51 zx3.toNatClampNeg) - (zI5 50 zx4.toNatClampNeg))]) rfl ?_
        refine pd_isub C dX8_doHalf_106 ?_
        refine pd_topi (fun zv2 hzv2 => ?_)
        have hF := pd_let_at hF hzv2
        refine pd_istore (ls' := [some (.ref 49), some (.ref a0), some (.int p1), some (.int p2), some (.int zx3), some (.int zx4), some (.int zv2)]) C dX8_doHalf_107 (Nat.le_of_ble_eq_true rfl) rfl rfl ?_
        refine pd_aload_n C dX8_doHalf_109 rfl rfl ?_
        refine gr_8_3 C wd_1_211 (pd_lt (by decide) hn) sh_49 (rf_49_3 _) dX8_doHalf_110 ?_
        refine pd_iload C dX8_doHalf_113 rfl ?_
        refine pd_iload C dX8_doHalf_115 rfl ?_
        refine pd_sipush (v := (-5000)) C dX8_doHalf_117 (by decide) ?_
        refine pd_sipush (v := 5000) C dX8_doHalf_120 (by decide) ?_
        obtain ⟨zr3, zh5, hF⟩ := pd_bd_some hF
        refine pd_callM C [.int zv2, .int (-5000), .int 5000] [.int zx4, .ref 50] (em_X11_bounded (pd_C_st C) hn  zh5) mw_X11_bounded (List.mem_of_getElem? (i := 6) rfl) ⟨by decide, by decide, by decide, by decide⟩ rfl (Nat.le_of_ble_eq_true rfl) pd_oldL_same (fun _ _ => pd_old_same _) dX8_doHalf_123 (stk' := [.int zr3, .int zx4, .ref 50]) rfl ?_
        obtain ⟨zg3, hF⟩ := pd_gd_some hF
        refine pd_iast C (pd_lt (by decide) hn) sh_50 zg3 dX8_doHalf_126 ?_
        refine pd_memI (fun zI7 hzI7 => ?_)
        have hF := pd_let_at hF hzI7
        refine pd_iload_n C dX8_doHalf_127 rfl rfl ?_
        obtain ⟨zI8, hS, hF⟩ := pd_bd_some hF
        have hJ162 : pd_V cx 0 0 162 [some (.ref 49), some (.ref a0), some (.int p1), some (.int p2), some (.int zx3), none, none] [] zI8 J (pd_RF zZ1) n := by
          refine pd_iincG (zz := 1) C dX8_doHalf_162 rfl (by decide) rfl (fun zv3 hzv3 => ?_)
          have hF := pd_let_at hF hzv3
          refine pd_lsE (ls' := [some (.ref 49), some (.ref a0), some (.int p1), some (.int p2), some (.int zv3), none, none]) rfl ?_
          refine pd_goto (tgt := 55) C dX8_doHalf_165 (by decide) ?_
          exact ih _ _ hF
        replace hF := hS
        clear hS
        refine pd_if_eq (tgt := 148) C dX8_doHalf_128 (by decide) (fun zc3 => ?_) (fun zc3 => ?_)
        · have hF := pd_t zc3 hF
          refine pd_aload_n C dX8_doHalf_148 rfl rfl ?_
          refine gr_8_5 C wd_1_213 (pd_lt (by decide) hn) sh_49 (rf_49_5 _) dX8_doHalf_149 ?_
          refine pd_iload C dX8_doHalf_152 rfl ?_
          refine pd_aload_n C dX8_doHalf_154 rfl rfl ?_
          refine gr_8_4 C wd_1_212 (pd_lt (by decide) hn) sh_49 (rf_49_4 _) dX8_doHalf_155 ?_
          refine pd_iload C dX8_doHalf_158 rfl ?_
          obtain ⟨zg4, hF⟩ := pd_gd_some hF
          refine pd_iald C (pd_lt (by decide) hn) sh_51 zg4 dX8_doHalf_160 ?_
          obtain ⟨zg5, hF⟩ := pd_gd_some hF
          refine pd_iast C (pd_lt (by decide) hn) sh_52 zg5 dX8_doHalf_161 ?_
          refine pd_memI (fun zI9 hzI9 => ?_)
          have hF := pd_let_at hF hzI9
          refine pd_wk (ls' := [some (.ref 49), some (.ref a0), some (.int p1), some (.int p2), some (.int zx3), none, none]) (And.intro rfl (And.intro rfl (And.intro rfl (And.intro rfl (And.intro rfl True.intro))))) ?_
          have hF := hF.symm
          cases hF
          exact hJ162
        · have hF := pd_f zc3 hF
          refine pd_aload_n C dX8_doHalf_131 rfl rfl ?_
          refine gr_8_6 C wd_1_214 (pd_lt (by decide) hn) sh_49 (rf_49_6 _) dX8_doHalf_132 ?_
          refine pd_iload C dX8_doHalf_135 rfl ?_
          refine pd_aload_n C dX8_doHalf_137 rfl rfl ?_
          refine gr_8_4 C wd_1_212 (pd_lt (by decide) hn) sh_49 (rf_49_4 _) dX8_doHalf_138 ?_
          refine pd_iload C dX8_doHalf_141 rfl ?_
          obtain ⟨zg6, hF⟩ := pd_gd_some hF
          refine pd_iald C (pd_lt (by decide) hn) sh_51 zg6 dX8_doHalf_143 ?_
          obtain ⟨zg7, hF⟩ := pd_gd_some hF
          refine pd_iast C (pd_lt (by decide) hn) sh_53 zg7 dX8_doHalf_144 ?_
          refine pd_memI (fun zI10 hzI10 => ?_)
          have hF := pd_let_at hF hzI10
          refine pd_goto (tgt := 162) C dX8_doHalf_145 (by decide) ?_
          refine pd_wk (ls' := [some (.ref 49), some (.ref a0), some (.int p1), some (.int p2), some (.int zx3), none, none]) (And.intro rfl (And.intro rfl (And.intro rfl (And.intro rfl (And.intro rfl True.intro))))) ?_
          have hF := hF.symm
          cases hF
          exact hJ162
      replace hF := hS
      clear hS
      refine pd_if_eq (tgt := 75) C dX8_doHalf_62 (by decide) (fun zc4 => ?_) (fun zc4 => ?_)
      · have hF := pd_t zc4 hF
        refine pd_iload C dX8_doHalf_75 rfl ?_
        have hF := hF.symm
        cases hF
        exact hJ77
      · have hF := pd_f zc4 hF
        refine pd_aload_n C dX8_doHalf_65 rfl rfl ?_
        refine pd_iload C dX8_doHalf_66 rfl ?_
        refine pd_iload_n C dX8_doHalf_68 rfl rfl ?_
        obtain ⟨zr4, zh6, hF⟩ := pd_bd_some hF
        refine pd_callV C [.int zx3, .int p1] [] (em_X0_orderOf (pd_C_st C) hn ha0 zh6) mw_X0_orderOf wd_4_221 rfl (by decide) (pd_code_lt ha0) (pd_code_sh ha0) ⟨by decide, by decide, by decide, by decide⟩ rfl (Nat.le_of_ble_eq_true rfl) pd_oldL_same (fun _ _ => pd_old_same _) dX8_doHalf_69 (stk' := [.int zr4]) rfl ?_
        refine pd_goto (tgt := 77) C dX8_doHalf_72 (by decide) ?_
        have hF := hF.symm
        cases hF
        exact hJ77
def fn_X8_doHalf (I : pd_I) (Z : pd_R) (n : Nat) (a0 : Nat) (p1 : Int32) (p2 : Int32) : Option (pd_I × pd_R) := fl_X8_doHalf_3 a0 p1 p2 (fun zI2 => pd_bd2 (fn_X6_tell zI2 Z n a0 p1 51) fun zI4 zZ1 => fl_X8_doHalf_55 a0 p1 p2 (fun zI6 => some (zI6, zZ1)) pd_FU 0 zI4) pd_FU 0 I
set_option maxRecDepth 100000 in
set_option maxHeartbeats 4000000 in
theorem em_X8_doHalf {l : Launch} {D : va_G} {tc : Nat → ClassId} (hst : l.stackTraces = false) {I : pd_I} {J : pd_J} {Z : pd_R} {n : Nat} {a0 : Nat} {p1 : Int32} {p2 : Int32} (hn : 133 ≤ n) (ha0 : pd_isCode a0 n = true) {out : pd_I × pd_R} (hF : fn_X8_doHalf I Z n a0 p1 p2 = some out) :
    pd_M l D tc yX8_doHalf (.code yX8_doHalf cX8_doHalf 7 (Option.none : Option Jvm.ClassFile.FieldType)) rm_X8_doHalf [.ref 49, .ref a0, .int p1, .int p2] I J (pd_RF Z) n (.ok (none)) out.1 J (pd_RF out.2) n := by
  refine pd_open (own := "PathDecoder$Turns") (ls0 := [some (.ref 49), some (.ref a0), some (.int p1), some (.int p2), none, none, none]) (by decide) rfl (Nat.le_of_ble_eq_true rfl) rfl rfl hst (fun cx hl hD htc C hE htab hnm => ?_)
  subst hl hD htc
  unfold fn_X8_doHalf at hF
  refine pd_iconst (v := 0) C dX8_doHalf_0 (by decide) ?_
  refine pd_istore (ls' := [some (.ref 49), some (.ref a0), some (.int p1), some (.int p2), some (.int 0), none, none]) C dX8_doHalf_1 (Nat.le_of_ble_eq_true rfl) rfl rfl ?_
  refine el_X8_doHalf_3 C hn ha0 (fun zI2 hF => ?_) pd_FU _ _ hF
  refine pd_aload_n C dX8_doHalf_39 rfl rfl ?_
  refine gr_8_2 C wd_1_210 (pd_lt (by decide) hn) sh_49 (rf_49_2 _) dX8_doHalf_40 ?_
  refine pd_aload_n C dX8_doHalf_43 rfl rfl ?_
  refine pd_iload_n C dX8_doHalf_44 rfl rfl ?_
  refine pd_aload_n C dX8_doHalf_45 rfl rfl ?_
  refine gr_8_4 C wd_1_212 (pd_lt (by decide) hn) sh_49 (rf_49_4 _) dX8_doHalf_46 ?_
  obtain ⟨zI4, zZ1, zh3, hF⟩ := pd_bd2_some hF
  refine pd_callV C [.ref a0, .int p1, .ref 51] [] (em_X6_tell (pd_C_st C) hn ha0 (pd_arr_lit 51 hn) zh3) mw_X6_tell wd_4_229 rfl (by decide) (pd_lt (by decide) hn) sh_43 ⟨by decide, by decide, by decide, by decide⟩ rfl (Nat.le_of_ble_eq_true rfl) pd_oldL_same (fun _ _ => pd_old_same _) dX8_doHalf_49 (stk' := []) rfl ?_
  refine pd_iconst (v := 0) C dX8_doHalf_52 (by decide) ?_
  refine pd_istore (ls' := [some (.ref 49), some (.ref a0), some (.int p1), some (.int p2), some (.int 0), none, none]) C dX8_doHalf_53 (Nat.le_of_ble_eq_true rfl) rfl rfl ?_
  refine el_X8_doHalf_55 C hn ha0 (fun zI6 hF => ?_) pd_FU _ _ hF
  cases hF
  exact pd_vret C hE rfl ⟨by decide, by decide⟩ dX8_doHalf_168

def fl_X8_sayTheSame_2 (p0 : Int32) (I : pd_I) (kont : Unit → Option Int32) : Nat → Int32 → Option Int32
  | 0, _ => none
  | fu + 1, zx1 => if p0 ≤ zx1 then kont () else (pd_gd (pd_in zx1 200) (pd_bd (if 0 ≤ (I 52 zx1.toNatClampNeg) then some 0 else (some 1)) fun (zx2 : Int32) => pd_gd (pd_in zx1 200) (pd_bd (if 0 ≤ (I 53 zx1.toNatClampNeg) then some 0 else (some 1)) fun (zx3 : Int32) => if zx2 = zx3 then pd_let (zx1 + 1) fun zv1 => fl_X8_sayTheSame_2 p0 I kont fu zv1 else (some 0))))
set_option maxRecDepth 100000 in
set_option maxHeartbeats 4000000 in
theorem el_X8_sayTheSame_2 {cx : pd_X} (C : pd_C cx "PathDecoder$Turns" cX8_sayTheSame rm_X8_sayTheSame) {p0 : Int32} {I : pd_I} {J : pd_J} {Z : pd_R} {n : Nat} (hn : 133 ≤ n)  {kont : Unit → Option Int32} {out : Int32} (hE : pd_E cx (Option.some Jvm.ClassFile.FieldType.boolean) rm_X8_sayTheSame (.ok (some (.int out))) I J (pd_RF Z) n) (K : ∀ (_u : Unit), kont _u = some out → pd_V cx 0 0 46 [none, none, none] [] I J (pd_RF Z) n) :
    ∀ (fu : Nat) (zx1 : Int32), fl_X8_sayTheSame_2 p0 I kont fu zx1 = some out → pd_V cx 0 0 2 [some (.ref 49), some (.int p0), some (.int zx1)] [] I J (pd_RF Z) n := by
  intro fu
  induction fu with
  | zero => intro zx1 hF; rw [fl_X8_sayTheSame_2] at hF; cases hF
  | succ fu ih =>
    intro zx1 hF
    rw [fl_X8_sayTheSame_2] at hF
    refine pd_iload_n C dX8_sayTheSame_2 rfl rfl ?_
    refine pd_iload_n C dX8_sayTheSame_3 rfl rfl ?_
    refine pd_icmp_ge (tgt := 46) C dX8_sayTheSame_4 (by decide) (fun zc4 => ?_) (fun zc4 => ?_)
    · have hF := pd_t zc4 hF
      refine pd_wk (ls' := [none, none, none]) True.intro ?_
      exact K _ hF
    · have hF := pd_f zc4 hF
      refine pd_aload_n C dX8_sayTheSame_7 rfl rfl ?_
      refine gr_8_5 C wd_1_213 (pd_lt (by decide) hn) sh_49 (rf_49_5 _) dX8_sayTheSame_8 ?_
      refine pd_iload_n C dX8_sayTheSame_11 rfl rfl ?_
      obtain ⟨zg1, hF⟩ := pd_gd_some hF
      refine pd_iald C (pd_lt (by decide) hn) sh_52 zg1 dX8_sayTheSame_12 ?_
      obtain ⟨zx2, hS, hF⟩ := pd_bd_some hF
      have hJ21 : pd_V cx 0 0 21 [some (.ref 49), some (.int p0), some (.int zx1)] [.int zx2] I J (pd_RF Z) n := by
        refine pd_aload_n C dX8_sayTheSame_21 rfl rfl ?_
        refine gr_8_6 C wd_1_214 (pd_lt (by decide) hn) sh_49 (rf_49_6 _) dX8_sayTheSame_22 ?_
        refine pd_iload_n C dX8_sayTheSame_25 rfl rfl ?_
        obtain ⟨zg2, hF⟩ := pd_gd_some hF
        refine pd_iald C (pd_lt (by decide) hn) sh_53 zg2 dX8_sayTheSame_26 ?_
        obtain ⟨zx3, hS, hF⟩ := pd_bd_some hF
        have hJ35 : pd_V cx 0 0 35 [some (.ref 49), some (.int p0), some (.int zx1)] [.int zx3, .int zx2] I J (pd_RF Z) n := by
          refine pd_icmp_eq (tgt := 40) C dX8_sayTheSame_35 (by decide) (fun zc1 => ?_) (fun zc1 => ?_)
          · have hF := pd_t zc1 hF
            refine pd_iincG (zz := 1) C dX8_sayTheSame_40 rfl (by decide) rfl (fun zv1 hzv1 => ?_)
            have hF := pd_let_at hF hzv1
            refine pd_lsE (ls' := [some (.ref 49), some (.int p0), some (.int zv1)]) rfl ?_
            refine pd_goto (tgt := 2) C dX8_sayTheSame_43 (by decide) ?_
            exact ih _ hF
          · have hF := pd_f zc1 hF
            refine pd_iconst (v := 0) C dX8_sayTheSame_38 (by decide) ?_
            cases hF
            exact pd_iret C hE rfl rfl (pd_bo_nar (by decide)) ⟨by decide, by decide⟩ dX8_sayTheSame_39
        replace hF := hS
        clear hS
        refine pd_if_ge (tgt := 34) C dX8_sayTheSame_27 (by decide) (fun zc2 => ?_) (fun zc2 => ?_)
        · have hF := pd_t zc2 hF
          refine pd_iconst (v := 0) C dX8_sayTheSame_34 (by decide) ?_
          have hF := hF.symm
          cases hF
          exact hJ35
        · have hF := pd_f zc2 hF
          refine pd_iconst (v := 1) C dX8_sayTheSame_30 (by decide) ?_
          refine pd_goto (tgt := 35) C dX8_sayTheSame_31 (by decide) ?_
          have hF := hF.symm
          cases hF
          exact hJ35
      replace hF := hS
      clear hS
      refine pd_if_ge (tgt := 20) C dX8_sayTheSame_13 (by decide) (fun zc3 => ?_) (fun zc3 => ?_)
      · have hF := pd_t zc3 hF
        refine pd_iconst (v := 0) C dX8_sayTheSame_20 (by decide) ?_
        have hF := hF.symm
        cases hF
        exact hJ21
      · have hF := pd_f zc3 hF
        refine pd_iconst (v := 1) C dX8_sayTheSame_16 (by decide) ?_
        refine pd_goto (tgt := 21) C dX8_sayTheSame_17 (by decide) ?_
        have hF := hF.symm
        cases hF
        exact hJ21
def fn_X8_sayTheSame (I : pd_I) (p0 : Int32) : Option Int32 := fl_X8_sayTheSame_2 p0 I (fun _ => some 1) pd_FU 0
set_option maxRecDepth 100000 in
set_option maxHeartbeats 4000000 in
theorem em_X8_sayTheSame {l : Launch} {D : va_G} {tc : Nat → ClassId} (hst : l.stackTraces = false) {I : pd_I} {J : pd_J} {Z : pd_R} {n : Nat} {p0 : Int32} (hn : 133 ≤ n)  {out : Int32} (hF : fn_X8_sayTheSame I p0 = some out) :
    pd_M l D tc yX8_sayTheSame (.code yX8_sayTheSame cX8_sayTheSame 3 (Option.some Jvm.ClassFile.FieldType.boolean)) rm_X8_sayTheSame [.ref 49, .int p0] I J (pd_RF Z) n (.ok (some (.int out))) I J (pd_RF Z) n := by
  refine pd_open (own := "PathDecoder$Turns") (ls0 := [some (.ref 49), some (.int p0), none]) (by decide) rfl (Nat.le_of_ble_eq_true rfl) rfl rfl hst (fun cx hl hD htc C hE htab hnm => ?_)
  subst hl hD htc
  unfold fn_X8_sayTheSame at hF
  refine pd_iconst (v := 0) C dX8_sayTheSame_0 (by decide) ?_
  refine pd_istore_n (ls' := [some (.ref 49), some (.int p0), some (.int 0)]) C dX8_sayTheSame_1 rfl (Nat.le_of_ble_eq_true rfl) rfl rfl ?_
  refine el_X8_sayTheSame_2 C hn hE (fun _ hF => ?_) pd_FU _ hF
  refine pd_iconst (v := 1) C dX8_sayTheSame_46 (by decide) ?_
  cases hF
  exact pd_iret C hE rfl rfl (pd_bo_nar (by decide)) ⟨by decide, by decide⟩ dX8_sayTheSame_47

def fl_X8_run_3 {O : Type} (p1 : Int32) (kont : pd_I → Option O) : Nat → Int32 → pd_I → Option O
  | 0, _, _ => none
  | fu + 1, zx1, zI1 => if p1 ≤ zx1 then kont zI1 else (pd_gd (pd_in zx1 200) (pd_let (pd_ui zI1 50 zx1.toNatClampNeg 0) fun zI3 => pd_let (zx1 + 1) fun zv1 => fl_X8_run_3 p1 kont fu zv1 zI3))
set_option maxRecDepth 100000 in
set_option maxHeartbeats 4000000 in
theorem el_X8_run_3 {cx : pd_X} (C : pd_C cx "PathDecoder$Turns" cX8_run rm_X8_run) {a0 : Nat} {p1 : Int32} {p2 : Int32} {J : pd_J} {Z : pd_R} {n : Nat} (hn : 133 ≤ n) (ha0 : pd_isCode a0 n = true) {O : Type} {kont : pd_I → Option O} {out : O} (K : ∀ (zI2 : pd_I), kont zI2 = some out → pd_V cx 0 0 23 [some (.ref 49), some (.ref a0), some (.int p1), some (.int p2), none] [] zI2 J (pd_RF Z) n) :
    ∀ (fu : Nat) (zx1 : Int32) (zI1 : pd_I), fl_X8_run_3 p1 kont fu zx1 zI1 = some out → pd_V cx 0 0 3 [some (.ref 49), some (.ref a0), some (.int p1), some (.int p2), some (.int zx1)] [] zI1 J (pd_RF Z) n := by
  intro fu
  induction fu with
  | zero => intro zx1 zI1 hF; rw [fl_X8_run_3] at hF; cases hF
  | succ fu ih =>
    intro zx1 zI1 hF
    rw [fl_X8_run_3] at hF
    refine pd_iload C dX8_run_3 rfl ?_
    refine pd_iload_n C dX8_run_5 rfl rfl ?_
    refine pd_icmp_ge (tgt := 23) C dX8_run_6 (by decide) (fun zc1 => ?_) (fun zc1 => ?_)
    · have hF := pd_t zc1 hF
      refine pd_wk (ls' := [some (.ref 49), some (.ref a0), some (.int p1), some (.int p2), none]) (And.intro rfl (And.intro rfl (And.intro rfl (And.intro rfl True.intro)))) ?_
      exact K _ hF
    · have hF := pd_f zc1 hF
      refine pd_aload_n C dX8_run_9 rfl rfl ?_
      refine gr_8_3 C wd_1_211 (pd_lt (by decide) hn) sh_49 (rf_49_3 _) dX8_run_10 ?_
      refine pd_iload C dX8_run_13 rfl ?_
      refine pd_iconst (v := 0) C dX8_run_15 (by decide) ?_
      obtain ⟨zg1, hF⟩ := pd_gd_some hF
      refine pd_iast C (pd_lt (by decide) hn) sh_50 zg1 dX8_run_16 ?_
      refine pd_memI (fun zI3 hzI3 => ?_)
      have hF := pd_let_at hF hzI3
      refine pd_iincG (zz := 1) C dX8_run_17 rfl (by decide) rfl (fun zv1 hzv1 => ?_)
      have hF := pd_let_at hF hzv1
      refine pd_lsE (ls' := [some (.ref 49), some (.ref a0), some (.int p1), some (.int p2), some (.int zv1)]) rfl ?_
      refine pd_goto (tgt := 3) C dX8_run_20 (by decide) ?_
      exact ih _ _ hF
def fl_X8_run_31 {O : Type} (a0 : Nat) (p1 : Int32) (p2 : Int32) (n : Nat) (kont : Int32 → pd_I → pd_R → Option O) : Nat → Int32 → pd_I → pd_R → Option O
  | 0, _, _, _ => none
  | fu + 1, zx2, zI5, zZ1 => pd_bd (if p2 ≤ zx2 then some false else (if (zI5 49 7) = 0 then some true else (some false))) fun zc2 => if zc2 = true then pd_bd2 (fn_X8_doHalf zI5 zZ1 n a0 p1 0) fun zI7 zZ3 => pd_bd2 (fn_X8_doHalf zI7 zZ3 n a0 p1 1) fun zI8 zZ4 => pd_bd (fn_X8_sayTheSame zI8 p1) fun zr1 => pd_gd (pd_bo zr1) (pd_let (pd_ui zI8 49 7 zr1) fun zI9 => pd_let (zx2 + 1) fun zv2 => fl_X8_run_31 a0 p1 p2 n kont fu zv2 zI9 zZ4) else (kont zx2 zI5 zZ1)
set_option maxRecDepth 100000 in
set_option maxHeartbeats 4000000 in
theorem el_X8_run_31 {cx : pd_X} (C : pd_C cx "PathDecoder$Turns" cX8_run rm_X8_run) {a0 : Nat} {p1 : Int32} {p2 : Int32} {J : pd_J} {n : Nat} (hn : 133 ≤ n) (ha0 : pd_isCode a0 n = true) {O : Type} {kont : Int32 → pd_I → pd_R → Option O} {out : O} (K : ∀ (zx3 : Int32) (zI6 : pd_I) (zZ2 : pd_R), kont zx3 zI6 zZ2 = some out → pd_V cx 0 0 73 [none, none, none, none, some (.int zx3)] [] zI6 J (pd_RF zZ2) n) :
    ∀ (fu : Nat) (zx2 : Int32) (zI5 : pd_I) (zZ1 : pd_R), fl_X8_run_31 a0 p1 p2 n kont fu zx2 zI5 zZ1 = some out → pd_V cx 0 0 31 [some (.ref 49), some (.ref a0), some (.int p1), some (.int p2), some (.int zx2)] [] zI5 J (pd_RF zZ1) n := by
  intro fu
  induction fu with
  | zero => intro zx2 zI5 zZ1 hF; rw [fl_X8_run_31] at hF; cases hF
  | succ fu ih =>
    intro zx2 zI5 zZ1 hF
    rw [fl_X8_run_31] at hF
    refine pd_iload C dX8_run_31 rfl ?_
    refine pd_iload_n C dX8_run_33 rfl rfl ?_
    obtain ⟨zc2, hS, hF⟩ := pd_bd_some hF
    have hTzc2 : zc2 = true → pd_V cx 0 0 44 [some (.ref 49), some (.ref a0), some (.int p1), some (.int p2), some (.int zx2)] [] zI5 J (pd_RF zZ1) n := by
      intro hc
      have hF := pd_t hc hF
      refine pd_aload_n C dX8_run_44 rfl rfl ?_
      refine pd_aload_n C dX8_run_45 rfl rfl ?_
      refine pd_iload_n C dX8_run_46 rfl rfl ?_
      refine pd_iconst (v := 0) C dX8_run_47 (by decide) ?_
      obtain ⟨zI7, zZ3, zh1, hF⟩ := pd_bd2_some hF
      refine pd_callV C [.ref a0, .int p1, .int 0] [] (em_X8_doHalf (pd_C_st C) hn ha0 zh1) mw_X8_doHalf wd_4_217 rfl (by decide) (pd_lt (by decide) hn) sh_49 ⟨by decide, by decide, by decide, by decide⟩ rfl (Nat.le_of_ble_eq_true rfl) pd_oldL_same (fun _ _ => pd_old_same _) dX8_run_48 (stk' := []) rfl ?_
      refine pd_aload_n C dX8_run_51 rfl rfl ?_
      refine pd_aload_n C dX8_run_52 rfl rfl ?_
      refine pd_iload_n C dX8_run_53 rfl rfl ?_
      refine pd_iconst (v := 1) C dX8_run_54 (by decide) ?_
      obtain ⟨zI8, zZ4, zh2, hF⟩ := pd_bd2_some hF
      refine pd_callV C [.ref a0, .int p1, .int 1] [] (em_X8_doHalf (pd_C_st C) hn ha0 zh2) mw_X8_doHalf wd_4_217 rfl (by decide) (pd_lt (by decide) hn) sh_49 ⟨by decide, by decide, by decide, by decide⟩ rfl (Nat.le_of_ble_eq_true rfl) pd_oldL_same (fun _ _ => pd_old_same _) dX8_run_55 (stk' := []) rfl ?_
      refine pd_aload_n C dX8_run_58 rfl rfl ?_
      refine pd_aload_n C dX8_run_59 rfl rfl ?_
      refine pd_iload_n C dX8_run_60 rfl rfl ?_
      obtain ⟨zr1, zh3, hF⟩ := pd_bd_some hF
      refine pd_callV C [.int p1] [.ref 49] (em_X8_sayTheSame (pd_C_st C) hn  zh3) mw_X8_sayTheSame wd_4_235 rfl (by decide) (pd_lt (by decide) hn) sh_49 ⟨by decide, by decide, by decide, by decide⟩ rfl (Nat.le_of_ble_eq_true rfl) pd_oldL_same (fun _ _ => pd_old_same _) dX8_run_61 (stk' := [.int zr1, .ref 49]) rfl ?_
      obtain ⟨zg2, hF⟩ := pd_gd_some hF
      refine pi_8_7 C wd_1_215 (pd_bo_nar zg2) (pd_bo_fit zg2) (pd_lt (by decide) hn) sh_49 dX8_run_64 ?_
      refine pd_memI (fun zI9 hzI9 => ?_)
      have hF := pd_let_at hF hzI9
      refine pd_iincG (zz := 1) C dX8_run_67 rfl (by decide) rfl (fun zv2 hzv2 => ?_)
      have hF := pd_let_at hF hzv2
      refine pd_lsE (ls' := [some (.ref 49), some (.ref a0), some (.int p1), some (.int p2), some (.int zv2)]) rfl ?_
      refine pd_goto (tgt := 31) C dX8_run_70 (by decide) ?_
      exact ih _ _ _ hF
    have hEzc2 : zc2 = false → pd_V cx 0 0 73 [some (.ref 49), some (.ref a0), some (.int p1), some (.int p2), some (.int zx2)] [] zI5 J (pd_RF zZ1) n := by
      intro hc
      have hF := pd_bf hc hF
      refine pd_wk (ls' := [none, none, none, none, some (.int zx2)]) (And.intro rfl True.intro) ?_
      exact K _ _ _ hF
    replace hF := hS
    clear hS
    refine pd_icmp_ge (tgt := 73) C dX8_run_34 (by decide) (fun zc4 => ?_) (fun zc4 => ?_)
    · have hF := pd_t zc4 hF
      cases hF
      exact hEzc2 rfl
    · have hF := pd_f zc4 hF
      refine pd_aload_n C dX8_run_37 rfl rfl ?_
      refine gi_8_7 C wd_1_215 (pd_lt (by decide) hn) sh_49 dX8_run_38 ?_
      refine pd_if_ne (tgt := 73) C dX8_run_41 (by decide) (fun zc3 => ?_) (fun zc3 => ?_)
      · have hF := pd_f zc3 hF
        cases hF
        exact hEzc2 rfl
      · have hF := pd_t zc3 hF
        cases hF
        exact hTzc2 rfl
def fn_X8_run (I : pd_I) (Z : pd_R) (n : Nat) (a0 : Nat) (p1 : Int32) (p2 : Int32) : Option (Int32 × pd_I × pd_R) := fl_X8_run_3 p1 (fun zI2 => pd_let (pd_ui zI2 49 7 0) fun zI4 => fl_X8_run_31 a0 p1 p2 n (fun zx3 zI6 zZ2 => some (zx3, zI6, zZ2)) pd_FU 0 zI4 Z) pd_FU 0 I
set_option maxRecDepth 100000 in
set_option maxHeartbeats 4000000 in
theorem em_X8_run {l : Launch} {D : va_G} {tc : Nat → ClassId} (hst : l.stackTraces = false) {I : pd_I} {J : pd_J} {Z : pd_R} {n : Nat} {a0 : Nat} {p1 : Int32} {p2 : Int32} (hn : 133 ≤ n) (ha0 : pd_isCode a0 n = true) {out : Int32 × pd_I × pd_R} (hF : fn_X8_run I Z n a0 p1 p2 = some out) :
    pd_M l D tc yX8_run (.code yX8_run cX8_run 5 (Option.some Jvm.ClassFile.FieldType.int)) rm_X8_run [.ref 49, .ref a0, .int p1, .int p2] I J (pd_RF Z) n (.ok (some (.int out.1))) out.2.1 J (pd_RF out.2.2) n := by
  refine pd_open (own := "PathDecoder$Turns") (ls0 := [some (.ref 49), some (.ref a0), some (.int p1), some (.int p2), none]) (by decide) rfl (Nat.le_of_ble_eq_true rfl) rfl rfl hst (fun cx hl hD htc C hE htab hnm => ?_)
  subst hl hD htc
  unfold fn_X8_run at hF
  refine pd_iconst (v := 0) C dX8_run_0 (by decide) ?_
  refine pd_istore (ls' := [some (.ref 49), some (.ref a0), some (.int p1), some (.int p2), some (.int 0)]) C dX8_run_1 (Nat.le_of_ble_eq_true rfl) rfl rfl ?_
  refine el_X8_run_3 C hn ha0 (fun zI2 hF => ?_) pd_FU _ _ hF
  refine pd_aload_n C dX8_run_23 rfl rfl ?_
  refine pd_iconst (v := 0) C dX8_run_24 (by decide) ?_
  refine pi_8_7 C wd_1_215 (pd_bo_nar (by decide)) (pd_bo_fit (by decide)) (pd_lt (by decide) hn) sh_49 dX8_run_25 ?_
  refine pd_memI (fun zI4 hzI4 => ?_)
  have hF := pd_let_at hF hzI4
  refine pd_iconst (v := 0) C dX8_run_28 (by decide) ?_
  refine pd_istore (ls' := [some (.ref 49), some (.ref a0), some (.int p1), some (.int p2), some (.int 0)]) C dX8_run_29 (Nat.le_of_ble_eq_true rfl) rfl rfl ?_
  refine el_X8_run_31 C hn ha0 (fun zx3 zI6 zZ2 hF => ?_) pd_FU _ _ _ hF
  refine pd_iload C dX8_run_73 rfl ?_
  cases hF
  exact pd_iret C hE rfl rfl rfl ⟨by decide, by decide⟩ dX8_run_75

def fn_X8_didAgree (I : pd_I) : Option Int32 := pd_gd (pd_bo (I 49 7)) (some (I 49 7))
set_option maxRecDepth 100000 in
set_option maxHeartbeats 4000000 in
theorem em_X8_didAgree {l : Launch} {D : va_G} {tc : Nat → ClassId} (hst : l.stackTraces = false) {I : pd_I} {J : pd_J} {Z : pd_R} {n : Nat} (hn : 133 ≤ n)  {out : Int32} (hF : fn_X8_didAgree I = some out) :
    pd_M l D tc yX8_didAgree (.code yX8_didAgree cX8_didAgree 1 (Option.some Jvm.ClassFile.FieldType.boolean)) rm_X8_didAgree [.ref 49] I J (pd_RF Z) n (.ok (some (.int out))) I J (pd_RF Z) n := by
  refine pd_open (own := "PathDecoder$Turns") (ls0 := [some (.ref 49)]) (by decide) rfl (Nat.le_of_ble_eq_true rfl) rfl rfl hst (fun cx hl hD htc C hE htab hnm => ?_)
  subst hl hD htc
  unfold fn_X8_didAgree at hF
  refine pd_aload_n C dX8_didAgree_0 rfl rfl ?_
  refine gi_8_7 C wd_1_215 (pd_lt (by decide) hn) sh_49 dX8_didAgree_1 ?_
  obtain ⟨zg1, hF⟩ := pd_gd_some hF
  cases hF
  exact pd_iret C hE rfl rfl (pd_bo_nar zg1) ⟨by decide, by decide⟩ dX8_didAgree_4

def fn_X8_lastSeeming (I : pd_I) (p0 : Int32) : Option Int32 := pd_gd (pd_in p0 200) (some (I 53 p0.toNatClampNeg))
set_option maxRecDepth 100000 in
set_option maxHeartbeats 4000000 in
theorem em_X8_lastSeeming {l : Launch} {D : va_G} {tc : Nat → ClassId} (hst : l.stackTraces = false) {I : pd_I} {J : pd_J} {Z : pd_R} {n : Nat} {p0 : Int32} (hn : 133 ≤ n)  {out : Int32} (hF : fn_X8_lastSeeming I p0 = some out) :
    pd_M l D tc yX8_lastSeeming (.code yX8_lastSeeming cX8_lastSeeming 2 (Option.some Jvm.ClassFile.FieldType.int)) rm_X8_lastSeeming [.ref 49, .int p0] I J (pd_RF Z) n (.ok (some (.int out))) I J (pd_RF Z) n := by
  refine pd_open (own := "PathDecoder$Turns") (ls0 := [some (.ref 49), some (.int p0)]) (by decide) rfl (Nat.le_of_ble_eq_true rfl) rfl rfl hst (fun cx hl hD htc C hE htab hnm => ?_)
  subst hl hD htc
  unfold fn_X8_lastSeeming at hF
  refine pd_aload_n C dX8_lastSeeming_0 rfl rfl ?_
  refine gr_8_6 C wd_1_214 (pd_lt (by decide) hn) sh_49 (rf_49_6 _) dX8_lastSeeming_1 ?_
  refine pd_iload_n C dX8_lastSeeming_4 rfl rfl ?_
  obtain ⟨zg1, hF⟩ := pd_gd_some hF
  refine pd_iald C (pd_lt (by decide) hn) sh_53 zg1 dX8_lastSeeming_5 ?_
  cases hF
  exact pd_iret C hE rfl rfl rfl ⟨by decide, by decide⟩ dX8_lastSeeming_6

def fl_X11_talk_151 {O : Type} (p2 : Int32) (zq3 : Nat) (kont : pd_I → Option O) : Nat → Int32 → pd_I → Option O
  | 0, _, _ => none
  | fu + 1, zx1, zI8 => if p2 ≤ zx1 then kont zI8 else (pd_bd (fn_X8_lastSeeming zI8 zx1) fun zr4 => pd_gd (pd_in zx1 200) (pd_let (pd_ui zI8 59 zx1.toNatClampNeg zr4) fun zI10 => pd_gd (pd_in zx1 200) (pd_bd (if 0 ≤ (zI10 59 zx1.toNatClampNeg) then some 0 else (some 1)) fun (zx2 : Int32) => pd_gd (pd_in zx1 200) (pd_let (pd_ui zI10 (zq3 + 1) zx1.toNatClampNeg (zx2.toInt8.toInt32.toInt8.toInt32)) fun zI11 => pd_let (zx1 + 1) fun zv1 => fl_X11_talk_151 p2 zq3 kont fu zv1 zI11))))
set_option maxRecDepth 100000 in
set_option maxHeartbeats 4000000 in
theorem el_X11_talk_151 {cx : pd_X} (C : pd_C cx "PathDecoder" cX11_talk rm_X11_talk) {p2 : Int32} {zr2 : Int32} {zq3 : Nat} {J : pd_J} {zZ1 : pd_R} {n : Nat} (hn : 133 ≤ n) (zg4 : pd_isWay zq3 = true) {O : Type} {kont : pd_I → Option O} {out : O} (K : ∀ (zI9 : pd_I), kont zI9 = some out → pd_V cx 3 18 203 [some (.ref 0), none, none, none, none, none, none, some (.int zr2), none, none] [] zI9 J (pd_RF zZ1) n) :
    ∀ (fu : Nat) (zx1 : Int32) (zI8 : pd_I), fl_X11_talk_151 p2 zq3 kont fu zx1 zI8 = some out → pd_V cx 3 18 151 [some (.ref 0), none, none, some (.int p2), none, none, none, some (.int zr2), some (.ref zq3), some (.int zx1)] [] zI8 J (pd_RF zZ1) n := by
  intro fu
  induction fu with
  | zero => intro zx1 zI8 hF; rw [fl_X11_talk_151] at hF; cases hF
  | succ fu ih =>
    intro zx1 zI8 hF
    rw [fl_X11_talk_151] at hF
    refine pd_iload C dX11_talk_151 rfl ?_
    refine pd_iload_n C dX11_talk_153 rfl rfl ?_
    refine pd_icmp_ge (tgt := 203) C dX11_talk_154 (by decide) (fun zc2 => ?_) (fun zc2 => ?_)
    · have hF := pd_t zc2 hF
      refine pd_wk (ls' := [some (.ref 0), none, none, none, none, none, none, some (.int zr2), none, none]) (And.intro rfl (And.intro rfl True.intro)) ?_
      exact K _ hF
    · have hF := pd_f zc2 hF
      refine pd_aload_n C dX11_talk_157 rfl rfl ?_
      refine gr_11_11 C wd_2_43 (pd_lt (by decide) hn) sh_0 (rf_0_11 _) dX11_talk_158 ?_
      refine pd_iload C dX11_talk_161 rfl ?_
      refine pd_aload_n C dX11_talk_163 rfl rfl ?_
      refine gr_11_9 C wd_2_41 (pd_lt (by decide) hn) sh_0 (rf_0_9 _) dX11_talk_164 ?_
      refine pd_iload C dX11_talk_167 rfl ?_
      obtain ⟨zr4, zh12, hF⟩ := pd_bd_some hF
      refine pd_callV C [.int zx1] [.int zx1, .ref 59] (em_X8_lastSeeming (pd_C_st C) hn  zh12) mw_X8_lastSeeming wd_5_6 rfl (by decide) (pd_lt (by decide) hn) sh_49 ⟨by decide, by decide, by decide, by decide⟩ rfl (Nat.le_of_ble_eq_true rfl) pd_oldL_same (fun _ _ => pd_old_same _) dX11_talk_169 (stk' := [.int zr4, .int zx1, .ref 59]) rfl ?_
      obtain ⟨zg5, hF⟩ := pd_gd_some hF
      refine pd_iast C (pd_lt (by decide) hn) sh_59 zg5 dX11_talk_172 ?_
      refine pd_memI (fun zI10 hzI10 => ?_)
      have hF := pd_let_at hF hzI10
      refine pd_aload C dX11_talk_173 rfl ?_
      refine gr_9_3 C wd_1_124 (pd_way_lt zg4 hn) (pd_way_sh zg4) (pd_way_rf zg4) dX11_talk_175 ?_
      refine pd_iload C dX11_talk_178 rfl ?_
      refine pd_aload_n C dX11_talk_180 rfl rfl ?_
      refine gr_11_11 C wd_2_43 (pd_lt (by decide) hn) sh_0 (rf_0_11 _) dX11_talk_181 ?_
      refine pd_iload C dX11_talk_184 rfl ?_
      obtain ⟨zg6, hF⟩ := pd_gd_some hF
      refine pd_iald C (pd_lt (by decide) hn) sh_59 zg6 dX11_talk_186 ?_
      obtain ⟨zx2, hS, hF⟩ := pd_bd_some hF
      have hJ195 : pd_V cx 3 18 195 [some (.ref 0), none, none, some (.int p2), none, none, none, some (.int zr2), some (.ref zq3), some (.int zx1)] [.int zx2, .int zx1, .ref (zq3 + 1)] zI10 J (pd_RF zZ1) n := by
        refine pd_i2b C dX11_talk_195 ?_
        obtain ⟨zg7, hF⟩ := pd_gd_some hF
        refine pd_bast C (pd_way_lt1 zg4 hn) (pd_way_sh1 zg4) zg7 dX11_talk_196 ?_
        refine pd_memI (fun zI11 hzI11 => ?_)
        have hF := pd_let_at hF hzI11
        refine pd_iincG (zz := 1) C dX11_talk_197 rfl (by decide) rfl (fun zv1 hzv1 => ?_)
        have hF := pd_let_at hF hzv1
        refine pd_lsE (ls' := [some (.ref 0), none, none, some (.int p2), none, none, none, some (.int zr2), some (.ref zq3), some (.int zv1)]) rfl ?_
        refine pd_goto (tgt := 151) C dX11_talk_200 (by decide) ?_
        exact ih _ _ hF
      replace hF := hS
      clear hS
      refine pd_if_ge (tgt := 194) C dX11_talk_187 (by decide) (fun zc1 => ?_) (fun zc1 => ?_)
      · have hF := pd_t zc1 hF
        refine pd_iconst (v := 0) C dX11_talk_194 (by decide) ?_
        have hF := hF.symm
        cases hF
        exact hJ195
      · have hF := pd_f zc1 hF
        refine pd_iconst (v := 1) C dX11_talk_190 (by decide) ?_
        refine pd_goto (tgt := 195) C dX11_talk_191 (by decide) ?_
        have hF := hF.symm
        cases hF
        exact hJ195
def fn_X11_talk (I : pd_I) (Z : pd_R) (n : Nat) (p0 : Int32) (p1 : Int32) (p2 : Int32) (p3 : Int32) : Option (Except String (Int32 × pd_I × pd_R)) := pd_bx (fn_X11_codeOf I Z n p0) fun zq1 => pd_gd (pd_isCode zq1 n) (pd_bx (fn_X11_rowOf Z n p1) fun zq2 => pd_gd (pd_isRow zq2) (if (I zq1 0) = 5 then pd_bx (fn_X11_demandBitCount p2) fun _ => pd_jn (fun (_ : Unit) => some (.error "java/lang/IllegalArgumentException")) fun zj1 => if p3 < 1 then zj1 () else (if p3 ≤ 10 then pd_bd (fn_X0_ordersAll I zq1 p2) fun zr1 => if zr1 = 0 then some (.ok ((-1), I, Z)) else (pd_bd (fn_X3_read I zq1 p2 zq2) fun zI1 => pd_bd (fn_X1_load zI1 zq1) fun zI2 => pd_bd3 (fn_X8_run zI2 Z n zq1 p2 p3) fun zr2 zI3 zZ1 => pd_bd (fn_X8_didAgree zI3) fun zr3 => pd_gd (pd_bo zr3) (pd_let (pd_ui zI3 0 13 zr3) fun zI4 => pd_let (pd_ui zI4 0 12 p2) fun zI5 => pd_bd (fn_X10_open zI5 1) fun zI6 => pd_bd (fn_X10_offered zI6 zZ1 n) fun zq3 => pd_gd (pd_isWay zq3) (pd_bd (fn_X9_begin zI6 zq3 0 0 p2) fun zI7 => fl_X11_talk_151 p2 zq3 (fun zI9 => pd_bd3 (fn_X10_settle zI9 zZ1 n) fun zr5 zI12 zZ2 => some (.ok (zr2, zI12, zZ2))) pd_FU 0 zI7))) else (zj1 ())) else (some (.error "java/util/NoSuchElementException"))))
set_option maxRecDepth 100000 in
set_option maxHeartbeats 4000000 in
theorem em_X11_talk {l : Launch} {D : va_G} {tc : Nat → ClassId} (hst : l.stackTraces = false) {I : pd_I} {J : pd_J} {Z : pd_R} {n : Nat} {p0 : Int32} {p1 : Int32} {p2 : Int32} {p3 : Int32} (hn : 133 ≤ n)  {out : Except String (Int32 × pd_I × pd_R)} (hF : fn_X11_talk I Z n p0 p1 p2 p3 = some out) :
    pd_M l D tc yX11_talk (.code yX11_talk cX11_talk 10 (Option.some Jvm.ClassFile.FieldType.int)) rm_X11_talk [.ref 0, .int p0, .int p1, .int p2, .int p3] I J (pd_RF Z) n (pd_oo (fun (p : Int32 × pd_I × pd_R) => some (.int p.1)) out) (pd_os (fun (p : Int32 × pd_I × pd_R) => p.2.1) I out) J (pd_RF (pd_os (fun (p : Int32 × pd_I × pd_R) => p.2.2) Z out)) n := by
  refine pd_open (own := "PathDecoder") (ls0 := [some (.ref 0), some (.int p0), some (.int p1), some (.int p2), some (.int p3), none, none, none, none, none]) (by decide) rfl (Nat.le_of_ble_eq_true rfl) rfl rfl hst (fun cx hl hD htc C hE htab hnm => ?_)
  subst hl hD htc
  unfold fn_X11_talk at hF
  refine pd_aload_n C dX11_talk_0 rfl rfl ?_
  refine pd_iload_n C dX11_talk_1 rfl rfl ?_
  rcases pd_bx_some hF with ⟨e9, zh1, he9⟩ | ⟨zq1, zh1, hF⟩
  · subst he9
    exact pd_callVX C [.int p0] [] (em_X11_codeOf (pd_C_st C) hn  zh1) mw_X11_codeOf wd_3_100 rfl (by decide) (pd_lt (by decide) hn) sh_0 ⟨by decide, by decide, by decide, by decide⟩ rfl (Nat.le_of_ble_eq_true rfl) dX11_talk_2 (pd_prop C hE rfl htab ⟨by decide, by decide⟩)
  obtain ⟨zg1, hF⟩ := pd_gd_some hF
  refine pd_callV C [.int p0] [] (em_X11_codeOf (pd_C_st C) hn  zh1) mw_X11_codeOf wd_3_100 rfl (by decide) (pd_lt (by decide) hn) sh_0 ⟨by decide, by decide, by decide, by decide⟩ rfl (Nat.le_of_ble_eq_true rfl) pd_oldL_same (fun _ _ => pd_old_same _) dX11_talk_2 (stk' := [.ref zq1]) rfl ?_
  refine pd_astore (ls' := [some (.ref 0), some (.int p0), some (.int p1), some (.int p2), some (.int p3), some (.ref zq1), none, none, none, none]) C dX11_talk_5 (Nat.le_of_ble_eq_true rfl) rfl rfl ?_
  refine pd_aload_n C dX11_talk_7 rfl rfl ?_
  refine pd_iload_n C dX11_talk_8 rfl rfl ?_
  rcases pd_bx_some hF with ⟨e9, zh2, he9⟩ | ⟨zq2, zh2, hF⟩
  · subst he9
    exact pd_callVX C [.int p1] [] (em_X11_rowOf (pd_C_st C) hn  zh2) mw_X11_rowOf wd_2_88 rfl (by decide) (pd_lt (by decide) hn) sh_0 ⟨by decide, by decide, by decide, by decide⟩ rfl (Nat.le_of_ble_eq_true rfl) dX11_talk_9 (pd_prop C hE rfl htab ⟨by decide, by decide⟩)
  obtain ⟨zg2, hF⟩ := pd_gd_some hF
  refine pd_callV C [.int p1] [] (em_X11_rowOf (pd_C_st C) hn  zh2) mw_X11_rowOf wd_2_88 rfl (by decide) (pd_lt (by decide) hn) sh_0 ⟨by decide, by decide, by decide, by decide⟩ rfl (Nat.le_of_ble_eq_true rfl) pd_oldL_same (fun _ _ => pd_old_same _) dX11_talk_9 (stk' := [.ref zq2]) rfl ?_
  refine pd_astore (ls' := [some (.ref 0), some (.int p0), some (.int p1), some (.int p2), some (.int p3), some (.ref zq1), some (.ref zq2), none, none, none]) C dX11_talk_12 (Nat.le_of_ble_eq_true rfl) rfl rfl ?_
  refine pd_aload C dX11_talk_14 rfl ?_
  refine gi_0_0 C wd_3_60 (pd_code_lt zg1) (pd_code_sh zg1) dX11_talk_16 ?_
  refine pd_iconst (v := 5) C dX11_talk_19 (by decide) ?_
  refine pd_icmp_eq (tgt := 33) C dX11_talk_20 (by decide) (fun zc6 => ?_) (fun zc6 => ?_)
  · have hF := pd_t zc6 hF
    refine pd_iload_n C dX11_talk_33 rfl rfl ?_
    rcases pd_bx_some hF with ⟨e9, zh3, he9⟩ | ⟨_, zh3, hF⟩
    · subst he9
      exact pd_callSX C [.int p2] [] (em_X11_demandBitCount (pd_C_st C) hn  zh3) mw_X11_demandBitCount wd_3_154 ⟨by decide, by decide, by decide, by decide⟩ rfl (Nat.le_of_ble_eq_true rfl) dX11_talk_34 (pd_prop C hE rfl htab ⟨by decide, by decide⟩)
    refine pd_callS C [.int p2] [] (em_X11_demandBitCount (pd_C_st C) hn  zh3) mw_X11_demandBitCount wd_3_154 ⟨by decide, by decide, by decide, by decide⟩ rfl (Nat.le_of_ble_eq_true rfl) pd_oldL_same (fun _ _ => pd_old_same _) dX11_talk_34 (stk' := []) rfl ?_
    refine pd_iload C dX11_talk_37 rfl ?_
    refine pd_iconst (v := 1) C dX11_talk_39 (by decide) ?_
    refine pd_jn_use hF (fun j => ∀ (_u : Unit), j _u = some out → pd_V cx 3 18 50 [none, none, none, none, none, none, none, none, none, none] [] I J (pd_RF Z) n) (fun _u hF => ?_) (fun zj1 hzj1 hF => ?_)
    · cases hF
      exact pd_throwW (ik := 103) C hE rfl htab pd_tw1 wd_2_159 wd_1_17 (List.mem_of_getElem? (i := 23) rfl) dX11_talk_50 dX11_talk_53 dX11_talk_54 dX11_talk_57 dX11_talk_60 ⟨by decide, Nat.le_of_ble_eq_true rfl, by decide, by decide⟩
    · refine pd_icmp_lt (tgt := 50) C dX11_talk_40 (by decide) (fun zc5 => ?_) (fun zc5 => ?_)
      · have hF := pd_t zc5 hF
        refine pd_wk (ls' := [none, none, none, none, none, none, none, none, none, none]) True.intro ?_
        exact hzj1 _ hF
      · have hF := pd_f zc5 hF
        refine pd_iload C dX11_talk_43 rfl ?_
        refine pd_bipush (v := 10) C dX11_talk_45 (by decide) ?_
        refine pd_icmp_le (tgt := 61) C dX11_talk_47 (by decide) (fun zc4 => ?_) (fun zc4 => ?_)
        · have hF := pd_t zc4 hF
          refine pd_aload C dX11_talk_61 rfl ?_
          refine pd_iload_n C dX11_talk_63 rfl rfl ?_
          obtain ⟨zr1, zh4, hF⟩ := pd_bd_some hF
          refine pd_callV C [.int p2] [] (em_X0_ordersAll (pd_C_st C) hn zg1 zh4) mw_X0_ordersAll wd_4_212 rfl (by decide) (pd_code_lt zg1) (pd_code_sh zg1) ⟨by decide, by decide, by decide, by decide⟩ rfl (Nat.le_of_ble_eq_true rfl) pd_oldL_same (fun _ _ => pd_old_same _) dX11_talk_64 (stk' := [.int zr1]) rfl ?_
          refine pd_if_ne (tgt := 72) C dX11_talk_67 (by decide) (fun zc3 => ?_) (fun zc3 => ?_)
          · have hF := pd_f zc3 hF
            refine pd_aload_n C dX11_talk_72 rfl rfl ?_
            refine gr_11_4 C wd_2_36 (pd_lt (by decide) hn) sh_0 (rf_0_4 _) dX11_talk_73 ?_
            refine pd_aload C dX11_talk_76 rfl ?_
            refine pd_iload_n C dX11_talk_78 rfl rfl ?_
            refine pd_aload C dX11_talk_79 rfl ?_
            obtain ⟨zI1, zh5, hF⟩ := pd_bd_some hF
            refine pd_callV C [.ref zq1, .int p2, .ref zq2] [] (em_X3_read (pd_C_st C) hn zg1 zg2 zh5) mw_X3_read wd_4_11 rfl (by decide) (pd_lt (by decide) hn) sh_6 ⟨by decide, by decide, by decide, by decide⟩ rfl (Nat.le_of_ble_eq_true rfl) pd_oldL_same (fun _ _ => pd_old_same _) dX11_talk_81 (stk' := []) rfl ?_
            refine pd_aload_n C dX11_talk_84 rfl rfl ?_
            refine gr_11_5 C wd_2_37 (pd_lt (by decide) hn) sh_0 (rf_0_5 _) dX11_talk_85 ?_
            refine pd_aload C dX11_talk_88 rfl ?_
            obtain ⟨zI2, zh6, hF⟩ := pd_bd_some hF
            refine pd_callV C [.ref zq1] [] (em_X1_load (pd_C_st C) hn zg1 zh6) mw_X1_load wd_4_39 rfl (by decide) (pd_lt (by decide) hn) sh_11 ⟨by decide, by decide, by decide, by decide⟩ rfl (Nat.le_of_ble_eq_true rfl) pd_oldL_same (fun _ _ => pd_old_same _) dX11_talk_90 (stk' := []) rfl ?_
            refine pd_aload_n C dX11_talk_93 rfl rfl ?_
            refine gr_11_9 C wd_2_41 (pd_lt (by decide) hn) sh_0 (rf_0_9 _) dX11_talk_94 ?_
            refine pd_aload C dX11_talk_97 rfl ?_
            refine pd_iload_n C dX11_talk_99 rfl rfl ?_
            refine pd_iload C dX11_talk_100 rfl ?_
            obtain ⟨zr2, zI3, zZ1, zh7, hF⟩ := pd_bd3_some hF
            refine pd_callV C [.ref zq1, .int p2, .int p3] [] (em_X8_run (pd_C_st C) hn zg1 zh7) mw_X8_run wd_4_213 rfl (by decide) (pd_lt (by decide) hn) sh_49 ⟨by decide, by decide, by decide, by decide⟩ rfl (Nat.le_of_ble_eq_true rfl) pd_oldL_same (fun _ _ => pd_old_same _) dX11_talk_102 (stk' := [.int zr2]) rfl ?_
            refine pd_istore (ls' := [some (.ref 0), some (.int p0), some (.int p1), some (.int p2), some (.int p3), some (.ref zq1), some (.ref zq2), some (.int zr2), none, none]) C dX11_talk_105 (Nat.le_of_ble_eq_true rfl) rfl rfl ?_
            refine pd_aload_n C dX11_talk_107 rfl rfl ?_
            refine pd_aload_n C dX11_talk_108 rfl rfl ?_
            refine gr_11_9 C wd_2_41 (pd_lt (by decide) hn) sh_0 (rf_0_9 _) dX11_talk_109 ?_
            obtain ⟨zr3, zh8, hF⟩ := pd_bd_some hF
            refine pd_callV C [] [.ref 0] (em_X8_didAgree (pd_C_st C) hn  zh8) mw_X8_didAgree wd_4_239 rfl (by decide) (pd_lt (by decide) hn) sh_49 ⟨by decide, by decide, by decide, by decide⟩ rfl (Nat.le_of_ble_eq_true rfl) pd_oldL_same (fun _ _ => pd_old_same _) dX11_talk_112 (stk' := [.int zr3, .ref 0]) rfl ?_
            obtain ⟨zg3, hF⟩ := pd_gd_some hF
            refine pi_11_13 C wd_2_45 (pd_bo_nar zg3) (pd_bo_fit zg3) (pd_lt (by decide) hn) sh_0 dX11_talk_115 ?_
            refine pd_memI (fun zI4 hzI4 => ?_)
            have hF := pd_let_at hF hzI4
            refine pd_aload_n C dX11_talk_118 rfl rfl ?_
            refine pd_iload_n C dX11_talk_119 rfl rfl ?_
            refine pi_11_12 C wd_2_44 rfl rfl (pd_lt (by decide) hn) sh_0 dX11_talk_120 ?_
            refine pd_memI (fun zI5 hzI5 => ?_)
            have hF := pd_let_at hF hzI5
            refine pd_aload_n C dX11_talk_123 rfl rfl ?_
            refine gr_11_6 C wd_2_38 (pd_lt (by decide) hn) sh_0 (rf_0_6 _) dX11_talk_124 ?_
            refine pd_iconst (v := 1) C dX11_talk_127 (by decide) ?_
            obtain ⟨zI6, zh9, hF⟩ := pd_bd_some hF
            refine pd_callV C [.int 1] [] (em_X10_open (pd_C_st C) hn  zh9) mw_X10_open wd_5_3 rfl (by decide) (pd_lt (by decide) hn) sh_16 ⟨by decide, by decide, by decide, by decide⟩ rfl (Nat.le_of_ble_eq_true rfl) pd_oldL_same (fun _ _ => pd_old_same _) dX11_talk_128 (stk' := []) rfl ?_
            refine pd_aload_n C dX11_talk_131 rfl rfl ?_
            refine gr_11_6 C wd_2_38 (pd_lt (by decide) hn) sh_0 (rf_0_6 _) dX11_talk_132 ?_
            obtain ⟨zq3, zh10, hF⟩ := pd_bd_some hF
            obtain ⟨zg4, hF⟩ := pd_gd_some hF
            refine pd_callV C [] [] (em_X10_offered (pd_C_st C) hn  zh10) mw_X10_offered wd_5_4 rfl (by decide) (pd_lt (by decide) hn) sh_16 ⟨by decide, by decide, by decide, by decide⟩ rfl (Nat.le_of_ble_eq_true rfl) pd_oldL_same (fun _ _ => pd_old_same _) dX11_talk_135 (stk' := [.ref zq3]) rfl ?_
            refine pd_astore (ls' := [some (.ref 0), some (.int p0), some (.int p1), some (.int p2), some (.int p3), some (.ref zq1), some (.ref zq2), some (.int zr2), some (.ref zq3), none]) C dX11_talk_138 (Nat.le_of_ble_eq_true rfl) rfl rfl ?_
            refine pd_aload C dX11_talk_140 rfl ?_
            refine pd_iconst (v := 0) C dX11_talk_142 (by decide) ?_
            refine pd_iconst (v := 0) C dX11_talk_143 (by decide) ?_
            refine pd_iload_n C dX11_talk_144 rfl rfl ?_
            obtain ⟨zI7, zh11, hF⟩ := pd_bd_some hF
            refine pd_callV C [.int 0, .int 0, .int p2] [] (em_X9_begin (pd_C_st C) hn zg4 zh11) mw_X9_begin wd_5_5 rfl (by decide) (pd_way_lt zg4 hn) (pd_way_sh zg4) ⟨by decide, by decide, by decide, by decide⟩ rfl (Nat.le_of_ble_eq_true rfl) pd_oldL_same (fun _ _ => pd_old_same _) dX11_talk_145 (stk' := []) rfl ?_
            refine pd_iconst (v := 0) C dX11_talk_148 (by decide) ?_
            refine pd_istore (ls' := [some (.ref 0), some (.int p0), some (.int p1), some (.int p2), some (.int p3), some (.ref zq1), some (.ref zq2), some (.int zr2), some (.ref zq3), some (.int 0)]) C dX11_talk_149 (Nat.le_of_ble_eq_true rfl) rfl rfl ?_
            refine pd_wk (ls' := [some (.ref 0), none, none, some (.int p2), none, none, none, some (.int zr2), some (.ref zq3), some (.int 0)]) (And.intro rfl (And.intro rfl (And.intro rfl (And.intro rfl (And.intro rfl True.intro))))) ?_
            refine el_X11_talk_151 C hn zg4 (fun zI9 hF => ?_) pd_FU _ _ hF
            refine pd_aload_n C dX11_talk_203 rfl rfl ?_
            refine gr_11_6 C wd_2_38 (pd_lt (by decide) hn) sh_0 (rf_0_6 _) dX11_talk_204 ?_
            obtain ⟨zr5, zI12, zZ2, zh13, hF⟩ := pd_bd3_some hF
            refine pd_callV C [] [] (em_X10_settle (pd_C_st C) hn  zh13) mw_X10_settle wd_5_10 rfl (by decide) (pd_lt (by decide) hn) sh_16 ⟨by decide, by decide, by decide, by decide⟩ rfl (Nat.le_of_ble_eq_true rfl) pd_oldL_same (fun _ _ => pd_old_same _) dX11_talk_207 (stk' := [.int zr5]) rfl ?_
            refine pd_pop C dX11_talk_210 rfl ?_
            refine pd_iload C dX11_talk_211 rfl ?_
            cases hF
            exact pd_iret C hE rfl rfl rfl ⟨by decide, by decide⟩ dX11_talk_213
          · have hF := pd_t zc3 hF
            refine pd_iconst (v := (-1)) C dX11_talk_70 (by decide) ?_
            cases hF
            exact pd_iret C hE rfl rfl rfl ⟨by decide, by decide⟩ dX11_talk_71
        · have hF := pd_f zc4 hF
          refine pd_wk (ls' := [none, none, none, none, none, none, none, none, none, none]) True.intro ?_
          exact hzj1 _ hF
  · have hF := pd_f zc6 hF
    cases hF
    exact pd_throwN (ik := 167) C hE rfl htab pd_tw3 wd_2_209 wd_1_19 (List.mem_of_getElem? (i := 16) rfl) dX11_talk_23 dX11_talk_26 dX11_talk_27 dX11_talk_29 dX11_talk_32 ⟨by decide, Nat.le_of_ble_eq_true rfl, by decide, by decide⟩

