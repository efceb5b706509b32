def fl_X12_take_55 {O : Type} (p0 : Int32) (p1 : Int32) (kont : pd_I → Option O) : Nat → Int32 → pd_I → Option O
  | 0, _, _ => none
  | fu + 1, zx2, zI6 => if 600 ≤ zx2 then kont zI6 else (pd_gd (pd_in p0 8) (pd_bd (if (zI6 108 p0.toNatClampNeg) ≤ zx2 then some 0 else (pd_gd (pd_in ((200 * p0) + zx2) 1600) (some (zI6 105 ((200 * p0) + zx2).toNatClampNeg)))) fun (zx3 : Int32) => pd_gd (pd_in ((600 * p1) + zx2) 9600) (pd_let (pd_ui zI6 94 ((600 * p1) + zx2).toNatClampNeg zx3) fun zI8 => pd_let (zx2 + 1) fun zv1 => fl_X12_take_55 p0 p1 kont fu zv1 zI8)))
set_option maxRecDepth 100000 in
set_option maxHeartbeats 4000000 in
theorem el_X12_take_55 {cx : pd_X} (C : pd_C cx "PathDecoderModel" cX12_take rm_X12_take) {p0 : Int32} {p1 : Int32} {J : pd_J} {Z : pd_R} {n : Nat} (hn : 133 ≤ n)  {O : Type} {kont : pd_I → Option O} {out : O} (K : ∀ (zI7 : pd_I), kont zI7 = some out → pd_V cx 0 0 106 [some (.ref 92), some (.int p0), none, none] [] zI7 J (pd_RF Z) n) :
    ∀ (fu : Nat) (zx2 : Int32) (zI6 : pd_I), fl_X12_take_55 p0 p1 kont fu zx2 zI6 = some out → pd_V cx 0 0 55 [some (.ref 92), some (.int p0), some (.int p1), some (.int zx2)] [] zI6 J (pd_RF Z) n := by
  intro fu
  induction fu with
  | zero => intro zx2 zI6 hF; rw [fl_X12_take_55] at hF; cases hF
  | succ fu ih =>
    intro zx2 zI6 hF
    rw [fl_X12_take_55] at hF
    refine pd_iload_n C dX12_take_55 rfl rfl ?_
    refine pd_sipush (v := 600) C dX12_take_56 (by decide) ?_
    refine pd_icmp_ge (tgt := 106) C dX12_take_59 (by decide) (fun zc2 => ?_) (fun zc2 => ?_)
    · have hF := pd_t zc2 hF
      refine pd_wk (ls' := [some (.ref 92), some (.int p0), none, none]) (And.intro rfl (And.intro rfl True.intro)) ?_
      exact K _ hF
    · have hF := pd_f zc2 hF
      refine pd_aload_n C dX12_take_62 rfl rfl ?_
      refine gr_12_2 C wd_5_127 (pd_lt (by decide) hn) sh_92 (rf_92_2 _) dX12_take_63 ?_
      refine pd_sipush (v := 600) C dX12_take_66 (by decide) ?_
      refine pd_iload_n C dX12_take_69 rfl rfl ?_
      refine pd_imul C dX12_take_70 ?_
      refine pd_iload_n C dX12_take_71 rfl rfl ?_
      refine pd_iadd C dX12_take_72 ?_
      refine pd_iload_n C dX12_take_73 rfl rfl ?_
      refine pd_aload_n C dX12_take_74 rfl rfl ?_
      refine gr_12_18 C wd_5_143 (pd_lt (by decide) hn) sh_92 (rf_92_18 _) dX12_take_75 ?_
      refine pd_iload_n C dX12_take_78 rfl rfl ?_
      obtain ⟨zg3, hF⟩ := pd_gd_some hF
      refine pd_iald C (pd_lt (by decide) hn) sh_108 zg3 dX12_take_79 ?_
      obtain ⟨zx3, hS, hF⟩ := pd_bd_some hF
      have hJ99 : pd_V cx 0 0 99 [some (.ref 92), some (.int p0), some (.int p1), some (.int zx2)] [.int zx3, .int ((600 * p1) + zx2), .ref 94] zI6 J (pd_RF Z) n := by
        obtain ⟨zg4, hF⟩ := pd_gd_some hF
        refine pd_iast C (pd_lt (by decide) hn) sh_94 zg4 dX12_take_99 ?_
        refine pd_memI (fun zI8 hzI8 => ?_)
        have hF := pd_let_at hF hzI8
        refine pd_iincG (zz := 1) C dX12_take_100 rfl (by decide) rfl (fun zv1 hzv1 => ?_)
        have hF := pd_let_at hF hzv1
        refine pd_lsE (ls' := [some (.ref 92), some (.int p0), some (.int p1), some (.int zv1)]) rfl ?_
        refine pd_goto (tgt := 55) C dX12_take_103 (by decide) ?_
        exact ih _ _ hF
      replace hF := hS
      clear hS
      refine pd_icmp_ge (tgt := 98) C dX12_take_80 (by decide) (fun zc1 => ?_) (fun zc1 => ?_)
      · have hF := pd_t zc1 hF
        refine pd_iconst (v := 0) C dX12_take_98 (by decide) ?_
        have hF := hF.symm
        cases hF
        exact hJ99
      · have hF := pd_f zc1 hF
        refine pd_aload_n C dX12_take_83 rfl rfl ?_
        refine gr_12_15 C wd_5_140 (pd_lt (by decide) hn) sh_92 (rf_92_15 _) dX12_take_84 ?_
        refine pd_sipush (v := 200) C dX12_take_87 (by decide) ?_
        refine pd_iload_n C dX12_take_90 rfl rfl ?_
        refine pd_imul C dX12_take_91 ?_
        refine pd_iload_n C dX12_take_92 rfl rfl ?_
        refine pd_iadd C dX12_take_93 ?_
        obtain ⟨zg5, hF⟩ := pd_gd_some hF
        refine pd_iald C (pd_lt (by decide) hn) sh_105 zg5 dX12_take_94 ?_
        refine pd_goto (tgt := 99) C dX12_take_95 (by decide) ?_
        have hF := hF.symm
        cases hF
        exact hJ99
def fn_X12_take (I : pd_I) (p0 : Int32) (p1 : Int32) : Option (Int32 × pd_I) := pd_let (pd_ui I 92 0 0) fun zI1 => pd_bd2 (fn_X12_isRow zI1 p1 1) fun zr1 zI2 => pd_jn (fun (zI3 : pd_I) => some (0, zI3)) fun zj1 => if zr1 = 0 then zj1 zI2 else (pd_bd (pd_bd (if p0 < 0 then some false else (if (zI2 92 14) ≤ p0 then some false else (some true))) fun zc4 => if zc4 = true then some 1 else (some 0)) fun (zx1 : Int32) => pd_bd2 (fn_X12_right zI2 zx1 2) fun zr2 zI4 => if zr2 = 0 then zj1 zI4 else (pd_gd (pd_in p0 8) (pd_gd (pd_in p1 16) (pd_let (pd_ui zI4 93 p1.toNatClampNeg (zI4 108 p0.toNatClampNeg)) fun zI5 => fl_X12_take_55 p0 p1 (fun zI7 => pd_gd (pd_in p0 8) (some ((zI7 108 p0.toNatClampNeg), zI7))) pd_FU 0 zI5))))
set_option maxRecDepth 100000 in
set_option maxHeartbeats 4000000 in
theorem em_X12_take {l : Launch} {D : va_G} {tc : Nat → ClassId} (hst : l.stackTraces = false) {I : pd_I} {J : pd_J} {Z : pd_R} {n : Nat} {p0 : Int32} {p1 : Int32} (hn : 133 ≤ n)  {out : Int32 × pd_I} (hF : fn_X12_take I p0 p1 = some out) :
    pd_M l D tc yX12_take (.code yX12_take cX12_take 4 (Option.some Jvm.ClassFile.FieldType.int)) rm_X12_take [.ref 92, .int p0, .int p1] I J (pd_RF Z) n (.ok (some (.int out.1))) out.2 J (pd_RF Z) n := by
  refine pd_open (own := "PathDecoderModel") (ls0 := [some (.ref 92), some (.int p0), some (.int p1), none]) (by decide) rfl (Nat.le_of_ble_eq_true rfl) rfl rfl hst (fun cx hl hD htc C hE htab hnm => ?_)
  subst hl hD htc
  unfold fn_X12_take at hF
  refine pd_aload_n C dX12_take_0 rfl rfl ?_
  refine pd_iconst (v := 0) C dX12_take_1 (by decide) ?_
  refine pi_12_0 C wd_5_125 rfl rfl (pd_lt (by decide) hn) sh_92 dX12_take_2 ?_
  refine pd_memI (fun zI1 hzI1 => ?_)
  have hF := pd_let_at hF hzI1
  refine pd_aload_n C dX12_take_5 rfl rfl ?_
  refine pd_iload_n C dX12_take_6 rfl rfl ?_
  refine pd_iconst (v := 1) C dX12_take_7 (by decide) ?_
  obtain ⟨zr1, zI2, zh1, hF⟩ := pd_bd2_some hF
  refine pd_callV C [.int p1, .int 1] [] (em_X12_isRow (pd_C_st C) hn  zh1) mw_X12_isRow wd_6_26 rfl (by decide) (pd_lt (by decide) hn) sh_92 ⟨by decide, by decide, by decide, by decide⟩ rfl (Nat.le_of_ble_eq_true rfl) pd_oldL_same (fun _ _ => pd_old_same _) dX12_take_8 (stk' := [.int zr1]) rfl ?_
  refine pd_jn_use hF (fun j => ∀ (zI3 : pd_I), j zI3 = some out → pd_V cx 0 0 39 [none, none, none, none] [] zI3 J (pd_RF Z) n) (fun zI3 hF => ?_) (fun zj1 hzj1 hF => ?_)
  · refine pd_iconst (v := 0) C dX12_take_39 (by decide) ?_
    cases hF
    exact pd_iret C hE rfl rfl rfl ⟨by decide, by decide⟩ dX12_take_40
  · refine pd_if_eq (tgt := 39) C dX12_take_11 (by decide) (fun zc7 => ?_) (fun zc7 => ?_)
    · have hF := pd_t zc7 hF
      refine pd_wk (ls' := [none, none, none, none]) True.intro ?_
      exact hzj1 _ hF
    · have hF := pd_f zc7 hF
      refine pd_aload_n C dX12_take_14 rfl rfl ?_
      refine pd_iload_n C dX12_take_15 rfl rfl ?_
      obtain ⟨zx1, hS, hF⟩ := pd_bd_some hF
      have hJ32 : pd_V cx 0 0 32 [some (.ref 92), some (.int p0), some (.int p1), none] [.int zx1, .ref 92] zI2 J (pd_RF Z) n := by
        refine pd_iconst (v := 2) C dX12_take_32 (by decide) ?_
        obtain ⟨zr2, zI4, zh2, hF⟩ := pd_bd2_some hF
        refine pd_callV C [.int zx1, .int 2] [] (em_X12_right (pd_C_st C) hn  zh2) mw_X12_right wd_6_30 rfl (by decide) (pd_lt (by decide) hn) sh_92 ⟨by decide, by decide, by decide, by decide⟩ rfl (Nat.le_of_ble_eq_true rfl) pd_oldL_same (fun _ _ => pd_old_same _) dX12_take_33 (stk' := [.int zr2]) rfl ?_
        refine pd_if_ne (tgt := 41) C dX12_take_36 (by decide) (fun zc3 => ?_) (fun zc3 => ?_)
        · have hF := pd_f zc3 hF
          refine pd_aload_n C dX12_take_41 rfl rfl ?_
          refine gr_12_1 C wd_5_126 (pd_lt (by decide) hn) sh_92 (rf_92_1 _) dX12_take_42 ?_
          refine pd_iload_n C dX12_take_45 rfl rfl ?_
          refine pd_aload_n C dX12_take_46 rfl rfl ?_
          refine gr_12_18 C wd_5_143 (pd_lt (by decide) hn) sh_92 (rf_92_18 _) dX12_take_47 ?_
          refine pd_iload_n C dX12_take_50 rfl rfl ?_
          obtain ⟨zg1, hF⟩ := pd_gd_some hF
          refine pd_iald C (pd_lt (by decide) hn) sh_108 zg1 dX12_take_51 ?_
          obtain ⟨zg2, hF⟩ := pd_gd_some hF
          refine pd_iast C (pd_lt (by decide) hn) sh_93 zg2 dX12_take_52 ?_
          refine pd_memI (fun zI5 hzI5 => ?_)
          have hF := pd_let_at hF hzI5
          refine pd_iconst (v := 0) C dX12_take_53 (by decide) ?_
          refine pd_istore_n (ls' := [some (.ref 92), some (.int p0), some (.int p1), some (.int 0)]) C dX12_take_54 rfl (Nat.le_of_ble_eq_true rfl) rfl rfl ?_
          refine el_X12_take_55 C hn (fun zI7 hF => ?_) pd_FU _ _ hF
          refine pd_aload_n C dX12_take_106 rfl rfl ?_
          refine gr_12_18 C wd_5_143 (pd_lt (by decide) hn) sh_92 (rf_92_18 _) dX12_take_107 ?_
          refine pd_iload_n C dX12_take_110 rfl rfl ?_
          obtain ⟨zg6, hF⟩ := pd_gd_some hF
          refine pd_iald C (pd_lt (by decide) hn) sh_108 zg6 dX12_take_111 ?_
          cases hF
          exact pd_iret C hE rfl rfl rfl ⟨by decide, by decide⟩ dX12_take_112
        · have hF := pd_t zc3 hF
          refine pd_wk (ls' := [none, none, none, none]) True.intro ?_
          exact hzj1 _ hF
      replace hF := hS
      clear hS
      obtain ⟨zc4, hS, hF⟩ := pd_bd_some hF
      have hTzc4 : zc4 = true → pd_V cx 0 0 27 [some (.ref 92), some (.int p0), some (.int p1), none] [.ref 92] zI2 J (pd_RF Z) n := by
        intro hc
        have hF := pd_t hc hF
        refine pd_iconst (v := 1) C dX12_take_27 (by decide) ?_
        refine pd_goto (tgt := 32) C dX12_take_28 (by decide) ?_
        have hF := hF.symm
        cases hF
        exact hJ32
      have hEzc4 : zc4 = false → pd_V cx 0 0 31 [some (.ref 92), some (.int p0), some (.int p1), none] [.ref 92] zI2 J (pd_RF Z) n := by
        intro hc
        have hF := pd_bf hc hF
        refine pd_iconst (v := 0) C dX12_take_31 (by decide) ?_
        have hF := hF.symm
        cases hF
        exact hJ32
      replace hF := hS
      clear hS
      refine pd_if_lt (tgt := 31) C dX12_take_16 (by decide) (fun zc6 => ?_) (fun zc6 => ?_)
      · have hF := pd_t zc6 hF
        cases hF
        exact hEzc4 rfl
      · have hF := pd_f zc6 hF
        refine pd_iload_n C dX12_take_19 rfl rfl ?_
        refine pd_aload_n C dX12_take_20 rfl rfl ?_
        refine gi_12_14 C wd_5_139 (pd_lt (by decide) hn) sh_92 dX12_take_21 ?_
        refine pd_icmp_ge (tgt := 31) C dX12_take_24 (by decide) (fun zc5 => ?_) (fun zc5 => ?_)
        · have hF := pd_t zc5 hF
          cases hF
          exact hEzc4 rfl
        · have hF := pd_f zc5 hF
          cases hF
          exact hTzc4 rfl

def fl_X12_weight_6 {O : Type} (p0 : Int32) (p1 : Int32) (p2 : Int32) (I : pd_I) (kont : Int32 → Option O) : Nat → Int32 → Int32 → Option O
  | 0, _, _ => none
  | fu + 1, zx1, zx2 => pd_gd (pd_in p0 12) (if (I 99 p0.toNatClampNeg) ≤ zx2 then kont zx1 else (pd_bd (fn_X12_out I p0 p1 p2 zx2) fun zr1 => pd_let (zx1 + zr1) fun zv1 => pd_let (zx2 + 1) fun zv2 => fl_X12_weight_6 p0 p1 p2 I kont fu zv1 zv2))
set_option maxRecDepth 100000 in
set_option maxHeartbeats 4000000 in
theorem el_X12_weight_6 {cx : pd_X} (C : pd_C cx "PathDecoderModel" cX12_weight rm_X12_weight) {p0 : Int32} {p1 : Int32} {p2 : Int32} {I : pd_I} {J : pd_J} {Z : pd_R} {n : Nat} (hn : 133 ≤ n)  {O : Type} {kont : Int32 → Option O} {out : O} (K : ∀ (zx3 : Int32), kont zx3 = some out → pd_V cx 0 0 37 [none, none, none, none, some (.int zx3), none] [] I J (pd_RF Z) n) :
    ∀ (fu : Nat) (zx1 : Int32) (zx2 : Int32), fl_X12_weight_6 p0 p1 p2 I kont fu zx1 zx2 = some out → pd_V cx 0 0 6 [some (.ref 92), some (.int p0), some (.int p1), some (.int p2), some (.int zx1), some (.int zx2)] [] I J (pd_RF Z) n := by
  intro fu
  induction fu with
  | zero => intro zx1 zx2 hF; rw [fl_X12_weight_6] at hF; cases hF
  | succ fu ih =>
    intro zx1 zx2 hF
    rw [fl_X12_weight_6] at hF
    refine pd_iload C dX12_weight_6 rfl ?_
    refine pd_aload_n C dX12_weight_8 rfl rfl ?_
    refine gr_12_8 C wd_5_133 (pd_lt (by decide) hn) sh_92 (rf_92_8 _) dX12_weight_9 ?_
    refine pd_iload_n C dX12_weight_12 rfl rfl ?_
    obtain ⟨zg1, hF⟩ := pd_gd_some hF
    refine pd_iald C (pd_lt (by decide) hn) sh_99 zg1 dX12_weight_13 ?_
    refine pd_icmp_ge (tgt := 37) C dX12_weight_14 (by decide) (fun zc1 => ?_) (fun zc1 => ?_)
    · have hF := pd_t zc1 hF
      refine pd_wk (ls' := [none, none, none, none, some (.int zx1), none]) (And.intro rfl True.intro) ?_
      exact K _ hF
    · have hF := pd_f zc1 hF
      refine pd_iload C dX12_weight_17 rfl ?_
      refine pd_aload_n C dX12_weight_19 rfl rfl ?_
      refine pd_iload_n C dX12_weight_20 rfl rfl ?_
      refine pd_iload_n C dX12_weight_21 rfl rfl ?_
      refine pd_iload_n C dX12_weight_22 rfl rfl ?_
      refine pd_iload C dX12_weight_23 rfl ?_
      obtain ⟨zr1, zh1, hF⟩ := pd_bd_some hF
      refine pd_callV C [.int p0, .int p1, .int p2, .int zx2] [.int zx1] (em_X12_out (pd_C_st C) hn  zh1) mw_X12_out wd_6_136 rfl (by decide) (pd_lt (by decide) hn) sh_92 ⟨by decide, by decide, by decide, by decide⟩ rfl (Nat.le_of_ble_eq_true rfl) pd_oldL_same (fun _ _ => pd_old_same _) dX12_weight_25 (stk' := [.int zr1, .int zx1]) rfl ?_
      refine pd_iadd C dX12_weight_28 ?_
      refine pd_topi (fun zv1 hzv1 => ?_)
      have hF := pd_let_at hF hzv1
      refine pd_istore (ls' := [some (.ref 92), some (.int p0), some (.int p1), some (.int p2), some (.int zv1), some (.int zx2)]) C dX12_weight_29 (Nat.le_of_ble_eq_true rfl) rfl rfl ?_
      refine pd_iincG (zz := 1) C dX12_weight_31 rfl (by decide) rfl (fun zv2 hzv2 => ?_)
      have hF := pd_let_at hF hzv2
      refine pd_lsE (ls' := [some (.ref 92), some (.int p0), some (.int p1), some (.int p2), some (.int zv1), some (.int zv2)]) rfl ?_
      refine pd_goto (tgt := 6) C dX12_weight_34 (by decide) ?_
      exact ih _ _ hF
def fn_X12_weight (I : pd_I) (p0 : Int32) (p1 : Int32) (p2 : Int32) : Option Int32 := fl_X12_weight_6 p0 p1 p2 I (fun zx3 => some zx3) pd_FU 0 0
set_option maxRecDepth 100000 in
set_option maxHeartbeats 4000000 in
theorem em_X12_weight {l : Launch} {D : va_G} {tc : Nat → ClassId} (hst : l.stackTraces = false) {I : pd_I} {J : pd_J} {Z : pd_R} {n : Nat} {p0 : Int32} {p1 : Int32} {p2 : Int32} (hn : 133 ≤ n)  {out : Int32} (hF : fn_X12_weight I p0 p1 p2 = some out) :
    pd_M l D tc yX12_weight (.code yX12_weight cX12_weight 6 (Option.some Jvm.ClassFile.FieldType.int)) rm_X12_weight [.ref 92, .int p0, .int p1, .int p2] I J (pd_RF Z) n (.ok (some (.int out))) I J (pd_RF Z) n := by
  refine pd_open (own := "PathDecoderModel") (ls0 := [some (.ref 92), some (.int p0), some (.int p1), some (.int p2), none, none]) (by decide) rfl (Nat.le_of_ble_eq_true rfl) rfl rfl hst (fun cx hl hD htc C hE htab hnm => ?_)
  subst hl hD htc
  unfold fn_X12_weight at hF
  refine pd_iconst (v := 0) C dX12_weight_0 (by decide) ?_
  refine pd_istore (ls' := [some (.ref 92), some (.int p0), some (.int p1), some (.int p2), some (.int 0), none]) C dX12_weight_1 (Nat.le_of_ble_eq_true rfl) rfl rfl ?_
  refine pd_iconst (v := 0) C dX12_weight_3 (by decide) ?_
  refine pd_istore (ls' := [some (.ref 92), some (.int p0), some (.int p1), some (.int p2), some (.int 0), some (.int 0)]) C dX12_weight_4 (Nat.le_of_ble_eq_true rfl) rfl rfl ?_
  refine el_X12_weight_6 C hn (fun zx3 hF => ?_) pd_FU _ _ hF
  refine pd_iload C dX12_weight_37 rfl ?_
  cases hF
  exact pd_iret C hE rfl rfl rfl ⟨by decide, by decide⟩ dX12_weight_39

def fn_X12_isOpen (I : pd_I) (p0 : Int32) : Option (Int32 × pd_I) := pd_bd2 (fn_X12_isCode I p0) fun zr1 zI1 => pd_bd2 (if zr1 = 0 then some (0, zI1) else (pd_gd (pd_in p0 12) (pd_bd (if 1 < (zI1 97 p0.toNatClampNeg) then some 0 else (some 1)) fun (zx2 : Int32) => pd_bd2 (fn_X12_right zI1 zx2 2) fun zr2 zI3 => if zr2 = 0 then some (0, zI3) else (some (1, zI3))))) fun (zx1 : Int32) (zI2 : pd_I) => pd_gd (pd_bo zx1) (some (zx1, zI2))
set_option maxRecDepth 100000 in
set_option maxHeartbeats 4000000 in
theorem em_X12_isOpen {l : Launch} {D : va_G} {tc : Nat → ClassId} (hst : l.stackTraces = false) {I : pd_I} {J : pd_J} {Z : pd_R} {n : Nat} {p0 : Int32} (hn : 133 ≤ n)  {out : Int32 × pd_I} (hF : fn_X12_isOpen I p0 = some out) :
    pd_M l D tc yX12_isOpen (.code yX12_isOpen cX12_isOpen 2 (Option.some Jvm.ClassFile.FieldType.boolean)) rm_X12_isOpen [.ref 92, .int p0] I J (pd_RF Z) n (.ok (some (.int out.1))) out.2 J (pd_RF Z) n := by
  refine pd_open (own := "PathDecoderModel") (ls0 := [some (.ref 92), some (.int p0)]) (by decide) rfl (Nat.le_of_ble_eq_true rfl) rfl rfl hst (fun cx hl hD htc C hE htab hnm => ?_)
  subst hl hD htc
  unfold fn_X12_isOpen at hF
  refine pd_aload_n C dX12_isOpen_0 rfl rfl ?_
  refine pd_iload_n C dX12_isOpen_1 rfl rfl ?_
  obtain ⟨zr1, zI1, zh1, hF⟩ := pd_bd2_some hF
  refine pd_callV C [.int p0] [] (em_X12_isCode (pd_C_st C) hn  zh1) mw_X12_isCode wd_6_69 rfl (by decide) (pd_lt (by decide) hn) sh_92 ⟨by decide, by decide, by decide, by decide⟩ rfl (Nat.le_of_ble_eq_true rfl) pd_oldL_same (fun _ _ => pd_old_same _) dX12_isOpen_2 (stk' := [.int zr1]) rfl ?_
  obtain ⟨zx1, zI2, hS, hF⟩ := pd_bd2_some hF
  have hJ36 : pd_V cx 0 0 36 [none, none] [.int zx1] zI2 J (pd_RF Z) n := by
    obtain ⟨zg1, hF⟩ := pd_gd_some hF
    cases hF
    exact pd_iret C hE rfl rfl (pd_bo_nar zg1) ⟨by decide, by decide⟩ dX12_isOpen_36
  replace hF := hS
  clear hS
  refine pd_if_eq (tgt := 35) C dX12_isOpen_5 (by decide) (fun zc3 => ?_) (fun zc3 => ?_)
  · have hF := pd_t zc3 hF
    refine pd_iconst (v := 0) C dX12_isOpen_35 (by decide) ?_
    refine pd_wk (ls' := [none, none]) True.intro ?_
    have hF := hF.symm
    cases hF
    exact hJ36
  · have hF := pd_f zc3 hF
    refine pd_aload_n C dX12_isOpen_8 rfl rfl ?_
    refine pd_aload_n C dX12_isOpen_9 rfl rfl ?_
    refine gr_12_6 C wd_5_131 (pd_lt (by decide) hn) sh_92 (rf_92_6 _) dX12_isOpen_10 ?_
    refine pd_iload_n C dX12_isOpen_13 rfl rfl ?_
    obtain ⟨zg2, hF⟩ := pd_gd_some hF
    refine pd_iald C (pd_lt (by decide) hn) sh_97 zg2 dX12_isOpen_14 ?_
    refine pd_iconst (v := 1) C dX12_isOpen_15 (by decide) ?_
    obtain ⟨zx2, hS, hF⟩ := pd_bd_some hF
    have hJ24 : pd_V cx 0 0 24 [none, none] [.int zx2, .ref 92] zI1 J (pd_RF Z) n := by
      refine pd_iconst (v := 2) C dX12_isOpen_24 (by decide) ?_
      obtain ⟨zr2, zI3, zh2, hF⟩ := pd_bd2_some hF
      refine pd_callV C [.int zx2, .int 2] [] (em_X12_right (pd_C_st C) hn  zh2) mw_X12_right wd_6_30 rfl (by decide) (pd_lt (by decide) hn) sh_92 ⟨by decide, by decide, by decide, by decide⟩ rfl (Nat.le_of_ble_eq_true rfl) pd_oldL_same (fun _ _ => pd_old_same _) dX12_isOpen_25 (stk' := [.int zr2]) rfl ?_
      refine pd_if_eq (tgt := 35) C dX12_isOpen_28 (by decide) (fun zc1 => ?_) (fun zc1 => ?_)
      · have hF := pd_t zc1 hF
        refine pd_iconst (v := 0) C dX12_isOpen_35 (by decide) ?_
        have hF := hF.symm
        cases hF
        exact hJ36
      · have hF := pd_f zc1 hF
        refine pd_iconst (v := 1) C dX12_isOpen_31 (by decide) ?_
        refine pd_goto (tgt := 36) C dX12_isOpen_32 (by decide) ?_
        have hF := hF.symm
        cases hF
        exact hJ36
    replace hF := hS
    clear hS
    refine pd_icmp_gt (tgt := 23) C dX12_isOpen_16 (by decide) (fun zc2 => ?_) (fun zc2 => ?_)
    · have hF := pd_t zc2 hF
      refine pd_iconst (v := 0) C dX12_isOpen_23 (by decide) ?_
      refine pd_wk (ls' := [none, none]) True.intro ?_
      have hF := hF.symm
      cases hF
      exact hJ24
    · have hF := pd_f zc2 hF
      refine pd_iconst (v := 1) C dX12_isOpen_19 (by decide) ?_
      refine pd_goto (tgt := 24) C dX12_isOpen_20 (by decide) ?_
      refine pd_wk (ls' := [none, none]) True.intro ?_
      have hF := hF.symm
      cases hF
      exact hJ24

def fl_X12_isBad_11 {O : Type} (zv1 : Int32) (kont : pd_I → Option O) : Nat → Int32 → pd_I → Option O
  | 0, _, _ => none
  | fu + 1, zx1, zI1 => if zv1 ≤ zx1 then kont zI1 else (pd_gd (pd_in zx1 64) (pd_let (pd_ui zI1 124 zx1.toNatClampNeg 1) fun zI3 => pd_let (zx1 + 1) fun zv2 => fl_X12_isBad_11 zv1 kont fu zv2 zI3))
set_option maxRecDepth 100000 in
set_option maxHeartbeats 4000000 in
theorem el_X12_isBad_11 {cx : pd_X} (C : pd_C cx "PathDecoderModel" cX12_isBad rm_X12_isBad) {p0 : Int32} {zv1 : Int32} {J : pd_J} {Z : pd_R} {n : Nat} (hn : 133 ≤ n)  {O : Type} {kont : pd_I → Option O} {out : O} (K : ∀ (zI2 : pd_I), kont zI2 = some out → pd_V cx 0 0 29 [some (.ref 92), some (.int p0), some (.int zv1), none, none, none, none, none] [] zI2 J (pd_RF Z) n) :
    ∀ (fu : Nat) (zx1 : Int32) (zI1 : pd_I), fl_X12_isBad_11 zv1 kont fu zx1 zI1 = some out → pd_V cx 0 0 11 [some (.ref 92), some (.int p0), some (.int zv1), some (.int zx1), none, none, none, none] [] zI1 J (pd_RF Z) n := by
  intro fu
  induction fu with
  | zero => intro zx1 zI1 hF; rw [fl_X12_isBad_11] at hF; cases hF
  | succ fu ih =>
    intro zx1 zI1 hF
    rw [fl_X12_isBad_11] at hF
    refine pd_iload_n C dX12_isBad_11 rfl rfl ?_
    refine pd_iload_n C dX12_isBad_12 rfl rfl ?_
    refine pd_icmp_ge (tgt := 29) C dX12_isBad_13 (by decide) (fun zc1 => ?_) (fun zc1 => ?_)
    · have hF := pd_t zc1 hF
      refine pd_wk (ls' := [some (.ref 92), some (.int p0), some (.int zv1), none, none, none, none, none]) (And.intro rfl (And.intro rfl (And.intro rfl True.intro))) ?_
      exact K _ hF
    · have hF := pd_f zc1 hF
      refine pd_aload_n C dX12_isBad_16 rfl rfl ?_
      refine gr_12_36 C wd_5_161 (pd_lt (by decide) hn) sh_92 (rf_92_36 _) dX12_isBad_17 ?_
      refine pd_iload_n C dX12_isBad_20 rfl rfl ?_
      refine pd_iconst (v := 1) C dX12_isBad_21 (by decide) ?_
      obtain ⟨zg2, hF⟩ := pd_gd_some hF
      refine pd_iast C (pd_lt (by decide) hn) sh_124 zg2 dX12_isBad_22 ?_
      refine pd_memI (fun zI3 hzI3 => ?_)
      have hF := pd_let_at hF hzI3
      refine pd_iincG (zz := 1) C dX12_isBad_23 rfl (by decide) rfl (fun zv2 hzv2 => ?_)
      have hF := pd_let_at hF hzv2
      refine pd_lsE (ls' := [some (.ref 92), some (.int p0), some (.int zv1), some (.int zv2), none, none, none, none]) rfl ?_
      refine pd_goto (tgt := 11) C dX12_isBad_26 (by decide) ?_
      exact ih _ _ hF
def fl_X12_isBad_51 {O : Type} (p0 : Int32) (zx3 : Int32) (zI6 : pd_I) (kont : Int32 → Option O) : Nat → Int32 → Int32 → Option O
  | 0, _, _ => none
  | fu + 1, zx4, zx5 => if 2 ≤ zx5 then kont zx4 else (pd_bd (fn_X12_next zI6 p0 zx3 zx5) fun zr1 => pd_bd (pd_bd (if zx4 = 0 then pd_bd (fn_X12_weight zI6 p0 zx3 zx5) fun zr2 => if zr2 = 0 then pd_gd (pd_in zr1 64) (if (zI6 124 zr1.toNatClampNeg) = 1 then if zx3 = 0 then if zr1 = 0 then some true else (some false) else (some false) else (some true)) else (some true) else (some false)) fun zc2 => if zc2 = true then some 0 else (some 1)) fun (zx7 : Int32) => pd_let (zx5 + 1) fun zv3 => fl_X12_isBad_51 p0 zx3 zI6 kont fu zx7 zv3)
set_option maxRecDepth 100000 in
set_option maxHeartbeats 4000000 in
theorem el_X12_isBad_51 {cx : pd_X} (C : pd_C cx "PathDecoderModel" cX12_isBad rm_X12_isBad) {p0 : Int32} {zv1 : Int32} {zx2 : Int32} {zx3 : Int32} {zI6 : pd_I} {J : pd_J} {Z : pd_R} {n : Nat} (hn : 133 ≤ n)  {O : Type} {kont : Int32 → Option O} {out : O} (K : ∀ (zx6 : Int32), kont zx6 = some out → pd_V cx 0 0 119 [some (.ref 92), some (.int p0), some (.int zv1), some (.int zx2), some (.int zx3), some (.int zx6), none, none] [] zI6 J (pd_RF Z) n) :
    ∀ (fu : Nat) (zx4 : Int32) (zx5 : Int32), fl_X12_isBad_51 p0 zx3 zI6 kont fu zx4 zx5 = some out → pd_V cx 0 0 51 [some (.ref 92), some (.int p0), some (.int zv1), some (.int zx2), some (.int zx3), some (.int zx4), some (.int zx5), none] [] zI6 J (pd_RF Z) n := by
  intro fu
  induction fu with
  | zero => intro zx4 zx5 hF; rw [fl_X12_isBad_51] at hF; cases hF
  | succ fu ih =>
    intro zx4 zx5 hF
    rw [fl_X12_isBad_51] at hF
    refine pd_iload C dX12_isBad_51 rfl ?_
    refine pd_iconst (v := 2) C dX12_isBad_53 (by decide) ?_
    refine pd_icmp_ge (tgt := 119) C dX12_isBad_54 (by decide) (fun zc8 => ?_) (fun zc8 => ?_)
    · have hF := pd_t zc8 hF
      refine pd_wk (ls' := [some (.ref 92), some (.int p0), some (.int zv1), some (.int zx2), some (.int zx3), some (.int zx4), none, none]) (And.intro rfl (And.intro rfl (And.intro rfl (And.intro rfl (And.intro rfl (And.intro rfl True.intro)))))) ?_
      exact K _ hF
    · have hF := pd_f zc8 hF
      refine pd_aload_n C dX12_isBad_57 rfl rfl ?_
      refine pd_iload_n C dX12_isBad_58 rfl rfl ?_
      refine pd_iload C dX12_isBad_59 rfl ?_
      refine pd_iload C dX12_isBad_61 rfl ?_
      obtain ⟨zr1, zh1, hF⟩ := pd_bd_some hF
      refine pd_callV C [.int p0, .int zx3, .int zx5] [] (em_X12_next (pd_C_st C) hn  zh1) mw_X12_next wd_6_109 rfl (by decide) (pd_lt (by decide) hn) sh_92 ⟨by decide, by decide, by decide, by decide⟩ rfl (Nat.le_of_ble_eq_true rfl) pd_oldL_same (fun _ _ => pd_old_same _) dX12_isBad_63 (stk' := [.int zr1]) rfl ?_
      refine pd_istore (ls' := [some (.ref 92), some (.int p0), some (.int zv1), some (.int zx2), some (.int zx3), some (.int zx4), some (.int zx5), some (.int zr1)]) C dX12_isBad_66 (Nat.le_of_ble_eq_true rfl) rfl rfl ?_
      refine pd_iload C dX12_isBad_68 rfl ?_
      obtain ⟨zx7, hS, hF⟩ := pd_bd_some hF
      have hJ111 : pd_V cx 0 0 111 [some (.ref 92), some (.int p0), some (.int zv1), some (.int zx2), some (.int zx3), none, some (.int zx5), none] [.int zx7] zI6 J (pd_RF Z) n := by
        refine pd_istore (ls' := [some (.ref 92), some (.int p0), some (.int zv1), some (.int zx2), some (.int zx3), some (.int zx7), some (.int zx5), none]) C dX12_isBad_111 (Nat.le_of_ble_eq_true rfl) rfl rfl ?_
        refine pd_iincG (zz := 1) C dX12_isBad_113 rfl (by decide) rfl (fun zv3 hzv3 => ?_)
        have hF := pd_let_at hF hzv3
        refine pd_lsE (ls' := [some (.ref 92), some (.int p0), some (.int zv1), some (.int zx2), some (.int zx3), some (.int zx7), some (.int zv3), none]) rfl ?_
        refine pd_goto (tgt := 51) C dX12_isBad_116 (by decide) ?_
        exact ih _ _ hF
      replace hF := hS
      clear hS
      obtain ⟨zc2, hS, hF⟩ := pd_bd_some hF
      have hTzc2 : zc2 = true → pd_V cx 0 0 110 [some (.ref 92), some (.int p0), some (.int zv1), some (.int zx2), some (.int zx3), some (.int zx4), some (.int zx5), some (.int zr1)] [] zI6 J (pd_RF Z) n := by
        intro hc
        have hF := pd_t hc hF
        refine pd_iconst (v := 0) C dX12_isBad_110 (by decide) ?_
        refine pd_wk (ls' := [some (.ref 92), some (.int p0), some (.int zv1), some (.int zx2), some (.int zx3), none, some (.int zx5), none]) (And.intro rfl (And.intro rfl (And.intro rfl (And.intro rfl (And.intro rfl (And.intro rfl True.intro)))))) ?_
        have hF := hF.symm
        cases hF
        exact hJ111
      have hEzc2 : zc2 = false → pd_V cx 0 0 106 [some (.ref 92), some (.int p0), some (.int zv1), some (.int zx2), some (.int zx3), some (.int zx4), some (.int zx5), some (.int zr1)] [] zI6 J (pd_RF Z) n := by
        intro hc
        have hF := pd_bf hc hF
        refine pd_iconst (v := 1) C dX12_isBad_106 (by decide) ?_
        refine pd_goto (tgt := 111) C dX12_isBad_107 (by decide) ?_
        refine pd_wk (ls' := [some (.ref 92), some (.int p0), some (.int zv1), some (.int zx2), some (.int zx3), none, some (.int zx5), none]) (And.intro rfl (And.intro rfl (And.intro rfl (And.intro rfl (And.intro rfl (And.intro rfl True.intro)))))) ?_
        have hF := hF.symm
        cases hF
        exact hJ111
      replace hF := hS
      clear hS
      refine pd_if_ne (tgt := 106) C dX12_isBad_70 (by decide) (fun zc7 => ?_) (fun zc7 => ?_)
      · have hF := pd_f zc7 hF
        cases hF
        exact hEzc2 rfl
      · have hF := pd_t zc7 hF
        refine pd_aload_n C dX12_isBad_73 rfl rfl ?_
        refine pd_iload_n C dX12_isBad_74 rfl rfl ?_
        refine pd_iload C dX12_isBad_75 rfl ?_
        refine pd_iload C dX12_isBad_77 rfl ?_
        obtain ⟨zr2, zh2, hF⟩ := pd_bd_some hF
        refine pd_callV C [.int p0, .int zx3, .int zx5] [] (em_X12_weight (pd_C_st C) hn  zh2) mw_X12_weight wd_7_40 rfl (by decide) (pd_lt (by decide) hn) sh_92 ⟨by decide, by decide, by decide, by decide⟩ rfl (Nat.le_of_ble_eq_true rfl) pd_oldL_same (fun _ _ => pd_old_same _) dX12_isBad_79 (stk' := [.int zr2]) rfl ?_
        refine pd_if_ne (tgt := 110) C dX12_isBad_82 (by decide) (fun zc6 => ?_) (fun zc6 => ?_)
        · have hF := pd_f zc6 hF
          cases hF
          exact hTzc2 rfl
        · have hF := pd_t zc6 hF
          refine pd_aload_n C dX12_isBad_85 rfl rfl ?_
          refine gr_12_36 C wd_5_161 (pd_lt (by decide) hn) sh_92 (rf_92_36 _) dX12_isBad_86 ?_
          refine pd_iload C dX12_isBad_89 rfl ?_
          obtain ⟨zg3, hF⟩ := pd_gd_some hF
          refine pd_iald C (pd_lt (by decide) hn) sh_124 zg3 dX12_isBad_91 ?_
          refine pd_iconst (v := 1) C dX12_isBad_92 (by decide) ?_
          refine pd_icmp_ne (tgt := 110) C dX12_isBad_93 (by decide) (fun zc5 => ?_) (fun zc5 => ?_)
          · have hF := pd_f zc5 hF
            cases hF
            exact hTzc2 rfl
          · have hF := pd_t zc5 hF
            refine pd_iload C dX12_isBad_96 rfl ?_
            refine pd_if_ne (tgt := 106) C dX12_isBad_98 (by decide) (fun zc4 => ?_) (fun zc4 => ?_)
            · have hF := pd_f zc4 hF
              cases hF
              exact hEzc2 rfl
            · have hF := pd_t zc4 hF
              refine pd_iload C dX12_isBad_101 rfl ?_
              refine pd_if_eq (tgt := 110) C dX12_isBad_103 (by decide) (fun zc3 => ?_) (fun zc3 => ?_)
              · have hF := pd_t zc3 hF
                cases hF
                exact hTzc2 rfl
              · have hF := pd_f zc3 hF
                cases hF
                exact hEzc2 rfl
def fl_X12_isBad_39 {O : Type} (p0 : Int32) (zv1 : Int32) (kont : pd_I → Option O) : Nat → Int32 → pd_I → Option O
  | 0, _, _ => none
  | fu + 1, zx3, zI6 => if zv1 ≤ zx3 then kont zI6 else (fl_X12_isBad_51 p0 zx3 zI6 (fun zx6 => pd_gd (pd_in zx3 64) (pd_bd (pd_bd (if (zI6 124 zx3.toNatClampNeg) = 1 then if zx6 = 0 then some false else (some true) else (some false)) fun zc9 => if zc9 = true then some 1 else (some 0)) fun (zx8 : Int32) => pd_gd (pd_in zx3 64) (pd_let (pd_ui zI6 124 zx3.toNatClampNeg zx8) fun zI8 => pd_let (zx3 + 1) fun zv4 => fl_X12_isBad_39 p0 zv1 kont fu zv4 zI8))) pd_FU 0 0)
set_option maxRecDepth 100000 in
set_option maxHeartbeats 4000000 in
theorem el_X12_isBad_39 {cx : pd_X} (C : pd_C cx "PathDecoderModel" cX12_isBad rm_X12_isBad) {p0 : Int32} {zv1 : Int32} {zx2 : Int32} {J : pd_J} {Z : pd_R} {n : Nat} (hn : 133 ≤ n)  {O : Type} {kont : pd_I → Option O} {out : O} (K : ∀ (zI7 : pd_I), kont zI7 = some out → pd_V cx 0 0 153 [some (.ref 92), some (.int p0), some (.int zv1), some (.int zx2), none, none, none, none] [] zI7 J (pd_RF Z) n) :
    ∀ (fu : Nat) (zx3 : Int32) (zI6 : pd_I), fl_X12_isBad_39 p0 zv1 kont fu zx3 zI6 = some out → pd_V cx 0 0 39 [some (.ref 92), some (.int p0), some (.int zv1), some (.int zx2), some (.int zx3), none, none, none] [] zI6 J (pd_RF Z) n := by
  intro fu
  induction fu with
  | zero => intro zx3 zI6 hF; rw [fl_X12_isBad_39] at hF; cases hF
  | succ fu ih =>
    intro zx3 zI6 hF
    rw [fl_X12_isBad_39] at hF
    refine pd_iload C dX12_isBad_39 rfl ?_
    refine pd_iload_n C dX12_isBad_41 rfl rfl ?_
    refine pd_icmp_ge (tgt := 153) C dX12_isBad_42 (by decide) (fun zc12 => ?_) (fun zc12 => ?_)
    · have hF := pd_t zc12 hF
      refine pd_wk (ls' := [some (.ref 92), some (.int p0), some (.int zv1), some (.int zx2), none, none, none, none]) (And.intro rfl (And.intro rfl (And.intro rfl (And.intro rfl True.intro)))) ?_
      exact K _ hF
    · have hF := pd_f zc12 hF
      refine pd_iconst (v := 0) C dX12_isBad_45 (by decide) ?_
      refine pd_istore (ls' := [some (.ref 92), some (.int p0), some (.int zv1), some (.int zx2), some (.int zx3), some (.int 0), none, none]) C dX12_isBad_46 (Nat.le_of_ble_eq_true rfl) rfl rfl ?_
      refine pd_iconst (v := 0) C dX12_isBad_48 (by decide) ?_
      refine pd_istore (ls' := [some (.ref 92), some (.int p0), some (.int zv1), some (.int zx2), some (.int zx3), some (.int 0), some (.int 0), none]) C dX12_isBad_49 (Nat.le_of_ble_eq_true rfl) rfl rfl ?_
      refine el_X12_isBad_51 C hn (fun zx6 hF => ?_) pd_FU _ _ hF
      refine pd_aload_n C dX12_isBad_119 rfl rfl ?_
      refine gr_12_36 C wd_5_161 (pd_lt (by decide) hn) sh_92 (rf_92_36 _) dX12_isBad_120 ?_
      refine pd_iload C dX12_isBad_123 rfl ?_
      refine pd_aload_n C dX12_isBad_125 rfl rfl ?_
      refine gr_12_36 C wd_5_161 (pd_lt (by decide) hn) sh_92 (rf_92_36 _) dX12_isBad_126 ?_
      refine pd_iload C dX12_isBad_129 rfl ?_
      obtain ⟨zg4, hF⟩ := pd_gd_some hF
      refine pd_iald C (pd_lt (by decide) hn) sh_124 zg4 dX12_isBad_131 ?_
      refine pd_iconst (v := 1) C dX12_isBad_132 (by decide) ?_
      obtain ⟨zx8, hS, hF⟩ := pd_bd_some hF
      have hJ146 : pd_V cx 0 0 146 [some (.ref 92), some (.int p0), some (.int zv1), some (.int zx2), some (.int zx3), none, none, none] [.int zx8, .int zx3, .ref 124] zI6 J (pd_RF Z) n := by
        obtain ⟨zg5, hF⟩ := pd_gd_some hF
        refine pd_iast C (pd_lt (by decide) hn) sh_124 zg5 dX12_isBad_146 ?_
        refine pd_memI (fun zI8 hzI8 => ?_)
        have hF := pd_let_at hF hzI8
        refine pd_iincG (zz := 1) C dX12_isBad_147 rfl (by decide) rfl (fun zv4 hzv4 => ?_)
        have hF := pd_let_at hF hzv4
        refine pd_lsE (ls' := [some (.ref 92), some (.int p0), some (.int zv1), some (.int zx2), some (.int zv4), none, none, none]) rfl ?_
        refine pd_goto (tgt := 39) C dX12_isBad_150 (by decide) ?_
        exact ih _ _ hF
      replace hF := hS
      clear hS
      obtain ⟨zc9, hS, hF⟩ := pd_bd_some hF
      have hTzc9 : zc9 = true → pd_V cx 0 0 141 [some (.ref 92), some (.int p0), some (.int zv1), some (.int zx2), some (.int zx3), some (.int zx6), none, none] [.int zx3, .ref 124] zI6 J (pd_RF Z) n := by
        intro hc
        have hF := pd_t hc hF
        refine pd_iconst (v := 1) C dX12_isBad_141 (by decide) ?_
        refine pd_goto (tgt := 146) C dX12_isBad_142 (by decide) ?_
        refine pd_wk (ls' := [some (.ref 92), some (.int p0), some (.int zv1), some (.int zx2), some (.int zx3), none, none, none]) (And.intro rfl (And.intro rfl (And.intro rfl (And.intro rfl (And.intro rfl True.intro))))) ?_
        have hF := hF.symm
        cases hF
        exact hJ146
      have hEzc9 : zc9 = false → pd_V cx 0 0 145 [some (.ref 92), some (.int p0), some (.int zv1), some (.int zx2), some (.int zx3), some (.int zx6), none, none] [.int zx3, .ref 124] zI6 J (pd_RF Z) n := by
        intro hc
        have hF := pd_bf hc hF
        refine pd_iconst (v := 0) C dX12_isBad_145 (by decide) ?_
        refine pd_wk (ls' := [some (.ref 92), some (.int p0), some (.int zv1), some (.int zx2), some (.int zx3), none, none, none]) (And.intro rfl (And.intro rfl (And.intro rfl (And.intro rfl (And.intro rfl True.intro))))) ?_
        have hF := hF.symm
        cases hF
        exact hJ146
      replace hF := hS
      clear hS
      refine pd_icmp_ne (tgt := 145) C dX12_isBad_133 (by decide) (fun zc11 => ?_) (fun zc11 => ?_)
      · have hF := pd_f zc11 hF
        cases hF
        exact hEzc9 rfl
      · have hF := pd_t zc11 hF
        refine pd_iload C dX12_isBad_136 rfl ?_
        refine pd_if_eq (tgt := 145) C dX12_isBad_138 (by decide) (fun zc10 => ?_) (fun zc10 => ?_)
        · have hF := pd_t zc10 hF
          cases hF
          exact hEzc9 rfl
        · have hF := pd_f zc10 hF
          cases hF
          exact hTzc9 rfl
def fl_X12_isBad_31 {O : Type} (p0 : Int32) (zv1 : Int32) (kont : pd_I → Option O) : Nat → Int32 → pd_I → Option O
  | 0, _, _ => none
  | fu + 1, zx2, zI4 => if zv1 ≤ zx2 then kont zI4 else (fl_X12_isBad_39 p0 zv1 (fun zI7 => pd_let (zx2 + 1) fun zv5 => fl_X12_isBad_31 p0 zv1 kont fu zv5 zI7) pd_FU 0 zI4)
set_option maxRecDepth 100000 in
set_option maxHeartbeats 4000000 in
theorem el_X12_isBad_31 {cx : pd_X} (C : pd_C cx "PathDecoderModel" cX12_isBad rm_X12_isBad) {p0 : Int32} {zv1 : Int32} {J : pd_J} {Z : pd_R} {n : Nat} (hn : 133 ≤ n)  {O : Type} {kont : pd_I → Option O} {out : O} (K : ∀ (zI5 : pd_I), kont zI5 = some out → pd_V cx 0 0 159 [some (.ref 92), none, some (.int zv1), none, none, none, none, none] [] zI5 J (pd_RF Z) n) :
    ∀ (fu : Nat) (zx2 : Int32) (zI4 : pd_I), fl_X12_isBad_31 p0 zv1 kont fu zx2 zI4 = some out → pd_V cx 0 0 31 [some (.ref 92), some (.int p0), some (.int zv1), some (.int zx2), none, none, none, none] [] zI4 J (pd_RF Z) n := by
  intro fu
  induction fu with
  | zero => intro zx2 zI4 hF; rw [fl_X12_isBad_31] at hF; cases hF
  | succ fu ih =>
    intro zx2 zI4 hF
    rw [fl_X12_isBad_31] at hF
    refine pd_iload_n C dX12_isBad_31 rfl rfl ?_
    refine pd_iload_n C dX12_isBad_32 rfl rfl ?_
    refine pd_icmp_ge (tgt := 159) C dX12_isBad_33 (by decide) (fun zc13 => ?_) (fun zc13 => ?_)
    · have hF := pd_t zc13 hF
      refine pd_wk (ls' := [some (.ref 92), none, some (.int zv1), none, none, none, none, none]) (And.intro rfl (And.intro rfl True.intro)) ?_
      exact K _ hF
    · have hF := pd_f zc13 hF
      refine pd_iconst (v := 0) C dX12_isBad_36 (by decide) ?_
      refine pd_istore (ls' := [some (.ref 92), some (.int p0), some (.int zv1), some (.int zx2), some (.int 0), none, none, none]) C dX12_isBad_37 (Nat.le_of_ble_eq_true rfl) rfl rfl ?_
      refine el_X12_isBad_39 C hn (fun zI7 hF => ?_) pd_FU _ _ hF
      refine pd_iincG (zz := 1) C dX12_isBad_153 rfl (by decide) rfl (fun zv5 hzv5 => ?_)
      have hF := pd_let_at hF hzv5
      refine pd_lsE (ls' := [some (.ref 92), some (.int p0), some (.int zv1), some (.int zv5), none, none, none, none]) rfl ?_
      refine pd_goto (tgt := 31) C dX12_isBad_156 (by decide) ?_
      exact ih _ _ hF
def fl_X12_isBad_164 {O : Type} (zv1 : Int32) (zI5 : pd_I) (kont : Int32 → Option O) : Nat → Int32 → Int32 → Option O
  | 0, _, _ => none
  | fu + 1, zx9, zx10 => if zv1 ≤ zx10 then kont zx9 else (pd_gd (pd_in zx10 64) (pd_let (zx9 + (zI5 124 zx10.toNatClampNeg)) fun zv6 => pd_let (zx10 + 1) fun zv7 => fl_X12_isBad_164 zv1 zI5 kont fu zv6 zv7))
set_option maxRecDepth 100000 in
set_option maxHeartbeats 4000000 in
theorem el_X12_isBad_164 {cx : pd_X} (C : pd_C cx "PathDecoderModel" cX12_isBad rm_X12_isBad) {zv1 : Int32} {zI5 : pd_I} {J : pd_J} {Z : pd_R} {n : Nat} (hn : 133 ≤ n)  {O : Type} {kont : Int32 → Option O} {out : O} (K : ∀ (zx11 : Int32), kont zx11 = some out → pd_V cx 0 0 186 [none, none, none, some (.int zx11), none, none, none, none] [] zI5 J (pd_RF Z) n) :
    ∀ (fu : Nat) (zx9 : Int32) (zx10 : Int32), fl_X12_isBad_164 zv1 zI5 kont fu zx9 zx10 = some out → pd_V cx 0 0 164 [some (.ref 92), none, some (.int zv1), some (.int zx9), some (.int zx10), none, none, none] [] zI5 J (pd_RF Z) n := by
  intro fu
  induction fu with
  | zero => intro zx9 zx10 hF; rw [fl_X12_isBad_164] at hF; cases hF
  | succ fu ih =>
    intro zx9 zx10 hF
    rw [fl_X12_isBad_164] at hF
    refine pd_iload C dX12_isBad_164 rfl ?_
    refine pd_iload_n C dX12_isBad_166 rfl rfl ?_
    refine pd_icmp_ge (tgt := 186) C dX12_isBad_167 (by decide) (fun zc14 => ?_) (fun zc14 => ?_)
    · have hF := pd_t zc14 hF
      refine pd_wk (ls' := [none, none, none, some (.int zx9), none, none, none, none]) (And.intro rfl True.intro) ?_
      exact K _ hF
    · have hF := pd_f zc14 hF
      refine pd_iload_n C dX12_isBad_170 rfl rfl ?_
      refine pd_aload_n C dX12_isBad_171 rfl rfl ?_
      refine gr_12_36 C wd_5_161 (pd_lt (by decide) hn) sh_92 (rf_92_36 _) dX12_isBad_172 ?_
      refine pd_iload C dX12_isBad_175 rfl ?_
      obtain ⟨zg6, hF⟩ := pd_gd_some hF
      refine pd_iald C (pd_lt (by decide) hn) sh_124 zg6 dX12_isBad_177 ?_
      refine pd_iadd C dX12_isBad_178 ?_
      refine pd_topi (fun zv6 hzv6 => ?_)
      have hF := pd_let_at hF hzv6
      refine pd_istore_n (ls' := [some (.ref 92), none, some (.int zv1), some (.int zv6), some (.int zx10), none, none, none]) C dX12_isBad_179 rfl (Nat.le_of_ble_eq_true rfl) rfl rfl ?_
      refine pd_iincG (zz := 1) C dX12_isBad_180 rfl (by decide) rfl (fun zv7 hzv7 => ?_)
      have hF := pd_let_at hF hzv7
      refine pd_lsE (ls' := [some (.ref 92), none, some (.int zv1), some (.int zv6), some (.int zv7), none, none, none]) rfl ?_
      refine pd_goto (tgt := 164) C dX12_isBad_183 (by decide) ?_
      exact ih _ _ hF
def fn_X12_isBad (I : pd_I) (p0 : Int32) : Option (Int32 × pd_I) := pd_gd (pd_in p0 12) (pd_let ((1 : Int32) <<< ((I 98 p0.toNatClampNeg) &&& 31)) fun zv1 => fl_X12_isBad_11 zv1 (fun zI2 => fl_X12_isBad_31 p0 zv1 (fun zI5 => fl_X12_isBad_164 zv1 zI5 (fun zx11 => pd_bd (if zx11 ≤ 0 then some 0 else (some 1)) fun (zx12 : Int32) => pd_gd (pd_bo zx12) (some (zx12, zI5))) pd_FU 0 0) pd_FU 0 zI2) pd_FU 0 I)
set_option maxRecDepth 100000 in
set_option maxHeartbeats 4000000 in
theorem em_X12_isBad {l : Launch} {D : va_G} {tc : Nat → ClassId} (hst : l.stackTraces = false) {I : pd_I} {J : pd_J} {Z : pd_R} {n : Nat} {p0 : Int32} (hn : 133 ≤ n)  {out : Int32 × pd_I} (hF : fn_X12_isBad I p0 = some out) :
    pd_M l D tc yX12_isBad (.code yX12_isBad cX12_isBad 8 (Option.some Jvm.ClassFile.FieldType.boolean)) rm_X12_isBad [.ref 92, .int p0] I J (pd_RF Z) n (.ok (some (.int out.1))) out.2 J (pd_RF Z) n := by
  refine pd_open (own := "PathDecoderModel") (ls0 := [some (.ref 92), some (.int p0), none, none, none, none, none, none]) (by decide) rfl (Nat.le_of_ble_eq_true rfl) rfl rfl hst (fun cx hl hD htc C hE htab hnm => ?_)
  subst hl hD htc
  unfold fn_X12_isBad at hF
  refine pd_iconst (v := 1) C dX12_isBad_0 (by decide) ?_
  refine pd_aload_n C dX12_isBad_1 rfl rfl ?_
  refine gr_12_7 C wd_5_132 (pd_lt (by decide) hn) sh_92 (rf_92_7 _) dX12_isBad_2 ?_
  refine pd_iload_n C dX12_isBad_5 rfl rfl ?_
  obtain ⟨zg1, hF⟩ := pd_gd_some hF
  refine pd_iald C (pd_lt (by decide) hn) sh_98 zg1 dX12_isBad_6 ?_
  refine pd_ishl C dX12_isBad_7 ?_
  refine pd_topi (fun zv1 hzv1 => ?_)
  have hF := pd_let_at hF hzv1
  refine pd_istore_n (ls' := [some (.ref 92), some (.int p0), some (.int zv1), none, none, none, none, none]) C dX12_isBad_8 rfl (Nat.le_of_ble_eq_true rfl) rfl rfl ?_
  refine pd_iconst (v := 0) C dX12_isBad_9 (by decide) ?_
  refine pd_istore_n (ls' := [some (.ref 92), some (.int p0), some (.int zv1), some (.int 0), none, none, none, none]) C dX12_isBad_10 rfl (Nat.le_of_ble_eq_true rfl) rfl rfl ?_
  refine el_X12_isBad_11 C hn (fun zI2 hF => ?_) pd_FU _ _ hF
  refine pd_iconst (v := 0) C dX12_isBad_29 (by decide) ?_
  refine pd_istore_n (ls' := [some (.ref 92), some (.int p0), some (.int zv1), some (.int 0), none, none, none, none]) C dX12_isBad_30 rfl (Nat.le_of_ble_eq_true rfl) rfl rfl ?_
  refine el_X12_isBad_31 C hn (fun zI5 hF => ?_) pd_FU _ _ hF
  refine pd_iconst (v := 0) C dX12_isBad_159 (by decide) ?_
  refine pd_istore_n (ls' := [some (.ref 92), none, some (.int zv1), some (.int 0), none, none, none, none]) C dX12_isBad_160 rfl (Nat.le_of_ble_eq_true rfl) rfl rfl ?_
  refine pd_iconst (v := 0) C dX12_isBad_161 (by decide) ?_
  refine pd_istore (ls' := [some (.ref 92), none, some (.int zv1), some (.int 0), some (.int 0), none, none, none]) C dX12_isBad_162 (Nat.le_of_ble_eq_true rfl) rfl rfl ?_
  refine el_X12_isBad_164 C hn (fun zx11 hF => ?_) pd_FU _ _ hF
  refine pd_iload_n C dX12_isBad_186 rfl rfl ?_
  obtain ⟨zx12, hS, hF⟩ := pd_bd_some hF
  have hJ195 : pd_V cx 0 0 195 [none, none, none, none, none, none, none, none] [.int zx12] zI5 J (pd_RF Z) n := by
    obtain ⟨zg7, hF⟩ := pd_gd_some hF
    cases hF
    exact pd_iret C hE rfl rfl (pd_bo_nar zg7) ⟨by decide, by decide⟩ dX12_isBad_195
  replace hF := hS
  clear hS
  refine pd_if_le (tgt := 194) C dX12_isBad_187 (by decide) (fun zc15 => ?_) (fun zc15 => ?_)
  · have hF := pd_t zc15 hF
    refine pd_iconst (v := 0) C dX12_isBad_194 (by decide) ?_
    refine pd_wk (ls' := [none, none, none, none, none, none, none, none]) True.intro ?_
    have hF := hF.symm
    cases hF
    exact hJ195
  · have hF := pd_f zc15 hF
    refine pd_iconst (v := 1) C dX12_isBad_190 (by decide) ?_
    refine pd_goto (tgt := 195) C dX12_isBad_191 (by decide) ?_
    refine pd_wk (ls' := [none, none, none, none, none, none, none, none]) True.intro ?_
    have hF := hF.symm
    cases hF
    exact hJ195

def fn_X12_bad (I : pd_I) (p0 : Int32) : Option (Int32 × pd_I) := pd_bd2 (fn_X12_isOpen I p0) fun zr1 zI1 => pd_bd2 (if zr1 = 0 then some (0, zI1) else (pd_bd2 (fn_X12_isBad zI1 p0) fun zr2 zI3 => if zr2 = 0 then some (0, zI3) else (some (1, zI3)))) fun (zx1 : Int32) (zI2 : pd_I) => pd_gd (pd_bo zx1) (some (zx1, zI2))
set_option maxRecDepth 100000 in
set_option maxHeartbeats 4000000 in
theorem em_X12_bad {l : Launch} {D : va_G} {tc : Nat → ClassId} (hst : l.stackTraces = false) {I : pd_I} {J : pd_J} {Z : pd_R} {n : Nat} {p0 : Int32} (hn : 133 ≤ n)  {out : Int32 × pd_I} (hF : fn_X12_bad I p0 = some out) :
    pd_M l D tc yX12_bad (.code yX12_bad cX12_bad 2 (Option.some Jvm.ClassFile.FieldType.boolean)) rm_X12_bad [.ref 92, .int p0] I J (pd_RF Z) n (.ok (some (.int out.1))) out.2 J (pd_RF Z) n := by
  refine pd_open (own := "PathDecoderModel") (ls0 := [some (.ref 92), some (.int p0)]) (by decide) rfl (Nat.le_of_ble_eq_true rfl) rfl rfl hst (fun cx hl hD htc C hE htab hnm => ?_)
  subst hl hD htc
  unfold fn_X12_bad at hF
  refine pd_aload_n C dX12_bad_0 rfl rfl ?_
  refine pd_iload_n C dX12_bad_1 rfl rfl ?_
  obtain ⟨zr1, zI1, zh1, hF⟩ := pd_bd2_some hF
  refine pd_callV C [.int p0] [] (em_X12_isOpen (pd_C_st C) hn  zh1) mw_X12_isOpen wd_7_32 rfl (by decide) (pd_lt (by decide) hn) sh_92 ⟨by decide, by decide, by decide, by decide⟩ rfl (Nat.le_of_ble_eq_true rfl) pd_oldL_same (fun _ _ => pd_old_same _) dX12_bad_2 (stk' := [.int zr1]) rfl ?_
  obtain ⟨zx1, zI2, hS, hF⟩ := pd_bd2_some hF
  have hJ21 : pd_V cx 0 0 21 [none, none] [.int zx1] zI2 J (pd_RF Z) n := by
    obtain ⟨zg1, hF⟩ := pd_gd_some hF
    cases hF
    exact pd_iret C hE rfl rfl (pd_bo_nar zg1) ⟨by decide, by decide⟩ dX12_bad_21
  replace hF := hS
  clear hS
  refine pd_if_eq (tgt := 20) C dX12_bad_5 (by decide) (fun zc2 => ?_) (fun zc2 => ?_)
  · have hF := pd_t zc2 hF
    refine pd_iconst (v := 0) C dX12_bad_20 (by decide) ?_
    refine pd_wk (ls' := [none, none]) True.intro ?_
    have hF := hF.symm
    cases hF
    exact hJ21
  · have hF := pd_f zc2 hF
    refine pd_aload_n C dX12_bad_8 rfl rfl ?_
    refine pd_iload_n C dX12_bad_9 rfl rfl ?_
    obtain ⟨zr2, zI3, zh2, hF⟩ := pd_bd2_some hF
    refine pd_callV C [.int p0] [] (em_X12_isBad (pd_C_st C) hn  zh2) mw_X12_isBad wd_7_36 rfl (by decide) (pd_lt (by decide) hn) sh_92 ⟨by decide, by decide, by decide, by decide⟩ rfl (Nat.le_of_ble_eq_true rfl) pd_oldL_same (fun _ _ => pd_old_same _) dX12_bad_10 (stk' := [.int zr2]) rfl ?_
    refine pd_if_eq (tgt := 20) C dX12_bad_13 (by decide) (fun zc1 => ?_) (fun zc1 => ?_)
    · have hF := pd_t zc1 hF
      refine pd_iconst (v := 0) C dX12_bad_20 (by decide) ?_
      refine pd_wk (ls' := [none, none]) True.intro ?_
      have hF := hF.symm
      cases hF
      exact hJ21
    · have hF := pd_f zc1 hF
      refine pd_iconst (v := 1) C dX12_bad_16 (by decide) ?_
      refine pd_goto (tgt := 21) C dX12_bad_17 (by decide) ?_
      refine pd_wk (ls' := [none, none]) True.intro ?_
      have hF := hF.symm
      cases hF
      exact hJ21

def fl_X12_free_31 {O : Type} (zv1 : Int32) (kont : pd_I → Option O) : Nat → Int32 → pd_I → Option O
  | 0, _, _ => none
  | fu + 1, zx1, zI3 => if zv1 ≤ zx1 then kont zI3 else (pd_gd (pd_in zx1 64) (pd_let (pd_ui zI3 124 zx1.toNatClampNeg 1000000000) fun zI5 => pd_let (zx1 + 1) fun zv2 => fl_X12_free_31 zv1 kont fu zv2 zI5))
set_option maxRecDepth 100000 in
set_option maxHeartbeats 4000000 in
theorem el_X12_free_31 {cx : pd_X} (C : pd_C cx "PathDecoderModel" cX12_free rm_X12_free) {p0 : Int32} {zv1 : Int32} {J : pd_J} {Z : pd_R} {n : Nat} (hn : 133 ≤ n)  {O : Type} {kont : pd_I → Option O} {out : O} (K : ∀ (zI4 : pd_I), kont zI4 = some out → pd_V cx 0 0 50 [some (.ref 92), some (.int p0), some (.int zv1), none, none, none, none, none, none] [] zI4 J (pd_RF Z) n) :
    ∀ (fu : Nat) (zx1 : Int32) (zI3 : pd_I), fl_X12_free_31 zv1 kont fu zx1 zI3 = some out → pd_V cx 0 0 31 [some (.ref 92), some (.int p0), some (.int zv1), some (.int zx1), none, none, none, none, none] [] zI3 J (pd_RF Z) n := by
  intro fu
  induction fu with
  | zero => intro zx1 zI3 hF; rw [fl_X12_free_31] at hF; cases hF
  | succ fu ih =>
    intro zx1 zI3 hF
    rw [fl_X12_free_31] at hF
    refine pd_iload_n C dX12_free_31 rfl rfl ?_
    refine pd_iload_n C dX12_free_32 rfl rfl ?_
    refine pd_icmp_ge (tgt := 50) C dX12_free_33 (by decide) (fun zc1 => ?_) (fun zc1 => ?_)
    · have hF := pd_t zc1 hF
      refine pd_wk (ls' := [some (.ref 92), some (.int p0), some (.int zv1), none, none, none, none, none, none]) (And.intro rfl (And.intro rfl (And.intro rfl True.intro))) ?_
      exact K _ hF
    · have hF := pd_f zc1 hF
      refine pd_aload_n C dX12_free_36 rfl rfl ?_
      refine gr_12_36 C wd_5_161 (pd_lt (by decide) hn) sh_92 (rf_92_36 _) dX12_free_37 ?_
      refine pd_iload_n C dX12_free_40 rfl rfl ?_
      refine pd_ldc C wd_6_184 dX12_free_41 ?_
      obtain ⟨zg2, hF⟩ := pd_gd_some hF
      refine pd_iast C (pd_lt (by decide) hn) sh_124 zg2 dX12_free_43 ?_
      refine pd_memI (fun zI5 hzI5 => ?_)
      have hF := pd_let_at hF hzI5
      refine pd_iincG (zz := 1) C dX12_free_44 rfl (by decide) rfl (fun zv2 hzv2 => ?_)
      have hF := pd_let_at hF hzv2
      refine pd_lsE (ls' := [some (.ref 92), some (.int p0), some (.int zv1), some (.int zv2), none, none, none, none, none]) rfl ?_
      refine pd_goto (tgt := 31) C dX12_free_47 (by decide) ?_
      exact ih _ _ hF
def fl_X12_free_52 {O : Type} (p0 : Int32) (kont : pd_I → Option O) : Nat → Int32 → pd_I → Option O
  | 0, _, _ => none
  | fu + 1, zx2, zI6 => if 2 ≤ zx2 then kont zI6 else (pd_bd (fn_X12_next zI6 p0 0 zx2) fun zr3 => pd_bd (if zr3 = 0 then some zI6 else (pd_bd (fn_X12_next zI6 p0 0 zx2) fun zr4 => pd_bd (fn_X12_weight zI6 p0 0 zx2) fun zr5 => pd_gd (pd_in zr4 64) (pd_let (pd_ui zI6 124 zr4.toNatClampNeg zr5) fun zI9 => some zI9))) fun (zI8 : pd_I) => pd_let (zx2 + 1) fun zv3 => fl_X12_free_52 p0 kont fu zv3 zI8)
set_option maxRecDepth 100000 in
set_option maxHeartbeats 4000000 in
theorem el_X12_free_52 {cx : pd_X} (C : pd_C cx "PathDecoderModel" cX12_free rm_X12_free) {p0 : Int32} {zv1 : Int32} {J : pd_J} {Z : pd_R} {n : Nat} (hn : 133 ≤ n)  {O : Type} {kont : pd_I → Option O} {out : O} (K : ∀ (zI7 : pd_I), kont zI7 = some out → pd_V cx 0 0 92 [some (.ref 92), some (.int p0), some (.int zv1), none, none, none, none, none, none] [] zI7 J (pd_RF Z) n) :
    ∀ (fu : Nat) (zx2 : Int32) (zI6 : pd_I), fl_X12_free_52 p0 kont fu zx2 zI6 = some out → pd_V cx 0 0 52 [some (.ref 92), some (.int p0), some (.int zv1), some (.int zx2), none, none, none, none, none] [] zI6 J (pd_RF Z) n := by
  intro fu
  induction fu with
  | zero => intro zx2 zI6 hF; rw [fl_X12_free_52] at hF; cases hF
  | succ fu ih =>
    intro zx2 zI6 hF
    rw [fl_X12_free_52] at hF
    refine pd_iload_n C dX12_free_52 rfl rfl ?_
    refine pd_iconst (v := 2) C dX12_free_53 (by decide) ?_
    refine pd_icmp_ge (tgt := 92) C dX12_free_54 (by decide) (fun zc3 => ?_) (fun zc3 => ?_)
    · have hF := pd_t zc3 hF
      refine pd_wk (ls' := [some (.ref 92), some (.int p0), some (.int zv1), none, none, none, none, none, none]) (And.intro rfl (And.intro rfl (And.intro rfl True.intro))) ?_
      exact K _ hF
    · have hF := pd_f zc3 hF
      refine pd_aload_n C dX12_free_57 rfl rfl ?_
      refine pd_iload_n C dX12_free_58 rfl rfl ?_
      refine pd_iconst (v := 0) C dX12_free_59 (by decide) ?_
      refine pd_iload_n C dX12_free_60 rfl rfl ?_
      obtain ⟨zr3, zh3, hF⟩ := pd_bd_some hF
      refine pd_callV C [.int p0, .int 0, .int zx2] [] (em_X12_next (pd_C_st C) hn  zh3) mw_X12_next wd_6_109 rfl (by decide) (pd_lt (by decide) hn) sh_92 ⟨by decide, by decide, by decide, by decide⟩ rfl (Nat.le_of_ble_eq_true rfl) pd_oldL_same (fun _ _ => pd_old_same _) dX12_free_61 (stk' := [.int zr3]) rfl ?_
      obtain ⟨zI8, hS, hF⟩ := pd_bd_some hF
      have hJ86 : pd_V cx 0 0 86 [some (.ref 92), some (.int p0), some (.int zv1), some (.int zx2), none, none, none, none, none] [] zI8 J (pd_RF Z) n := by
        refine pd_iincG (zz := 1) C dX12_free_86 rfl (by decide) rfl (fun zv3 hzv3 => ?_)
        have hF := pd_let_at hF hzv3
        refine pd_lsE (ls' := [some (.ref 92), some (.int p0), some (.int zv1), some (.int zv3), none, none, none, none, none]) rfl ?_
        refine pd_goto (tgt := 52) C dX12_free_89 (by decide) ?_
        exact ih _ _ hF
      replace hF := hS
      clear hS
      refine pd_if_eq (tgt := 86) C dX12_free_64 (by decide) (fun zc2 => ?_) (fun zc2 => ?_)
      · have hF := pd_t zc2 hF
        have hF := hF.symm
        cases hF
        exact hJ86
      · have hF := pd_f zc2 hF
        refine pd_aload_n C dX12_free_67 rfl rfl ?_
        refine gr_12_36 C wd_5_161 (pd_lt (by decide) hn) sh_92 (rf_92_36 _) dX12_free_68 ?_
        refine pd_aload_n C dX12_free_71 rfl rfl ?_
        refine pd_iload_n C dX12_free_72 rfl rfl ?_
        refine pd_iconst (v := 0) C dX12_free_73 (by decide) ?_
        refine pd_iload_n C dX12_free_74 rfl rfl ?_
        obtain ⟨zr4, zh4, hF⟩ := pd_bd_some hF
        refine pd_callV C [.int p0, .int 0, .int zx2] [.ref 124] (em_X12_next (pd_C_st C) hn  zh4) mw_X12_next wd_6_109 rfl (by decide) (pd_lt (by decide) hn) sh_92 ⟨by decide, by decide, by decide, by decide⟩ rfl (Nat.le_of_ble_eq_true rfl) pd_oldL_same (fun _ _ => pd_old_same _) dX12_free_75 (stk' := [.int zr4, .ref 124]) rfl ?_
        refine pd_aload_n C dX12_free_78 rfl rfl ?_
        refine pd_iload_n C dX12_free_79 rfl rfl ?_
        refine pd_iconst (v := 0) C dX12_free_80 (by decide) ?_
        refine pd_iload_n C dX12_free_81 rfl rfl ?_
        obtain ⟨zr5, zh5, hF⟩ := pd_bd_some hF
        refine pd_callV C [.int p0, .int 0, .int zx2] [.int zr4, .ref 124] (em_X12_weight (pd_C_st C) hn  zh5) mw_X12_weight wd_7_40 rfl (by decide) (pd_lt (by decide) hn) sh_92 ⟨by decide, by decide, by decide, by decide⟩ rfl (Nat.le_of_ble_eq_true rfl) pd_oldL_same (fun _ _ => pd_old_same _) dX12_free_82 (stk' := [.int zr5, .int zr4, .ref 124]) rfl ?_
        obtain ⟨zg3, hF⟩ := pd_gd_some hF
        refine pd_iast C (pd_lt (by decide) hn) sh_124 zg3 dX12_free_85 ?_
        refine pd_memI (fun zI9 hzI9 => ?_)
        have hF := pd_let_at hF hzI9
        have hF := hF.symm
        cases hF
        exact hJ86
def fl_X12_free_131 {O : Type} (p0 : Int32) (zx7 : Int32) (kont : Int32 → pd_I → Option O) : Nat → Int32 → Int32 → pd_I → Option O
  | 0, _, _, _ => none
  | fu + 1, zx10, zx11, zI15 => if 2 ≤ zx11 then kont zx10 zI15 else (pd_bd (fn_X12_next zI15 p0 zx7 zx11) fun zr6 => pd_gd (pd_in zx7 64) (pd_bd (fn_X12_weight zI15 p0 zx7 zx11) fun zr7 => pd_let ((zI15 124 zx7.toNatClampNeg) + zr7) fun zv5 => pd_bd2 (if zr6 = 0 then pd_let (pd_min zx10 zv5) fun zv7 => some (zv7, zI15) else (pd_gd (pd_in zr6 64) (pd_gd (pd_in zr6 64) (pd_let (pd_ui zI15 124 zr6.toNatClampNeg (pd_min (zI15 124 zr6.toNatClampNeg) zv5)) fun zI18 => some (zx10, zI18))))) fun (zx13 : Int32) (zI17 : pd_I) => pd_let (zx11 + 1) fun zv6 => fl_X12_free_131 p0 zx7 kont fu zx13 zv6 zI17))
set_option maxRecDepth 100000 in
set_option maxHeartbeats 4000000 in
theorem el_X12_free_131 {cx : pd_X} (C : pd_C cx "PathDecoderModel" cX12_free rm_X12_free) {p0 : Int32} {zv1 : Int32} {zx4 : Int32} {zx7 : Int32} {J : pd_J} {Z : pd_R} {n : Nat} (hn : 133 ≤ n)  {O : Type} {kont : Int32 → pd_I → Option O} {out : O} (K : ∀ (zx12 : Int32) (zI16 : pd_I), kont zx12 zI16 = some out → pd_V cx 0 0 207 [some (.ref 92), some (.int p0), some (.int zv1), some (.int zx12), some (.int zx4), some (.int zx7), none, none, none] [] zI16 J (pd_RF Z) n) :
    ∀ (fu : Nat) (zx10 : Int32) (zx11 : Int32) (zI15 : pd_I), fl_X12_free_131 p0 zx7 kont fu zx10 zx11 zI15 = some out → pd_V cx 0 0 131 [some (.ref 92), some (.int p0), some (.int zv1), some (.int zx10), some (.int zx4), some (.int zx7), some (.int zx11), none, none] [] zI15 J (pd_RF Z) n := by
  intro fu
  induction fu with
  | zero => intro zx10 zx11 zI15 hF; rw [fl_X12_free_131] at hF; cases hF
  | succ fu ih =>
    intro zx10 zx11 zI15 hF
    rw [fl_X12_free_131] at hF
    refine pd_iload C dX12_free_131 rfl ?_
    refine pd_iconst (v := 2) C dX12_free_133 (by decide) ?_
    refine pd_icmp_ge (tgt := 207) C dX12_free_134 (by decide) (fun zc5 => ?_) (fun zc5 => ?_)
    · have hF := pd_t zc5 hF
      refine pd_wk (ls' := [some (.ref 92), some (.int p0), some (.int zv1), some (.int zx10), some (.int zx4), some (.int zx7), none, none, none]) (And.intro rfl (And.intro rfl (And.intro rfl (And.intro rfl (And.intro rfl (And.intro rfl True.intro)))))) ?_
      exact K _ _ hF
    · have hF := pd_f zc5 hF
      refine pd_aload_n C dX12_free_137 rfl rfl ?_
      refine pd_iload_n C dX12_free_138 rfl rfl ?_
      refine pd_iload C dX12_free_139 rfl ?_
      refine pd_iload C dX12_free_141 rfl ?_
      obtain ⟨zr6, zh6, hF⟩ := pd_bd_some hF
      refine pd_callV C [.int p0, .int zx7, .int zx11] [] (em_X12_next (pd_C_st C) hn  zh6) mw_X12_next wd_6_109 rfl (by decide) (pd_lt (by decide) hn) sh_92 ⟨by decide, by decide, by decide, by decide⟩ rfl (Nat.le_of_ble_eq_true rfl) pd_oldL_same (fun _ _ => pd_old_same _) dX12_free_143 (stk' := [.int zr6]) rfl ?_
      refine pd_istore (ls' := [some (.ref 92), some (.int p0), some (.int zv1), some (.int zx10), some (.int zx4), some (.int zx7), some (.int zx11), some (.int zr6), none]) C dX12_free_146 (Nat.le_of_ble_eq_true rfl) rfl rfl ?_
      refine pd_aload_n C dX12_free_148 rfl rfl ?_
      refine gr_12_36 C wd_5_161 (pd_lt (by decide) hn) sh_92 (rf_92_36 _) dX12_free_149 ?_
      refine pd_iload C dX12_free_152 rfl ?_
      obtain ⟨zg5, hF⟩ := pd_gd_some hF
      refine pd_iald C (pd_lt (by decide) hn) sh_124 zg5 dX12_free_154 ?_
      refine pd_aload_n C dX12_free_155 rfl rfl ?_
      refine pd_iload_n C dX12_free_156 rfl rfl ?_
      refine pd_iload C dX12_free_157 rfl ?_
      refine pd_iload C dX12_free_159 rfl ?_
      obtain ⟨zr7, zh7, hF⟩ := pd_bd_some hF
      refine pd_callV C [.int p0, .int zx7, .int zx11] [.int (zI15 124 zx7.toNatClampNeg)] (em_X12_weight (pd_C_st C) hn  zh7) mw_X12_weight wd_7_40 rfl (by decide) (pd_lt (by decide) hn) sh_92 ⟨by decide, by decide, by decide, by decide⟩ rfl (Nat.le_of_ble_eq_true rfl) pd_oldL_same (fun _ _ => pd_old_same _) dX12_free_161 (stk' := [.int zr7, .int (zI15 124 zx7.toNatClampNeg)]) rfl ?_
      refine pd_iadd C dX12_free_164 ?_
      refine pd_topi (fun zv5 hzv5 => ?_)
      have hF := pd_let_at hF hzv5
      refine pd_istore (ls' := [some (.ref 92), some (.int p0), some (.int zv1), some (.int zx10), some (.int zx4), some (.int zx7), some (.int zx11), some (.int zr6), some (.int zv5)]) C dX12_free_165 (Nat.le_of_ble_eq_true rfl) rfl rfl ?_
      refine pd_iload C dX12_free_167 rfl ?_
      obtain ⟨zx13, zI17, hS, hF⟩ := pd_bd2_some hF
      have hJ201 : pd_V cx 0 0 201 [some (.ref 92), some (.int p0), some (.int zv1), some (.int zx13), some (.int zx4), some (.int zx7), some (.int zx11), none, none] [] zI17 J (pd_RF Z) n := by
        refine pd_iincG (zz := 1) C dX12_free_201 rfl (by decide) rfl (fun zv6 hzv6 => ?_)
        have hF := pd_let_at hF hzv6
        refine pd_lsE (ls' := [some (.ref 92), some (.int p0), some (.int zv1), some (.int zx13), some (.int zx4), some (.int zx7), some (.int zv6), none, none]) rfl ?_
        refine pd_goto (tgt := 131) C dX12_free_204 (by decide) ?_
        exact ih _ _ _ hF
      replace hF := hS
      clear hS
      refine pd_if_ne (tgt := 182) C dX12_free_169 (by decide) (fun zc4 => ?_) (fun zc4 => ?_)
      · have hF := pd_f zc4 hF
        refine pd_aload_n C dX12_free_182 rfl rfl ?_
        refine gr_12_36 C wd_5_161 (pd_lt (by decide) hn) sh_92 (rf_92_36 _) dX12_free_183 ?_
        refine pd_iload C dX12_free_186 rfl ?_
        refine pd_aload_n C dX12_free_188 rfl rfl ?_
        refine gr_12_36 C wd_5_161 (pd_lt (by decide) hn) sh_92 (rf_92_36 _) dX12_free_189 ?_
        refine pd_iload C dX12_free_192 rfl ?_
        obtain ⟨zg6, hF⟩ := pd_gd_some hF
        refine pd_iald C (pd_lt (by decide) hn) sh_124 zg6 dX12_free_194 ?_
        refine pd_iload C dX12_free_195 rfl ?_
        refine pd_mmin C wd_6_80 wd_2_187 wd_1_18 wd_2_188 ⟨by decide, Nat.le_of_ble_eq_true rfl, by decide, by decide⟩ dX12_free_197 ?_
        obtain ⟨zg7, hF⟩ := pd_gd_some hF
        refine pd_iast C (pd_lt (by decide) hn) sh_124 zg7 dX12_free_200 ?_
        refine pd_memI (fun zI18 hzI18 => ?_)
        have hF := pd_let_at hF hzI18
        refine pd_wk (ls' := [some (.ref 92), some (.int p0), some (.int zv1), some (.int zx10), some (.int zx4), some (.int zx7), some (.int zx11), none, none]) (And.intro rfl (And.intro rfl (And.intro rfl (And.intro rfl (And.intro rfl (And.intro rfl (And.intro rfl True.intro))))))) ?_
        have hF := hF.symm
        cases hF
        exact hJ201
      · have hF := pd_t zc4 hF
        refine pd_iload_n C dX12_free_172 rfl rfl ?_
        refine pd_iload C dX12_free_173 rfl ?_
        refine pd_mmin C wd_6_80 wd_2_187 wd_1_18 wd_2_188 ⟨by decide, Nat.le_of_ble_eq_true rfl, by decide, by decide⟩ dX12_free_175 ?_
        refine pd_topi (fun zv7 hzv7 => ?_)
        have hF := pd_let_at hF hzv7
        refine pd_istore_n (ls' := [some (.ref 92), some (.int p0), some (.int zv1), some (.int zv7), some (.int zx4), some (.int zx7), some (.int zx11), some (.int zr6), some (.int zv5)]) C dX12_free_178 rfl (Nat.le_of_ble_eq_true rfl) rfl rfl ?_
        refine pd_goto (tgt := 201) C dX12_free_179 (by decide) ?_
        refine pd_wk (ls' := [some (.ref 92), some (.int p0), some (.int zv1), some (.int zv7), some (.int zx4), some (.int zx7), some (.int zx11), none, none]) (And.intro rfl (And.intro rfl (And.intro rfl (And.intro rfl (And.intro rfl (And.intro rfl (And.intro rfl True.intro))))))) ?_
        have hF := hF.symm
        cases hF
        exact hJ201
def fl_X12_free_107 {O : Type} (p0 : Int32) (zv1 : Int32) (kont : Int32 → pd_I → Option O) : Nat → Int32 → Int32 → pd_I → Option O
  | 0, _, _, _ => none
  | fu + 1, zx6, zx7, zI12 => if zv1 ≤ zx7 then kont zx6 zI12 else (pd_gd (pd_in zx7 64) (pd_jn (fun (zx9 : Int32) (zI14 : pd_I) => pd_let (zx7 + 1) fun zv4 => fl_X12_free_107 p0 zv1 kont fu zx9 zv4 zI14) fun zj1 => if (zI12 124 zx7.toNatClampNeg) = 1000000000 then zj1 zx6 zI12 else (fl_X12_free_131 p0 zx7 (fun zx12 zI16 => zj1 zx12 zI16) pd_FU zx6 0 zI12)))
set_option maxRecDepth 100000 in
set_option maxHeartbeats 4000000 in
theorem el_X12_free_107 {cx : pd_X} (C : pd_C cx "PathDecoderModel" cX12_free rm_X12_free) {p0 : Int32} {zv1 : Int32} {zx4 : Int32} {J : pd_J} {Z : pd_R} {n : Nat} (hn : 133 ≤ n)  {O : Type} {kont : Int32 → pd_I → Option O} {out : O} (K : ∀ (zx8 : Int32) (zI13 : pd_I), kont zx8 zI13 = some out → pd_V cx 0 0 213 [some (.ref 92), some (.int p0), some (.int zv1), some (.int zx8), some (.int zx4), none, none, none, none] [] zI13 J (pd_RF Z) n) :
    ∀ (fu : Nat) (zx6 : Int32) (zx7 : Int32) (zI12 : pd_I), fl_X12_free_107 p0 zv1 kont fu zx6 zx7 zI12 = some out → pd_V cx 0 0 107 [some (.ref 92), some (.int p0), some (.int zv1), some (.int zx6), some (.int zx4), some (.int zx7), none, none, none] [] zI12 J (pd_RF Z) n := by
  intro fu
  induction fu with
  | zero => intro zx6 zx7 zI12 hF; rw [fl_X12_free_107] at hF; cases hF
  | succ fu ih =>
    intro zx6 zx7 zI12 hF
    rw [fl_X12_free_107] at hF
    refine pd_iload C dX12_free_107 rfl ?_
    refine pd_iload_n C dX12_free_109 rfl rfl ?_
    refine pd_icmp_ge (tgt := 213) C dX12_free_110 (by decide) (fun zc7 => ?_) (fun zc7 => ?_)
    · have hF := pd_t zc7 hF
      refine pd_wk (ls' := [some (.ref 92), some (.int p0), some (.int zv1), some (.int zx6), some (.int zx4), none, none, none, none]) (And.intro rfl (And.intro rfl (And.intro rfl (And.intro rfl (And.intro rfl True.intro))))) ?_
      exact K _ _ hF
    · have hF := pd_f zc7 hF
      refine pd_aload_n C dX12_free_113 rfl rfl ?_
      refine gr_12_36 C wd_5_161 (pd_lt (by decide) hn) sh_92 (rf_92_36 _) dX12_free_114 ?_
      refine pd_iload C dX12_free_117 rfl ?_
      obtain ⟨zg4, hF⟩ := pd_gd_some hF
      refine pd_iald C (pd_lt (by decide) hn) sh_124 zg4 dX12_free_119 ?_
      refine pd_ldc C wd_6_184 dX12_free_120 ?_
      refine pd_jn_use hF (fun j => ∀ (zx9 : Int32) (zI14 : pd_I), j zx9 zI14 = some out → pd_V cx 0 0 207 [some (.ref 92), some (.int p0), some (.int zv1), some (.int zx9), some (.int zx4), some (.int zx7), none, none, none] [] zI14 J (pd_RF Z) n) (fun zx9 zI14 hF => ?_) (fun zj1 hzj1 hF => ?_)
      · refine pd_iincG (zz := 1) C dX12_free_207 rfl (by decide) rfl (fun zv4 hzv4 => ?_)
        have hF := pd_let_at hF hzv4
        refine pd_lsE (ls' := [some (.ref 92), some (.int p0), some (.int zv1), some (.int zx9), some (.int zx4), some (.int zv4), none, none, none]) rfl ?_
        refine pd_goto (tgt := 107) C dX12_free_210 (by decide) ?_
        exact ih _ _ _ hF
      · refine pd_icmp_ne (tgt := 128) C dX12_free_122 (by decide) (fun zc6 => ?_) (fun zc6 => ?_)
        · have hF := pd_f zc6 hF
          refine pd_iconst (v := 0) C dX12_free_128 (by decide) ?_
          refine pd_istore (ls' := [some (.ref 92), some (.int p0), some (.int zv1), some (.int zx6), some (.int zx4), some (.int zx7), some (.int 0), none, none]) C dX12_free_129 (Nat.le_of_ble_eq_true rfl) rfl rfl ?_
          refine el_X12_free_131 C hn (fun zx12 zI16 hF => ?_) pd_FU _ _ _ hF
          exact hzj1 _ _ hF
        · have hF := pd_t zc6 hF
          refine pd_goto (tgt := 207) C dX12_free_125 (by decide) ?_
          exact hzj1 _ _ hF
def fl_X12_free_98 {O : Type} (p0 : Int32) (zv1 : Int32) (kont : Int32 → pd_I → Option O) : Nat → Int32 → Int32 → pd_I → Option O
  | 0, _, _, _ => none
  | fu + 1, zx3, zx4, zI10 => if zv1 ≤ zx4 then kont zx3 zI10 else (fl_X12_free_107 p0 zv1 (fun zx8 zI13 => pd_let (zx4 + 1) fun zv8 => fl_X12_free_98 p0 zv1 kont fu zx8 zv8 zI13) pd_FU zx3 1 zI10)
set_option maxRecDepth 100000 in
set_option maxHeartbeats 4000000 in
theorem el_X12_free_98 {cx : pd_X} (C : pd_C cx "PathDecoderModel" cX12_free rm_X12_free) {p0 : Int32} {zv1 : Int32} {J : pd_J} {Z : pd_R} {n : Nat} (hn : 133 ≤ n)  {O : Type} {kont : Int32 → pd_I → Option O} {out : O} (K : ∀ (zx5 : Int32) (zI11 : pd_I), kont zx5 zI11 = some out → pd_V cx 0 0 219 [none, none, none, some (.int zx5), none, none, none, none, none] [] zI11 J (pd_RF Z) n) :
    ∀ (fu : Nat) (zx3 : Int32) (zx4 : Int32) (zI10 : pd_I), fl_X12_free_98 p0 zv1 kont fu zx3 zx4 zI10 = some out → pd_V cx 0 0 98 [some (.ref 92), some (.int p0), some (.int zv1), some (.int zx3), some (.int zx4), none, none, none, none] [] zI10 J (pd_RF Z) n := by
  intro fu
  induction fu with
  | zero => intro zx3 zx4 zI10 hF; rw [fl_X12_free_98] at hF; cases hF
  | succ fu ih =>
    intro zx3 zx4 zI10 hF
    rw [fl_X12_free_98] at hF
    refine pd_iload C dX12_free_98 rfl ?_
    refine pd_iload_n C dX12_free_100 rfl rfl ?_
    refine pd_icmp_ge (tgt := 219) C dX12_free_101 (by decide) (fun zc8 => ?_) (fun zc8 => ?_)
    · have hF := pd_t zc8 hF
      refine pd_wk (ls' := [none, none, none, some (.int zx3), none, none, none, none, none]) (And.intro rfl True.intro) ?_
      exact K _ _ hF
    · have hF := pd_f zc8 hF
      refine pd_iconst (v := 1) C dX12_free_104 (by decide) ?_
      refine pd_istore (ls' := [some (.ref 92), some (.int p0), some (.int zv1), some (.int zx3), some (.int zx4), some (.int 1), none, none, none]) C dX12_free_105 (Nat.le_of_ble_eq_true rfl) rfl rfl ?_
      refine el_X12_free_107 C hn (fun zx8 zI13 hF => ?_) pd_FU _ _ _ hF
      refine pd_iincG (zz := 1) C dX12_free_213 rfl (by decide) rfl (fun zv8 hzv8 => ?_)
      have hF := pd_let_at hF hzv8
      refine pd_lsE (ls' := [some (.ref 92), some (.int p0), some (.int zv1), some (.int zx8), some (.int zv8), none, none, none, none]) rfl ?_
      refine pd_goto (tgt := 98) C dX12_free_216 (by decide) ?_
      exact ih _ _ _ hF
def fn_X12_free (I : pd_I) (p0 : Int32) : Option (Int32 × pd_I) := pd_bd2 (fn_X12_isOpen I p0) fun zr1 zI1 => if zr1 = 0 then some (0, zI1) else (pd_bd2 (fn_X12_isBad zI1 p0) fun zr2 zI2 => if zr2 = 0 then pd_gd (pd_in p0 12) (pd_let ((1 : Int32) <<< ((zI2 98 p0.toNatClampNeg) &&& 31)) fun zv1 => fl_X12_free_31 zv1 (fun zI4 => fl_X12_free_52 p0 (fun zI7 => fl_X12_free_98 p0 zv1 (fun zx5 zI11 => some (zx5, zI11)) pd_FU 1000000000 0 zI7) pd_FU 0 zI4) pd_FU 0 zI2) else (some ((-1), zI2)))
set_option maxRecDepth 100000 in
set_option maxHeartbeats 4000000 in
theorem em_X12_free {l : Launch} {D : va_G} {tc : Nat → ClassId} (hst : l.stackTraces = false) {I : pd_I} {J : pd_J} {Z : pd_R} {n : Nat} {p0 : Int32} (hn : 133 ≤ n)  {out : Int32 × pd_I} (hF : fn_X12_free I p0 = some out) :
    pd_M l D tc yX12_free (.code yX12_free cX12_free 9 (Option.some Jvm.ClassFile.FieldType.int)) rm_X12_free [.ref 92, .int p0] I J (pd_RF Z) n (.ok (some (.int out.1))) out.2 J (pd_RF Z) n := by
  refine pd_open (own := "PathDecoderModel") (ls0 := [some (.ref 92), some (.int p0), none, none, none, none, none, none, none]) (by decide) rfl (Nat.le_of_ble_eq_true rfl) rfl rfl hst (fun cx hl hD htc C hE htab hnm => ?_)
  subst hl hD htc
  unfold fn_X12_free at hF
  refine pd_aload_n C dX12_free_0 rfl rfl ?_
  refine pd_iload_n C dX12_free_1 rfl rfl ?_
  obtain ⟨zr1, zI1, zh1, hF⟩ := pd_bd2_some hF
  refine pd_callV C [.int p0] [] (em_X12_isOpen (pd_C_st C) hn  zh1) mw_X12_isOpen wd_7_32 rfl (by decide) (pd_lt (by decide) hn) sh_92 ⟨by decide, by decide, by decide, by decide⟩ rfl (Nat.le_of_ble_eq_true rfl) pd_oldL_same (fun _ _ => pd_old_same _) dX12_free_2 (stk' := [.int zr1]) rfl ?_
  refine pd_if_ne (tgt := 10) C dX12_free_5 (by decide) (fun zc10 => ?_) (fun zc10 => ?_)
  · have hF := pd_f zc10 hF
    refine pd_aload_n C dX12_free_10 rfl rfl ?_
    refine pd_iload_n C dX12_free_11 rfl rfl ?_
    obtain ⟨zr2, zI2, zh2, hF⟩ := pd_bd2_some hF
    refine pd_callV C [.int p0] [] (em_X12_isBad (pd_C_st C) hn  zh2) mw_X12_isBad wd_7_36 rfl (by decide) (pd_lt (by decide) hn) sh_92 ⟨by decide, by decide, by decide, by decide⟩ rfl (Nat.le_of_ble_eq_true rfl) pd_oldL_same (fun _ _ => pd_old_same _) dX12_free_12 (stk' := [.int zr2]) rfl ?_
    refine pd_if_eq (tgt := 20) C dX12_free_15 (by decide) (fun zc9 => ?_) (fun zc9 => ?_)
    · have hF := pd_t zc9 hF
      refine pd_iconst (v := 1) C dX12_free_20 (by decide) ?_
      refine pd_aload_n C dX12_free_21 rfl rfl ?_
      refine gr_12_7 C wd_5_132 (pd_lt (by decide) hn) sh_92 (rf_92_7 _) dX12_free_22 ?_
      refine pd_iload_n C dX12_free_25 rfl rfl ?_
      obtain ⟨zg1, hF⟩ := pd_gd_some hF
      refine pd_iald C (pd_lt (by decide) hn) sh_98 zg1 dX12_free_26 ?_
      refine pd_ishl C dX12_free_27 ?_
      refine pd_topi (fun zv1 hzv1 => ?_)
      have hF := pd_let_at hF hzv1
      refine pd_istore_n (ls' := [some (.ref 92), some (.int p0), some (.int zv1), none, none, none, none, none, none]) C dX12_free_28 rfl (Nat.le_of_ble_eq_true rfl) rfl rfl ?_
      refine pd_iconst (v := 0) C dX12_free_29 (by decide) ?_
      refine pd_istore_n (ls' := [some (.ref 92), some (.int p0), some (.int zv1), some (.int 0), none, none, none, none, none]) C dX12_free_30 rfl (Nat.le_of_ble_eq_true rfl) rfl rfl ?_
      refine el_X12_free_31 C hn (fun zI4 hF => ?_) pd_FU _ _ hF
      refine pd_iconst (v := 0) C dX12_free_50 (by decide) ?_
      refine pd_istore_n (ls' := [some (.ref 92), some (.int p0), some (.int zv1), some (.int 0), none, none, none, none, none]) C dX12_free_51 rfl (Nat.le_of_ble_eq_true rfl) rfl rfl ?_
      refine el_X12_free_52 C hn (fun zI7 hF => ?_) pd_FU _ _ hF
      refine pd_ldc C wd_6_184 dX12_free_92 ?_
      refine pd_istore_n (ls' := [some (.ref 92), some (.int p0), some (.int zv1), some (.int 1000000000), none, none, none, none, none]) C dX12_free_94 rfl (Nat.le_of_ble_eq_true rfl) rfl rfl ?_
      refine pd_iconst (v := 0) C dX12_free_95 (by decide) ?_
      refine pd_istore (ls' := [some (.ref 92), some (.int p0), some (.int zv1), some (.int 1000000000), some (.int 0), none, none, none, none]) C dX12_free_96 (Nat.le_of_ble_eq_true rfl) rfl rfl ?_
      refine el_X12_free_98 C hn (fun zx5 zI11 hF => ?_) pd_FU _ _ _ hF
      refine pd_iload_n C dX12_free_219 rfl rfl ?_
      cases hF
      exact pd_iret C hE rfl rfl rfl ⟨by decide, by decide⟩ dX12_free_220
    · have hF := pd_f zc9 hF
      refine pd_iconst (v := (-1)) C dX12_free_18 (by decide) ?_
      cases hF
      exact pd_iret C hE rfl rfl rfl ⟨by decide, by decide⟩ dX12_free_19
  · have hF := pd_t zc10 hF
    refine pd_iconst (v := 0) C dX12_free_8 (by decide) ?_
    cases hF
    exact pd_iret C hE rfl rfl rfl ⟨by decide, by decide⟩ dX12_free_9

def fl_X12_settles_3 {O : Type} (p1 : Int32) (p2 : Int32) (kont : pd_J → Option O) : Nat → Int32 → pd_J → Option O
  | 0, _, _ => none
  | fu + 1, zx1, zJ1 => if p2 ≤ zx1 then kont zJ1 else (pd_gd (pd_in ((64 * p1) + zx1) 2048) (pd_gd (pd_in zx1 64) (pd_let (pd_uj zJ1 130 zx1.toNatClampNeg (zJ1 129 ((64 * p1) + zx1).toNatClampNeg)) fun zJ3 => pd_let (zx1 + 1) fun zv1 => fl_X12_settles_3 p1 p2 kont fu zv1 zJ3)))
set_option maxRecDepth 100000 in
set_option maxHeartbeats 4000000 in
theorem el_X12_settles_3 {cx : pd_X} (C : pd_C cx "PathDecoderModel" cX12_settles rm_X12_settles) {p0 : Int32} {p1 : Int32} {p2 : Int32} {I : pd_I} {Z : pd_R} {n : Nat} (hn : 133 ≤ n)  {O : Type} {kont : pd_J → Option O} {out : O} (K : ∀ (zJ2 : pd_J), kont zJ2 = some out → pd_V cx 0 0 34 [some (.ref 92), some (.int p0), some (.int p1), some (.int p2), none, none, none] [] I zJ2 (pd_RF Z) n) :
    ∀ (fu : Nat) (zx1 : Int32) (zJ1 : pd_J), fl_X12_settles_3 p1 p2 kont fu zx1 zJ1 = some out → pd_V cx 0 0 3 [some (.ref 92), some (.int p0), some (.int p1), some (.int p2), some (.int zx1), none, none] [] I zJ1 (pd_RF Z) n := by
  intro fu
  induction fu with
  | zero => intro zx1 zJ1 hF; rw [fl_X12_settles_3] at hF; cases hF
  | succ fu ih =>
    intro zx1 zJ1 hF
    rw [fl_X12_settles_3] at hF
    refine pd_iload C dX12_settles_3 rfl ?_
    refine pd_iload_n C dX12_settles_5 rfl rfl ?_
    refine pd_icmp_ge (tgt := 34) C dX12_settles_6 (by decide) (fun zc1 => ?_) (fun zc1 => ?_)
    · have hF := pd_t zc1 hF
      refine pd_wk (ls' := [some (.ref 92), some (.int p0), some (.int p1), some (.int p2), none, none, none]) (And.intro rfl (And.intro rfl (And.intro rfl (And.intro rfl True.intro)))) ?_
      exact K _ hF
    · have hF := pd_f zc1 hF
      refine pd_aload_n C dX12_settles_9 rfl rfl ?_
      refine gr_12_42 C wd_5_167 (pd_lt (by decide) hn) sh_92 (rf_92_42 _) dX12_settles_10 ?_
      refine pd_iload C dX12_settles_13 rfl ?_
      refine pd_aload_n C dX12_settles_15 rfl rfl ?_
      refine gr_12_41 C wd_5_166 (pd_lt (by decide) hn) sh_92 (rf_92_41 _) dX12_settles_16 ?_
      refine pd_bipush (v := 64) C dX12_settles_19 (by decide) ?_
      refine pd_iload_n C dX12_settles_21 rfl rfl ?_
      refine pd_imul C dX12_settles_22 ?_
      refine pd_iload C dX12_settles_23 rfl ?_
      refine pd_iadd C dX12_settles_25 ?_
      obtain ⟨zg1, hF⟩ := pd_gd_some hF
      refine pd_lald C (pd_lt (by decide) hn) sh_129 zg1 dX12_settles_26 ?_
      obtain ⟨zg2, hF⟩ := pd_gd_some hF
      refine pd_last C (pd_lt (by decide) hn) sh_130 zg2 dX12_settles_27 ?_
      refine pd_memJ (fun zJ3 hzJ3 => ?_)
      have hF := pd_let_at hF hzJ3
      refine pd_iincG (zz := 1) C dX12_settles_28 rfl (by decide) rfl (fun zv1 hzv1 => ?_)
      have hF := pd_let_at hF hzv1
      refine pd_lsE (ls' := [some (.ref 92), some (.int p0), some (.int p1), some (.int p2), some (.int zv1), none, none]) rfl ?_
      refine pd_goto (tgt := 3) C dX12_settles_31 (by decide) ?_
      exact ih _ _ hF
def fl_X12_settles_46 {O : Type} (p2 : Int32) (kont : pd_J → Option O) : Nat → Int32 → pd_J → Option O
  | 0, _, _ => none
  | fu + 1, zx3, zJ6 => if p2 ≤ zx3 then kont zJ6 else (pd_gd (pd_in zx3 64) (pd_let (pd_uj zJ6 131 zx3.toNatClampNeg 0) fun zJ8 => pd_let (zx3 + 1) fun zv2 => fl_X12_settles_46 p2 kont fu zv2 zJ8))
set_option maxRecDepth 100000 in
set_option maxHeartbeats 4000000 in
theorem el_X12_settles_46 {cx : pd_X} (C : pd_C cx "PathDecoderModel" cX12_settles rm_X12_settles) {p0 : Int32} {p1 : Int32} {p2 : Int32} {zx2 : Int32} {I : pd_I} {Z : pd_R} {n : Nat} (hn : 133 ≤ n)  {O : Type} {kont : pd_J → Option O} {out : O} (K : ∀ (zJ7 : pd_J), kont zJ7 = some out → pd_V cx 0 0 66 [some (.ref 92), some (.int p0), some (.int p1), some (.int p2), some (.int zx2), none, none] [] I zJ7 (pd_RF Z) n) :
    ∀ (fu : Nat) (zx3 : Int32) (zJ6 : pd_J), fl_X12_settles_46 p2 kont fu zx3 zJ6 = some out → pd_V cx 0 0 46 [some (.ref 92), some (.int p0), some (.int p1), some (.int p2), some (.int zx2), some (.int zx3), none] [] I zJ6 (pd_RF Z) n := by
  intro fu
  induction fu with
  | zero => intro zx3 zJ6 hF; rw [fl_X12_settles_46] at hF; cases hF
  | succ fu ih =>
    intro zx3 zJ6 hF
    rw [fl_X12_settles_46] at hF
    refine pd_iload C dX12_settles_46 rfl ?_
    refine pd_iload_n C dX12_settles_48 rfl rfl ?_
    refine pd_icmp_ge (tgt := 66) C dX12_settles_49 (by decide) (fun zc2 => ?_) (fun zc2 => ?_)
    · have hF := pd_t zc2 hF
      refine pd_wk (ls' := [some (.ref 92), some (.int p0), some (.int p1), some (.int p2), some (.int zx2), none, none]) (And.intro rfl (And.intro rfl (And.intro rfl (And.intro rfl (And.intro rfl True.intro))))) ?_
      exact K _ hF
    · have hF := pd_f zc2 hF
      refine pd_aload_n C dX12_settles_52 rfl rfl ?_
      refine gr_12_43 C wd_5_168 (pd_lt (by decide) hn) sh_92 (rf_92_43 _) dX12_settles_53 ?_
      refine pd_iload C dX12_settles_56 rfl ?_
      refine pd_lconst (v := 0) C dX12_settles_58 (by decide) ?_
      obtain ⟨zg3, hF⟩ := pd_gd_some hF
      refine pd_last C (pd_lt (by decide) hn) sh_131 zg3 dX12_settles_59 ?_
      refine pd_memJ (fun zJ8 hzJ8 => ?_)
      have hF := pd_let_at hF hzJ8
      refine pd_iincG (zz := 1) C dX12_settles_60 rfl (by decide) rfl (fun zv2 hzv2 => ?_)
      have hF := pd_let_at hF hzv2
      refine pd_lsE (ls' := [some (.ref 92), some (.int p0), some (.int p1), some (.int p2), some (.int zx2), some (.int zv2), none]) rfl ?_
      refine pd_goto (tgt := 46) C dX12_settles_63 (by decide) ?_
      exact ih _ _ hF
def fl_X12_settles_78 {O : Type} (p0 : Int32) (zx4 : Int32) (I : pd_I) (kont : pd_J → Option O) : Nat → Int32 → pd_J → Option O
  | 0, _, _ => none
  | fu + 1, zx5, zJ11 => if 2 ≤ zx5 then kont zJ11 else (pd_bd (fn_X12_next I p0 zx4 zx5) fun zr1 => pd_bd (pd_bd (if zr1 = 0 then some false else (pd_bd (fn_X12_weight I p0 zx4 zx5) fun zr3 => if zr3 = 0 then some true else (some false))) fun zc3 => if zc3 = true then pd_bd (fn_X12_next I p0 zx4 zx5) fun zr2 => pd_gd (pd_in zr2 64) (pd_gd (pd_in zx4 64) (pd_gd (pd_in zr2 64) (pd_let (pd_uj zJ11 131 zr2.toNatClampNeg ((zJ11 131 zr2.toNatClampNeg) + (zJ11 130 zx4.toNatClampNeg))) fun zJ14 => some zJ14))) else (some zJ11)) fun (zJ13 : pd_J) => pd_let (zx5 + 1) fun zv3 => fl_X12_settles_78 p0 zx4 I kont fu zv3 zJ13)
set_option maxRecDepth 100000 in
set_option maxHeartbeats 4000000 in
theorem el_X12_settles_78 {cx : pd_X} (C : pd_C cx "PathDecoderModel" cX12_settles rm_X12_settles) {p0 : Int32} {p1 : Int32} {p2 : Int32} {zx2 : Int32} {zx4 : Int32} {I : pd_I} {Z : pd_R} {n : Nat} (hn : 133 ≤ n)  {O : Type} {kont : pd_J → Option O} {out : O} (K : ∀ (zJ12 : pd_J), kont zJ12 = some out → pd_V cx 0 0 138 [some (.ref 92), some (.int p0), some (.int p1), some (.int p2), some (.int zx2), some (.int zx4), none] [] I zJ12 (pd_RF Z) n) :
    ∀ (fu : Nat) (zx5 : Int32) (zJ11 : pd_J), fl_X12_settles_78 p0 zx4 I kont fu zx5 zJ11 = some out → pd_V cx 0 0 78 [some (.ref 92), some (.int p0), some (.int p1), some (.int p2), some (.int zx2), some (.int zx4), some (.int zx5)] [] I zJ11 (pd_RF Z) n := by
  intro fu
  induction fu with
  | zero => intro zx5 zJ11 hF; rw [fl_X12_settles_78] at hF; cases hF
  | succ fu ih =>
    intro zx5 zJ11 hF
    rw [fl_X12_settles_78] at hF
    refine pd_iload C dX12_settles_78 rfl ?_
    refine pd_iconst (v := 2) C dX12_settles_80 (by decide) ?_
    refine pd_icmp_ge (tgt := 138) C dX12_settles_81 (by decide) (fun zc6 => ?_) (fun zc6 => ?_)
    · have hF := pd_t zc6 hF
      refine pd_wk (ls' := [some (.ref 92), some (.int p0), some (.int p1), some (.int p2), some (.int zx2), some (.int zx4), none]) (And.intro rfl (And.intro rfl (And.intro rfl (And.intro rfl (And.intro rfl (And.intro rfl True.intro)))))) ?_
      exact K _ hF
    · have hF := pd_f zc6 hF
      refine pd_aload_n C dX12_settles_84 rfl rfl ?_
      refine pd_iload_n C dX12_settles_85 rfl rfl ?_
      refine pd_iload C dX12_settles_86 rfl ?_
      refine pd_iload C dX12_settles_88 rfl ?_
      obtain ⟨zr1, zh1, hF⟩ := pd_bd_some hF
      refine pd_callV C [.int p0, .int zx4, .int zx5] [] (em_X12_next (pd_C_st C) hn  zh1) mw_X12_next wd_6_109 rfl (by decide) (pd_lt (by decide) hn) sh_92 ⟨by decide, by decide, by decide, by decide⟩ rfl (Nat.le_of_ble_eq_true rfl) pd_oldL_same (fun _ _ => pd_old_same _) dX12_settles_90 (stk' := [.int zr1]) rfl ?_
      obtain ⟨zJ13, hS, hF⟩ := pd_bd_some hF
      have hJ132 : pd_V cx 0 0 132 [some (.ref 92), some (.int p0), some (.int p1), some (.int p2), some (.int zx2), some (.int zx4), some (.int zx5)] [] I zJ13 (pd_RF Z) n := by
        refine pd_iincG (zz := 1) C dX12_settles_132 rfl (by decide) rfl (fun zv3 hzv3 => ?_)
        have hF := pd_let_at hF hzv3
        refine pd_lsE (ls' := [some (.ref 92), some (.int p0), some (.int p1), some (.int p2), some (.int zx2), some (.int zx4), some (.int zv3)]) rfl ?_
        refine pd_goto (tgt := 78) C dX12_settles_135 (by decide) ?_
        exact ih _ _ hF
      replace hF := hS
      clear hS
      obtain ⟨zc3, hS, hF⟩ := pd_bd_some hF
      have hTzc3 : zc3 = true → pd_V cx 0 0 108 [some (.ref 92), some (.int p0), some (.int p1), some (.int p2), some (.int zx2), some (.int zx4), some (.int zx5)] [] I zJ11 (pd_RF Z) n := by
        intro hc
        have hF := pd_t hc hF
        refine pd_aload_n C dX12_settles_108 rfl rfl ?_
        refine gr_12_43 C wd_5_168 (pd_lt (by decide) hn) sh_92 (rf_92_43 _) dX12_settles_109 ?_
        refine pd_aload_n C dX12_settles_112 rfl rfl ?_
        refine pd_iload_n C dX12_settles_113 rfl rfl ?_
        refine pd_iload C dX12_settles_114 rfl ?_
        refine pd_iload C dX12_settles_116 rfl ?_
        obtain ⟨zr2, zh2, hF⟩ := pd_bd_some hF
        refine pd_callV C [.int p0, .int zx4, .int zx5] [.ref 131] (em_X12_next (pd_C_st C) hn  zh2) mw_X12_next wd_6_109 rfl (by decide) (pd_lt (by decide) hn) sh_92 ⟨by decide, by decide, by decide, by decide⟩ rfl (Nat.le_of_ble_eq_true rfl) pd_oldL_same (fun _ _ => pd_old_same _) dX12_settles_118 (stk' := [.int zr2, .ref 131]) rfl ?_
        refine pd_dup2 C dX12_settles_121 rfl rfl ?_
        obtain ⟨zg4, hF⟩ := pd_gd_some hF
        refine pd_lald C (pd_lt (by decide) hn) sh_131 zg4 dX12_settles_122 ?_
        refine pd_aload_n C dX12_settles_123 rfl rfl ?_
        refine gr_12_42 C wd_5_167 (pd_lt (by decide) hn) sh_92 (rf_92_42 _) dX12_settles_124 ?_
        refine pd_iload C dX12_settles_127 rfl ?_
        obtain ⟨zg5, hF⟩ := pd_gd_some hF
        refine pd_lald C (pd_lt (by decide) hn) sh_130 zg5 dX12_settles_129 ?_
        refine pd_ladd C dX12_settles_130 ?_
        obtain ⟨zg6, hF⟩ := pd_gd_some hF
        refine pd_last C (pd_lt (by decide) hn) sh_131 zg6 dX12_settles_131 ?_
        refine pd_memJ (fun zJ14 hzJ14 => ?_)
        have hF := pd_let_at hF hzJ14
        have hF := hF.symm
        cases hF
        exact hJ132
      have hEzc3 : zc3 = false → pd_V cx 0 0 132 [some (.ref 92), some (.int p0), some (.int p1), some (.int p2), some (.int zx2), some (.int zx4), some (.int zx5)] [] I zJ11 (pd_RF Z) n := by
        intro hc
        have hF := pd_bf hc hF
        have hF := hF.symm
        cases hF
        exact hJ132
      replace hF := hS
      clear hS
      refine pd_if_eq (tgt := 132) C dX12_settles_93 (by decide) (fun zc5 => ?_) (fun zc5 => ?_)
      · have hF := pd_t zc5 hF
        cases hF
        exact hEzc3 rfl
      · have hF := pd_f zc5 hF
        refine pd_aload_n C dX12_settles_96 rfl rfl ?_
        refine pd_iload_n C dX12_settles_97 rfl rfl ?_
        refine pd_iload C dX12_settles_98 rfl ?_
        refine pd_iload C dX12_settles_100 rfl ?_
        obtain ⟨zr3, zh3, hF⟩ := pd_bd_some hF
        refine pd_callV C [.int p0, .int zx4, .int zx5] [] (em_X12_weight (pd_C_st C) hn  zh3) mw_X12_weight wd_7_40 rfl (by decide) (pd_lt (by decide) hn) sh_92 ⟨by decide, by decide, by decide, by decide⟩ rfl (Nat.le_of_ble_eq_true rfl) pd_oldL_same (fun _ _ => pd_old_same _) dX12_settles_102 (stk' := [.int zr3]) rfl ?_
        refine pd_if_ne (tgt := 132) C dX12_settles_105 (by decide) (fun zc4 => ?_) (fun zc4 => ?_)
        · have hF := pd_f zc4 hF
          cases hF
          exact hEzc3 rfl
        · have hF := pd_t zc4 hF
          cases hF
          exact hTzc3 rfl
def fl_X12_settles_69 {O : Type} (p0 : Int32) (p2 : Int32) (I : pd_I) (kont : pd_J → Option O) : Nat → Int32 → pd_J → Option O
  | 0, _, _ => none
  | fu + 1, zx4, zJ9 => if p2 ≤ zx4 then kont zJ9 else (fl_X12_settles_78 p0 zx4 I (fun zJ12 => pd_let (zx4 + 1) fun zv4 => fl_X12_settles_69 p0 p2 I kont fu zv4 zJ12) pd_FU 0 zJ9)
set_option maxRecDepth 100000 in
set_option maxHeartbeats 4000000 in
theorem el_X12_settles_69 {cx : pd_X} (C : pd_C cx "PathDecoderModel" cX12_settles rm_X12_settles) {p0 : Int32} {p1 : Int32} {p2 : Int32} {zx2 : Int32} {I : pd_I} {Z : pd_R} {n : Nat} (hn : 133 ≤ n)  {O : Type} {kont : pd_J → Option O} {out : O} (K : ∀ (zJ10 : pd_J), kont zJ10 = some out → pd_V cx 0 0 144 [some (.ref 92), some (.int p0), some (.int p1), some (.int p2), some (.int zx2), none, none] [] I zJ10 (pd_RF Z) n) :
    ∀ (fu : Nat) (zx4 : Int32) (zJ9 : pd_J), fl_X12_settles_69 p0 p2 I kont fu zx4 zJ9 = some out → pd_V cx 0 0 69 [some (.ref 92), some (.int p0), some (.int p1), some (.int p2), some (.int zx2), some (.int zx4), none] [] I zJ9 (pd_RF Z) n := by
  intro fu
  induction fu with
  | zero => intro zx4 zJ9 hF; rw [fl_X12_settles_69] at hF; cases hF
  | succ fu ih =>
    intro zx4 zJ9 hF
    rw [fl_X12_settles_69] at hF
    refine pd_iload C dX12_settles_69 rfl ?_
    refine pd_iload_n C dX12_settles_71 rfl rfl ?_
    refine pd_icmp_ge (tgt := 144) C dX12_settles_72 (by decide) (fun zc7 => ?_) (fun zc7 => ?_)
    · have hF := pd_t zc7 hF
      refine pd_wk (ls' := [some (.ref 92), some (.int p0), some (.int p1), some (.int p2), some (.int zx2), none, none]) (And.intro rfl (And.intro rfl (And.intro rfl (And.intro rfl (And.intro rfl True.intro))))) ?_
      exact K _ hF
    · have hF := pd_f zc7 hF
      refine pd_iconst (v := 0) C dX12_settles_75 (by decide) ?_
      refine pd_istore (ls' := [some (.ref 92), some (.int p0), some (.int p1), some (.int p2), some (.int zx2), some (.int zx4), some (.int 0)]) C dX12_settles_76 (Nat.le_of_ble_eq_true rfl) rfl rfl ?_
      refine el_X12_settles_78 C hn (fun zJ12 hF => ?_) pd_FU _ _ hF
      refine pd_iincG (zz := 1) C dX12_settles_138 rfl (by decide) rfl (fun zv4 hzv4 => ?_)
      have hF := pd_let_at hF hzv4
      refine pd_lsE (ls' := [some (.ref 92), some (.int p0), some (.int p1), some (.int p2), some (.int zx2), some (.int zv4), none]) rfl ?_
      refine pd_goto (tgt := 69) C dX12_settles_141 (by decide) ?_
      exact ih _ _ hF
def fl_X12_settles_147 {O : Type} (p1 : Int32) (p2 : Int32) (kont : pd_J → Option O) : Nat → Int32 → pd_J → Option O
  | 0, _, _ => none
  | fu + 1, zx6, zJ15 => if p2 ≤ zx6 then kont zJ15 else (pd_gd (pd_in zx6 64) (pd_gd (pd_in zx6 64) (pd_let (pd_uj zJ15 130 zx6.toNatClampNeg (zJ15 131 zx6.toNatClampNeg)) fun zJ17 => pd_gd (pd_in ((64 * p1) + zx6) 2048) (pd_gd (pd_in zx6 64) (pd_gd (pd_in ((64 * p1) + zx6) 2048) (pd_let (pd_uj zJ17 129 ((64 * p1) + zx6).toNatClampNeg ((zJ17 129 ((64 * p1) + zx6).toNatClampNeg) + (zJ17 130 zx6.toNatClampNeg))) fun zJ18 => pd_let (zx6 + 1) fun zv5 => fl_X12_settles_147 p1 p2 kont fu zv5 zJ18))))))
set_option maxRecDepth 100000 in
set_option maxHeartbeats 4000000 in
theorem el_X12_settles_147 {cx : pd_X} (C : pd_C cx "PathDecoderModel" cX12_settles rm_X12_settles) {p0 : Int32} {p1 : Int32} {p2 : Int32} {zx2 : Int32} {I : pd_I} {Z : pd_R} {n : Nat} (hn : 133 ≤ n)  {O : Type} {kont : pd_J → Option O} {out : O} (K : ∀ (zJ16 : pd_J), kont zJ16 = some out → pd_V cx 0 0 195 [some (.ref 92), some (.int p0), some (.int p1), some (.int p2), some (.int zx2), none, none] [] I zJ16 (pd_RF Z) n) :
    ∀ (fu : Nat) (zx6 : Int32) (zJ15 : pd_J), fl_X12_settles_147 p1 p2 kont fu zx6 zJ15 = some out → pd_V cx 0 0 147 [some (.ref 92), some (.int p0), some (.int p1), some (.int p2), some (.int zx2), some (.int zx6), none] [] I zJ15 (pd_RF Z) n := by
  intro fu
  induction fu with
  | zero => intro zx6 zJ15 hF; rw [fl_X12_settles_147] at hF; cases hF
  | succ fu ih =>
    intro zx6 zJ15 hF
    rw [fl_X12_settles_147] at hF
    refine pd_iload C dX12_settles_147 rfl ?_
    refine pd_iload_n C dX12_settles_149 rfl rfl ?_
    refine pd_icmp_ge (tgt := 195) C dX12_settles_150 (by decide) (fun zc8 => ?_) (fun zc8 => ?_)
    · have hF := pd_t zc8 hF
      refine pd_wk (ls' := [some (.ref 92), some (.int p0), some (.int p1), some (.int p2), some (.int zx2), none, none]) (And.intro rfl (And.intro rfl (And.intro rfl (And.intro rfl (And.intro rfl True.intro))))) ?_
      exact K _ hF
    · have hF := pd_f zc8 hF
      refine pd_aload_n C dX12_settles_153 rfl rfl ?_
      refine gr_12_42 C wd_5_167 (pd_lt (by decide) hn) sh_92 (rf_92_42 _) dX12_settles_154 ?_
      refine pd_iload C dX12_settles_157 rfl ?_
      refine pd_aload_n C dX12_settles_159 rfl rfl ?_
      refine gr_12_43 C wd_5_168 (pd_lt (by decide) hn) sh_92 (rf_92_43 _) dX12_settles_160 ?_
      refine pd_iload C dX12_settles_163 rfl ?_
      obtain ⟨zg7, hF⟩ := pd_gd_some hF
      refine pd_lald C (pd_lt (by decide) hn) sh_131 zg7 dX12_settles_165 ?_
      obtain ⟨zg8, hF⟩ := pd_gd_some hF
      refine pd_last C (pd_lt (by decide) hn) sh_130 zg8 dX12_settles_166 ?_
      refine pd_memJ (fun zJ17 hzJ17 => ?_)
      have hF := pd_let_at hF hzJ17
      refine pd_aload_n C dX12_settles_167 rfl rfl ?_
      refine gr_12_41 C wd_5_166 (pd_lt (by decide) hn) sh_92 (rf_92_41 _) dX12_settles_168 ?_
      refine pd_bipush (v := 64) C dX12_settles_171 (by decide) ?_
      refine pd_iload_n C dX12_settles_173 rfl rfl ?_
      refine pd_imul C dX12_settles_174 ?_
      refine pd_iload C dX12_settles_175 rfl ?_
      refine pd_iadd C dX12_settles_177 ?_
      refine pd_dup2 C dX12_settles_178 rfl rfl ?_
      obtain ⟨zg9, hF⟩ := pd_gd_some hF
      refine pd_lald C (pd_lt (by decide) hn) sh_129 zg9 dX12_settles_179 ?_
      refine pd_aload_n C dX12_settles_180 rfl rfl ?_
      refine gr_12_42 C wd_5_167 (pd_lt (by decide) hn) sh_92 (rf_92_42 _) dX12_settles_181 ?_
      refine pd_iload C dX12_settles_184 rfl ?_
      obtain ⟨zg10, hF⟩ := pd_gd_some hF
      refine pd_lald C (pd_lt (by decide) hn) sh_130 zg10 dX12_settles_186 ?_
      refine pd_ladd C dX12_settles_187 ?_
      obtain ⟨zg11, hF⟩ := pd_gd_some hF
      refine pd_last C (pd_lt (by decide) hn) sh_129 zg11 dX12_settles_188 ?_
      refine pd_memJ (fun zJ18 hzJ18 => ?_)
      have hF := pd_let_at hF hzJ18
      refine pd_iincG (zz := 1) C dX12_settles_189 rfl (by decide) rfl (fun zv5 hzv5 => ?_)
      have hF := pd_let_at hF hzv5
      refine pd_lsE (ls' := [some (.ref 92), some (.int p0), some (.int p1), some (.int p2), some (.int zx2), some (.int zv5), none]) rfl ?_
      refine pd_goto (tgt := 147) C dX12_settles_192 (by decide) ?_
      exact ih _ _ hF
def fl_X12_settles_37 {O : Type} (p0 : Int32) (p1 : Int32) (p2 : Int32) (I : pd_I) (kont : pd_J → Option O) : Nat → Int32 → pd_J → Option O
  | 0, _, _ => none
  | fu + 1, zx2, zJ4 => if p2 ≤ zx2 then kont zJ4 else (fl_X12_settles_46 p2 (fun zJ7 => fl_X12_settles_69 p0 p2 I (fun zJ10 => fl_X12_settles_147 p1 p2 (fun zJ16 => pd_let (zx2 + 1) fun zv6 => fl_X12_settles_37 p0 p1 p2 I kont fu zv6 zJ16) pd_FU 0 zJ10) pd_FU 1 zJ7) pd_FU 0 zJ4)
set_option maxRecDepth 100000 in
set_option maxHeartbeats 4000000 in
theorem el_X12_settles_37 {cx : pd_X} (C : pd_C cx "PathDecoderModel" cX12_settles rm_X12_settles) {p0 : Int32} {p1 : Int32} {p2 : Int32} {I : pd_I} {Z : pd_R} {n : Nat} (hn : 133 ≤ n)  {O : Type} {kont : pd_J → Option O} {out : O} (K : ∀ (zJ5 : pd_J), kont zJ5 = some out → pd_V cx 0 0 201 [none, none, none, none, none, none, none] [] I zJ5 (pd_RF Z) n) :
    ∀ (fu : Nat) (zx2 : Int32) (zJ4 : pd_J), fl_X12_settles_37 p0 p1 p2 I kont fu zx2 zJ4 = some out → pd_V cx 0 0 37 [some (.ref 92), some (.int p0), some (.int p1), some (.int p2), some (.int zx2), none, none] [] I zJ4 (pd_RF Z) n := by
  intro fu
  induction fu with
  | zero => intro zx2 zJ4 hF; rw [fl_X12_settles_37] at hF; cases hF
  | succ fu ih =>
    intro zx2 zJ4 hF
    rw [fl_X12_settles_37] at hF
    refine pd_iload C dX12_settles_37 rfl ?_
    refine pd_iload_n C dX12_settles_39 rfl rfl ?_
    refine pd_icmp_ge (tgt := 201) C dX12_settles_40 (by decide) (fun zc9 => ?_) (fun zc9 => ?_)
    · have hF := pd_t zc9 hF
      refine pd_wk (ls' := [none, none, none, none, none, none, none]) True.intro ?_
      exact K _ hF
    · have hF := pd_f zc9 hF
      refine pd_iconst (v := 0) C dX12_settles_43 (by decide) ?_
      refine pd_istore (ls' := [some (.ref 92), some (.int p0), some (.int p1), some (.int p2), some (.int zx2), some (.int 0), none]) C dX12_settles_44 (Nat.le_of_ble_eq_true rfl) rfl rfl ?_
      refine el_X12_settles_46 C hn (fun zJ7 hF => ?_) pd_FU _ _ hF
      refine pd_iconst (v := 1) C dX12_settles_66 (by decide) ?_
      refine pd_istore (ls' := [some (.ref 92), some (.int p0), some (.int p1), some (.int p2), some (.int zx2), some (.int 1), none]) C dX12_settles_67 (Nat.le_of_ble_eq_true rfl) rfl rfl ?_
      refine el_X12_settles_69 C hn (fun zJ10 hF => ?_) pd_FU _ _ hF
      refine pd_iconst (v := 0) C dX12_settles_144 (by decide) ?_
      refine pd_istore (ls' := [some (.ref 92), some (.int p0), some (.int p1), some (.int p2), some (.int zx2), some (.int 0), none]) C dX12_settles_145 (Nat.le_of_ble_eq_true rfl) rfl rfl ?_
      refine el_X12_settles_147 C hn (fun zJ16 hF => ?_) pd_FU _ _ hF
      refine pd_iincG (zz := 1) C dX12_settles_195 rfl (by decide) rfl (fun zv6 hzv6 => ?_)
      have hF := pd_let_at hF hzv6
      refine pd_lsE (ls' := [some (.ref 92), some (.int p0), some (.int p1), some (.int p2), some (.int zv6), none, none]) rfl ?_
      refine pd_goto (tgt := 37) C dX12_settles_198 (by decide) ?_
      exact ih _ _ hF
def fn_X12_settles (I : pd_I) (J : pd_J) (p0 : Int32) (p1 : Int32) (p2 : Int32) : Option pd_J := fl_X12_settles_3 p1 p2 (fun zJ2 => fl_X12_settles_37 p0 p1 p2 I (fun zJ5 => some zJ5) pd_FU 0 zJ2) pd_FU 0 J
set_option maxRecDepth 100000 in
set_option maxHeartbeats 4000000 in
theorem em_X12_settles {l : Launch} {D : va_G} {tc : Nat → ClassId} (hst : l.stackTraces = false) {I : pd_I} {J : pd_J} {Z : pd_R} {n : Nat} {p0 : Int32} {p1 : Int32} {p2 : Int32} (hn : 133 ≤ n)  {out : pd_J} (hF : fn_X12_settles I J p0 p1 p2 = some out) :
    pd_M l D tc yX12_settles (.code yX12_settles cX12_settles 7 (Option.none : Option Jvm.ClassFile.FieldType)) rm_X12_settles [.ref 92, .int p0, .int p1, .int p2] I J (pd_RF Z) n (.ok (none)) I out (pd_RF Z) n := by
  refine pd_open (own := "PathDecoderModel") (ls0 := [some (.ref 92), some (.int p0), some (.int p1), some (.int p2), none, none, none]) (by decide) rfl (Nat.le_of_ble_eq_true rfl) rfl rfl hst (fun cx hl hD htc C hE htab hnm => ?_)
  subst hl hD htc
  unfold fn_X12_settles at hF
  refine pd_iconst (v := 0) C dX12_settles_0 (by decide) ?_
  refine pd_istore (ls' := [some (.ref 92), some (.int p0), some (.int p1), some (.int p2), some (.int 0), none, none]) C dX12_settles_1 (Nat.le_of_ble_eq_true rfl) rfl rfl ?_
  refine el_X12_settles_3 C hn (fun zJ2 hF => ?_) pd_FU _ _ hF
  refine pd_iconst (v := 0) C dX12_settles_34 (by decide) ?_
  refine pd_istore (ls' := [some (.ref 92), some (.int p0), some (.int p1), some (.int p2), some (.int 0), none, none]) C dX12_settles_35 (Nat.le_of_ble_eq_true rfl) rfl rfl ?_
  refine el_X12_settles_37 C hn (fun zJ5 hF => ?_) pd_FU _ _ hF
  cases hF
  exact pd_vret C hE rfl ⟨by decide, by decide⟩ dX12_settles_201

def fl_X12_weights_57 {O : Type}  (kont : pd_J → Option O) : Nat → Int32 → pd_J → Option O
  | 0, _, _ => none
  | fu + 1, zx2, zJ1 => if 2048 ≤ zx2 then kont zJ1 else (pd_gd (pd_in zx2 2048) (pd_let (pd_uj zJ1 129 zx2.toNatClampNeg 0) fun zJ3 => pd_let (zx2 + 1) fun zv2 => fl_X12_weights_57 kont fu zv2 zJ3))
set_option maxRecDepth 100000 in
set_option maxHeartbeats 4000000 in
theorem el_X12_weights_57 {cx : pd_X} (C : pd_C cx "PathDecoderModel" cX12_weights rm_X12_weights) {p0 : Int32} {p1 : Int32} {zv1 : Int32} {zI4 : pd_I} {Z : pd_R} {n : Nat} (hn : 133 ≤ n)  {O : Type} {kont : pd_J → Option O} {out : O} (K : ∀ (zJ2 : pd_J), kont zJ2 = some out → pd_V cx 0 0 79 [some (.ref 92), some (.int p0), some (.int p1), some (.int zv1), none, none, none, none, none, none, none] [] zI4 zJ2 (pd_RF Z) n) :
    ∀ (fu : Nat) (zx2 : Int32) (zJ1 : pd_J), fl_X12_weights_57 kont fu zx2 zJ1 = some out → pd_V cx 0 0 57 [some (.ref 92), some (.int p0), some (.int p1), some (.int zv1), some (.int zx2), none, none, none, none, none, none] [] zI4 zJ1 (pd_RF Z) n := by
  intro fu
  induction fu with
  | zero => intro zx2 zJ1 hF; rw [fl_X12_weights_57] at hF; cases hF
  | succ fu ih =>
    intro zx2 zJ1 hF
    rw [fl_X12_weights_57] at hF
    refine pd_iload C dX12_weights_57 rfl ?_
    refine pd_sipush (v := 2048) C dX12_weights_59 (by decide) ?_
    refine pd_icmp_ge (tgt := 79) C dX12_weights_62 (by decide) (fun zc1 => ?_) (fun zc1 => ?_)
    · have hF := pd_t zc1 hF
      refine pd_wk (ls' := [some (.ref 92), some (.int p0), some (.int p1), some (.int zv1), none, none, none, none, none, none, none]) (And.intro rfl (And.intro rfl (And.intro rfl (And.intro rfl True.intro)))) ?_
      exact K _ hF
    · have hF := pd_f zc1 hF
      refine pd_aload_n C dX12_weights_65 rfl rfl ?_
      refine gr_12_41 C wd_5_166 (pd_lt (by decide) hn) sh_92 (rf_92_41 _) dX12_weights_66 ?_
      refine pd_iload C dX12_weights_69 rfl ?_
      refine pd_lconst (v := 0) C dX12_weights_71 (by decide) ?_
      obtain ⟨zg2, hF⟩ := pd_gd_some hF
      refine pd_last C (pd_lt (by decide) hn) sh_129 zg2 dX12_weights_72 ?_
      refine pd_memJ (fun zJ3 hzJ3 => ?_)
      have hF := pd_let_at hF hzJ3
      refine pd_iincG (zz := 1) C dX12_weights_73 rfl (by decide) rfl (fun zv2 hzv2 => ?_)
      have hF := pd_let_at hF hzv2
      refine pd_lsE (ls' := [some (.ref 92), some (.int p0), some (.int p1), some (.int zv1), some (.int zv2), none, none, none, none, none, none]) rfl ?_
      refine pd_goto (tgt := 57) C dX12_weights_76 (by decide) ?_
      exact ih _ _ hF
def fl_X12_weights_82 {O : Type} (p0 : Int32) (zI4 : pd_I) (kont : pd_J → Option O) : Nat → Int32 → pd_J → Option O
  | 0, _, _ => none
  | fu + 1, zx3, zJ4 => if 2 ≤ zx3 then kont zJ4 else (pd_bd (fn_X12_next zI4 p0 0 zx3) fun zr4 => pd_bd (if zr4 = 0 then some zJ4 else (pd_bd (fn_X12_weight zI4 p0 0 zx3) fun zr5 => pd_bd (fn_X12_next zI4 p0 0 zx3) fun zr6 => pd_gd (pd_in ((64 * zr5) + zr6) 2048) (pd_gd (pd_in ((64 * zr5) + zr6) 2048) (pd_let (pd_uj zJ4 129 ((64 * zr5) + zr6).toNatClampNeg ((zJ4 129 ((64 * zr5) + zr6).toNatClampNeg) + 1)) fun zJ7 => some zJ7)))) fun (zJ6 : pd_J) => pd_let (zx3 + 1) fun zv3 => fl_X12_weights_82 p0 zI4 kont fu zv3 zJ6)
set_option maxRecDepth 100000 in
set_option maxHeartbeats 4000000 in
theorem el_X12_weights_82 {cx : pd_X} (C : pd_C cx "PathDecoderModel" cX12_weights rm_X12_weights) {p0 : Int32} {p1 : Int32} {zv1 : Int32} {zI4 : pd_I} {Z : pd_R} {n : Nat} (hn : 133 ≤ n)  {O : Type} {kont : pd_J → Option O} {out : O} (K : ∀ (zJ5 : pd_J), kont zJ5 = some out → pd_V cx 0 0 134 [some (.ref 92), some (.int p0), some (.int p1), some (.int zv1), none, none, none, none, none, none, none] [] zI4 zJ5 (pd_RF Z) n) :
    ∀ (fu : Nat) (zx3 : Int32) (zJ4 : pd_J), fl_X12_weights_82 p0 zI4 kont fu zx3 zJ4 = some out → pd_V cx 0 0 82 [some (.ref 92), some (.int p0), some (.int p1), some (.int zv1), some (.int zx3), none, none, none, none, none, none] [] zI4 zJ4 (pd_RF Z) n := by
  intro fu
  induction fu with
  | zero => intro zx3 zJ4 hF; rw [fl_X12_weights_82] at hF; cases hF
  | succ fu ih =>
    intro zx3 zJ4 hF
    rw [fl_X12_weights_82] at hF
    refine pd_iload C dX12_weights_82 rfl ?_
    refine pd_iconst (v := 2) C dX12_weights_84 (by decide) ?_
    refine pd_icmp_ge (tgt := 134) C dX12_weights_85 (by decide) (fun zc3 => ?_) (fun zc3 => ?_)
    · have hF := pd_t zc3 hF
      refine pd_wk (ls' := [some (.ref 92), some (.int p0), some (.int p1), some (.int zv1), none, none, none, none, none, none, none]) (And.intro rfl (And.intro rfl (And.intro rfl (And.intro rfl True.intro)))) ?_
      exact K _ hF
    · have hF := pd_f zc3 hF
      refine pd_aload_n C dX12_weights_88 rfl rfl ?_
      refine pd_iload_n C dX12_weights_89 rfl rfl ?_
      refine pd_iconst (v := 0) C dX12_weights_90 (by decide) ?_
      refine pd_iload C dX12_weights_91 rfl ?_
      obtain ⟨zr4, zh4, hF⟩ := pd_bd_some hF
      refine pd_callV C [.int p0, .int 0, .int zx3] [] (em_X12_next (pd_C_st C) hn  zh4) mw_X12_next wd_6_109 rfl (by decide) (pd_lt (by decide) hn) sh_92 ⟨by decide, by decide, by decide, by decide⟩ rfl (Nat.le_of_ble_eq_true rfl) pd_oldL_same (fun _ _ => pd_old_same _) dX12_weights_93 (stk' := [.int zr4]) rfl ?_
      obtain ⟨zJ6, hS, hF⟩ := pd_bd_some hF
      have hJ128 : pd_V cx 0 0 128 [some (.ref 92), some (.int p0), some (.int p1), some (.int zv1), some (.int zx3), none, none, none, none, none, none] [] zI4 zJ6 (pd_RF Z) n := by
        refine pd_iincG (zz := 1) C dX12_weights_128 rfl (by decide) rfl (fun zv3 hzv3 => ?_)
        have hF := pd_let_at hF hzv3
        refine pd_lsE (ls' := [some (.ref 92), some (.int p0), some (.int p1), some (.int zv1), some (.int zv3), none, none, none, none, none, none]) rfl ?_
        refine pd_goto (tgt := 82) C dX12_weights_131 (by decide) ?_
        exact ih _ _ hF
      replace hF := hS
      clear hS
      refine pd_if_eq (tgt := 128) C dX12_weights_96 (by decide) (fun zc2 => ?_) (fun zc2 => ?_)
      · have hF := pd_t zc2 hF
        have hF := hF.symm
        cases hF
        exact hJ128
      · have hF := pd_f zc2 hF
        refine pd_aload_n C dX12_weights_99 rfl rfl ?_
        refine gr_12_41 C wd_5_166 (pd_lt (by decide) hn) sh_92 (rf_92_41 _) dX12_weights_100 ?_
        refine pd_bipush (v := 64) C dX12_weights_103 (by decide) ?_
        refine pd_aload_n C dX12_weights_105 rfl rfl ?_
        refine pd_iload_n C dX12_weights_106 rfl rfl ?_
        refine pd_iconst (v := 0) C dX12_weights_107 (by decide) ?_
        refine pd_iload C dX12_weights_108 rfl ?_
        obtain ⟨zr5, zh5, hF⟩ := pd_bd_some hF
        refine pd_callV C [.int p0, .int 0, .int zx3] [.int 64, .ref 129] (em_X12_weight (pd_C_st C) hn  zh5) mw_X12_weight wd_7_40 rfl (by decide) (pd_lt (by decide) hn) sh_92 ⟨by decide, by decide, by decide, by decide⟩ rfl (Nat.le_of_ble_eq_true rfl) pd_oldL_same (fun _ _ => pd_old_same _) dX12_weights_110 (stk' := [.int zr5, .int 64, .ref 129]) rfl ?_
        refine pd_imul C dX12_weights_113 ?_
        refine pd_aload_n C dX12_weights_114 rfl rfl ?_
        refine pd_iload_n C dX12_weights_115 rfl rfl ?_
        refine pd_iconst (v := 0) C dX12_weights_116 (by decide) ?_
        refine pd_iload C dX12_weights_117 rfl ?_
        obtain ⟨zr6, zh6, hF⟩ := pd_bd_some hF
        refine pd_callV C [.int p0, .int 0, .int zx3] [.int (64 * zr5), .ref 129] (em_X12_next (pd_C_st C) hn  zh6) mw_X12_next wd_6_109 rfl (by decide) (pd_lt (by decide) hn) sh_92 ⟨by decide, by decide, by decide, by decide⟩ rfl (Nat.le_of_ble_eq_true rfl) pd_oldL_same (fun _ _ => pd_old_same _) dX12_weights_119 (stk' := [.int zr6, .int (64 * zr5), .ref 129]) rfl ?_
        refine pd_iadd C dX12_weights_122 ?_
        refine pd_dup2 C dX12_weights_123 rfl rfl ?_
        obtain ⟨zg3, hF⟩ := pd_gd_some hF
        refine pd_lald C (pd_lt (by decide) hn) sh_129 zg3 dX12_weights_124 ?_
        refine pd_lconst (v := 1) C dX12_weights_125 (by decide) ?_
        refine pd_ladd C dX12_weights_126 ?_
        obtain ⟨zg4, hF⟩ := pd_gd_some hF
        refine pd_last C (pd_lt (by decide) hn) sh_129 zg4 dX12_weights_127 ?_
        refine pd_memJ (fun zJ7 hzJ7 => ?_)
        have hF := pd_let_at hF hzJ7
        have hF := hF.symm
        cases hF
        exact hJ128
def fl_X12_weights_166 {O : Type} (p0 : Int32) (p1 : Int32) (zx4 : Int32) (zx5 : Int32) (zI4 : pd_I) (kont : Int64 → pd_J → Option O) : Nat → Int64 → Int32 → pd_J → Option O
  | 0, _, _, _ => none
  | fu + 1, zy5, zx6, zJ13 => if 2 ≤ zx6 then kont zy5 zJ13 else (pd_bd (fn_X12_next zI4 p0 zx5 zx6) fun zr7 => pd_bd (fn_X12_weight zI4 p0 zx5 zx6) fun zr8 => pd_let (zx4 + zr8) fun zv4 => pd_bd (pd_bd (if zr7 = 0 then if zv4 = p1 then some true else (some false) else (some false)) fun zc8 => if zc8 = true then pd_gd (pd_in ((64 * zx4) + zx5) 2048) (pd_let (zy5 + (zJ13 129 ((64 * zx4) + zx5).toNatClampNeg)) fun zw1 => some zw1) else (some zy5)) fun (zy7 : Int64) => pd_bd (pd_bd (if zr7 = 0 then some false else (if zv4 ≤ zx4 then some false else (if p1 < zv4 then some false else (some true)))) fun zc4 => if zc4 = true then pd_gd (pd_in ((64 * zv4) + zr7) 2048) (pd_gd (pd_in ((64 * zx4) + zx5) 2048) (pd_gd (pd_in ((64 * zv4) + zr7) 2048) (pd_let (pd_uj zJ13 129 ((64 * zv4) + zr7).toNatClampNeg ((zJ13 129 ((64 * zv4) + zr7).toNatClampNeg) + (zJ13 129 ((64 * zx4) + zx5).toNatClampNeg))) fun zJ16 => some zJ16))) else (some zJ13)) fun (zJ15 : pd_J) => pd_let (zx6 + 1) fun zv5 => fl_X12_weights_166 p0 p1 zx4 zx5 zI4 kont fu zy7 zv5 zJ15)
set_option maxRecDepth 100000 in
set_option maxHeartbeats 4000000 in
theorem el_X12_weights_166 {cx : pd_X} (C : pd_C cx "PathDecoderModel" cX12_weights rm_X12_weights) {p0 : Int32} {p1 : Int32} {zv1 : Int32} {zx4 : Int32} {zx5 : Int32} {zI4 : pd_I} {Z : pd_R} {n : Nat} (hn : 133 ≤ n)  {O : Type} {kont : Int64 → pd_J → Option O} {out : O} (K : ∀ (zy6 : Int64) (zJ14 : pd_J), kont zy6 zJ14 = some out → pd_V cx 0 0 279 [some (.ref 92), some (.int p0), some (.int p1), some (.int zv1), some (.long zy6), none, some (.int zx4), some (.int zx5), none, none, none] [] zI4 zJ14 (pd_RF Z) n) :
    ∀ (fu : Nat) (zy5 : Int64) (zx6 : Int32) (zJ13 : pd_J), fl_X12_weights_166 p0 p1 zx4 zx5 zI4 kont fu zy5 zx6 zJ13 = some out → pd_V cx 0 0 166 [some (.ref 92), some (.int p0), some (.int p1), some (.int zv1), some (.long zy5), none, some (.int zx4), some (.int zx5), some (.int zx6), none, none] [] zI4 zJ13 (pd_RF Z) n := by
  intro fu
  induction fu with
  | zero => intro zy5 zx6 zJ13 hF; rw [fl_X12_weights_166] at hF; cases hF
  | succ fu ih =>
    intro zy5 zx6 zJ13 hF
    rw [fl_X12_weights_166] at hF
    refine pd_iload C dX12_weights_166 rfl ?_
    refine pd_iconst (v := 2) C dX12_weights_168 (by decide) ?_
    refine pd_icmp_ge (tgt := 279) C dX12_weights_169 (by decide) (fun zc11 => ?_) (fun zc11 => ?_)
    · have hF := pd_t zc11 hF
      refine pd_wk (ls' := [some (.ref 92), some (.int p0), some (.int p1), some (.int zv1), some (.long zy5), none, some (.int zx4), some (.int zx5), none, none, none]) (And.intro rfl (And.intro rfl (And.intro rfl (And.intro rfl (And.intro rfl (And.intro rfl (And.intro rfl True.intro))))))) ?_
      exact K _ _ hF
    · have hF := pd_f zc11 hF
      refine pd_aload_n C dX12_weights_172 rfl rfl ?_
      refine pd_iload_n C dX12_weights_173 rfl rfl ?_
      refine pd_iload C dX12_weights_174 rfl ?_
      refine pd_iload C dX12_weights_176 rfl ?_
      obtain ⟨zr7, zh8, hF⟩ := pd_bd_some hF
      refine pd_callV C [.int p0, .int zx5, .int zx6] [] (em_X12_next (pd_C_st C) hn  zh8) mw_X12_next wd_6_109 rfl (by decide) (pd_lt (by decide) hn) sh_92 ⟨by decide, by decide, by decide, by decide⟩ rfl (Nat.le_of_ble_eq_true rfl) pd_oldL_same (fun _ _ => pd_old_same _) dX12_weights_178 (stk' := [.int zr7]) rfl ?_
      refine pd_istore (ls' := [some (.ref 92), some (.int p0), some (.int p1), some (.int zv1), some (.long zy5), none, some (.int zx4), some (.int zx5), some (.int zx6), some (.int zr7), none]) C dX12_weights_181 (Nat.le_of_ble_eq_true rfl) rfl rfl ?_
      refine pd_iload C dX12_weights_183 rfl ?_
      refine pd_aload_n C dX12_weights_185 rfl rfl ?_
      refine pd_iload_n C dX12_weights_186 rfl rfl ?_
      refine pd_iload C dX12_weights_187 rfl ?_
      refine pd_iload C dX12_weights_189 rfl ?_
      obtain ⟨zr8, zh9, hF⟩ := pd_bd_some hF
      refine pd_callV C [.int p0, .int zx5, .int zx6] [.int zx4] (em_X12_weight (pd_C_st C) hn  zh9) mw_X12_weight wd_7_40 rfl (by decide) (pd_lt (by decide) hn) sh_92 ⟨by decide, by decide, by decide, by decide⟩ rfl (Nat.le_of_ble_eq_true rfl) pd_oldL_same (fun _ _ => pd_old_same _) dX12_weights_191 (stk' := [.int zr8, .int zx4]) rfl ?_
      refine pd_iadd C dX12_weights_194 ?_
      refine pd_topi (fun zv4 hzv4 => ?_)
      have hF := pd_let_at hF hzv4
      refine pd_istore (ls' := [some (.ref 92), some (.int p0), some (.int p1), some (.int zv1), some (.long zy5), none, some (.int zx4), some (.int zx5), some (.int zx6), some (.int zr7), some (.int zv4)]) C dX12_weights_195 (Nat.le_of_ble_eq_true rfl) rfl rfl ?_
      refine pd_iload C dX12_weights_197 rfl ?_
      obtain ⟨zy7, hS, hF⟩ := pd_bd_some hF
      have hJ226 : pd_V cx 0 0 226 [some (.ref 92), some (.int p0), some (.int p1), some (.int zv1), some (.long zy7), none, some (.int zx4), some (.int zx5), some (.int zx6), some (.int zr7), some (.int zv4)] [] zI4 zJ13 (pd_RF Z) n := by
        refine pd_iload C dX12_weights_226 rfl ?_
        obtain ⟨zJ15, hS, hF⟩ := pd_bd_some hF
        have hJ273 : pd_V cx 0 0 273 [some (.ref 92), some (.int p0), some (.int p1), some (.int zv1), some (.long zy7), none, some (.int zx4), some (.int zx5), some (.int zx6), none, none] [] zI4 zJ15 (pd_RF Z) n := by
          refine pd_iincG (zz := 1) C dX12_weights_273 rfl (by decide) rfl (fun zv5 hzv5 => ?_)
          have hF := pd_let_at hF hzv5
          refine pd_lsE (ls' := [some (.ref 92), some (.int p0), some (.int p1), some (.int zv1), some (.long zy7), none, some (.int zx4), some (.int zx5), some (.int zv5), none, none]) rfl ?_
          refine pd_goto (tgt := 166) C dX12_weights_276 (by decide) ?_
          exact ih _ _ _ hF
        replace hF := hS
        clear hS
        obtain ⟨zc4, hS, hF⟩ := pd_bd_some hF
        have hTzc4 : zc4 = true → pd_V cx 0 0 244 [some (.ref 92), some (.int p0), some (.int p1), some (.int zv1), some (.long zy7), none, some (.int zx4), some (.int zx5), some (.int zx6), some (.int zr7), some (.int zv4)] [] zI4 zJ13 (pd_RF Z) n := by
          intro hc
          have hF := pd_t hc hF
          refine pd_aload_n C dX12_weights_244 rfl rfl ?_
          refine gr_12_41 C wd_5_166 (pd_lt (by decide) hn) sh_92 (rf_92_41 _) dX12_weights_245 ?_
          refine pd_bipush (v := 64) C dX12_weights_248 (by decide) ?_
          refine pd_iload C dX12_weights_250 rfl ?_
          refine pd_imul C dX12_weights_252 ?_
          refine pd_iload C dX12_weights_253 rfl ?_
          refine pd_iadd C dX12_weights_255 ?_
          refine pd_dup2 C dX12_weights_256 rfl rfl ?_
          obtain ⟨zg5, hF⟩ := pd_gd_some hF
          refine pd_lald C (pd_lt (by decide) hn) sh_129 zg5 dX12_weights_257 ?_
          refine pd_aload_n C dX12_weights_258 rfl rfl ?_
          refine gr_12_41 C wd_5_166 (pd_lt (by decide) hn) sh_92 (rf_92_41 _) dX12_weights_259 ?_
          refine pd_bipush (v := 64) C dX12_weights_262 (by decide) ?_
          refine pd_iload C dX12_weights_264 rfl ?_
          refine pd_imul C dX12_weights_266 ?_
          refine pd_iload C dX12_weights_267 rfl ?_
          refine pd_iadd C dX12_weights_269 ?_
          obtain ⟨zg6, hF⟩ := pd_gd_some hF
          refine pd_lald C (pd_lt (by decide) hn) sh_129 zg6 dX12_weights_270 ?_
          refine pd_ladd C dX12_weights_271 ?_
          obtain ⟨zg7, hF⟩ := pd_gd_some hF
          refine pd_last C (pd_lt (by decide) hn) sh_129 zg7 dX12_weights_272 ?_
          refine pd_memJ (fun zJ16 hzJ16 => ?_)
          have hF := pd_let_at hF hzJ16
          refine pd_wk (ls' := [some (.ref 92), some (.int p0), some (.int p1), some (.int zv1), some (.long zy7), none, some (.int zx4), some (.int zx5), some (.int zx6), none, none]) (And.intro rfl (And.intro rfl (And.intro rfl (And.intro rfl (And.intro rfl (And.intro rfl (And.intro rfl (And.intro rfl True.intro)))))))) ?_
          have hF := hF.symm
          cases hF
          exact hJ273
        have hEzc4 : zc4 = false → pd_V cx 0 0 273 [some (.ref 92), some (.int p0), some (.int p1), some (.int zv1), some (.long zy7), none, some (.int zx4), some (.int zx5), some (.int zx6), some (.int zr7), some (.int zv4)] [] zI4 zJ13 (pd_RF Z) n := by
          intro hc
          have hF := pd_bf hc hF
          refine pd_wk (ls' := [some (.ref 92), some (.int p0), some (.int p1), some (.int zv1), some (.long zy7), none, some (.int zx4), some (.int zx5), some (.int zx6), none, none]) (And.intro rfl (And.intro rfl (And.intro rfl (And.intro rfl (And.intro rfl (And.intro rfl (And.intro rfl (And.intro rfl True.intro)))))))) ?_
          have hF := hF.symm
          cases hF
          exact hJ273
        replace hF := hS
        clear hS
        refine pd_if_eq (tgt := 273) C dX12_weights_228 (by decide) (fun zc7 => ?_) (fun zc7 => ?_)
        · have hF := pd_t zc7 hF
          cases hF
          exact hEzc4 rfl
        · have hF := pd_f zc7 hF
          refine pd_iload C dX12_weights_231 rfl ?_
          refine pd_iload C dX12_weights_233 rfl ?_
          refine pd_icmp_le (tgt := 273) C dX12_weights_235 (by decide) (fun zc6 => ?_) (fun zc6 => ?_)
          · have hF := pd_t zc6 hF
            cases hF
            exact hEzc4 rfl
          · have hF := pd_f zc6 hF
            refine pd_iload C dX12_weights_238 rfl ?_
            refine pd_iload_n C dX12_weights_240 rfl rfl ?_
            refine pd_icmp_gt (tgt := 273) C dX12_weights_241 (by decide) (fun zc5 => ?_) (fun zc5 => ?_)
            · have hF := pd_t zc5 hF
              cases hF
              exact hEzc4 rfl
            · have hF := pd_f zc5 hF
              cases hF
              exact hTzc4 rfl
      replace hF := hS
      clear hS
      obtain ⟨zc8, hS, hF⟩ := pd_bd_some hF
      have hTzc8 : zc8 = true → pd_V cx 0 0 208 [some (.ref 92), some (.int p0), some (.int p1), some (.int zv1), some (.long zy5), none, some (.int zx4), some (.int zx5), some (.int zx6), some (.int zr7), some (.int zv4)] [] zI4 zJ13 (pd_RF Z) n := by
        intro hc
        have hF := pd_t hc hF
        refine pd_lload C dX12_weights_208 rfl ?_
        refine pd_aload_n C dX12_weights_210 rfl rfl ?_
        refine gr_12_41 C wd_5_166 (pd_lt (by decide) hn) sh_92 (rf_92_41 _) dX12_weights_211 ?_
        refine pd_bipush (v := 64) C dX12_weights_214 (by decide) ?_
        refine pd_iload C dX12_weights_216 rfl ?_
        refine pd_imul C dX12_weights_218 ?_
        refine pd_iload C dX12_weights_219 rfl ?_
        refine pd_iadd C dX12_weights_221 ?_
        obtain ⟨zg8, hF⟩ := pd_gd_some hF
        refine pd_lald C (pd_lt (by decide) hn) sh_129 zg8 dX12_weights_222 ?_
        refine pd_ladd C dX12_weights_223 ?_
        refine pd_topl (fun zw1 hzw1 => ?_)
        have hF := pd_let_at hF hzw1
        refine pd_lstore (ls' := [some (.ref 92), some (.int p0), some (.int p1), some (.int zv1), some (.long zw1), none, some (.int zx4), some (.int zx5), some (.int zx6), some (.int zr7), some (.int zv4)]) C dX12_weights_224 (Nat.le_of_ble_eq_true rfl) rfl rfl ?_
        have hF := hF.symm
        cases hF
        exact hJ226
      have hEzc8 : zc8 = false → pd_V cx 0 0 226 [some (.ref 92), some (.int p0), some (.int p1), some (.int zv1), some (.long zy5), none, some (.int zx4), some (.int zx5), some (.int zx6), some (.int zr7), some (.int zv4)] [] zI4 zJ13 (pd_RF Z) n := by
        intro hc
        have hF := pd_bf hc hF
        have hF := hF.symm
        cases hF
        exact hJ226
      replace hF := hS
      clear hS
      refine pd_if_ne (tgt := 226) C dX12_weights_199 (by decide) (fun zc10 => ?_) (fun zc10 => ?_)
      · have hF := pd_f zc10 hF
        cases hF
        exact hEzc8 rfl
      · have hF := pd_t zc10 hF
        refine pd_iload C dX12_weights_202 rfl ?_
        refine pd_iload_n C dX12_weights_204 rfl rfl ?_
        refine pd_icmp_ne (tgt := 226) C dX12_weights_205 (by decide) (fun zc9 => ?_) (fun zc9 => ?_)
        · have hF := pd_f zc9 hF
          cases hF
          exact hEzc8 rfl
        · have hF := pd_t zc9 hF
          cases hF
          exact hTzc8 rfl
def fl_X12_weights_157 {O : Type} (p0 : Int32) (p1 : Int32) (zv1 : Int32) (zx4 : Int32) (zI4 : pd_I) (kont : Int64 → pd_J → Option O) : Nat → Int64 → Int32 → pd_J → Option O
  | 0, _, _, _ => none
  | fu + 1, zy3, zx5, zJ11 => if zv1 ≤ zx5 then kont zy3 zJ11 else (fl_X12_weights_166 p0 p1 zx4 zx5 zI4 (fun zy6 zJ14 => pd_let (zx5 + 1) fun zv6 => fl_X12_weights_157 p0 p1 zv1 zx4 zI4 kont fu zy6 zv6 zJ14) pd_FU zy3 0 zJ11)
set_option maxRecDepth 100000 in
set_option maxHeartbeats 4000000 in
theorem el_X12_weights_157 {cx : pd_X} (C : pd_C cx "PathDecoderModel" cX12_weights rm_X12_weights) {p0 : Int32} {p1 : Int32} {zv1 : Int32} {zx4 : Int32} {zI4 : pd_I} {Z : pd_R} {n : Nat} (hn : 133 ≤ n)  {O : Type} {kont : Int64 → pd_J → Option O} {out : O} (K : ∀ (zy4 : Int64) (zJ12 : pd_J), kont zy4 zJ12 = some out → pd_V cx 0 0 285 [some (.ref 92), some (.int p0), some (.int p1), some (.int zv1), some (.long zy4), none, some (.int zx4), none, none, none, none] [] zI4 zJ12 (pd_RF Z) n) :
    ∀ (fu : Nat) (zy3 : Int64) (zx5 : Int32) (zJ11 : pd_J), fl_X12_weights_157 p0 p1 zv1 zx4 zI4 kont fu zy3 zx5 zJ11 = some out → pd_V cx 0 0 157 [some (.ref 92), some (.int p0), some (.int p1), some (.int zv1), some (.long zy3), none, some (.int zx4), some (.int zx5), none, none, none] [] zI4 zJ11 (pd_RF Z) n := by
  intro fu
  induction fu with
  | zero => intro zy3 zx5 zJ11 hF; rw [fl_X12_weights_157] at hF; cases hF
  | succ fu ih =>
    intro zy3 zx5 zJ11 hF
    rw [fl_X12_weights_157] at hF
    refine pd_iload C dX12_weights_157 rfl ?_
    refine pd_iload_n C dX12_weights_159 rfl rfl ?_
    refine pd_icmp_ge (tgt := 285) C dX12_weights_160 (by decide) (fun zc12 => ?_) (fun zc12 => ?_)
    · have hF := pd_t zc12 hF
      refine pd_wk (ls' := [some (.ref 92), some (.int p0), some (.int p1), some (.int zv1), some (.long zy3), none, some (.int zx4), none, none, none, none]) (And.intro rfl (And.intro rfl (And.intro rfl (And.intro rfl (And.intro rfl (And.intro rfl True.intro)))))) ?_
      exact K _ _ hF
    · have hF := pd_f zc12 hF
      refine pd_iconst (v := 0) C dX12_weights_163 (by decide) ?_
      refine pd_istore (ls' := [some (.ref 92), some (.int p0), some (.int p1), some (.int zv1), some (.long zy3), none, some (.int zx4), some (.int zx5), some (.int 0), none, none]) C dX12_weights_164 (Nat.le_of_ble_eq_true rfl) rfl rfl ?_
      refine el_X12_weights_166 C hn (fun zy6 zJ14 hF => ?_) pd_FU _ _ _ hF
      refine pd_iincG (zz := 1) C dX12_weights_279 rfl (by decide) rfl (fun zv6 hzv6 => ?_)
      have hF := pd_let_at hF hzv6
      refine pd_lsE (ls' := [some (.ref 92), some (.int p0), some (.int p1), some (.int zv1), some (.long zy6), none, some (.int zx4), some (.int zv6), none, none, none]) rfl ?_
      refine pd_goto (tgt := 157) C dX12_weights_282 (by decide) ?_
      exact ih _ _ _ hF
def fl_X12_weights_140 {O : Type} (p0 : Int32) (p1 : Int32) (zv1 : Int32) (zI4 : pd_I) (kont : Int64 → pd_J → Option O) : Nat → Int64 → Int32 → pd_J → Option O
  | 0, _, _, _ => none
  | fu + 1, zy1, zx4, zJ8 => if p1 < zx4 then kont zy1 zJ8 else (pd_bd (fn_X12_settles zI4 zJ8 p0 zx4 zv1) fun zJ10 => fl_X12_weights_157 p0 p1 zv1 zx4 zI4 (fun zy4 zJ12 => pd_let (zx4 + 1) fun zv7 => fl_X12_weights_140 p0 p1 zv1 zI4 kont fu zy4 zv7 zJ12) pd_FU zy1 1 zJ10)
set_option maxRecDepth 100000 in
set_option maxHeartbeats 4000000 in
theorem el_X12_weights_140 {cx : pd_X} (C : pd_C cx "PathDecoderModel" cX12_weights rm_X12_weights) {p0 : Int32} {p1 : Int32} {zv1 : Int32} {zI4 : pd_I} {Z : pd_R} {n : Nat} (hn : 133 ≤ n)  {O : Type} {kont : Int64 → pd_J → Option O} {out : O} (K : ∀ (zy2 : Int64) (zJ9 : pd_J), kont zy2 zJ9 = some out → pd_V cx 0 0 291 [none, none, none, none, some (.long zy2), none, none, none, none, none, none] [] zI4 zJ9 (pd_RF Z) n) :
    ∀ (fu : Nat) (zy1 : Int64) (zx4 : Int32) (zJ8 : pd_J), fl_X12_weights_140 p0 p1 zv1 zI4 kont fu zy1 zx4 zJ8 = some out → pd_V cx 0 0 140 [some (.ref 92), some (.int p0), some (.int p1), some (.int zv1), some (.long zy1), none, some (.int zx4), none, none, none, none] [] zI4 zJ8 (pd_RF Z) n := by
  intro fu
  induction fu with
  | zero => intro zy1 zx4 zJ8 hF; rw [fl_X12_weights_140] at hF; cases hF
  | succ fu ih =>
    intro zy1 zx4 zJ8 hF
    rw [fl_X12_weights_140] at hF
    refine pd_iload C dX12_weights_140 rfl ?_
    refine pd_iload_n C dX12_weights_142 rfl rfl ?_
    refine pd_icmp_gt (tgt := 291) C dX12_weights_143 (by decide) (fun zc13 => ?_) (fun zc13 => ?_)
    · have hF := pd_t zc13 hF
      refine pd_wk (ls' := [none, none, none, none, some (.long zy1), none, none, none, none, none, none]) (And.intro rfl True.intro) ?_
      exact K _ _ hF
    · have hF := pd_f zc13 hF
      refine pd_aload_n C dX12_weights_146 rfl rfl ?_
      refine pd_iload_n C dX12_weights_147 rfl rfl ?_
      refine pd_iload C dX12_weights_148 rfl ?_
      refine pd_iload_n C dX12_weights_150 rfl rfl ?_
      obtain ⟨zJ10, zh7, hF⟩ := pd_bd_some hF
      refine pd_callV C [.int p0, .int zx4, .int zv1] [] (em_X12_settles (pd_C_st C) hn  zh7) mw_X12_settles wd_7_53 rfl (by decide) (pd_lt (by decide) hn) sh_92 ⟨by decide, by decide, by decide, by decide⟩ rfl (Nat.le_of_ble_eq_true rfl) pd_oldL_same (fun _ _ => pd_old_same _) dX12_weights_151 (stk' := []) rfl ?_
      refine pd_iconst (v := 1) C dX12_weights_154 (by decide) ?_
      refine pd_istore (ls' := [some (.ref 92), some (.int p0), some (.int p1), some (.int zv1), some (.long zy1), none, some (.int zx4), some (.int 1), none, none, none]) C dX12_weights_155 (Nat.le_of_ble_eq_true rfl) rfl rfl ?_
      refine el_X12_weights_157 C hn (fun zy4 zJ12 hF => ?_) pd_FU _ _ _ hF
      refine pd_iincG (zz := 1) C dX12_weights_285 rfl (by decide) rfl (fun zv7 hzv7 => ?_)
      have hF := pd_let_at hF hzv7
      refine pd_lsE (ls' := [some (.ref 92), some (.int p0), some (.int p1), some (.int zv1), some (.long zy4), none, some (.int zv7), none, none, none, none]) rfl ?_
      refine pd_goto (tgt := 140) C dX12_weights_288 (by decide) ?_
      exact ih _ _ _ hF
def fn_X12_weights (I : pd_I) (J : pd_J) (p0 : Int32) (p1 : Int32) : Option (Int64 × pd_I × pd_J) := pd_bd2 (fn_X12_isOpen I p0) fun zr1 zI1 => pd_jn (fun (zI2 : pd_I) => some (0, zI2, J)) fun zj1 => if zr1 = 0 then zj1 zI1 else (pd_bd (pd_bd (if p1 < 0 then some false else (if 30 < p1 then some false else (some true))) fun zc16 => if zc16 = true then some 1 else (some 0)) fun (zx1 : Int32) => pd_bd2 (fn_X12_right zI1 zx1 3) fun zr2 zI3 => if zr2 = 0 then zj1 zI3 else (pd_bd2 (fn_X12_isBad zI3 p0) fun zr3 zI4 => if zr3 = 0 then pd_gd (pd_in p0 12) (pd_let ((1 : Int32) <<< ((zI4 98 p0.toNatClampNeg) &&& 31)) fun zv1 => fl_X12_weights_57 (fun zJ2 => fl_X12_weights_82 p0 zI4 (fun zJ5 => fl_X12_weights_140 p0 p1 zv1 zI4 (fun zy2 zJ9 => some (zy2, zI4, zJ9)) pd_FU 0 0 zJ5) pd_FU 0 zJ2) pd_FU 0 J) else (some ((-1), zI4, J))))
set_option maxRecDepth 100000 in
set_option maxHeartbeats 4000000 in
theorem em_X12_weights {l : Launch} {D : va_G} {tc : Nat → ClassId} (hst : l.stackTraces = false) {I : pd_I} {J : pd_J} {Z : pd_R} {n : Nat} {p0 : Int32} {p1 : Int32} (hn : 133 ≤ n)  {out : Int64 × pd_I × pd_J} (hF : fn_X12_weights I J p0 p1 = some out) :
    pd_M l D tc yX12_weights (.code yX12_weights cX12_weights 11 (Option.some Jvm.ClassFile.FieldType.long)) rm_X12_weights [.ref 92, .int p0, .int p1] I J (pd_RF Z) n (.ok (some (.long out.1))) out.2.1 out.2.2 (pd_RF Z) n := by
  refine pd_open (own := "PathDecoderModel") (ls0 := [some (.ref 92), some (.int p0), some (.int p1), none, none, none, none, none, none, none, none]) (by decide) rfl (Nat.le_of_ble_eq_true rfl) rfl rfl hst (fun cx hl hD htc C hE htab hnm => ?_)
  subst hl hD htc
  unfold fn_X12_weights at hF
  refine pd_aload_n C dX12_weights_0 rfl rfl ?_
  refine pd_iload_n C dX12_weights_1 rfl rfl ?_
  obtain ⟨zr1, zI1, zh1, hF⟩ := pd_bd2_some hF
  refine pd_callV C [.int p0] [] (em_X12_isOpen (pd_C_st C) hn  zh1) mw_X12_isOpen wd_7_32 rfl (by decide) (pd_lt (by decide) hn) sh_92 ⟨by decide, by decide, by decide, by decide⟩ rfl (Nat.le_of_ble_eq_true rfl) pd_oldL_same (fun _ _ => pd_old_same _) dX12_weights_2 (stk' := [.int zr1]) rfl ?_
  refine pd_jn_use hF (fun j => ∀ (zI2 : pd_I), j zI2 = some out → pd_V cx 0 0 31 [none, none, none, none, none, none, none, none, none, none, none] [] zI2 J (pd_RF Z) n) (fun zI2 hF => ?_) (fun zj1 hzj1 hF => ?_)
  · refine pd_lconst (v := 0) C dX12_weights_31 (by decide) ?_
    cases hF
    exact pd_lret C hE rfl ⟨by decide, by decide⟩ dX12_weights_32
  · refine pd_if_eq (tgt := 31) C dX12_weights_5 (by decide) (fun zc19 => ?_) (fun zc19 => ?_)
    · have hF := pd_t zc19 hF
      refine pd_wk (ls' := [none, none, none, none, none, none, none, none, none, none, none]) True.intro ?_
      exact hzj1 _ hF
    · have hF := pd_f zc19 hF
      refine pd_aload_n C dX12_weights_8 rfl rfl ?_
      refine pd_iload_n C dX12_weights_9 rfl rfl ?_
      obtain ⟨zx1, hS, hF⟩ := pd_bd_some hF
      have hJ24 : pd_V cx 0 0 24 [some (.ref 92), some (.int p0), some (.int p1), none, none, none, none, none, none, none, none] [.int zx1, .ref 92] zI1 J (pd_RF Z) n := by
        refine pd_iconst (v := 3) C dX12_weights_24 (by decide) ?_
        obtain ⟨zr2, zI3, zh2, hF⟩ := pd_bd2_some hF
        refine pd_callV C [.int zx1, .int 3] [] (em_X12_right (pd_C_st C) hn  zh2) mw_X12_right wd_6_30 rfl (by decide) (pd_lt (by decide) hn) sh_92 ⟨by decide, by decide, by decide, by decide⟩ rfl (Nat.le_of_ble_eq_true rfl) pd_oldL_same (fun _ _ => pd_old_same _) dX12_weights_25 (stk' := [.int zr2]) rfl ?_
        refine pd_if_ne (tgt := 33) C dX12_weights_28 (by decide) (fun zc15 => ?_) (fun zc15 => ?_)
        · have hF := pd_f zc15 hF
          refine pd_aload_n C dX12_weights_33 rfl rfl ?_
          refine pd_iload_n C dX12_weights_34 rfl rfl ?_
          obtain ⟨zr3, zI4, zh3, hF⟩ := pd_bd2_some hF
          refine pd_callV C [.int p0] [] (em_X12_isBad (pd_C_st C) hn  zh3) mw_X12_isBad wd_7_36 rfl (by decide) (pd_lt (by decide) hn) sh_92 ⟨by decide, by decide, by decide, by decide⟩ rfl (Nat.le_of_ble_eq_true rfl) pd_oldL_same (fun _ _ => pd_old_same _) dX12_weights_35 (stk' := [.int zr3]) rfl ?_
          refine pd_if_eq (tgt := 45) C dX12_weights_38 (by decide) (fun zc14 => ?_) (fun zc14 => ?_)
          · have hF := pd_t zc14 hF
            refine pd_iconst (v := 1) C dX12_weights_45 (by decide) ?_
            refine pd_aload_n C dX12_weights_46 rfl rfl ?_
            refine gr_12_7 C wd_5_132 (pd_lt (by decide) hn) sh_92 (rf_92_7 _) dX12_weights_47 ?_
            refine pd_iload_n C dX12_weights_50 rfl rfl ?_
            obtain ⟨zg1, hF⟩ := pd_gd_some hF
            refine pd_iald C (pd_lt (by decide) hn) sh_98 zg1 dX12_weights_51 ?_
            refine pd_ishl C dX12_weights_52 ?_
            refine pd_topi (fun zv1 hzv1 => ?_)
            have hF := pd_let_at hF hzv1
            refine pd_istore_n (ls' := [some (.ref 92), some (.int p0), some (.int p1), some (.int zv1), none, none, none, none, none, none, none]) C dX12_weights_53 rfl (Nat.le_of_ble_eq_true rfl) rfl rfl ?_
            refine pd_iconst (v := 0) C dX12_weights_54 (by decide) ?_
            refine pd_istore (ls' := [some (.ref 92), some (.int p0), some (.int p1), some (.int zv1), some (.int 0), none, none, none, none, none, none]) C dX12_weights_55 (Nat.le_of_ble_eq_true rfl) rfl rfl ?_
            refine el_X12_weights_57 C hn (fun zJ2 hF => ?_) pd_FU _ _ hF
            refine pd_iconst (v := 0) C dX12_weights_79 (by decide) ?_
            refine pd_istore (ls' := [some (.ref 92), some (.int p0), some (.int p1), some (.int zv1), some (.int 0), none, none, none, none, none, none]) C dX12_weights_80 (Nat.le_of_ble_eq_true rfl) rfl rfl ?_
            refine el_X12_weights_82 C hn (fun zJ5 hF => ?_) pd_FU _ _ hF
            refine pd_lconst (v := 0) C dX12_weights_134 (by decide) ?_
            refine pd_lstore (ls' := [some (.ref 92), some (.int p0), some (.int p1), some (.int zv1), some (.long 0), none, none, none, none, none, none]) C dX12_weights_135 (Nat.le_of_ble_eq_true rfl) rfl rfl ?_
            refine pd_iconst (v := 0) C dX12_weights_137 (by decide) ?_
            refine pd_istore (ls' := [some (.ref 92), some (.int p0), some (.int p1), some (.int zv1), some (.long 0), none, some (.int 0), none, none, none, none]) C dX12_weights_138 (Nat.le_of_ble_eq_true rfl) rfl rfl ?_
            refine el_X12_weights_140 C hn (fun zy2 zJ9 hF => ?_) pd_FU _ _ _ hF
            refine pd_lload C dX12_weights_291 rfl ?_
            cases hF
            exact pd_lret C hE rfl ⟨by decide, by decide⟩ dX12_weights_293
          · have hF := pd_f zc14 hF
            refine pd_ldc2_w C wd_7_52 dX12_weights_41 ?_
            cases hF
            exact pd_lret C hE rfl ⟨by decide, by decide⟩ dX12_weights_44
        · have hF := pd_t zc15 hF
          refine pd_wk (ls' := [none, none, none, none, none, none, none, none, none, none, none]) True.intro ?_
          exact hzj1 _ hF
      replace hF := hS
      clear hS
      obtain ⟨zc16, hS, hF⟩ := pd_bd_some hF
      have hTzc16 : zc16 = true → pd_V cx 0 0 19 [some (.ref 92), some (.int p0), some (.int p1), none, none, none, none, none, none, none, none] [.ref 92] zI1 J (pd_RF Z) n := by
        intro hc
        have hF := pd_t hc hF
        refine pd_iconst (v := 1) C dX12_weights_19 (by decide) ?_
        refine pd_goto (tgt := 24) C dX12_weights_20 (by decide) ?_
        have hF := hF.symm
        cases hF
        exact hJ24
      have hEzc16 : zc16 = false → pd_V cx 0 0 23 [some (.ref 92), some (.int p0), some (.int p1), none, none, none, none, none, none, none, none] [.ref 92] zI1 J (pd_RF Z) n := by
        intro hc
        have hF := pd_bf hc hF
        refine pd_iconst (v := 0) C dX12_weights_23 (by decide) ?_
        have hF := hF.symm
        cases hF
        exact hJ24
      replace hF := hS
      clear hS
      refine pd_if_lt (tgt := 23) C dX12_weights_10 (by decide) (fun zc18 => ?_) (fun zc18 => ?_)
      · have hF := pd_t zc18 hF
        cases hF
        exact hEzc16 rfl
      · have hF := pd_f zc18 hF
        refine pd_iload_n C dX12_weights_13 rfl rfl ?_
        refine pd_bipush (v := 30) C dX12_weights_14 (by decide) ?_
        refine pd_icmp_gt (tgt := 23) C dX12_weights_16 (by decide) (fun zc17 => ?_) (fun zc17 => ?_)
        · have hF := pd_t zc17 hF
          cases hF
          exact hEzc16 rfl
        · have hF := pd_f zc17 hF
          cases hF
          exact hTzc16 rfl

