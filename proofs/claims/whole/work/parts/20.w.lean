def fl_X12_joins_132 {O : Type} (p1 : Int32) (kont : pd_I → Option O) : Nat → Int32 → pd_I → Option O
  | 0, _, _ => none
  | fu + 1, zx2, zI4 => pd_bd (if zx2 ≤ 0 then some false else (pd_bd (fn_X12_isAhead zI4 zx2 (zx2 - 1) p1) fun zr1 => if zr1 = 0 then some false else (some true))) fun zc1 => if zc1 = true then pd_bd (fn_X12_exchange zI4 zx2 (zx2 - 1)) fun zI6 => pd_let (zx2 + (-1)) fun zv2 => fl_X12_joins_132 p1 kont fu zv2 zI6 else (kont zI4)
set_option maxRecDepth 100000 in
set_option maxHeartbeats 4000000 in
theorem el_X12_joins_132 {cx : pd_X} (C : pd_C cx "PathDecoderModel" cX12_joins rm_X12_joins) {p1 : Int32} {J : pd_J} {Z : pd_R} {n : Nat} (hn : 133 ≤ n)  {O : Type} {kont : pd_I → Option O} {out : O} (K : ∀ (zI5 : pd_I), kont zI5 = some out → pd_V cx 0 0 167 [none, none, none, none, none, none, none, none] [] zI5 J (pd_RF Z) n) :
    ∀ (fu : Nat) (zx2 : Int32) (zI4 : pd_I), fl_X12_joins_132 p1 kont fu zx2 zI4 = some out → pd_V cx 0 0 132 [some (.ref 92), none, some (.int p1), none, none, none, none, some (.int zx2)] [] zI4 J (pd_RF Z) n := by
  intro fu
  induction fu with
  | zero => intro zx2 zI4 hF; rw [fl_X12_joins_132] at hF; cases hF
  | succ fu ih =>
    intro zx2 zI4 hF
    rw [fl_X12_joins_132] at hF
    refine pd_iload C dX12_joins_132 rfl ?_
    obtain ⟨zc1, hS, hF⟩ := pd_bd_some hF
    have hTzc1 : zc1 = true → pd_V cx 0 0 151 [some (.ref 92), none, some (.int p1), none, none, none, none, some (.int zx2)] [] zI4 J (pd_RF Z) n := by
      intro hc
      have hF := pd_t hc hF
      refine pd_aload_n C dX12_joins_151 rfl rfl ?_
      refine pd_iload C dX12_joins_152 rfl ?_
      refine pd_iload C dX12_joins_154 rfl ?_
      refine pd_iconst (v := 1) C dX12_joins_156 (by decide) ?_
      refine pd_isub C dX12_joins_157 ?_
      obtain ⟨zI6, zh2, hF⟩ := pd_bd_some hF
      refine pd_callV C [.int zx2, .int (zx2 - 1)] [] (em_X12_exchange (pd_C_st C) hn  zh2) mw_X12_exchange wd_6_201 rfl (by decide) (pd_lt (by decide) hn) sh_92 ⟨by decide, by decide, by decide, by decide⟩ rfl (Nat.le_of_ble_eq_true rfl) pd_oldL_same (fun _ _ => pd_old_same _) dX12_joins_158 (stk' := []) rfl ?_
      refine pd_iincG (zz := (-1)) C dX12_joins_161 rfl (by decide) rfl (fun zv2 hzv2 => ?_)
      have hF := pd_let_at hF hzv2
      refine pd_lsE (ls' := [some (.ref 92), none, some (.int p1), none, none, none, none, some (.int zv2)]) rfl ?_
      refine pd_goto (tgt := 132) C dX12_joins_164 (by decide) ?_
      exact ih _ _ hF
    have hEzc1 : zc1 = false → pd_V cx 0 0 167 [some (.ref 92), none, some (.int p1), none, none, none, none, some (.int zx2)] [] zI4 J (pd_RF Z) n := by
      intro hc
      have hF := pd_bf hc hF
      refine pd_wk (ls' := [none, none, none, none, none, none, none, none]) True.intro ?_
      exact K _ hF
    replace hF := hS
    clear hS
    refine pd_if_le (tgt := 167) C dX12_joins_134 (by decide) (fun zc3 => ?_) (fun zc3 => ?_)
    · have hF := pd_t zc3 hF
      cases hF
      exact hEzc1 rfl
    · have hF := pd_f zc3 hF
      refine pd_aload_n C dX12_joins_137 rfl rfl ?_
      refine pd_iload C dX12_joins_138 rfl ?_
      refine pd_iload C dX12_joins_140 rfl ?_
      refine pd_iconst (v := 1) C dX12_joins_142 (by decide) ?_
      refine pd_isub C dX12_joins_143 ?_
      refine pd_iload_n C dX12_joins_144 rfl rfl ?_
      obtain ⟨zr1, zh3, hF⟩ := pd_bd_some hF
      refine pd_callV C [.int zx2, .int (zx2 - 1), .int p1] [] (em_X12_isAhead (pd_C_st C) hn  zh3) mw_X12_isAhead wd_6_197 rfl (by decide) (pd_lt (by decide) hn) sh_92 ⟨by decide, by decide, by decide, by decide⟩ rfl (Nat.le_of_ble_eq_true rfl) pd_oldL_same (fun _ _ => pd_old_same _) dX12_joins_145 (stk' := [.int zr1]) rfl ?_
      refine pd_if_eq (tgt := 167) C dX12_joins_148 (by decide) (fun zc2 => ?_) (fun zc2 => ?_)
      · have hF := pd_t zc2 hF
        cases hF
        exact hEzc1 rfl
      · have hF := pd_f zc2 hF
        cases hF
        exact hTzc1 rfl
def fn_X12_joins (I : pd_I) (p0 : Int32) (p1 : Int32) (p2 : Int32) (p3 : Int32) (p4 : Int32) : Option (Int32 × pd_I) := pd_gd (pd_in ((8 * p2) + p3) 105472) (pd_let (I 112 ((8 * p2) + p3).toNatClampNeg) fun zv1 => pd_jn (fun (_ : Unit) => pd_jn (fun (zI1 : pd_I) => pd_bd (if p4 ≤ (zI1 92 14) then some (p4 - 1) else (some (zI1 92 14))) fun (zx1 : Int32) => pd_bd (fn_X12_tells zI1 p0 p1 p2 p3 zx1) fun zI2 => pd_bd (if p4 ≤ (zI2 92 14) then some zI2 else (pd_let (pd_ui zI2 92 14 ((zI2 92 14) + 1)) fun zI7 => some zI7)) fun (zI3 : pd_I) => fl_X12_joins_132 p1 (fun zI5 => some (1, zI5)) pd_FU zx1 zI3) fun zj2 => pd_bd (if (I 92 14) = p4 then pd_gd (pd_in (p4 - 1) 8) (if zv1 = (I 106 (p4 - 1).toNatClampNeg) then some true else (some false)) else (some false)) fun zc6 => if zc6 = true then pd_bd2 (fn_X12_isBefore I p0 p1 p2 p3 (p4 - 1)) fun zr2 zI8 => if zr2 = 0 then some (0, zI8) else (zj2 zI8) else (zj2 I)) fun zj1 => pd_bd (if (I 92 14) = p4 then pd_gd (pd_in (p4 - 1) 8) (if zv1 ≤ (I 106 (p4 - 1).toNatClampNeg) then some false else (some true)) else (some false)) fun zc10 => if zc10 = true then some (0, I) else (zj1 ()))
set_option maxRecDepth 100000 in
set_option maxHeartbeats 4000000 in
theorem em_X12_joins {l : Launch} {D : va_G} {tc : Nat → ClassId} (hst : l.stackTraces = false) {I : pd_I} {J : pd_J} {Z : pd_R} {n : Nat} {p0 : Int32} {p1 : Int32} {p2 : Int32} {p3 : Int32} {p4 : Int32} (hn : 133 ≤ n)  {out : Int32 × pd_I} (hF : fn_X12_joins I p0 p1 p2 p3 p4 = some out) :
    pd_M l D tc yX12_joins (.code yX12_joins cX12_joins 8 (Option.some Jvm.ClassFile.FieldType.boolean)) rm_X12_joins [.ref 92, .int p0, .int p1, .int p2, .int p3, .int p4] I J (pd_RF Z) n (.ok (some (.int out.1))) out.2 J (pd_RF Z) n := by
  refine pd_open (own := "PathDecoderModel") (ls0 := [some (.ref 92), some (.int p0), some (.int p1), some (.int p2), some (.int p3), some (.int p4), none, none]) (by decide) rfl (Nat.le_of_ble_eq_true rfl) rfl rfl hst (fun cx hl hD htc C hE htab hnm => ?_)
  subst hl hD htc
  unfold fn_X12_joins at hF
  refine pd_aload_n C dX12_joins_0 rfl rfl ?_
  refine gr_12_24 C wd_5_149 (pd_lt (by decide) hn) sh_92 (rf_92_24 _) dX12_joins_1 ?_
  refine pd_bipush (v := 8) C dX12_joins_4 (by decide) ?_
  refine pd_iload_n C dX12_joins_6 rfl rfl ?_
  refine pd_imul C dX12_joins_7 ?_
  refine pd_iload C dX12_joins_8 rfl ?_
  refine pd_iadd C dX12_joins_10 ?_
  obtain ⟨zg1, hF⟩ := pd_gd_some hF
  refine pd_iald C (pd_lt (by decide) hn) sh_112 zg1 dX12_joins_11 ?_
  refine pd_topi (fun zv1 hzv1 => ?_)
  have hF := pd_let_at hF hzv1
  refine pd_istore (ls' := [some (.ref 92), some (.int p0), some (.int p1), some (.int p2), some (.int p3), some (.int p4), some (.int zv1), none]) C dX12_joins_12 (Nat.le_of_ble_eq_true rfl) rfl rfl ?_
  refine pd_aload_n C dX12_joins_14 rfl rfl ?_
  refine gi_12_14 C wd_5_139 (pd_lt (by decide) hn) sh_92 dX12_joins_15 ?_
  refine pd_iload C dX12_joins_18 rfl ?_
  refine pd_jn_use hF (fun j => ∀ (_u : Unit), j _u = some out → pd_V cx 0 0 39 [some (.ref 92), some (.int p0), some (.int p1), some (.int p2), some (.int p3), some (.int p4), some (.int zv1), none] [] I J (pd_RF Z) n) (fun _u hF => ?_) (fun zj1 hzj1 hF => ?_)
  · refine pd_aload_n C dX12_joins_39 rfl rfl ?_
    refine gi_12_14 C wd_5_139 (pd_lt (by decide) hn) sh_92 dX12_joins_40 ?_
    refine pd_iload C dX12_joins_43 rfl ?_
    refine pd_jn_use hF (fun j => ∀ (zI1 : pd_I), j zI1 = some out → pd_V cx 0 0 80 [some (.ref 92), some (.int p0), some (.int p1), some (.int p2), some (.int p3), some (.int p4), none, none] [] zI1 J (pd_RF Z) n) (fun zI1 hF => ?_) (fun zj2 hzj2 hF => ?_)
    · refine pd_aload_n C dX12_joins_80 rfl rfl ?_
      refine gi_12_14 C wd_5_139 (pd_lt (by decide) hn) sh_92 dX12_joins_81 ?_
      refine pd_iload C dX12_joins_84 rfl ?_
      obtain ⟨zx1, hS, hF⟩ := pd_bd_some hF
      have hJ100 : pd_V cx 0 0 100 [some (.ref 92), some (.int p0), some (.int p1), some (.int p2), some (.int p3), some (.int p4), none, none] [.int zx1] zI1 J (pd_RF Z) n := by
        refine pd_istore (ls' := [some (.ref 92), some (.int p0), some (.int p1), some (.int p2), some (.int p3), some (.int p4), none, some (.int zx1)]) C dX12_joins_100 (Nat.le_of_ble_eq_true rfl) rfl rfl ?_
        refine pd_aload_n C dX12_joins_102 rfl rfl ?_
        refine pd_iload_n C dX12_joins_103 rfl rfl ?_
        refine pd_iload_n C dX12_joins_104 rfl rfl ?_
        refine pd_iload_n C dX12_joins_105 rfl rfl ?_
        refine pd_iload C dX12_joins_106 rfl ?_
        refine pd_iload C dX12_joins_108 rfl ?_
        obtain ⟨zI2, zh1, hF⟩ := pd_bd_some hF
        refine pd_callV C [.int p0, .int p1, .int p2, .int p3, .int zx1] [] (em_X12_tells (pd_C_st C) hn  zh1) mw_X12_tells wd_6_185 rfl (by decide) (pd_lt (by decide) hn) sh_92 ⟨by decide, by decide, by decide, by decide⟩ rfl (Nat.le_of_ble_eq_true rfl) pd_oldL_same (fun _ _ => pd_old_same _) dX12_joins_110 (stk' := []) rfl ?_
        refine pd_aload_n C dX12_joins_113 rfl rfl ?_
        refine gi_12_14 C wd_5_139 (pd_lt (by decide) hn) sh_92 dX12_joins_114 ?_
        refine pd_iload C dX12_joins_117 rfl ?_
        obtain ⟨zI3, hS, hF⟩ := pd_bd_some hF
        have hJ132 : pd_V cx 0 0 132 [some (.ref 92), none, some (.int p1), none, none, none, none, some (.int zx1)] [] zI3 J (pd_RF Z) n := by
          refine el_X12_joins_132 C hn (fun zI5 hF => ?_) pd_FU _ _ hF
          refine pd_iconst (v := 1) C dX12_joins_167 (by decide) ?_
          cases hF
          exact pd_iret C hE rfl rfl (pd_bo_nar (by decide)) ⟨by decide, by decide⟩ dX12_joins_168
        replace hF := hS
        clear hS
        refine pd_icmp_ge (tgt := 132) C dX12_joins_119 (by decide) (fun zc4 => ?_) (fun zc4 => ?_)
        · have hF := pd_t zc4 hF
          refine pd_wk (ls' := [some (.ref 92), none, some (.int p1), none, none, none, none, some (.int zx1)]) (And.intro rfl (And.intro rfl (And.intro rfl True.intro))) ?_
          have hF := hF.symm
          cases hF
          exact hJ132
        · have hF := pd_f zc4 hF
          refine pd_aload_n C dX12_joins_122 rfl rfl ?_
          refine pd_dup C dX12_joins_123 rfl ?_
          refine gi_12_14 C wd_5_139 (pd_lt (by decide) hn) sh_92 dX12_joins_124 ?_
          refine pd_iconst (v := 1) C dX12_joins_127 (by decide) ?_
          refine pd_iadd C dX12_joins_128 ?_
          refine pi_12_14 C wd_5_139 rfl rfl (pd_lt (by decide) hn) sh_92 dX12_joins_129 ?_
          refine pd_memI (fun zI7 hzI7 => ?_)
          have hF := pd_let_at hF hzI7
          refine pd_wk (ls' := [some (.ref 92), none, some (.int p1), none, none, none, none, some (.int zx1)]) (And.intro rfl (And.intro rfl (And.intro rfl True.intro))) ?_
          have hF := hF.symm
          cases hF
          exact hJ132
      replace hF := hS
      clear hS
      refine pd_icmp_ge (tgt := 96) C dX12_joins_86 (by decide) (fun zc5 => ?_) (fun zc5 => ?_)
      · have hF := pd_t zc5 hF
        refine pd_iload C dX12_joins_96 rfl ?_
        refine pd_iconst (v := 1) C dX12_joins_98 (by decide) ?_
        refine pd_isub C dX12_joins_99 ?_
        have hF := hF.symm
        cases hF
        exact hJ100
      · have hF := pd_f zc5 hF
        refine pd_aload_n C dX12_joins_89 rfl rfl ?_
        refine gi_12_14 C wd_5_139 (pd_lt (by decide) hn) sh_92 dX12_joins_90 ?_
        refine pd_goto (tgt := 100) C dX12_joins_93 (by decide) ?_
        have hF := hF.symm
        cases hF
        exact hJ100
    · obtain ⟨zc6, hS, hF⟩ := pd_bd_some hF
      have hTzc6 : zc6 = true → pd_V cx 0 0 62 [some (.ref 92), some (.int p0), some (.int p1), some (.int p2), some (.int p3), some (.int p4), some (.int zv1), none] [] I J (pd_RF Z) n := by
        intro hc
        have hF := pd_t hc hF
        refine pd_aload_n C dX12_joins_62 rfl rfl ?_
        refine pd_iload_n C dX12_joins_63 rfl rfl ?_
        refine pd_iload_n C dX12_joins_64 rfl rfl ?_
        refine pd_iload_n C dX12_joins_65 rfl rfl ?_
        refine pd_iload C dX12_joins_66 rfl ?_
        refine pd_iload C dX12_joins_68 rfl ?_
        refine pd_iconst (v := 1) C dX12_joins_70 (by decide) ?_
        refine pd_isub C dX12_joins_71 ?_
        obtain ⟨zr2, zI8, zh4, hF⟩ := pd_bd2_some hF
        refine pd_callV C [.int p0, .int p1, .int p2, .int p3, .int (p4 - 1)] [] (em_X12_isBefore (pd_C_st C) hn  zh4) mw_X12_isBefore wd_6_193 rfl (by decide) (pd_lt (by decide) hn) sh_92 ⟨by decide, by decide, by decide, by decide⟩ rfl (Nat.le_of_ble_eq_true rfl) pd_oldL_same (fun _ _ => pd_old_same _) dX12_joins_72 (stk' := [.int zr2]) rfl ?_
        refine pd_if_ne (tgt := 80) C dX12_joins_75 (by decide) (fun zc7 => ?_) (fun zc7 => ?_)
        · have hF := pd_f zc7 hF
          refine pd_wk (ls' := [some (.ref 92), some (.int p0), some (.int p1), some (.int p2), some (.int p3), some (.int p4), none, none]) (And.intro rfl (And.intro rfl (And.intro rfl (And.intro rfl (And.intro rfl (And.intro rfl True.intro)))))) ?_
          exact hzj2 _ hF
        · have hF := pd_t zc7 hF
          refine pd_iconst (v := 0) C dX12_joins_78 (by decide) ?_
          cases hF
          exact pd_iret C hE rfl rfl (pd_bo_nar (by decide)) ⟨by decide, by decide⟩ dX12_joins_79
      have hEzc6 : zc6 = false → pd_V cx 0 0 80 [some (.ref 92), some (.int p0), some (.int p1), some (.int p2), some (.int p3), some (.int p4), some (.int zv1), none] [] I J (pd_RF Z) n := by
        intro hc
        have hF := pd_bf hc hF
        refine pd_wk (ls' := [some (.ref 92), some (.int p0), some (.int p1), some (.int p2), some (.int p3), some (.int p4), none, none]) (And.intro rfl (And.intro rfl (And.intro rfl (And.intro rfl (And.intro rfl (And.intro rfl True.intro)))))) ?_
        exact hzj2 _ hF
      replace hF := hS
      clear hS
      refine pd_icmp_ne (tgt := 80) C dX12_joins_45 (by decide) (fun zc9 => ?_) (fun zc9 => ?_)
      · have hF := pd_f zc9 hF
        cases hF
        exact hEzc6 rfl
      · have hF := pd_t zc9 hF
        refine pd_iload C dX12_joins_48 rfl ?_
        refine pd_aload_n C dX12_joins_50 rfl rfl ?_
        refine gr_12_16 C wd_5_141 (pd_lt (by decide) hn) sh_92 (rf_92_16 _) dX12_joins_51 ?_
        refine pd_iload C dX12_joins_54 rfl ?_
        refine pd_iconst (v := 1) C dX12_joins_56 (by decide) ?_
        refine pd_isub C dX12_joins_57 ?_
        obtain ⟨zg2, hF⟩ := pd_gd_some hF
        refine pd_iald C (pd_lt (by decide) hn) sh_106 zg2 dX12_joins_58 ?_
        refine pd_icmp_ne (tgt := 80) C dX12_joins_59 (by decide) (fun zc8 => ?_) (fun zc8 => ?_)
        · have hF := pd_f zc8 hF
          cases hF
          exact hEzc6 rfl
        · have hF := pd_t zc8 hF
          cases hF
          exact hTzc6 rfl
  · obtain ⟨zc10, hS, hF⟩ := pd_bd_some hF
    have hTzc10 : zc10 = true → pd_V cx 0 0 37 [some (.ref 92), some (.int p0), some (.int p1), some (.int p2), some (.int p3), some (.int p4), some (.int zv1), none] [] I J (pd_RF Z) n := by
      intro hc
      have hF := pd_t hc hF
      refine pd_iconst (v := 0) C dX12_joins_37 (by decide) ?_
      cases hF
      exact pd_iret C hE rfl rfl (pd_bo_nar (by decide)) ⟨by decide, by decide⟩ dX12_joins_38
    have hEzc10 : zc10 = false → pd_V cx 0 0 39 [some (.ref 92), some (.int p0), some (.int p1), some (.int p2), some (.int p3), some (.int p4), some (.int zv1), none] [] I J (pd_RF Z) n := by
      intro hc
      have hF := pd_bf hc hF
      exact hzj1 _ hF
    replace hF := hS
    clear hS
    refine pd_icmp_ne (tgt := 39) C dX12_joins_20 (by decide) (fun zc12 => ?_) (fun zc12 => ?_)
    · have hF := pd_f zc12 hF
      cases hF
      exact hEzc10 rfl
    · have hF := pd_t zc12 hF
      refine pd_iload C dX12_joins_23 rfl ?_
      refine pd_aload_n C dX12_joins_25 rfl rfl ?_
      refine gr_12_16 C wd_5_141 (pd_lt (by decide) hn) sh_92 (rf_92_16 _) dX12_joins_26 ?_
      refine pd_iload C dX12_joins_29 rfl ?_
      refine pd_iconst (v := 1) C dX12_joins_31 (by decide) ?_
      refine pd_isub C dX12_joins_32 ?_
      obtain ⟨zg3, hF⟩ := pd_gd_some hF
      refine pd_iald C (pd_lt (by decide) hn) sh_106 zg3 dX12_joins_33 ?_
      refine pd_icmp_le (tgt := 39) C dX12_joins_34 (by decide) (fun zc11 => ?_) (fun zc11 => ?_)
      · have hF := pd_t zc11 hF
        cases hF
        exact hEzc10 rfl
      · have hF := pd_f zc11 hF
        cases hF
        exact hTzc10 rfl

def fl_X12_lists_103 {O : Type} (p0 : Int32) (p2 : Int32) (p3 : Int32) (zx1 : Int32) (kont : pd_I → Option O) : Nat → Int32 → Int32 → pd_I → Option O
  | 0, _, _, _ => none
  | fu + 1, zx2, zx3, zI6 => pd_gd (pd_in zx1 13184) (pd_bd (if (zI6 111 zx1.toNatClampNeg) ≤ zx3 then some false else (if zx2 = 0 then some false else (some true))) fun zc1 => if zc1 = true then pd_bd2 (fn_X12_joins zI6 p0 p2 zx1 zx3 p3) fun zr1 zI8 => pd_let (zx3 + 1) fun zv1 => fl_X12_lists_103 p0 p2 p3 zx1 kont fu zr1 zv1 zI8 else (kont zI6))
set_option maxRecDepth 100000 in
set_option maxHeartbeats 4000000 in
theorem el_X12_lists_103 {cx : pd_X} (C : pd_C cx "PathDecoderModel" cX12_lists rm_X12_lists) {p0 : Int32} {p2 : Int32} {p3 : Int32} {zx1 : Int32} {J : pd_J} {Z : pd_R} {n : Nat} (hn : 133 ≤ n)  {O : Type} {kont : pd_I → Option O} {out : O} (K : ∀ (zI7 : pd_I), kont zI7 = some out → pd_V cx 0 0 140 [some (.ref 92), some (.int p0), none, some (.int p2), some (.int p3), some (.int zx1), none, none] [] zI7 J (pd_RF Z) n) :
    ∀ (fu : Nat) (zx2 : Int32) (zx3 : Int32) (zI6 : pd_I), fl_X12_lists_103 p0 p2 p3 zx1 kont fu zx2 zx3 zI6 = some out → pd_V cx 0 0 103 [some (.ref 92), some (.int p0), none, some (.int p2), some (.int p3), some (.int zx1), some (.int zx2), some (.int zx3)] [] zI6 J (pd_RF Z) n := by
  intro fu
  induction fu with
  | zero => intro zx2 zx3 zI6 hF; rw [fl_X12_lists_103] at hF; cases hF
  | succ fu ih =>
    intro zx2 zx3 zI6 hF
    rw [fl_X12_lists_103] at hF
    refine pd_iload C dX12_lists_103 rfl ?_
    refine pd_aload_n C dX12_lists_105 rfl rfl ?_
    refine gr_12_23 C wd_5_148 (pd_lt (by decide) hn) sh_92 (rf_92_23 _) dX12_lists_106 ?_
    refine pd_iload C dX12_lists_109 rfl ?_
    obtain ⟨zg3, hF⟩ := pd_gd_some hF
    refine pd_iald C (pd_lt (by decide) hn) sh_111 zg3 dX12_lists_111 ?_
    obtain ⟨zc1, hS, hF⟩ := pd_bd_some hF
    have hTzc1 : zc1 = true → pd_V cx 0 0 120 [some (.ref 92), some (.int p0), none, some (.int p2), some (.int p3), some (.int zx1), some (.int zx2), some (.int zx3)] [] zI6 J (pd_RF Z) n := by
      intro hc
      have hF := pd_t hc hF
      refine pd_aload_n C dX12_lists_120 rfl rfl ?_
      refine pd_iload_n C dX12_lists_121 rfl rfl ?_
      refine pd_iload_n C dX12_lists_122 rfl rfl ?_
      refine pd_iload C dX12_lists_123 rfl ?_
      refine pd_iload C dX12_lists_125 rfl ?_
      refine pd_iload C dX12_lists_127 rfl ?_
      obtain ⟨zr1, zI8, zh3, hF⟩ := pd_bd2_some hF
      refine pd_callV C [.int p0, .int p2, .int zx1, .int zx3, .int p3] [] (em_X12_joins (pd_C_st C) hn  zh3) mw_X12_joins wd_6_189 rfl (by decide) (pd_lt (by decide) hn) sh_92 ⟨by decide, by decide, by decide, by decide⟩ rfl (Nat.le_of_ble_eq_true rfl) pd_oldL_same (fun _ _ => pd_old_same _) dX12_lists_129 (stk' := [.int zr1]) rfl ?_
      refine pd_istore (ls' := [some (.ref 92), some (.int p0), none, some (.int p2), some (.int p3), some (.int zx1), some (.int zr1), some (.int zx3)]) C dX12_lists_132 (Nat.le_of_ble_eq_true rfl) rfl rfl ?_
      refine pd_iincG (zz := 1) C dX12_lists_134 rfl (by decide) rfl (fun zv1 hzv1 => ?_)
      have hF := pd_let_at hF hzv1
      refine pd_lsE (ls' := [some (.ref 92), some (.int p0), none, some (.int p2), some (.int p3), some (.int zx1), some (.int zr1), some (.int zv1)]) rfl ?_
      refine pd_goto (tgt := 103) C dX12_lists_137 (by decide) ?_
      exact ih _ _ _ hF
    have hEzc1 : zc1 = false → pd_V cx 0 0 140 [some (.ref 92), some (.int p0), none, some (.int p2), some (.int p3), some (.int zx1), some (.int zx2), some (.int zx3)] [] zI6 J (pd_RF Z) n := by
      intro hc
      have hF := pd_bf hc hF
      refine pd_wk (ls' := [some (.ref 92), some (.int p0), none, some (.int p2), some (.int p3), some (.int zx1), none, none]) (And.intro rfl (And.intro rfl (And.intro rfl (And.intro rfl (And.intro rfl True.intro))))) ?_
      exact K _ hF
    replace hF := hS
    clear hS
    refine pd_icmp_ge (tgt := 140) C dX12_lists_112 (by decide) (fun zc3 => ?_) (fun zc3 => ?_)
    · have hF := pd_t zc3 hF
      cases hF
      exact hEzc1 rfl
    · have hF := pd_f zc3 hF
      refine pd_iload C dX12_lists_115 rfl ?_
      refine pd_if_eq (tgt := 140) C dX12_lists_117 (by decide) (fun zc2 => ?_) (fun zc2 => ?_)
      · have hF := pd_t zc2 hF
        cases hF
        exact hEzc1 rfl
      · have hF := pd_f zc2 hF
        cases hF
        exact hTzc1 rfl
def fl_X12_lists_74 {O : Type} (p0 : Int32) (p2 : Int32) (p3 : Int32) (kont : pd_I → Option O) : Nat → Int32 → pd_I → Option O
  | 0, _, _ => none
  | fu + 1, zx1, zI3 => pd_gd (pd_in p0 12) (if ((1 : Int32) <<< ((zI3 98 p0.toNatClampNeg) &&& 31)) ≤ zx1 then kont zI3 else (pd_bd (fn_X12_rests zI3 p0 p2 p3 zx1) fun zI5 => fl_X12_lists_103 p0 p2 p3 zx1 (fun zI7 => pd_let (zx1 + 1) fun zv2 => fl_X12_lists_74 p0 p2 p3 kont fu zv2 zI7) pd_FU 1 0 zI5))
set_option maxRecDepth 100000 in
set_option maxHeartbeats 4000000 in
theorem el_X12_lists_74 {cx : pd_X} (C : pd_C cx "PathDecoderModel" cX12_lists rm_X12_lists) {p0 : Int32} {p2 : Int32} {p3 : Int32} {J : pd_J} {Z : pd_R} {n : Nat} (hn : 133 ≤ n)  {O : Type} {kont : pd_I → Option O} {out : O} (K : ∀ (zI4 : pd_I), kont zI4 = some out → pd_V cx 0 0 146 [none, none, none, none, none, none, none, none] [] zI4 J (pd_RF Z) n) :
    ∀ (fu : Nat) (zx1 : Int32) (zI3 : pd_I), fl_X12_lists_74 p0 p2 p3 kont fu zx1 zI3 = some out → pd_V cx 0 0 74 [some (.ref 92), some (.int p0), none, some (.int p2), some (.int p3), some (.int zx1), none, none] [] zI3 J (pd_RF Z) n := by
  intro fu
  induction fu with
  | zero => intro zx1 zI3 hF; rw [fl_X12_lists_74] at hF; cases hF
  | succ fu ih =>
    intro zx1 zI3 hF
    rw [fl_X12_lists_74] at hF
    refine pd_iload C dX12_lists_74 rfl ?_
    refine pd_iconst (v := 1) C dX12_lists_76 (by decide) ?_
    refine pd_aload_n C dX12_lists_77 rfl rfl ?_
    refine gr_12_7 C wd_5_132 (pd_lt (by decide) hn) sh_92 (rf_92_7 _) dX12_lists_78 ?_
    refine pd_iload_n C dX12_lists_81 rfl rfl ?_
    obtain ⟨zg2, hF⟩ := pd_gd_some hF
    refine pd_iald C (pd_lt (by decide) hn) sh_98 zg2 dX12_lists_82 ?_
    refine pd_ishl C dX12_lists_83 ?_
    refine pd_icmp_ge (tgt := 146) C dX12_lists_84 (by decide) (fun zc4 => ?_) (fun zc4 => ?_)
    · have hF := pd_t zc4 hF
      refine pd_wk (ls' := [none, none, none, none, none, none, none, none]) True.intro ?_
      exact K _ hF
    · have hF := pd_f zc4 hF
      refine pd_aload_n C dX12_lists_87 rfl rfl ?_
      refine pd_iload_n C dX12_lists_88 rfl rfl ?_
      refine pd_iload_n C dX12_lists_89 rfl rfl ?_
      refine pd_iload C dX12_lists_90 rfl ?_
      refine pd_iload C dX12_lists_92 rfl ?_
      obtain ⟨zI5, zh2, hF⟩ := pd_bd_some hF
      refine pd_callV C [.int p0, .int p2, .int p3, .int zx1] [] (em_X12_rests (pd_C_st C) hn  zh2) mw_X12_rests wd_6_176 rfl (by decide) (pd_lt (by decide) hn) sh_92 ⟨by decide, by decide, by decide, by decide⟩ rfl (Nat.le_of_ble_eq_true rfl) pd_oldL_same (fun _ _ => pd_old_same _) dX12_lists_94 (stk' := []) rfl ?_
      refine pd_iconst (v := 1) C dX12_lists_97 (by decide) ?_
      refine pd_istore (ls' := [some (.ref 92), some (.int p0), none, some (.int p2), some (.int p3), some (.int zx1), some (.int 1), none]) C dX12_lists_98 (Nat.le_of_ble_eq_true rfl) rfl rfl ?_
      refine pd_iconst (v := 0) C dX12_lists_100 (by decide) ?_
      refine pd_istore (ls' := [some (.ref 92), some (.int p0), none, some (.int p2), some (.int p3), some (.int zx1), some (.int 1), some (.int 0)]) C dX12_lists_101 (Nat.le_of_ble_eq_true rfl) rfl rfl ?_
      refine el_X12_lists_103 C hn (fun zI7 hF => ?_) pd_FU _ _ _ hF
      refine pd_iincG (zz := 1) C dX12_lists_140 rfl (by decide) rfl (fun zv2 hzv2 => ?_)
      have hF := pd_let_at hF hzv2
      refine pd_lsE (ls' := [some (.ref 92), some (.int p0), none, some (.int p2), some (.int p3), some (.int zv2), none, none]) rfl ?_
      refine pd_goto (tgt := 74) C dX12_lists_143 (by decide) ?_
      exact ih _ _ hF
def fl_X12_lists_44 {O : Type} (p0 : Int32) (p2 : Int32) (kont : pd_I → Option O) : Nat → Int32 → pd_I → Option O
  | 0, _, _ => none
  | fu + 1, zx4, zI11 => if (zI11 92 14) ≤ zx4 then kont zI11 else (pd_bd (fn_X12_tells zI11 p0 p2 0 zx4 zx4) fun zI13 => pd_let (zx4 + 1) fun zv3 => fl_X12_lists_44 p0 p2 kont fu zv3 zI13)
set_option maxRecDepth 100000 in
set_option maxHeartbeats 4000000 in
theorem el_X12_lists_44 {cx : pd_X} (C : pd_C cx "PathDecoderModel" cX12_lists rm_X12_lists) {p0 : Int32} {p2 : Int32} {J : pd_J} {Z : pd_R} {n : Nat} (hn : 133 ≤ n)  {O : Type} {kont : pd_I → Option O} {out : O} (K : ∀ (zI12 : pd_I), kont zI12 = some out → pd_V cx 0 0 70 [none, none, none, none, none, none, none, none] [] zI12 J (pd_RF Z) n) :
    ∀ (fu : Nat) (zx4 : Int32) (zI11 : pd_I), fl_X12_lists_44 p0 p2 kont fu zx4 zI11 = some out → pd_V cx 0 0 44 [some (.ref 92), some (.int p0), none, some (.int p2), none, some (.int zx4), none, none] [] zI11 J (pd_RF Z) n := by
  intro fu
  induction fu with
  | zero => intro zx4 zI11 hF; rw [fl_X12_lists_44] at hF; cases hF
  | succ fu ih =>
    intro zx4 zI11 hF
    rw [fl_X12_lists_44] at hF
    refine pd_iload C dX12_lists_44 rfl ?_
    refine pd_aload_n C dX12_lists_46 rfl rfl ?_
    refine gi_12_14 C wd_5_139 (pd_lt (by decide) hn) sh_92 dX12_lists_47 ?_
    refine pd_icmp_ge (tgt := 70) C dX12_lists_50 (by decide) (fun zc5 => ?_) (fun zc5 => ?_)
    · have hF := pd_t zc5 hF
      refine pd_wk (ls' := [none, none, none, none, none, none, none, none]) True.intro ?_
      exact K _ hF
    · have hF := pd_f zc5 hF
      refine pd_aload_n C dX12_lists_53 rfl rfl ?_
      refine pd_iload_n C dX12_lists_54 rfl rfl ?_
      refine pd_iload_n C dX12_lists_55 rfl rfl ?_
      refine pd_iconst (v := 0) C dX12_lists_56 (by decide) ?_
      refine pd_iload C dX12_lists_57 rfl ?_
      refine pd_iload C dX12_lists_59 rfl ?_
      obtain ⟨zI13, zh5, hF⟩ := pd_bd_some hF
      refine pd_callV C [.int p0, .int p2, .int 0, .int zx4, .int zx4] [] (em_X12_tells (pd_C_st C) hn  zh5) mw_X12_tells wd_6_185 rfl (by decide) (pd_lt (by decide) hn) sh_92 ⟨by decide, by decide, by decide, by decide⟩ rfl (Nat.le_of_ble_eq_true rfl) pd_oldL_same (fun _ _ => pd_old_same _) dX12_lists_61 (stk' := []) rfl ?_
      refine pd_iincG (zz := 1) C dX12_lists_64 rfl (by decide) rfl (fun zv3 hzv3 => ?_)
      have hF := pd_let_at hF hzv3
      refine pd_lsE (ls' := [some (.ref 92), some (.int p0), none, some (.int p2), none, some (.int zv3), none, none]) rfl ?_
      refine pd_goto (tgt := 44) C dX12_lists_67 (by decide) ?_
      exact ih _ _ hF
def fn_X12_lists (I : pd_I) (p0 : Int32) (p1 : Int32) (p2 : Int32) (p3 : Int32) : Option pd_I := pd_bd (fn_X12_costs I p0 p1 p2) fun zI1 => pd_let (pd_ui zI1 92 14 0) fun zI2 => pd_gd (pd_in p0 12) (if (zI2 97 p0.toNatClampNeg) = 4 then fl_X12_lists_74 p0 p2 p3 (fun zI4 => some zI4) pd_FU 0 zI2 else (pd_bd (fn_X12_rests zI2 p0 p2 p3 0) fun zI9 => pd_gd (pd_in 0 13184) (pd_let (pd_ui zI9 92 14 (zI9 111 (0 : Int32).toNatClampNeg)) fun zI10 => fl_X12_lists_44 p0 p2 (fun zI12 => some zI12) pd_FU 0 zI10)))
set_option maxRecDepth 100000 in
set_option maxHeartbeats 4000000 in
theorem em_X12_lists {l : Launch} {D : va_G} {tc : Nat → ClassId} (hst : l.stackTraces = false) {I : pd_I} {J : pd_J} {Z : pd_R} {n : Nat} {p0 : Int32} {p1 : Int32} {p2 : Int32} {p3 : Int32} (hn : 133 ≤ n)  {out : pd_I} (hF : fn_X12_lists I p0 p1 p2 p3 = some out) :
    pd_M l D tc yX12_lists (.code yX12_lists cX12_lists 8 (Option.none : Option Jvm.ClassFile.FieldType)) rm_X12_lists [.ref 92, .int p0, .int p1, .int p2, .int p3] I J (pd_RF Z) n (.ok (none)) out J (pd_RF Z) n := by
  refine pd_open (own := "PathDecoderModel") (ls0 := [some (.ref 92), some (.int p0), some (.int p1), some (.int p2), some (.int p3), none, none, none]) (by decide) rfl (Nat.le_of_ble_eq_true rfl) rfl rfl hst (fun cx hl hD htc C hE htab hnm => ?_)
  subst hl hD htc
  unfold fn_X12_lists at hF
  refine pd_aload_n C dX12_lists_0 rfl rfl ?_
  refine pd_iload_n C dX12_lists_1 rfl rfl ?_
  refine pd_iload_n C dX12_lists_2 rfl rfl ?_
  refine pd_iload_n C dX12_lists_3 rfl rfl ?_
  obtain ⟨zI1, zh1, hF⟩ := pd_bd_some hF
  refine pd_callV C [.int p0, .int p1, .int p2] [] (em_X12_costs (pd_C_st C) hn  zh1) mw_X12_costs wd_6_172 rfl (by decide) (pd_lt (by decide) hn) sh_92 ⟨by decide, by decide, by decide, by decide⟩ rfl (Nat.le_of_ble_eq_true rfl) pd_oldL_same (fun _ _ => pd_old_same _) dX12_lists_4 (stk' := []) rfl ?_
  refine pd_aload_n C dX12_lists_7 rfl rfl ?_
  refine pd_iconst (v := 0) C dX12_lists_8 (by decide) ?_
  refine pi_12_14 C wd_5_139 rfl rfl (pd_lt (by decide) hn) sh_92 dX12_lists_9 ?_
  refine pd_memI (fun zI2 hzI2 => ?_)
  have hF := pd_let_at hF hzI2
  refine pd_aload_n C dX12_lists_12 rfl rfl ?_
  refine gr_12_6 C wd_5_131 (pd_lt (by decide) hn) sh_92 (rf_92_6 _) dX12_lists_13 ?_
  refine pd_iload_n C dX12_lists_16 rfl rfl ?_
  obtain ⟨zg1, hF⟩ := pd_gd_some hF
  refine pd_iald C (pd_lt (by decide) hn) sh_97 zg1 dX12_lists_17 ?_
  refine pd_iconst (v := 4) C dX12_lists_18 (by decide) ?_
  refine pd_icmp_eq (tgt := 71) C dX12_lists_19 (by decide) (fun zc6 => ?_) (fun zc6 => ?_)
  · have hF := pd_t zc6 hF
    refine pd_iconst (v := 0) C dX12_lists_71 (by decide) ?_
    refine pd_istore (ls' := [some (.ref 92), some (.int p0), some (.int p1), some (.int p2), some (.int p3), some (.int 0), none, none]) C dX12_lists_72 (Nat.le_of_ble_eq_true rfl) rfl rfl ?_
    refine pd_wk (ls' := [some (.ref 92), some (.int p0), none, some (.int p2), some (.int p3), some (.int 0), none, none]) (And.intro rfl (And.intro rfl (And.intro rfl (And.intro rfl (And.intro rfl True.intro))))) ?_
    refine el_X12_lists_74 C hn (fun zI4 hF => ?_) pd_FU _ _ hF
    cases hF
    exact pd_vret C hE rfl ⟨by decide, by decide⟩ dX12_lists_146
  · have hF := pd_f zc6 hF
    refine pd_aload_n C dX12_lists_22 rfl rfl ?_
    refine pd_iload_n C dX12_lists_23 rfl rfl ?_
    refine pd_iload_n C dX12_lists_24 rfl rfl ?_
    refine pd_iload C dX12_lists_25 rfl ?_
    refine pd_iconst (v := 0) C dX12_lists_27 (by decide) ?_
    obtain ⟨zI9, zh4, hF⟩ := pd_bd_some hF
    refine pd_callV C [.int p0, .int p2, .int p3, .int 0] [] (em_X12_rests (pd_C_st C) hn  zh4) mw_X12_rests wd_6_176 rfl (by decide) (pd_lt (by decide) hn) sh_92 ⟨by decide, by decide, by decide, by decide⟩ rfl (Nat.le_of_ble_eq_true rfl) pd_oldL_same (fun _ _ => pd_old_same _) dX12_lists_28 (stk' := []) rfl ?_
    refine pd_aload_n C dX12_lists_31 rfl rfl ?_
    refine pd_aload_n C dX12_lists_32 rfl rfl ?_
    refine gr_12_23 C wd_5_148 (pd_lt (by decide) hn) sh_92 (rf_92_23 _) dX12_lists_33 ?_
    refine pd_iconst (v := 0) C dX12_lists_36 (by decide) ?_
    obtain ⟨zg4, hF⟩ := pd_gd_some hF
    refine pd_iald C (pd_lt (by decide) hn) sh_111 zg4 dX12_lists_37 ?_
    refine pi_12_14 C wd_5_139 rfl rfl (pd_lt (by decide) hn) sh_92 dX12_lists_38 ?_
    refine pd_memI (fun zI10 hzI10 => ?_)
    have hF := pd_let_at hF hzI10
    refine pd_iconst (v := 0) C dX12_lists_41 (by decide) ?_
    refine pd_istore (ls' := [some (.ref 92), some (.int p0), some (.int p1), some (.int p2), some (.int p3), some (.int 0), none, none]) C dX12_lists_42 (Nat.le_of_ble_eq_true rfl) rfl rfl ?_
    refine pd_wk (ls' := [some (.ref 92), some (.int p0), none, some (.int p2), none, some (.int 0), none, none]) (And.intro rfl (And.intro rfl (And.intro rfl (And.intro rfl True.intro)))) ?_
    refine el_X12_lists_44 C hn (fun zI12 hF => ?_) pd_FU _ _ hF
    cases hF
    exact pd_vret C hE rfl ⟨by decide, by decide⟩ dX12_lists_70

def fn_X12_isDecoding (I : pd_I) (p0 : Int32) (p1 : Int32) (p2 : Int32) (p3 : Int32) : Option (Int32 × pd_I) := pd_bd2 (fn_X12_isCode I p0) fun zr1 zI1 => pd_jn (fun (zI2 : pd_I) => some (0, zI2)) fun zj1 => if zr1 = 0 then zj1 zI1 else (pd_bd2 (fn_X12_isRow zI1 p1 1) fun zr2 zI3 => if zr2 = 0 then zj1 zI3 else (pd_gd (pd_in p0 12) (pd_bd (pd_bd (if (zI3 97 p0.toNatClampNeg) = 5 then some false else (if p3 = 0 then pd_gd (pd_in p0 12) (if (zI3 97 p0.toNatClampNeg) = 4 then some false else (some true)) else (some true))) fun zc3 => if zc3 = true then some 1 else (some 0)) fun (zx1 : Int32) => pd_bd2 (fn_X12_right zI3 zx1 2) fun zr3 zI4 => pd_bd2 (if zr3 = 0 then some (0, zI4) else (pd_bd2 (fn_X12_isN zI4 p2 3) fun zr4 zI6 => if zr4 = 0 then some (0, zI6) else (some (1, zI6)))) fun (zx2 : Int32) (zI5 : pd_I) => pd_gd (pd_bo zx2) (some (zx2, zI5)))))
set_option maxRecDepth 100000 in
set_option maxHeartbeats 4000000 in
theorem em_X12_isDecoding {l : Launch} {D : va_G} {tc : Nat → ClassId} (hst : l.stackTraces = false) {I : pd_I} {J : pd_J} {Z : pd_R} {n : Nat} {p0 : Int32} {p1 : Int32} {p2 : Int32} {p3 : Int32} (hn : 133 ≤ n)  {out : Int32 × pd_I} (hF : fn_X12_isDecoding I p0 p1 p2 p3 = some out) :
    pd_M l D tc yX12_isDecoding (.code yX12_isDecoding cX12_isDecoding 5 (Option.some Jvm.ClassFile.FieldType.boolean)) rm_X12_isDecoding [.ref 92, .int p0, .int p1, .int p2, .int p3] I J (pd_RF Z) n (.ok (some (.int out.1))) out.2 J (pd_RF Z) n := by
  refine pd_open (own := "PathDecoderModel") (ls0 := [some (.ref 92), some (.int p0), some (.int p1), some (.int p2), some (.int p3)]) (by decide) rfl (Nat.le_of_ble_eq_true rfl) rfl rfl hst (fun cx hl hD htc C hE htab hnm => ?_)
  subst hl hD htc
  unfold fn_X12_isDecoding at hF
  refine pd_aload_n C dX12_isDecoding_0 rfl rfl ?_
  refine pd_iload_n C dX12_isDecoding_1 rfl rfl ?_
  obtain ⟨zr1, zI1, zh1, hF⟩ := pd_bd2_some hF
  refine pd_callV C [.int p0] [] (em_X12_isCode (pd_C_st C) hn  zh1) mw_X12_isCode wd_6_69 rfl (by decide) (pd_lt (by decide) hn) sh_92 ⟨by decide, by decide, by decide, by decide⟩ rfl (Nat.le_of_ble_eq_true rfl) pd_oldL_same (fun _ _ => pd_old_same _) dX12_isDecoding_2 (stk' := [.int zr1]) rfl ?_
  refine pd_jn_use hF (fun j => ∀ (zI2 : pd_I), j zI2 = some out → pd_V cx 0 0 17 [none, none, none, none, none] [] zI2 J (pd_RF Z) n) (fun zI2 hF => ?_) (fun zj1 hzj1 hF => ?_)
  · refine pd_iconst (v := 0) C dX12_isDecoding_17 (by decide) ?_
    cases hF
    exact pd_iret C hE rfl rfl (pd_bo_nar (by decide)) ⟨by decide, by decide⟩ dX12_isDecoding_18
  · refine pd_if_eq (tgt := 17) C dX12_isDecoding_5 (by decide) (fun zc8 => ?_) (fun zc8 => ?_)
    · have hF := pd_t zc8 hF
      refine pd_wk (ls' := [none, none, none, none, none]) True.intro ?_
      exact hzj1 _ hF
    · have hF := pd_f zc8 hF
      refine pd_aload_n C dX12_isDecoding_8 rfl rfl ?_
      refine pd_iload_n C dX12_isDecoding_9 rfl rfl ?_
      refine pd_iconst (v := 1) C dX12_isDecoding_10 (by decide) ?_
      obtain ⟨zr2, zI3, zh2, hF⟩ := pd_bd2_some hF
      refine pd_callV C [.int p1, .int 1] [] (em_X12_isRow (pd_C_st C) hn  zh2) mw_X12_isRow wd_6_26 rfl (by decide) (pd_lt (by decide) hn) sh_92 ⟨by decide, by decide, by decide, by decide⟩ rfl (Nat.le_of_ble_eq_true rfl) pd_oldL_same (fun _ _ => pd_old_same _) dX12_isDecoding_11 (stk' := [.int zr2]) rfl ?_
      refine pd_if_ne (tgt := 19) C dX12_isDecoding_14 (by decide) (fun zc7 => ?_) (fun zc7 => ?_)
      · have hF := pd_f zc7 hF
        refine pd_aload_n C dX12_isDecoding_19 rfl rfl ?_
        refine pd_aload_n C dX12_isDecoding_20 rfl rfl ?_
        refine gr_12_6 C wd_5_131 (pd_lt (by decide) hn) sh_92 (rf_92_6 _) dX12_isDecoding_21 ?_
        refine pd_iload_n C dX12_isDecoding_24 rfl rfl ?_
        obtain ⟨zg1, hF⟩ := pd_gd_some hF
        refine pd_iald C (pd_lt (by decide) hn) sh_97 zg1 dX12_isDecoding_25 ?_
        refine pd_iconst (v := 5) C dX12_isDecoding_26 (by decide) ?_
        obtain ⟨zx1, hS, hF⟩ := pd_bd_some hF
        have hJ50 : pd_V cx 0 0 50 [some (.ref 92), none, none, some (.int p2), none] [.int zx1, .ref 92] zI3 J (pd_RF Z) n := by
          refine pd_iconst (v := 2) C dX12_isDecoding_50 (by decide) ?_
          obtain ⟨zr3, zI4, zh3, hF⟩ := pd_bd2_some hF
          refine pd_callV C [.int zx1, .int 2] [] (em_X12_right (pd_C_st C) hn  zh3) mw_X12_right wd_6_30 rfl (by decide) (pd_lt (by decide) hn) sh_92 ⟨by decide, by decide, by decide, by decide⟩ rfl (Nat.le_of_ble_eq_true rfl) pd_oldL_same (fun _ _ => pd_old_same _) dX12_isDecoding_51 (stk' := [.int zr3]) rfl ?_
          obtain ⟨zx2, zI5, hS, hF⟩ := pd_bd2_some hF
          have hJ71 : pd_V cx 0 0 71 [none, none, none, none, none] [.int zx2] zI5 J (pd_RF Z) n := by
            obtain ⟨zg2, hF⟩ := pd_gd_some hF
            cases hF
            exact pd_iret C hE rfl rfl (pd_bo_nar zg2) ⟨by decide, by decide⟩ dX12_isDecoding_71
          replace hF := hS
          clear hS
          refine pd_if_eq (tgt := 70) C dX12_isDecoding_54 (by decide) (fun zc2 => ?_) (fun zc2 => ?_)
          · have hF := pd_t zc2 hF
            refine pd_iconst (v := 0) C dX12_isDecoding_70 (by decide) ?_
            refine pd_wk (ls' := [none, none, none, none, none]) True.intro ?_
            have hF := hF.symm
            cases hF
            exact hJ71
          · have hF := pd_f zc2 hF
            refine pd_aload_n C dX12_isDecoding_57 rfl rfl ?_
            refine pd_iload_n C dX12_isDecoding_58 rfl rfl ?_
            refine pd_iconst (v := 3) C dX12_isDecoding_59 (by decide) ?_
            obtain ⟨zr4, zI6, zh4, hF⟩ := pd_bd2_some hF
            refine pd_callV C [.int p2, .int 3] [] (em_X12_isN (pd_C_st C) hn  zh4) mw_X12_isN wd_6_93 rfl (by decide) (pd_lt (by decide) hn) sh_92 ⟨by decide, by decide, by decide, by decide⟩ rfl (Nat.le_of_ble_eq_true rfl) pd_oldL_same (fun _ _ => pd_old_same _) dX12_isDecoding_60 (stk' := [.int zr4]) rfl ?_
            refine pd_if_eq (tgt := 70) C dX12_isDecoding_63 (by decide) (fun zc1 => ?_) (fun zc1 => ?_)
            · have hF := pd_t zc1 hF
              refine pd_iconst (v := 0) C dX12_isDecoding_70 (by decide) ?_
              refine pd_wk (ls' := [none, none, none, none, none]) True.intro ?_
              have hF := hF.symm
              cases hF
              exact hJ71
            · have hF := pd_f zc1 hF
              refine pd_iconst (v := 1) C dX12_isDecoding_66 (by decide) ?_
              refine pd_goto (tgt := 71) C dX12_isDecoding_67 (by decide) ?_
              refine pd_wk (ls' := [none, none, none, none, none]) True.intro ?_
              have hF := hF.symm
              cases hF
              exact hJ71
        replace hF := hS
        clear hS
        obtain ⟨zc3, hS, hF⟩ := pd_bd_some hF
        have hTzc3 : zc3 = true → pd_V cx 0 0 45 [some (.ref 92), some (.int p0), some (.int p1), some (.int p2), some (.int p3)] [.ref 92] zI3 J (pd_RF Z) n := by
          intro hc
          have hF := pd_t hc hF
          refine pd_iconst (v := 1) C dX12_isDecoding_45 (by decide) ?_
          refine pd_goto (tgt := 50) C dX12_isDecoding_46 (by decide) ?_
          refine pd_wk (ls' := [some (.ref 92), none, none, some (.int p2), none]) (And.intro rfl (And.intro rfl True.intro)) ?_
          have hF := hF.symm
          cases hF
          exact hJ50
        have hEzc3 : zc3 = false → pd_V cx 0 0 49 [some (.ref 92), some (.int p0), some (.int p1), some (.int p2), some (.int p3)] [.ref 92] zI3 J (pd_RF Z) n := by
          intro hc
          have hF := pd_bf hc hF
          refine pd_iconst (v := 0) C dX12_isDecoding_49 (by decide) ?_
          refine pd_wk (ls' := [some (.ref 92), none, none, some (.int p2), none]) (And.intro rfl (And.intro rfl True.intro)) ?_
          have hF := hF.symm
          cases hF
          exact hJ50
        replace hF := hS
        clear hS
        refine pd_icmp_eq (tgt := 49) C dX12_isDecoding_27 (by decide) (fun zc6 => ?_) (fun zc6 => ?_)
        · have hF := pd_t zc6 hF
          cases hF
          exact hEzc3 rfl
        · have hF := pd_f zc6 hF
          refine pd_iload C dX12_isDecoding_30 rfl ?_
          refine pd_if_ne (tgt := 45) C dX12_isDecoding_32 (by decide) (fun zc5 => ?_) (fun zc5 => ?_)
          · have hF := pd_f zc5 hF
            cases hF
            exact hTzc3 rfl
          · have hF := pd_t zc5 hF
            refine pd_aload_n C dX12_isDecoding_35 rfl rfl ?_
            refine gr_12_6 C wd_5_131 (pd_lt (by decide) hn) sh_92 (rf_92_6 _) dX12_isDecoding_36 ?_
            refine pd_iload_n C dX12_isDecoding_39 rfl rfl ?_
            obtain ⟨zg3, hF⟩ := pd_gd_some hF
            refine pd_iald C (pd_lt (by decide) hn) sh_97 zg3 dX12_isDecoding_40 ?_
            refine pd_iconst (v := 4) C dX12_isDecoding_41 (by decide) ?_
            refine pd_icmp_eq (tgt := 49) C dX12_isDecoding_42 (by decide) (fun zc4 => ?_) (fun zc4 => ?_)
            · have hF := pd_t zc4 hF
              cases hF
              exact hEzc3 rfl
            · have hF := pd_f zc4 hF
              cases hF
              exact hTzc3 rfl
      · have hF := pd_t zc7 hF
        refine pd_wk (ls' := [none, none, none, none, none]) True.intro ?_
        exact hzj1 _ hF

def fn_X12_best (I : pd_I) (p0 : Int32) (p1 : Int32) (p2 : Int32) : Option (Int32 × pd_I) := pd_bd2 (fn_X12_isDecoding I p0 p1 p2 1) fun zr1 zI1 => if zr1 = 0 then some (0, zI1) else (pd_bd (fn_X12_lists zI1 p0 p1 p2 1) fun zI2 => pd_bd (if (zI2 92 14) ≤ 0 then some (-1) else (pd_gd (pd_in 0 8) (some (zI2 106 (0 : Int32).toNatClampNeg)))) fun (zx1 : Int32) => some (zx1, zI2))
set_option maxRecDepth 100000 in
set_option maxHeartbeats 4000000 in
theorem em_X12_best {l : Launch} {D : va_G} {tc : Nat → ClassId} (hst : l.stackTraces = false) {I : pd_I} {J : pd_J} {Z : pd_R} {n : Nat} {p0 : Int32} {p1 : Int32} {p2 : Int32} (hn : 133 ≤ n)  {out : Int32 × pd_I} (hF : fn_X12_best I p0 p1 p2 = some out) :
    pd_M l D tc yX12_best (.code yX12_best cX12_best 4 (Option.some Jvm.ClassFile.FieldType.int)) rm_X12_best [.ref 92, .int p0, .int p1, .int p2] I J (pd_RF Z) n (.ok (some (.int out.1))) out.2 J (pd_RF Z) n := by
  refine pd_open (own := "PathDecoderModel") (ls0 := [some (.ref 92), some (.int p0), some (.int p1), some (.int p2)]) (by decide) rfl (Nat.le_of_ble_eq_true rfl) rfl rfl hst (fun cx hl hD htc C hE htab hnm => ?_)
  subst hl hD htc
  unfold fn_X12_best at hF
  refine pd_aload_n C dX12_best_0 rfl rfl ?_
  refine pd_iload_n C dX12_best_1 rfl rfl ?_
  refine pd_iload_n C dX12_best_2 rfl rfl ?_
  refine pd_iload_n C dX12_best_3 rfl rfl ?_
  refine pd_iconst (v := 1) C dX12_best_4 (by decide) ?_
  obtain ⟨zr1, zI1, zh1, hF⟩ := pd_bd2_some hF
  refine pd_callV C [.int p0, .int p1, .int p2, .int 1] [] (em_X12_isDecoding (pd_C_st C) hn  zh1) mw_X12_isDecoding wd_6_164 rfl (by decide) (pd_lt (by decide) hn) sh_92 ⟨by decide, by decide, by decide, by decide⟩ rfl (Nat.le_of_ble_eq_true rfl) pd_oldL_same (fun _ _ => pd_old_same _) dX12_best_5 (stk' := [.int zr1]) rfl ?_
  refine pd_if_ne (tgt := 13) C dX12_best_8 (by decide) (fun zc2 => ?_) (fun zc2 => ?_)
  · have hF := pd_f zc2 hF
    refine pd_aload_n C dX12_best_13 rfl rfl ?_
    refine pd_iload_n C dX12_best_14 rfl rfl ?_
    refine pd_iload_n C dX12_best_15 rfl rfl ?_
    refine pd_iload_n C dX12_best_16 rfl rfl ?_
    refine pd_iconst (v := 1) C dX12_best_17 (by decide) ?_
    obtain ⟨zI2, zh2, hF⟩ := pd_bd_some hF
    refine pd_callV C [.int p0, .int p1, .int p2, .int 1] [] (em_X12_lists (pd_C_st C) hn  zh2) mw_X12_lists wd_6_168 rfl (by decide) (pd_lt (by decide) hn) sh_92 ⟨by decide, by decide, by decide, by decide⟩ rfl (Nat.le_of_ble_eq_true rfl) pd_oldL_same (fun _ _ => pd_old_same _) dX12_best_18 (stk' := []) rfl ?_
    refine pd_aload_n C dX12_best_21 rfl rfl ?_
    refine gi_12_14 C wd_5_139 (pd_lt (by decide) hn) sh_92 dX12_best_22 ?_
    obtain ⟨zx1, hS, hF⟩ := pd_bd_some hF
    have hJ38 : pd_V cx 0 0 38 [none, none, none, none] [.int zx1] zI2 J (pd_RF Z) n := by
      cases hF
      exact pd_iret C hE rfl rfl rfl ⟨by decide, by decide⟩ dX12_best_38
    replace hF := hS
    clear hS
    refine pd_if_le (tgt := 37) C dX12_best_25 (by decide) (fun zc1 => ?_) (fun zc1 => ?_)
    · have hF := pd_t zc1 hF
      refine pd_iconst (v := (-1)) C dX12_best_37 (by decide) ?_
      refine pd_wk (ls' := [none, none, none, none]) True.intro ?_
      have hF := hF.symm
      cases hF
      exact hJ38
    · have hF := pd_f zc1 hF
      refine pd_aload_n C dX12_best_28 rfl rfl ?_
      refine gr_12_16 C wd_5_141 (pd_lt (by decide) hn) sh_92 (rf_92_16 _) dX12_best_29 ?_
      refine pd_iconst (v := 0) C dX12_best_32 (by decide) ?_
      obtain ⟨zg1, hF⟩ := pd_gd_some hF
      refine pd_iald C (pd_lt (by decide) hn) sh_106 zg1 dX12_best_33 ?_
      refine pd_goto (tgt := 38) C dX12_best_34 (by decide) ?_
      refine pd_wk (ls' := [none, none, none, none]) True.intro ?_
      have hF := hF.symm
      cases hF
      exact hJ38
  · have hF := pd_t zc2 hF
    refine pd_iconst (v := 0) C dX12_best_11 (by decide) ?_
    cases hF
    exact pd_iret C hE rfl rfl rfl ⟨by decide, by decide⟩ dX12_best_12

def fn_X12_list (I : pd_I) (p0 : Int32) (p1 : Int32) (p2 : Int32) (p3 : Int32) : Option (Int32 × pd_I) := pd_bd2 (fn_X12_isDecoding I p0 p1 p2 1) fun zr1 zI1 => pd_jn (fun (zI2 : pd_I) => some (0, zI2)) fun zj1 => if zr1 = 0 then zj1 zI1 else (pd_bd (pd_bd (if p3 < 1 then some false else (if 8 < p3 then some false else (some true))) fun zc2 => if zc2 = true then some 1 else (some 0)) fun (zx1 : Int32) => pd_bd2 (fn_X12_right zI1 zx1 3) fun zr2 zI3 => if zr2 = 0 then zj1 zI3 else (pd_bd (fn_X12_lists zI3 p0 p1 p2 p3) fun zI4 => some ((zI4 92 14), zI4)))
set_option maxRecDepth 100000 in
set_option maxHeartbeats 4000000 in
theorem em_X12_list {l : Launch} {D : va_G} {tc : Nat → ClassId} (hst : l.stackTraces = false) {I : pd_I} {J : pd_J} {Z : pd_R} {n : Nat} {p0 : Int32} {p1 : Int32} {p2 : Int32} {p3 : Int32} (hn : 133 ≤ n)  {out : Int32 × pd_I} (hF : fn_X12_list I p0 p1 p2 p3 = some out) :
    pd_M l D tc yX12_list (.code yX12_list cX12_list 5 (Option.some Jvm.ClassFile.FieldType.int)) rm_X12_list [.ref 92, .int p0, .int p1, .int p2, .int p3] I J (pd_RF Z) n (.ok (some (.int out.1))) out.2 J (pd_RF Z) n := by
  refine pd_open (own := "PathDecoderModel") (ls0 := [some (.ref 92), some (.int p0), some (.int p1), some (.int p2), some (.int p3)]) (by decide) rfl (Nat.le_of_ble_eq_true rfl) rfl rfl hst (fun cx hl hD htc C hE htab hnm => ?_)
  subst hl hD htc
  unfold fn_X12_list at hF
  refine pd_aload_n C dX12_list_0 rfl rfl ?_
  refine pd_iload_n C dX12_list_1 rfl rfl ?_
  refine pd_iload_n C dX12_list_2 rfl rfl ?_
  refine pd_iload_n C dX12_list_3 rfl rfl ?_
  refine pd_iconst (v := 1) C dX12_list_4 (by decide) ?_
  obtain ⟨zr1, zI1, zh1, hF⟩ := pd_bd2_some hF
  refine pd_callV C [.int p0, .int p1, .int p2, .int 1] [] (em_X12_isDecoding (pd_C_st C) hn  zh1) mw_X12_isDecoding wd_6_164 rfl (by decide) (pd_lt (by decide) hn) sh_92 ⟨by decide, by decide, by decide, by decide⟩ rfl (Nat.le_of_ble_eq_true rfl) pd_oldL_same (fun _ _ => pd_old_same _) dX12_list_5 (stk' := [.int zr1]) rfl ?_
  refine pd_jn_use hF (fun j => ∀ (zI2 : pd_I), j zI2 = some out → pd_V cx 0 0 37 [none, none, none, none, none] [] zI2 J (pd_RF Z) n) (fun zI2 hF => ?_) (fun zj1 hzj1 hF => ?_)
  · refine pd_iconst (v := 0) C dX12_list_37 (by decide) ?_
    cases hF
    exact pd_iret C hE rfl rfl rfl ⟨by decide, by decide⟩ dX12_list_38
  · refine pd_if_eq (tgt := 37) C dX12_list_8 (by decide) (fun zc5 => ?_) (fun zc5 => ?_)
    · have hF := pd_t zc5 hF
      refine pd_wk (ls' := [none, none, none, none, none]) True.intro ?_
      exact hzj1 _ hF
    · have hF := pd_f zc5 hF
      refine pd_aload_n C dX12_list_11 rfl rfl ?_
      refine pd_iload C dX12_list_12 rfl ?_
      refine pd_iconst (v := 1) C dX12_list_14 (by decide) ?_
      obtain ⟨zx1, hS, hF⟩ := pd_bd_some hF
      have hJ30 : pd_V cx 0 0 30 [some (.ref 92), some (.int p0), some (.int p1), some (.int p2), some (.int p3)] [.int zx1, .ref 92] zI1 J (pd_RF Z) n := by
        refine pd_iconst (v := 3) C dX12_list_30 (by decide) ?_
        obtain ⟨zr2, zI3, zh2, hF⟩ := pd_bd2_some hF
        refine pd_callV C [.int zx1, .int 3] [] (em_X12_right (pd_C_st C) hn  zh2) mw_X12_right wd_6_30 rfl (by decide) (pd_lt (by decide) hn) sh_92 ⟨by decide, by decide, by decide, by decide⟩ rfl (Nat.le_of_ble_eq_true rfl) pd_oldL_same (fun _ _ => pd_old_same _) dX12_list_31 (stk' := [.int zr2]) rfl ?_
        refine pd_if_ne (tgt := 39) C dX12_list_34 (by decide) (fun zc1 => ?_) (fun zc1 => ?_)
        · have hF := pd_f zc1 hF
          refine pd_aload_n C dX12_list_39 rfl rfl ?_
          refine pd_iload_n C dX12_list_40 rfl rfl ?_
          refine pd_iload_n C dX12_list_41 rfl rfl ?_
          refine pd_iload_n C dX12_list_42 rfl rfl ?_
          refine pd_iload C dX12_list_43 rfl ?_
          obtain ⟨zI4, zh3, hF⟩ := pd_bd_some hF
          refine pd_callV C [.int p0, .int p1, .int p2, .int p3] [] (em_X12_lists (pd_C_st C) hn  zh3) mw_X12_lists wd_6_168 rfl (by decide) (pd_lt (by decide) hn) sh_92 ⟨by decide, by decide, by decide, by decide⟩ rfl (Nat.le_of_ble_eq_true rfl) pd_oldL_same (fun _ _ => pd_old_same _) dX12_list_45 (stk' := []) rfl ?_
          refine pd_aload_n C dX12_list_48 rfl rfl ?_
          refine gi_12_14 C wd_5_139 (pd_lt (by decide) hn) sh_92 dX12_list_49 ?_
          cases hF
          exact pd_iret C hE rfl rfl rfl ⟨by decide, by decide⟩ dX12_list_52
        · have hF := pd_t zc1 hF
          refine pd_wk (ls' := [none, none, none, none, none]) True.intro ?_
          exact hzj1 _ hF
      replace hF := hS
      clear hS
      obtain ⟨zc2, hS, hF⟩ := pd_bd_some hF
      have hTzc2 : zc2 = true → pd_V cx 0 0 25 [some (.ref 92), some (.int p0), some (.int p1), some (.int p2), some (.int p3)] [.ref 92] zI1 J (pd_RF Z) n := by
        intro hc
        have hF := pd_t hc hF
        refine pd_iconst (v := 1) C dX12_list_25 (by decide) ?_
        refine pd_goto (tgt := 30) C dX12_list_26 (by decide) ?_
        have hF := hF.symm
        cases hF
        exact hJ30
      have hEzc2 : zc2 = false → pd_V cx 0 0 29 [some (.ref 92), some (.int p0), some (.int p1), some (.int p2), some (.int p3)] [.ref 92] zI1 J (pd_RF Z) n := by
        intro hc
        have hF := pd_bf hc hF
        refine pd_iconst (v := 0) C dX12_list_29 (by decide) ?_
        have hF := hF.symm
        cases hF
        exact hJ30
      replace hF := hS
      clear hS
      refine pd_icmp_lt (tgt := 29) C dX12_list_15 (by decide) (fun zc4 => ?_) (fun zc4 => ?_)
      · have hF := pd_t zc4 hF
        cases hF
        exact hEzc2 rfl
      · have hF := pd_f zc4 hF
        refine pd_iload C dX12_list_18 rfl ?_
        refine pd_bipush (v := 8) C dX12_list_20 (by decide) ?_
        refine pd_icmp_gt (tgt := 29) C dX12_list_22 (by decide) (fun zc3 => ?_) (fun zc3 => ?_)
        · have hF := pd_t zc3 hF
          cases hF
          exact hEzc2 rfl
        · have hF := pd_f zc3 hF
          cases hF
          exact hTzc2 rfl

def fn_X12_goes (I : pd_I) (p0 : Int32) (p1 : Int32) (p2 : Int32) (p3 : Int32) : Option pd_I := pd_bd (fn_X12_next I p0 p2 p3) fun zr1 => pd_gd (pd_in p2 64) (pd_gd (pd_in (((128 * p1) + (2 * p2)) + p3) 26368) (pd_let ((I 124 p2.toNatClampNeg) + (I 110 (((128 * p1) + (2 * p2)) + p3).toNatClampNeg)) fun zv1 => pd_gd (pd_in zr1 64) (if zv1 < (I 125 zr1.toNatClampNeg) then pd_gd (pd_in zr1 64) (pd_let (pd_ui I 125 zr1.toNatClampNeg zv1) fun zI1 => pd_gd (pd_in ((64 * p1) + zr1) 13184) (pd_let (pd_ui zI1 126 ((64 * p1) + zr1).toNatClampNeg p2) fun zI2 => pd_gd (pd_in ((64 * p1) + zr1) 13184) (pd_let (pd_ui zI2 127 ((64 * p1) + zr1).toNatClampNeg p3) fun zI3 => some zI3))) else (some I))))
set_option maxRecDepth 100000 in
set_option maxHeartbeats 4000000 in
theorem em_X12_goes {l : Launch} {D : va_G} {tc : Nat → ClassId} (hst : l.stackTraces = false) {I : pd_I} {J : pd_J} {Z : pd_R} {n : Nat} {p0 : Int32} {p1 : Int32} {p2 : Int32} {p3 : Int32} (hn : 133 ≤ n)  {out : pd_I} (hF : fn_X12_goes I p0 p1 p2 p3 = some out) :
    pd_M l D tc yX12_goes (.code yX12_goes cX12_goes 7 (Option.none : Option Jvm.ClassFile.FieldType)) rm_X12_goes [.ref 92, .int p0, .int p1, .int p2, .int p3] I J (pd_RF Z) n (.ok (none)) out J (pd_RF Z) n := by
  refine pd_open (own := "PathDecoderModel") (ls0 := [some (.ref 92), some (.int p0), some (.int p1), some (.int p2), some (.int p3), none, none]) (by decide) rfl (Nat.le_of_ble_eq_true rfl) rfl rfl hst (fun cx hl hD htc C hE htab hnm => ?_)
  subst hl hD htc
  unfold fn_X12_goes at hF
  refine pd_aload_n C dX12_goes_0 rfl rfl ?_
  refine pd_iload_n C dX12_goes_1 rfl rfl ?_
  refine pd_iload_n C dX12_goes_2 rfl rfl ?_
  refine pd_iload C dX12_goes_3 rfl ?_
  obtain ⟨zr1, zh1, hF⟩ := pd_bd_some hF
  refine pd_callV C [.int p0, .int p2, .int p3] [] (em_X12_next (pd_C_st C) hn  zh1) mw_X12_next wd_6_109 rfl (by decide) (pd_lt (by decide) hn) sh_92 ⟨by decide, by decide, by decide, by decide⟩ rfl (Nat.le_of_ble_eq_true rfl) pd_oldL_same (fun _ _ => pd_old_same _) dX12_goes_5 (stk' := [.int zr1]) rfl ?_
  refine pd_istore (ls' := [some (.ref 92), some (.int p0), some (.int p1), some (.int p2), some (.int p3), some (.int zr1), none]) C dX12_goes_8 (Nat.le_of_ble_eq_true rfl) rfl rfl ?_
  refine pd_aload_n C dX12_goes_10 rfl rfl ?_
  refine gr_12_36 C wd_5_161 (pd_lt (by decide) hn) sh_92 (rf_92_36 _) dX12_goes_11 ?_
  refine pd_iload_n C dX12_goes_14 rfl rfl ?_
  obtain ⟨zg1, hF⟩ := pd_gd_some hF
  refine pd_iald C (pd_lt (by decide) hn) sh_124 zg1 dX12_goes_15 ?_
  refine pd_aload_n C dX12_goes_16 rfl rfl ?_
  refine gr_12_22 C wd_5_147 (pd_lt (by decide) hn) sh_92 (rf_92_22 _) dX12_goes_17 ?_
  refine pd_sipush (v := 128) C dX12_goes_20 (by decide) ?_
  refine pd_iload_n C dX12_goes_23 rfl rfl ?_
  refine pd_imul C dX12_goes_24 ?_
  refine pd_iconst (v := 2) C dX12_goes_25 (by decide) ?_
  refine pd_iload_n C dX12_goes_26 rfl rfl ?_
  refine pd_imul C dX12_goes_27 ?_
  refine pd_iadd C dX12_goes_28 ?_
  refine pd_iload C dX12_goes_29 rfl ?_
  refine pd_iadd C dX12_goes_31 ?_
  obtain ⟨zg2, hF⟩ := pd_gd_some hF
  refine pd_iald C (pd_lt (by decide) hn) sh_110 zg2 dX12_goes_32 ?_
  refine pd_iadd C dX12_goes_33 ?_
  refine pd_topi (fun zv1 hzv1 => ?_)
  have hF := pd_let_at hF hzv1
  refine pd_istore (ls' := [some (.ref 92), some (.int p0), some (.int p1), some (.int p2), some (.int p3), some (.int zr1), some (.int zv1)]) C dX12_goes_34 (Nat.le_of_ble_eq_true rfl) rfl rfl ?_
  refine pd_iload C dX12_goes_36 rfl ?_
  refine pd_aload_n C dX12_goes_38 rfl rfl ?_
  refine gr_12_37 C wd_5_162 (pd_lt (by decide) hn) sh_92 (rf_92_37 _) dX12_goes_39 ?_
  refine pd_iload C dX12_goes_42 rfl ?_
  obtain ⟨zg3, hF⟩ := pd_gd_some hF
  refine pd_iald C (pd_lt (by decide) hn) sh_125 zg3 dX12_goes_44 ?_
  refine pd_icmp_lt (tgt := 49) C dX12_goes_45 (by decide) (fun zc1 => ?_) (fun zc1 => ?_)
  · have hF := pd_t zc1 hF
    refine pd_aload_n C dX12_goes_49 rfl rfl ?_
    refine gr_12_37 C wd_5_162 (pd_lt (by decide) hn) sh_92 (rf_92_37 _) dX12_goes_50 ?_
    refine pd_iload C dX12_goes_53 rfl ?_
    refine pd_iload C dX12_goes_55 rfl ?_
    obtain ⟨zg4, hF⟩ := pd_gd_some hF
    refine pd_iast C (pd_lt (by decide) hn) sh_125 zg4 dX12_goes_57 ?_
    refine pd_memI (fun zI1 hzI1 => ?_)
    have hF := pd_let_at hF hzI1
    refine pd_aload_n C dX12_goes_58 rfl rfl ?_
    refine gr_12_38 C wd_5_163 (pd_lt (by decide) hn) sh_92 (rf_92_38 _) dX12_goes_59 ?_
    refine pd_bipush (v := 64) C dX12_goes_62 (by decide) ?_
    refine pd_iload_n C dX12_goes_64 rfl rfl ?_
    refine pd_imul C dX12_goes_65 ?_
    refine pd_iload C dX12_goes_66 rfl ?_
    refine pd_iadd C dX12_goes_68 ?_
    refine pd_iload_n C dX12_goes_69 rfl rfl ?_
    obtain ⟨zg5, hF⟩ := pd_gd_some hF
    refine pd_iast C (pd_lt (by decide) hn) sh_126 zg5 dX12_goes_70 ?_
    refine pd_memI (fun zI2 hzI2 => ?_)
    have hF := pd_let_at hF hzI2
    refine pd_aload_n C dX12_goes_71 rfl rfl ?_
    refine gr_12_39 C wd_5_164 (pd_lt (by decide) hn) sh_92 (rf_92_39 _) dX12_goes_72 ?_
    refine pd_bipush (v := 64) C dX12_goes_75 (by decide) ?_
    refine pd_iload_n C dX12_goes_77 rfl rfl ?_
    refine pd_imul C dX12_goes_78 ?_
    refine pd_iload C dX12_goes_79 rfl ?_
    refine pd_iadd C dX12_goes_81 ?_
    refine pd_iload C dX12_goes_82 rfl ?_
    obtain ⟨zg6, hF⟩ := pd_gd_some hF
    refine pd_iast C (pd_lt (by decide) hn) sh_127 zg6 dX12_goes_84 ?_
    refine pd_memI (fun zI3 hzI3 => ?_)
    have hF := pd_let_at hF hzI3
    cases hF
    exact pd_vret C hE rfl ⟨by decide, by decide⟩ dX12_goes_85
  · have hF := pd_f zc1 hF
    cases hF
    exact pd_vret C hE rfl ⟨by decide, by decide⟩ dX12_goes_48

def fl_X12_prunes_13 {O : Type} (p0 : Int32) (zx1 : Int32) (zI1 : pd_I) (kont : Int32 → Option O) : Nat → Int32 → Int32 → Option O
  | 0, _, _ => none
  | fu + 1, zx2, zx3 => if p0 ≤ zx3 then kont zx2 else (pd_gd (pd_in zx3 64) (pd_gd (pd_in zx1 64) (pd_bd (pd_bd (if (zI1 125 zx3.toNatClampNeg) < (zI1 125 zx1.toNatClampNeg) then some true else (pd_gd (pd_in zx3 64) (pd_gd (pd_in zx1 64) (if (zI1 125 zx3.toNatClampNeg) = (zI1 125 zx1.toNatClampNeg) then if zx1 ≤ zx3 then some false else (some true) else (some false))))) fun zc1 => if zc1 = true then pd_let (zx2 + 1) fun zv2 => some zv2 else (some zx2)) fun (zx5 : Int32) => pd_let (zx3 + 1) fun zv1 => fl_X12_prunes_13 p0 zx1 zI1 kont fu zx5 zv1)))
set_option maxRecDepth 100000 in
set_option maxHeartbeats 4000000 in
theorem el_X12_prunes_13 {cx : pd_X} (C : pd_C cx "PathDecoderModel" cX12_prunes rm_X12_prunes) {p0 : Int32} {p1 : Int32} {zx1 : Int32} {zI1 : pd_I} {J : pd_J} {Z : pd_R} {n : Nat} (hn : 133 ≤ n)  {O : Type} {kont : Int32 → Option O} {out : O} (K : ∀ (zx4 : Int32), kont zx4 = some out → pd_V cx 0 0 66 [some (.ref 92), some (.int p0), some (.int p1), some (.int zx1), some (.int zx4), none] [] zI1 J (pd_RF Z) n) :
    ∀ (fu : Nat) (zx2 : Int32) (zx3 : Int32), fl_X12_prunes_13 p0 zx1 zI1 kont fu zx2 zx3 = some out → pd_V cx 0 0 13 [some (.ref 92), some (.int p0), some (.int p1), some (.int zx1), some (.int zx2), some (.int zx3)] [] zI1 J (pd_RF Z) n := by
  intro fu
  induction fu with
  | zero => intro zx2 zx3 hF; rw [fl_X12_prunes_13] at hF; cases hF
  | succ fu ih =>
    intro zx2 zx3 hF
    rw [fl_X12_prunes_13] at hF
    refine pd_iload C dX12_prunes_13 rfl ?_
    refine pd_iload_n C dX12_prunes_15 rfl rfl ?_
    refine pd_icmp_ge (tgt := 66) C dX12_prunes_16 (by decide) (fun zc5 => ?_) (fun zc5 => ?_)
    · have hF := pd_t zc5 hF
      refine pd_wk (ls' := [some (.ref 92), some (.int p0), some (.int p1), some (.int zx1), some (.int zx2), none]) (And.intro rfl (And.intro rfl (And.intro rfl (And.intro rfl (And.intro rfl True.intro))))) ?_
      exact K _ hF
    · have hF := pd_f zc5 hF
      refine pd_aload_n C dX12_prunes_19 rfl rfl ?_
      refine gr_12_37 C wd_5_162 (pd_lt (by decide) hn) sh_92 (rf_92_37 _) dX12_prunes_20 ?_
      refine pd_iload C dX12_prunes_23 rfl ?_
      obtain ⟨zg1, hF⟩ := pd_gd_some hF
      refine pd_iald C (pd_lt (by decide) hn) sh_125 zg1 dX12_prunes_25 ?_
      refine pd_aload_n C dX12_prunes_26 rfl rfl ?_
      refine gr_12_37 C wd_5_162 (pd_lt (by decide) hn) sh_92 (rf_92_37 _) dX12_prunes_27 ?_
      refine pd_iload_n C dX12_prunes_30 rfl rfl ?_
      obtain ⟨zg2, hF⟩ := pd_gd_some hF
      refine pd_iald C (pd_lt (by decide) hn) sh_125 zg2 dX12_prunes_31 ?_
      obtain ⟨zx5, hS, hF⟩ := pd_bd_some hF
      have hJ60 : pd_V cx 0 0 60 [some (.ref 92), some (.int p0), some (.int p1), some (.int zx1), some (.int zx5), some (.int zx3)] [] zI1 J (pd_RF Z) n := by
        refine pd_iincG (zz := 1) C dX12_prunes_60 rfl (by decide) rfl (fun zv1 hzv1 => ?_)
        have hF := pd_let_at hF hzv1
        refine pd_lsE (ls' := [some (.ref 92), some (.int p0), some (.int p1), some (.int zx1), some (.int zx5), some (.int zv1)]) rfl ?_
        refine pd_goto (tgt := 13) C dX12_prunes_63 (by decide) ?_
        exact ih _ _ hF
      replace hF := hS
      clear hS
      obtain ⟨zc1, hS, hF⟩ := pd_bd_some hF
      have hTzc1 : zc1 = true → pd_V cx 0 0 57 [some (.ref 92), some (.int p0), some (.int p1), some (.int zx1), some (.int zx2), some (.int zx3)] [] zI1 J (pd_RF Z) n := by
        intro hc
        have hF := pd_t hc hF
        refine pd_iincG (zz := 1) C dX12_prunes_57 rfl (by decide) rfl (fun zv2 hzv2 => ?_)
        have hF := pd_let_at hF hzv2
        refine pd_lsE (ls' := [some (.ref 92), some (.int p0), some (.int p1), some (.int zx1), some (.int zv2), some (.int zx3)]) rfl ?_
        have hF := hF.symm
        cases hF
        exact hJ60
      have hEzc1 : zc1 = false → pd_V cx 0 0 60 [some (.ref 92), some (.int p0), some (.int p1), some (.int zx1), some (.int zx2), some (.int zx3)] [] zI1 J (pd_RF Z) n := by
        intro hc
        have hF := pd_bf hc hF
        have hF := hF.symm
        cases hF
        exact hJ60
      replace hF := hS
      clear hS
      refine pd_icmp_lt (tgt := 57) C dX12_prunes_32 (by decide) (fun zc4 => ?_) (fun zc4 => ?_)
      · have hF := pd_t zc4 hF
        cases hF
        exact hTzc1 rfl
      · have hF := pd_f zc4 hF
        refine pd_aload_n C dX12_prunes_35 rfl rfl ?_
        refine gr_12_37 C wd_5_162 (pd_lt (by decide) hn) sh_92 (rf_92_37 _) dX12_prunes_36 ?_
        refine pd_iload C dX12_prunes_39 rfl ?_
        obtain ⟨zg3, hF⟩ := pd_gd_some hF
        refine pd_iald C (pd_lt (by decide) hn) sh_125 zg3 dX12_prunes_41 ?_
        refine pd_aload_n C dX12_prunes_42 rfl rfl ?_
        refine gr_12_37 C wd_5_162 (pd_lt (by decide) hn) sh_92 (rf_92_37 _) dX12_prunes_43 ?_
        refine pd_iload_n C dX12_prunes_46 rfl rfl ?_
        obtain ⟨zg4, hF⟩ := pd_gd_some hF
        refine pd_iald C (pd_lt (by decide) hn) sh_125 zg4 dX12_prunes_47 ?_
        refine pd_icmp_ne (tgt := 60) C dX12_prunes_48 (by decide) (fun zc3 => ?_) (fun zc3 => ?_)
        · have hF := pd_f zc3 hF
          cases hF
          exact hEzc1 rfl
        · have hF := pd_t zc3 hF
          refine pd_iload C dX12_prunes_51 rfl ?_
          refine pd_iload_n C dX12_prunes_53 rfl rfl ?_
          refine pd_icmp_ge (tgt := 60) C dX12_prunes_54 (by decide) (fun zc2 => ?_) (fun zc2 => ?_)
          · have hF := pd_t zc2 hF
            cases hF
            exact hEzc1 rfl
          · have hF := pd_f zc2 hF
            cases hF
            exact hTzc1 rfl
def fl_X12_prunes_2 {O : Type} (p0 : Int32) (p1 : Int32) (kont : pd_I → Option O) : Nat → Int32 → pd_I → Option O
  | 0, _, _ => none
  | fu + 1, zx1, zI1 => if p0 ≤ zx1 then kont zI1 else (fl_X12_prunes_13 p0 zx1 zI1 (fun zx4 => pd_bd (if p1 ≤ zx4 then some 1000000000 else (pd_gd (pd_in zx1 64) (some (zI1 125 zx1.toNatClampNeg)))) fun (zx6 : Int32) => pd_gd (pd_in zx1 64) (pd_let (pd_ui zI1 124 zx1.toNatClampNeg zx6) fun zI3 => pd_let (zx1 + 1) fun zv3 => fl_X12_prunes_2 p0 p1 kont fu zv3 zI3)) pd_FU 0 0)
set_option maxRecDepth 100000 in
set_option maxHeartbeats 4000000 in
theorem el_X12_prunes_2 {cx : pd_X} (C : pd_C cx "PathDecoderModel" cX12_prunes rm_X12_prunes) {p0 : Int32} {p1 : Int32} {J : pd_J} {Z : pd_R} {n : Nat} (hn : 133 ≤ n)  {O : Type} {kont : pd_I → Option O} {out : O} (K : ∀ (zI2 : pd_I), kont zI2 = some out → pd_V cx 0 0 95 [none, none, none, none, none, none] [] zI2 J (pd_RF Z) n) :
    ∀ (fu : Nat) (zx1 : Int32) (zI1 : pd_I), fl_X12_prunes_2 p0 p1 kont fu zx1 zI1 = some out → pd_V cx 0 0 2 [some (.ref 92), some (.int p0), some (.int p1), some (.int zx1), none, none] [] zI1 J (pd_RF Z) n := by
  intro fu
  induction fu with
  | zero => intro zx1 zI1 hF; rw [fl_X12_prunes_2] at hF; cases hF
  | succ fu ih =>
    intro zx1 zI1 hF
    rw [fl_X12_prunes_2] at hF
    refine pd_iload_n C dX12_prunes_2 rfl rfl ?_
    refine pd_iload_n C dX12_prunes_3 rfl rfl ?_
    refine pd_icmp_ge (tgt := 95) C dX12_prunes_4 (by decide) (fun zc7 => ?_) (fun zc7 => ?_)
    · have hF := pd_t zc7 hF
      refine pd_wk (ls' := [none, none, none, none, none, none]) True.intro ?_
      exact K _ hF
    · have hF := pd_f zc7 hF
      refine pd_iconst (v := 0) C dX12_prunes_7 (by decide) ?_
      refine pd_istore (ls' := [some (.ref 92), some (.int p0), some (.int p1), some (.int zx1), some (.int 0), none]) C dX12_prunes_8 (Nat.le_of_ble_eq_true rfl) rfl rfl ?_
      refine pd_iconst (v := 0) C dX12_prunes_10 (by decide) ?_
      refine pd_istore (ls' := [some (.ref 92), some (.int p0), some (.int p1), some (.int zx1), some (.int 0), some (.int 0)]) C dX12_prunes_11 (Nat.le_of_ble_eq_true rfl) rfl rfl ?_
      refine el_X12_prunes_13 C hn (fun zx4 hF => ?_) pd_FU _ _ hF
      refine pd_aload_n C dX12_prunes_66 rfl rfl ?_
      refine gr_12_36 C wd_5_161 (pd_lt (by decide) hn) sh_92 (rf_92_36 _) dX12_prunes_67 ?_
      refine pd_iload_n C dX12_prunes_70 rfl rfl ?_
      refine pd_iload C dX12_prunes_71 rfl ?_
      refine pd_iload_n C dX12_prunes_73 rfl rfl ?_
      obtain ⟨zx6, hS, hF⟩ := pd_bd_some hF
      have hJ88 : pd_V cx 0 0 88 [some (.ref 92), some (.int p0), some (.int p1), some (.int zx1), none, none] [.int zx6, .int zx1, .ref 124] zI1 J (pd_RF Z) n := by
        obtain ⟨zg5, hF⟩ := pd_gd_some hF
        refine pd_iast C (pd_lt (by decide) hn) sh_124 zg5 dX12_prunes_88 ?_
        refine pd_memI (fun zI3 hzI3 => ?_)
        have hF := pd_let_at hF hzI3
        refine pd_iincG (zz := 1) C dX12_prunes_89 rfl (by decide) rfl (fun zv3 hzv3 => ?_)
        have hF := pd_let_at hF hzv3
        refine pd_lsE (ls' := [some (.ref 92), some (.int p0), some (.int p1), some (.int zv3), none, none]) rfl ?_
        refine pd_goto (tgt := 2) C dX12_prunes_92 (by decide) ?_
        exact ih _ _ hF
      replace hF := hS
      clear hS
      refine pd_icmp_ge (tgt := 86) C dX12_prunes_74 (by decide) (fun zc6 => ?_) (fun zc6 => ?_)
      · have hF := pd_t zc6 hF
        refine pd_ldc C wd_6_184 dX12_prunes_86 ?_
        refine pd_wk (ls' := [some (.ref 92), some (.int p0), some (.int p1), some (.int zx1), none, none]) (And.intro rfl (And.intro rfl (And.intro rfl (And.intro rfl True.intro)))) ?_
        have hF := hF.symm
        cases hF
        exact hJ88
      · have hF := pd_f zc6 hF
        refine pd_aload_n C dX12_prunes_77 rfl rfl ?_
        refine gr_12_37 C wd_5_162 (pd_lt (by decide) hn) sh_92 (rf_92_37 _) dX12_prunes_78 ?_
        refine pd_iload_n C dX12_prunes_81 rfl rfl ?_
        obtain ⟨zg6, hF⟩ := pd_gd_some hF
        refine pd_iald C (pd_lt (by decide) hn) sh_125 zg6 dX12_prunes_82 ?_
        refine pd_goto (tgt := 88) C dX12_prunes_83 (by decide) ?_
        refine pd_wk (ls' := [some (.ref 92), some (.int p0), some (.int p1), some (.int zx1), none, none]) (And.intro rfl (And.intro rfl (And.intro rfl (And.intro rfl True.intro)))) ?_
        have hF := hF.symm
        cases hF
        exact hJ88
def fn_X12_prunes (I : pd_I) (p0 : Int32) (p1 : Int32) : Option pd_I := fl_X12_prunes_2 p0 p1 (fun zI2 => some zI2) pd_FU 0 I
set_option maxRecDepth 100000 in
set_option maxHeartbeats 4000000 in
theorem em_X12_prunes {l : Launch} {D : va_G} {tc : Nat → ClassId} (hst : l.stackTraces = false) {I : pd_I} {J : pd_J} {Z : pd_R} {n : Nat} {p0 : Int32} {p1 : Int32} (hn : 133 ≤ n)  {out : pd_I} (hF : fn_X12_prunes I p0 p1 = some out) :
    pd_M l D tc yX12_prunes (.code yX12_prunes cX12_prunes 6 (Option.none : Option Jvm.ClassFile.FieldType)) rm_X12_prunes [.ref 92, .int p0, .int p1] I J (pd_RF Z) n (.ok (none)) out J (pd_RF Z) n := by
  refine pd_open (own := "PathDecoderModel") (ls0 := [some (.ref 92), some (.int p0), some (.int p1), none, none, none]) (by decide) rfl (Nat.le_of_ble_eq_true rfl) rfl rfl hst (fun cx hl hD htc C hE htab hnm => ?_)
  subst hl hD htc
  unfold fn_X12_prunes at hF
  refine pd_iconst (v := 0) C dX12_prunes_0 (by decide) ?_
  refine pd_istore_n (ls' := [some (.ref 92), some (.int p0), some (.int p1), some (.int 0), none, none]) C dX12_prunes_1 rfl (Nat.le_of_ble_eq_true rfl) rfl rfl ?_
  refine el_X12_prunes_2 C hn (fun zI2 hF => ?_) pd_FU _ _ hF
  cases hF
  exact pd_vret C hE rfl ⟨by decide, by decide⟩ dX12_prunes_95

def fl_X12_few_59 {O : Type} (zv1 : Int32) (kont : pd_I → Option O) : Nat → Int32 → pd_I → Option O
  | 0, _, _ => none
  | fu + 1, zx2, zI5 => if zv1 ≤ zx2 then kont zI5 else (pd_bd (if zx2 = 0 then some 0 else (some 1000000000)) fun (zx3 : Int32) => pd_gd (pd_in zx2 64) (pd_let (pd_ui zI5 124 zx2.toNatClampNeg zx3) fun zI7 => pd_let (zx2 + 1) fun zv2 => fl_X12_few_59 zv1 kont fu zv2 zI7))
set_option maxRecDepth 100000 in
set_option maxHeartbeats 4000000 in
theorem el_X12_few_59 {cx : pd_X} (C : pd_C cx "PathDecoderModel" cX12_few rm_X12_few) {p0 : Int32} {p2 : Int32} {p3 : Int32} {zv1 : Int32} {J : pd_J} {Z : pd_R} {n : Nat} (hn : 133 ≤ n)  {O : Type} {kont : pd_I → Option O} {out : O} (K : ∀ (zI6 : pd_I), kont zI6 = some out → pd_V cx 0 0 90 [some (.ref 92), some (.int p0), none, some (.int p2), some (.int p3), some (.int zv1), none, none, none, none] [] zI6 J (pd_RF Z) n) :
    ∀ (fu : Nat) (zx2 : Int32) (zI5 : pd_I), fl_X12_few_59 zv1 kont fu zx2 zI5 = some out → pd_V cx 0 0 59 [some (.ref 92), some (.int p0), none, some (.int p2), some (.int p3), some (.int zv1), some (.int zx2), none, none, none] [] zI5 J (pd_RF Z) n := by
  intro fu
  induction fu with
  | zero => intro zx2 zI5 hF; rw [fl_X12_few_59] at hF; cases hF
  | succ fu ih =>
    intro zx2 zI5 hF
    rw [fl_X12_few_59] at hF
    refine pd_iload C dX12_few_59 rfl ?_
    refine pd_iload C dX12_few_61 rfl ?_
    refine pd_icmp_ge (tgt := 90) C dX12_few_63 (by decide) (fun zc2 => ?_) (fun zc2 => ?_)
    · have hF := pd_t zc2 hF
      refine pd_wk (ls' := [some (.ref 92), some (.int p0), none, some (.int p2), some (.int p3), some (.int zv1), none, none, none, none]) (And.intro rfl (And.intro rfl (And.intro rfl (And.intro rfl (And.intro rfl True.intro))))) ?_
      exact K _ hF
    · have hF := pd_f zc2 hF
      refine pd_aload_n C dX12_few_66 rfl rfl ?_
      refine gr_12_36 C wd_5_161 (pd_lt (by decide) hn) sh_92 (rf_92_36 _) dX12_few_67 ?_
      refine pd_iload C dX12_few_70 rfl ?_
      refine pd_iload C dX12_few_72 rfl ?_
      obtain ⟨zx3, hS, hF⟩ := pd_bd_some hF
      have hJ83 : pd_V cx 0 0 83 [some (.ref 92), some (.int p0), none, some (.int p2), some (.int p3), some (.int zv1), some (.int zx2), none, none, none] [.int zx3, .int zx2, .ref 124] zI5 J (pd_RF Z) n := by
        obtain ⟨zg2, hF⟩ := pd_gd_some hF
        refine pd_iast C (pd_lt (by decide) hn) sh_124 zg2 dX12_few_83 ?_
        refine pd_memI (fun zI7 hzI7 => ?_)
        have hF := pd_let_at hF hzI7
        refine pd_iincG (zz := 1) C dX12_few_84 rfl (by decide) rfl (fun zv2 hzv2 => ?_)
        have hF := pd_let_at hF hzv2
        refine pd_lsE (ls' := [some (.ref 92), some (.int p0), none, some (.int p2), some (.int p3), some (.int zv1), some (.int zv2), none, none, none]) rfl ?_
        refine pd_goto (tgt := 59) C dX12_few_87 (by decide) ?_
        exact ih _ _ hF
      replace hF := hS
      clear hS
      refine pd_if_ne (tgt := 81) C dX12_few_74 (by decide) (fun zc1 => ?_) (fun zc1 => ?_)
      · have hF := pd_f zc1 hF
        refine pd_ldc C wd_6_184 dX12_few_81 ?_
        have hF := hF.symm
        cases hF
        exact hJ83
      · have hF := pd_t zc1 hF
        refine pd_iconst (v := 0) C dX12_few_77 (by decide) ?_
        refine pd_goto (tgt := 83) C dX12_few_78 (by decide) ?_
        have hF := hF.symm
        cases hF
        exact hJ83
def fl_X12_few_107 {O : Type} (zv1 : Int32) (kont : pd_I → Option O) : Nat → Int32 → pd_I → Option O
  | 0, _, _ => none
  | fu + 1, zx5, zI10 => if zv1 ≤ zx5 then kont zI10 else (pd_gd (pd_in zx5 64) (pd_let (pd_ui zI10 125 zx5.toNatClampNeg 1000000000) fun zI12 => pd_let (zx5 + 1) fun zv3 => fl_X12_few_107 zv1 kont fu zv3 zI12))
set_option maxRecDepth 100000 in
set_option maxHeartbeats 4000000 in
theorem el_X12_few_107 {cx : pd_X} (C : pd_C cx "PathDecoderModel" cX12_few rm_X12_few) {p0 : Int32} {p2 : Int32} {p3 : Int32} {zv1 : Int32} {zx4 : Int32} {J : pd_J} {Z : pd_R} {n : Nat} (hn : 133 ≤ n)  {O : Type} {kont : pd_I → Option O} {out : O} (K : ∀ (zI11 : pd_I), kont zI11 = some out → pd_V cx 0 0 129 [some (.ref 92), some (.int p0), none, some (.int p2), some (.int p3), some (.int zv1), some (.int zx4), none, none, none] [] zI11 J (pd_RF Z) n) :
    ∀ (fu : Nat) (zx5 : Int32) (zI10 : pd_I), fl_X12_few_107 zv1 kont fu zx5 zI10 = some out → pd_V cx 0 0 107 [some (.ref 92), some (.int p0), none, some (.int p2), some (.int p3), some (.int zv1), some (.int zx4), some (.int zx5), none, none] [] zI10 J (pd_RF Z) n := by
  intro fu
  induction fu with
  | zero => intro zx5 zI10 hF; rw [fl_X12_few_107] at hF; cases hF
  | succ fu ih =>
    intro zx5 zI10 hF
    rw [fl_X12_few_107] at hF
    refine pd_iload C dX12_few_107 rfl ?_
    refine pd_iload C dX12_few_109 rfl ?_
    refine pd_icmp_ge (tgt := 129) C dX12_few_111 (by decide) (fun zc3 => ?_) (fun zc3 => ?_)
    · have hF := pd_t zc3 hF
      refine pd_wk (ls' := [some (.ref 92), some (.int p0), none, some (.int p2), some (.int p3), some (.int zv1), some (.int zx4), none, none, none]) (And.intro rfl (And.intro rfl (And.intro rfl (And.intro rfl (And.intro rfl (And.intro rfl True.intro)))))) ?_
      exact K _ hF
    · have hF := pd_f zc3 hF
      refine pd_aload_n C dX12_few_114 rfl rfl ?_
      refine gr_12_37 C wd_5_162 (pd_lt (by decide) hn) sh_92 (rf_92_37 _) dX12_few_115 ?_
      refine pd_iload C dX12_few_118 rfl ?_
      refine pd_ldc C wd_6_184 dX12_few_120 ?_
      obtain ⟨zg3, hF⟩ := pd_gd_some hF
      refine pd_iast C (pd_lt (by decide) hn) sh_125 zg3 dX12_few_122 ?_
      refine pd_memI (fun zI12 hzI12 => ?_)
      have hF := pd_let_at hF hzI12
      refine pd_iincG (zz := 1) C dX12_few_123 rfl (by decide) rfl (fun zv3 hzv3 => ?_)
      have hF := pd_let_at hF hzv3
      refine pd_lsE (ls' := [some (.ref 92), some (.int p0), none, some (.int p2), some (.int p3), some (.int zv1), some (.int zx4), some (.int zv3), none, none]) rfl ?_
      refine pd_goto (tgt := 107) C dX12_few_126 (by decide) ?_
      exact ih _ _ hF
def fl_X12_few_176 {O : Type} (p0 : Int32) (zx4 : Int32) (zx6 : Int32) (zx7 : Int32) (kont : pd_I → Option O) : Nat → Int32 → pd_I → Option O
  | 0, _, _ => none
  | fu + 1, zx8, zI16 => if 2 ≤ zx8 then kont zI16 else (pd_bd (pd_bd (if zx7 = (-1) then some true else (if zx7 = zx8 then some true else (some false))) fun zc4 => if zc4 = true then pd_bd (fn_X12_goes zI16 p0 zx4 zx6 zx8) fun zI19 => some zI19 else (some zI16)) fun (zI18 : pd_I) => pd_let (zx8 + 1) fun zv5 => fl_X12_few_176 p0 zx4 zx6 zx7 kont fu zv5 zI18)
set_option maxRecDepth 100000 in
set_option maxHeartbeats 4000000 in
theorem el_X12_few_176 {cx : pd_X} (C : pd_C cx "PathDecoderModel" cX12_few rm_X12_few) {p0 : Int32} {p2 : Int32} {p3 : Int32} {zv1 : Int32} {zx4 : Int32} {zx6 : Int32} {zx7 : Int32} {J : pd_J} {Z : pd_R} {n : Nat} (hn : 133 ≤ n)  {O : Type} {kont : pd_I → Option O} {out : O} (K : ∀ (zI17 : pd_I), kont zI17 = some out → pd_V cx 0 0 212 [some (.ref 92), some (.int p0), none, some (.int p2), some (.int p3), some (.int zv1), some (.int zx4), some (.int zx6), none, none] [] zI17 J (pd_RF Z) n) :
    ∀ (fu : Nat) (zx8 : Int32) (zI16 : pd_I), fl_X12_few_176 p0 zx4 zx6 zx7 kont fu zx8 zI16 = some out → pd_V cx 0 0 176 [some (.ref 92), some (.int p0), none, some (.int p2), some (.int p3), some (.int zv1), some (.int zx4), some (.int zx6), some (.int zx7), some (.int zx8)] [] zI16 J (pd_RF Z) n := by
  intro fu
  induction fu with
  | zero => intro zx8 zI16 hF; rw [fl_X12_few_176] at hF; cases hF
  | succ fu ih =>
    intro zx8 zI16 hF
    rw [fl_X12_few_176] at hF
    refine pd_iload C dX12_few_176 rfl ?_
    refine pd_iconst (v := 2) C dX12_few_178 (by decide) ?_
    refine pd_icmp_ge (tgt := 212) C dX12_few_179 (by decide) (fun zc7 => ?_) (fun zc7 => ?_)
    · have hF := pd_t zc7 hF
      refine pd_wk (ls' := [some (.ref 92), some (.int p0), none, some (.int p2), some (.int p3), some (.int zv1), some (.int zx4), some (.int zx6), none, none]) (And.intro rfl (And.intro rfl (And.intro rfl (And.intro rfl (And.intro rfl (And.intro rfl (And.intro rfl True.intro))))))) ?_
      exact K _ hF
    · have hF := pd_f zc7 hF
      refine pd_iload C dX12_few_182 rfl ?_
      refine pd_iconst (v := (-1)) C dX12_few_184 (by decide) ?_
      obtain ⟨zI18, hS, hF⟩ := pd_bd_some hF
      have hJ206 : pd_V cx 0 0 206 [some (.ref 92), some (.int p0), none, some (.int p2), some (.int p3), some (.int zv1), some (.int zx4), some (.int zx6), some (.int zx7), some (.int zx8)] [] zI18 J (pd_RF Z) n := by
        refine pd_iincG (zz := 1) C dX12_few_206 rfl (by decide) rfl (fun zv5 hzv5 => ?_)
        have hF := pd_let_at hF hzv5
        refine pd_lsE (ls' := [some (.ref 92), some (.int p0), none, some (.int p2), some (.int p3), some (.int zv1), some (.int zx4), some (.int zx6), some (.int zx7), some (.int zv5)]) rfl ?_
        refine pd_goto (tgt := 176) C dX12_few_209 (by decide) ?_
        exact ih _ _ hF
      replace hF := hS
      clear hS
      obtain ⟨zc4, hS, hF⟩ := pd_bd_some hF
      have hTzc4 : zc4 = true → pd_V cx 0 0 195 [some (.ref 92), some (.int p0), none, some (.int p2), some (.int p3), some (.int zv1), some (.int zx4), some (.int zx6), some (.int zx7), some (.int zx8)] [] zI16 J (pd_RF Z) n := by
        intro hc
        have hF := pd_t hc hF
        refine pd_aload_n C dX12_few_195 rfl rfl ?_
        refine pd_iload_n C dX12_few_196 rfl rfl ?_
        refine pd_iload C dX12_few_197 rfl ?_
        refine pd_iload C dX12_few_199 rfl ?_
        refine pd_iload C dX12_few_201 rfl ?_
        obtain ⟨zI19, zh5, hF⟩ := pd_bd_some hF
        refine pd_callV C [.int p0, .int zx4, .int zx6, .int zx8] [] (em_X12_goes (pd_C_st C) hn  zh5) mw_X12_goes wd_6_213 rfl (by decide) (pd_lt (by decide) hn) sh_92 ⟨by decide, by decide, by decide, by decide⟩ rfl (Nat.le_of_ble_eq_true rfl) pd_oldL_same (fun _ _ => pd_old_same _) dX12_few_203 (stk' := []) rfl ?_
        have hF := hF.symm
        cases hF
        exact hJ206
      have hEzc4 : zc4 = false → pd_V cx 0 0 206 [some (.ref 92), some (.int p0), none, some (.int p2), some (.int p3), some (.int zv1), some (.int zx4), some (.int zx6), some (.int zx7), some (.int zx8)] [] zI16 J (pd_RF Z) n := by
        intro hc
        have hF := pd_bf hc hF
        have hF := hF.symm
        cases hF
        exact hJ206
      replace hF := hS
      clear hS
      refine pd_icmp_eq (tgt := 195) C dX12_few_185 (by decide) (fun zc6 => ?_) (fun zc6 => ?_)
      · have hF := pd_t zc6 hF
        cases hF
        exact hTzc4 rfl
      · have hF := pd_f zc6 hF
        refine pd_iload C dX12_few_188 rfl ?_
        refine pd_iload C dX12_few_190 rfl ?_
        refine pd_icmp_ne (tgt := 206) C dX12_few_192 (by decide) (fun zc5 => ?_) (fun zc5 => ?_)
        · have hF := pd_f zc5 hF
          cases hF
          exact hEzc4 rfl
        · have hF := pd_t zc5 hF
          cases hF
          exact hTzc4 rfl
def fl_X12_few_132 {O : Type} (p0 : Int32) (p2 : Int32) (zv1 : Int32) (zx4 : Int32) (kont : pd_I → Option O) : Nat → Int32 → pd_I → Option O
  | 0, _, _ => none
  | fu + 1, zx6, zI13 => if zv1 ≤ zx6 then kont zI13 else (pd_gd (pd_in zx6 64) (pd_jn (fun (zI15 : pd_I) => pd_let (zx6 + 1) fun zv4 => fl_X12_few_132 p0 p2 zv1 zx4 kont fu zv4 zI15) fun zj2 => if (zI13 124 zx6.toNatClampNeg) = 1000000000 then zj2 zI13 else (pd_bd (if p2 ≤ zx4 then pd_bd (fn_X12_fed zI13 p0 zx6) fun zr4 => some zr4 else (some (-1))) fun (zx7 : Int32) => fl_X12_few_176 p0 zx4 zx6 zx7 (fun zI17 => zj2 zI17) pd_FU 0 zI13)))
set_option maxRecDepth 100000 in
set_option maxHeartbeats 4000000 in
theorem el_X12_few_132 {cx : pd_X} (C : pd_C cx "PathDecoderModel" cX12_few rm_X12_few) {p0 : Int32} {p2 : Int32} {p3 : Int32} {zv1 : Int32} {zx4 : Int32} {J : pd_J} {Z : pd_R} {n : Nat} (hn : 133 ≤ n)  {O : Type} {kont : pd_I → Option O} {out : O} (K : ∀ (zI14 : pd_I), kont zI14 = some out → pd_V cx 0 0 218 [some (.ref 92), some (.int p0), none, some (.int p2), some (.int p3), some (.int zv1), some (.int zx4), none, none, none] [] zI14 J (pd_RF Z) n) :
    ∀ (fu : Nat) (zx6 : Int32) (zI13 : pd_I), fl_X12_few_132 p0 p2 zv1 zx4 kont fu zx6 zI13 = some out → pd_V cx 0 0 132 [some (.ref 92), some (.int p0), none, some (.int p2), some (.int p3), some (.int zv1), some (.int zx4), some (.int zx6), none, none] [] zI13 J (pd_RF Z) n := by
  intro fu
  induction fu with
  | zero => intro zx6 zI13 hF; rw [fl_X12_few_132] at hF; cases hF
  | succ fu ih =>
    intro zx6 zI13 hF
    rw [fl_X12_few_132] at hF
    refine pd_iload C dX12_few_132 rfl ?_
    refine pd_iload C dX12_few_134 rfl ?_
    refine pd_icmp_ge (tgt := 218) C dX12_few_136 (by decide) (fun zc10 => ?_) (fun zc10 => ?_)
    · have hF := pd_t zc10 hF
      refine pd_wk (ls' := [some (.ref 92), some (.int p0), none, some (.int p2), some (.int p3), some (.int zv1), some (.int zx4), none, none, none]) (And.intro rfl (And.intro rfl (And.intro rfl (And.intro rfl (And.intro rfl (And.intro rfl True.intro)))))) ?_
      exact K _ hF
    · have hF := pd_f zc10 hF
      refine pd_aload_n C dX12_few_139 rfl rfl ?_
      refine gr_12_36 C wd_5_161 (pd_lt (by decide) hn) sh_92 (rf_92_36 _) dX12_few_140 ?_
      refine pd_iload C dX12_few_143 rfl ?_
      obtain ⟨zg4, hF⟩ := pd_gd_some hF
      refine pd_iald C (pd_lt (by decide) hn) sh_124 zg4 dX12_few_145 ?_
      refine pd_ldc C wd_6_184 dX12_few_146 ?_
      refine pd_jn_use hF (fun j => ∀ (zI15 : pd_I), j zI15 = some out → pd_V cx 0 0 212 [some (.ref 92), some (.int p0), none, some (.int p2), some (.int p3), some (.int zv1), some (.int zx4), some (.int zx6), none, none] [] zI15 J (pd_RF Z) n) (fun zI15 hF => ?_) (fun zj2 hzj2 hF => ?_)
      · refine pd_iincG (zz := 1) C dX12_few_212 rfl (by decide) rfl (fun zv4 hzv4 => ?_)
        have hF := pd_let_at hF hzv4
        refine pd_lsE (ls' := [some (.ref 92), some (.int p0), none, some (.int p2), some (.int p3), some (.int zv1), some (.int zx4), some (.int zv4), none, none]) rfl ?_
        refine pd_goto (tgt := 132) C dX12_few_215 (by decide) ?_
        exact ih _ _ hF
      · refine pd_icmp_ne (tgt := 154) C dX12_few_148 (by decide) (fun zc9 => ?_) (fun zc9 => ?_)
        · have hF := pd_f zc9 hF
          refine pd_iload C dX12_few_154 rfl ?_
          refine pd_iload_n C dX12_few_156 rfl rfl ?_
          obtain ⟨zx7, hS, hF⟩ := pd_bd_some hF
          have hJ171 : pd_V cx 0 0 171 [some (.ref 92), some (.int p0), none, some (.int p2), some (.int p3), some (.int zv1), some (.int zx4), some (.int zx6), none, none] [.int zx7] zI13 J (pd_RF Z) n := by
            refine pd_istore (ls' := [some (.ref 92), some (.int p0), none, some (.int p2), some (.int p3), some (.int zv1), some (.int zx4), some (.int zx6), some (.int zx7), none]) C dX12_few_171 (Nat.le_of_ble_eq_true rfl) rfl rfl ?_
            refine pd_iconst (v := 0) C dX12_few_173 (by decide) ?_
            refine pd_istore (ls' := [some (.ref 92), some (.int p0), none, some (.int p2), some (.int p3), some (.int zv1), some (.int zx4), some (.int zx6), some (.int zx7), some (.int 0)]) C dX12_few_174 (Nat.le_of_ble_eq_true rfl) rfl rfl ?_
            refine el_X12_few_176 C hn (fun zI17 hF => ?_) pd_FU _ _ hF
            exact hzj2 _ hF
          replace hF := hS
          clear hS
          refine pd_icmp_ge (tgt := 164) C dX12_few_157 (by decide) (fun zc8 => ?_) (fun zc8 => ?_)
          · have hF := pd_t zc8 hF
            refine pd_aload_n C dX12_few_164 rfl rfl ?_
            refine pd_iload_n C dX12_few_165 rfl rfl ?_
            refine pd_iload C dX12_few_166 rfl ?_
            obtain ⟨zr4, zh6, hF⟩ := pd_bd_some hF
            refine pd_callV C [.int p0, .int zx6] [] (em_X12_fed (pd_C_st C) hn  zh6) mw_X12_fed wd_6_113 rfl (by decide) (pd_lt (by decide) hn) sh_92 ⟨by decide, by decide, by decide, by decide⟩ rfl (Nat.le_of_ble_eq_true rfl) pd_oldL_same (fun _ _ => pd_old_same _) dX12_few_168 (stk' := [.int zr4]) rfl ?_
            have hF := hF.symm
            cases hF
            exact hJ171
          · have hF := pd_f zc8 hF
            refine pd_iconst (v := (-1)) C dX12_few_160 (by decide) ?_
            refine pd_goto (tgt := 171) C dX12_few_161 (by decide) ?_
            have hF := hF.symm
            cases hF
            exact hJ171
        · have hF := pd_t zc9 hF
          refine pd_goto (tgt := 212) C dX12_few_151 (by decide) ?_
          exact hzj2 _ hF
def fl_X12_few_93 {O : Type} (p0 : Int32) (p2 : Int32) (p3 : Int32) (zv1 : Int32) (kont : pd_I → Option O) : Nat → Int32 → pd_I → Option O
  | 0, _, _ => none
  | fu + 1, zx4, zI8 => pd_bd (fn_X12_steps zI8 p0 p2) fun zr3 => if zr3 ≤ zx4 then kont zI8 else (fl_X12_few_107 zv1 (fun zI11 => fl_X12_few_132 p0 p2 zv1 zx4 (fun zI14 => pd_bd (fn_X12_prunes zI14 zv1 p3) fun zI20 => pd_let (zx4 + 1) fun zv6 => fl_X12_few_93 p0 p2 p3 zv1 kont fu zv6 zI20) pd_FU 0 zI11) pd_FU 0 zI8)
set_option maxRecDepth 100000 in
set_option maxHeartbeats 4000000 in
theorem el_X12_few_93 {cx : pd_X} (C : pd_C cx "PathDecoderModel" cX12_few rm_X12_few) {p0 : Int32} {p2 : Int32} {p3 : Int32} {zv1 : Int32} {J : pd_J} {Z : pd_R} {n : Nat} (hn : 133 ≤ n)  {O : Type} {kont : pd_I → Option O} {out : O} (K : ∀ (zI9 : pd_I), kont zI9 = some out → pd_V cx 0 0 232 [some (.ref 92), some (.int p0), none, some (.int p2), none, some (.int zv1), none, none, none, none] [] zI9 J (pd_RF Z) n) :
    ∀ (fu : Nat) (zx4 : Int32) (zI8 : pd_I), fl_X12_few_93 p0 p2 p3 zv1 kont fu zx4 zI8 = some out → pd_V cx 0 0 93 [some (.ref 92), some (.int p0), none, some (.int p2), some (.int p3), some (.int zv1), some (.int zx4), none, none, none] [] zI8 J (pd_RF Z) n := by
  intro fu
  induction fu with
  | zero => intro zx4 zI8 hF; rw [fl_X12_few_93] at hF; cases hF
  | succ fu ih =>
    intro zx4 zI8 hF
    rw [fl_X12_few_93] at hF
    refine pd_iload C dX12_few_93 rfl ?_
    refine pd_aload_n C dX12_few_95 rfl rfl ?_
    refine pd_iload_n C dX12_few_96 rfl rfl ?_
    refine pd_iload_n C dX12_few_97 rfl rfl ?_
    obtain ⟨zr3, zh4, hF⟩ := pd_bd_some hF
    refine pd_callV C [.int p0, .int p2] [.int zx4] (em_X12_steps (pd_C_st C) hn  zh4) mw_X12_steps wd_6_128 rfl (by decide) (pd_lt (by decide) hn) sh_92 ⟨by decide, by decide, by decide, by decide⟩ rfl (Nat.le_of_ble_eq_true rfl) pd_oldL_same (fun _ _ => pd_old_same _) dX12_few_98 (stk' := [.int zr3, .int zx4]) rfl ?_
    refine pd_icmp_ge (tgt := 232) C dX12_few_101 (by decide) (fun zc11 => ?_) (fun zc11 => ?_)
    · have hF := pd_t zc11 hF
      refine pd_wk (ls' := [some (.ref 92), some (.int p0), none, some (.int p2), none, some (.int zv1), none, none, none, none]) (And.intro rfl (And.intro rfl (And.intro rfl (And.intro rfl True.intro)))) ?_
      exact K _ hF
    · have hF := pd_f zc11 hF
      refine pd_iconst (v := 0) C dX12_few_104 (by decide) ?_
      refine pd_istore (ls' := [some (.ref 92), some (.int p0), none, some (.int p2), some (.int p3), some (.int zv1), some (.int zx4), some (.int 0), none, none]) C dX12_few_105 (Nat.le_of_ble_eq_true rfl) rfl rfl ?_
      refine el_X12_few_107 C hn (fun zI11 hF => ?_) pd_FU _ _ hF
      refine pd_iconst (v := 0) C dX12_few_129 (by decide) ?_
      refine pd_istore (ls' := [some (.ref 92), some (.int p0), none, some (.int p2), some (.int p3), some (.int zv1), some (.int zx4), some (.int 0), none, none]) C dX12_few_130 (Nat.le_of_ble_eq_true rfl) rfl rfl ?_
      refine el_X12_few_132 C hn (fun zI14 hF => ?_) pd_FU _ _ hF
      refine pd_aload_n C dX12_few_218 rfl rfl ?_
      refine pd_iload C dX12_few_219 rfl ?_
      refine pd_iload C dX12_few_221 rfl ?_
      obtain ⟨zI20, zh7, hF⟩ := pd_bd_some hF
      refine pd_callV C [.int zv1, .int p3] [] (em_X12_prunes (pd_C_st C) hn  zh7) mw_X12_prunes wd_6_217 rfl (by decide) (pd_lt (by decide) hn) sh_92 ⟨by decide, by decide, by decide, by decide⟩ rfl (Nat.le_of_ble_eq_true rfl) pd_oldL_same (fun _ _ => pd_old_same _) dX12_few_223 (stk' := []) rfl ?_
      refine pd_iincG (zz := 1) C dX12_few_226 rfl (by decide) rfl (fun zv6 hzv6 => ?_)
      have hF := pd_let_at hF hzv6
      refine pd_lsE (ls' := [some (.ref 92), some (.int p0), none, some (.int p2), some (.int p3), some (.int zv1), some (.int zv6), none, none, none]) rfl ?_
      refine pd_goto (tgt := 93) C dX12_few_229 (by decide) ?_
      exact ih _ _ hF
def fl_X12_few_238 {O : Type} (zv1 : Int32) (zI9 : pd_I) (kont : Int32 → Option O) : Nat → Int32 → Int32 → Option O
  | 0, _, _ => none
  | fu + 1, zx9, zx10 => if zv1 ≤ zx10 then kont zx9 else (pd_gd (pd_in zx10 64) (pd_gd (pd_in zx9 64) (pd_bd (if (zI9 124 zx9.toNatClampNeg) ≤ (zI9 124 zx10.toNatClampNeg) then some zx9 else (some zx10)) fun (zx12 : Int32) => pd_let (zx10 + 1) fun zv7 => fl_X12_few_238 zv1 zI9 kont fu zx12 zv7)))
set_option maxRecDepth 100000 in
set_option maxHeartbeats 4000000 in
theorem el_X12_few_238 {cx : pd_X} (C : pd_C cx "PathDecoderModel" cX12_few rm_X12_few) {p0 : Int32} {p2 : Int32} {zv1 : Int32} {zI9 : pd_I} {J : pd_J} {Z : pd_R} {n : Nat} (hn : 133 ≤ n)  {O : Type} {kont : Int32 → Option O} {out : O} (K : ∀ (zx11 : Int32), kont zx11 = some out → pd_V cx 0 0 272 [some (.ref 92), some (.int p0), none, some (.int p2), none, none, some (.int zx11), none, none, none] [] zI9 J (pd_RF Z) n) :
    ∀ (fu : Nat) (zx9 : Int32) (zx10 : Int32), fl_X12_few_238 zv1 zI9 kont fu zx9 zx10 = some out → pd_V cx 0 0 238 [some (.ref 92), some (.int p0), none, some (.int p2), none, some (.int zv1), some (.int zx9), some (.int zx10), none, none] [] zI9 J (pd_RF Z) n := by
  intro fu
  induction fu with
  | zero => intro zx9 zx10 hF; rw [fl_X12_few_238] at hF; cases hF
  | succ fu ih =>
    intro zx9 zx10 hF
    rw [fl_X12_few_238] at hF
    refine pd_iload C dX12_few_238 rfl ?_
    refine pd_iload C dX12_few_240 rfl ?_
    refine pd_icmp_ge (tgt := 272) C dX12_few_242 (by decide) (fun zc13 => ?_) (fun zc13 => ?_)
    · have hF := pd_t zc13 hF
      refine pd_wk (ls' := [some (.ref 92), some (.int p0), none, some (.int p2), none, none, some (.int zx9), none, none, none]) (And.intro rfl (And.intro rfl (And.intro rfl (And.intro rfl True.intro)))) ?_
      exact K _ hF
    · have hF := pd_f zc13 hF
      refine pd_aload_n C dX12_few_245 rfl rfl ?_
      refine gr_12_36 C wd_5_161 (pd_lt (by decide) hn) sh_92 (rf_92_36 _) dX12_few_246 ?_
      refine pd_iload C dX12_few_249 rfl ?_
      obtain ⟨zg5, hF⟩ := pd_gd_some hF
      refine pd_iald C (pd_lt (by decide) hn) sh_124 zg5 dX12_few_251 ?_
      refine pd_aload_n C dX12_few_252 rfl rfl ?_
      refine gr_12_36 C wd_5_161 (pd_lt (by decide) hn) sh_92 (rf_92_36 _) dX12_few_253 ?_
      refine pd_iload C dX12_few_256 rfl ?_
      obtain ⟨zg6, hF⟩ := pd_gd_some hF
      refine pd_iald C (pd_lt (by decide) hn) sh_124 zg6 dX12_few_258 ?_
      obtain ⟨zx12, hS, hF⟩ := pd_bd_some hF
      have hJ266 : pd_V cx 0 0 266 [some (.ref 92), some (.int p0), none, some (.int p2), none, some (.int zv1), some (.int zx12), some (.int zx10), none, none] [] zI9 J (pd_RF Z) n := by
        refine pd_iincG (zz := 1) C dX12_few_266 rfl (by decide) rfl (fun zv7 hzv7 => ?_)
        have hF := pd_let_at hF hzv7
        refine pd_lsE (ls' := [some (.ref 92), some (.int p0), none, some (.int p2), none, some (.int zv1), some (.int zx12), some (.int zv7), none, none]) rfl ?_
        refine pd_goto (tgt := 238) C dX12_few_269 (by decide) ?_
        exact ih _ _ hF
      replace hF := hS
      clear hS
      refine pd_icmp_ge (tgt := 266) C dX12_few_259 (by decide) (fun zc12 => ?_) (fun zc12 => ?_)
      · have hF := pd_t zc12 hF
        have hF := hF.symm
        cases hF
        exact hJ266
      · have hF := pd_f zc12 hF
        refine pd_iload C dX12_few_262 rfl ?_
        refine pd_istore (ls' := [some (.ref 92), some (.int p0), none, some (.int p2), none, some (.int zv1), some (.int zx10), some (.int zx10), none, none]) C dX12_few_264 (Nat.le_of_ble_eq_true rfl) rfl rfl ?_
        have hF := hF.symm
        cases hF
        exact hJ266
def fl_X12_few_318 {O : Type} (p2 : Int32) (kont : pd_I → Option O) : Nat → Int32 → Int32 → pd_I → Option O
  | 0, _, _, _ => none
  | fu + 1, zx13, zx14, zI25 => if zx14 < 0 then kont zI25 else (pd_bd (if p2 ≤ zx14 then some zI25 else (pd_gd (pd_in ((64 * zx14) + zx13) 13184) (pd_gd (pd_in zx14 1600) (pd_let (pd_ui zI25 105 zx14.toNatClampNeg (zI25 127 ((64 * zx14) + zx13).toNatClampNeg)) fun zI28 => some zI28)))) fun (zI27 : pd_I) => pd_gd (pd_in ((64 * zx14) + zx13) 13184) (pd_let (zI27 126 ((64 * zx14) + zx13).toNatClampNeg) fun zv9 => pd_let (zx14 + (-1)) fun zv10 => fl_X12_few_318 p2 kont fu zv9 zv10 zI27))
set_option maxRecDepth 100000 in
set_option maxHeartbeats 4000000 in
theorem el_X12_few_318 {cx : pd_X} (C : pd_C cx "PathDecoderModel" cX12_few rm_X12_few) {p2 : Int32} {J : pd_J} {Z : pd_R} {n : Nat} (hn : 133 ≤ n)  {O : Type} {kont : pd_I → Option O} {out : O} (K : ∀ (zI26 : pd_I), kont zI26 = some out → pd_V cx 0 0 370 [some (.ref 92), none, none, none, none, none, none, none, none, none] [] zI26 J (pd_RF Z) n) :
    ∀ (fu : Nat) (zx13 : Int32) (zx14 : Int32) (zI25 : pd_I), fl_X12_few_318 p2 kont fu zx13 zx14 zI25 = some out → pd_V cx 0 0 318 [some (.ref 92), none, none, some (.int p2), none, none, none, some (.int zx13), some (.int zx14), none] [] zI25 J (pd_RF Z) n := by
  intro fu
  induction fu with
  | zero => intro zx13 zx14 zI25 hF; rw [fl_X12_few_318] at hF; cases hF
  | succ fu ih =>
    intro zx13 zx14 zI25 hF
    rw [fl_X12_few_318] at hF
    refine pd_iload C dX12_few_318 rfl ?_
    refine pd_if_lt (tgt := 370) C dX12_few_320 (by decide) (fun zc15 => ?_) (fun zc15 => ?_)
    · have hF := pd_t zc15 hF
      refine pd_wk (ls' := [some (.ref 92), none, none, none, none, none, none, none, none, none]) (And.intro rfl True.intro) ?_
      exact K _ hF
    · have hF := pd_f zc15 hF
      refine pd_iload C dX12_few_323 rfl ?_
      refine pd_iload_n C dX12_few_325 rfl rfl ?_
      obtain ⟨zI27, hS, hF⟩ := pd_bd_some hF
      have hJ349 : pd_V cx 0 0 349 [some (.ref 92), none, none, some (.int p2), none, none, none, some (.int zx13), some (.int zx14), none] [] zI27 J (pd_RF Z) n := by
        refine pd_aload_n C dX12_few_349 rfl rfl ?_
        refine gr_12_38 C wd_5_163 (pd_lt (by decide) hn) sh_92 (rf_92_38 _) dX12_few_350 ?_
        refine pd_bipush (v := 64) C dX12_few_353 (by decide) ?_
        refine pd_iload C dX12_few_355 rfl ?_
        refine pd_imul C dX12_few_357 ?_
        refine pd_iload C dX12_few_358 rfl ?_
        refine pd_iadd C dX12_few_360 ?_
        obtain ⟨zg11, hF⟩ := pd_gd_some hF
        refine pd_iald C (pd_lt (by decide) hn) sh_126 zg11 dX12_few_361 ?_
        refine pd_topi (fun zv9 hzv9 => ?_)
        have hF := pd_let_at hF hzv9
        refine pd_istore (ls' := [some (.ref 92), none, none, some (.int p2), none, none, none, some (.int zv9), some (.int zx14), none]) C dX12_few_362 (Nat.le_of_ble_eq_true rfl) rfl rfl ?_
        refine pd_iincG (zz := (-1)) C dX12_few_364 rfl (by decide) rfl (fun zv10 hzv10 => ?_)
        have hF := pd_let_at hF hzv10
        refine pd_lsE (ls' := [some (.ref 92), none, none, some (.int p2), none, none, none, some (.int zv9), some (.int zv10), none]) rfl ?_
        refine pd_goto (tgt := 318) C dX12_few_367 (by decide) ?_
        exact ih _ _ _ hF
      replace hF := hS
      clear hS
      refine pd_icmp_ge (tgt := 349) C dX12_few_326 (by decide) (fun zc14 => ?_) (fun zc14 => ?_)
      · have hF := pd_t zc14 hF
        have hF := hF.symm
        cases hF
        exact hJ349
      · have hF := pd_f zc14 hF
        refine pd_aload_n C dX12_few_329 rfl rfl ?_
        refine gr_12_15 C wd_5_140 (pd_lt (by decide) hn) sh_92 (rf_92_15 _) dX12_few_330 ?_
        refine pd_iload C dX12_few_333 rfl ?_
        refine pd_aload_n C dX12_few_335 rfl rfl ?_
        refine gr_12_39 C wd_5_164 (pd_lt (by decide) hn) sh_92 (rf_92_39 _) dX12_few_336 ?_
        refine pd_bipush (v := 64) C dX12_few_339 (by decide) ?_
        refine pd_iload C dX12_few_341 rfl ?_
        refine pd_imul C dX12_few_343 ?_
        refine pd_iload C dX12_few_344 rfl ?_
        refine pd_iadd C dX12_few_346 ?_
        obtain ⟨zg12, hF⟩ := pd_gd_some hF
        refine pd_iald C (pd_lt (by decide) hn) sh_127 zg12 dX12_few_347 ?_
        obtain ⟨zg13, hF⟩ := pd_gd_some hF
        refine pd_iast C (pd_lt (by decide) hn) sh_105 zg13 dX12_few_348 ?_
        refine pd_memI (fun zI28 hzI28 => ?_)
        have hF := pd_let_at hF hzI28
        have hF := hF.symm
        cases hF
        exact hJ349
def fn_X12_few (I : pd_I) (p0 : Int32) (p1 : Int32) (p2 : Int32) (p3 : Int32) : Option (Int32 × pd_I) := pd_bd2 (fn_X12_isDecoding I p0 p1 p2 0) fun zr1 zI1 => pd_jn (fun (zI2 : pd_I) => some (0, zI2)) fun zj1 => if zr1 = 0 then zj1 zI1 else (pd_bd (pd_bd (if p3 < 1 then some false else (if 64 < p3 then some false else (some true))) fun zc17 => if zc17 = true then some 1 else (some 0)) fun (zx1 : Int32) => pd_bd2 (fn_X12_right zI1 zx1 3) fun zr2 zI3 => if zr2 = 0 then zj1 zI3 else (pd_bd (fn_X12_costs zI3 p0 p1 p2) fun zI4 => pd_gd (pd_in p0 12) (pd_let ((1 : Int32) <<< ((zI4 98 p0.toNatClampNeg) &&& 31)) fun zv1 => fl_X12_few_59 zv1 (fun zI6 => fl_X12_few_93 p0 p2 p3 zv1 (fun zI9 => fl_X12_few_238 zv1 zI9 (fun zx11 => pd_let (pd_ui zI9 92 14 1) fun zI21 => pd_gd (pd_in zx11 64) (pd_gd (pd_in 0 8) (pd_let (pd_ui zI21 106 (0 : Int32).toNatClampNeg (zI21 124 zx11.toNatClampNeg)) fun zI22 => pd_gd (pd_in 0 8) (pd_let (pd_ui zI22 107 (0 : Int32).toNatClampNeg 0) fun zI23 => pd_gd (pd_in 0 8) (pd_let (pd_ui zI23 108 (0 : Int32).toNatClampNeg p2) fun zI24 => pd_bd (fn_X12_steps zI24 p0 p2) fun zr5 => pd_let (zr5 - 1) fun zv8 => fl_X12_few_318 p2 (fun zI26 => pd_gd (pd_in 0 8) (some ((zI26 106 (0 : Int32).toNatClampNeg), zI26))) pd_FU zx11 zv8 zI24))))) pd_FU 0 0) pd_FU 0 zI6) pd_FU 0 zI4)))
set_option maxRecDepth 100000 in
set_option maxHeartbeats 4000000 in
theorem em_X12_few {l : Launch} {D : va_G} {tc : Nat → ClassId} (hst : l.stackTraces = false) {I : pd_I} {J : pd_J} {Z : pd_R} {n : Nat} {p0 : Int32} {p1 : Int32} {p2 : Int32} {p3 : Int32} (hn : 133 ≤ n)  {out : Int32 × pd_I} (hF : fn_X12_few I p0 p1 p2 p3 = some out) :
    pd_M l D tc yX12_few (.code yX12_few cX12_few 10 (Option.some Jvm.ClassFile.FieldType.int)) rm_X12_few [.ref 92, .int p0, .int p1, .int p2, .int p3] I J (pd_RF Z) n (.ok (some (.int out.1))) out.2 J (pd_RF Z) n := by
  refine pd_open (own := "PathDecoderModel") (ls0 := [some (.ref 92), some (.int p0), some (.int p1), some (.int p2), some (.int p3), none, none, none, none, none]) (by decide) rfl (Nat.le_of_ble_eq_true rfl) rfl rfl hst (fun cx hl hD htc C hE htab hnm => ?_)
  subst hl hD htc
  unfold fn_X12_few at hF
  refine pd_aload_n C dX12_few_0 rfl rfl ?_
  refine pd_iload_n C dX12_few_1 rfl rfl ?_
  refine pd_iload_n C dX12_few_2 rfl rfl ?_
  refine pd_iload_n C dX12_few_3 rfl rfl ?_
  refine pd_iconst (v := 0) C dX12_few_4 (by decide) ?_
  obtain ⟨zr1, zI1, zh1, hF⟩ := pd_bd2_some hF
  refine pd_callV C [.int p0, .int p1, .int p2, .int 0] [] (em_X12_isDecoding (pd_C_st C) hn  zh1) mw_X12_isDecoding wd_6_164 rfl (by decide) (pd_lt (by decide) hn) sh_92 ⟨by decide, by decide, by decide, by decide⟩ rfl (Nat.le_of_ble_eq_true rfl) pd_oldL_same (fun _ _ => pd_old_same _) dX12_few_5 (stk' := [.int zr1]) rfl ?_
  refine pd_jn_use hF (fun j => ∀ (zI2 : pd_I), j zI2 = some out → pd_V cx 0 0 37 [none, none, none, none, none, none, none, none, none, none] [] zI2 J (pd_RF Z) n) (fun zI2 hF => ?_) (fun zj1 hzj1 hF => ?_)
  · refine pd_iconst (v := 0) C dX12_few_37 (by decide) ?_
    cases hF
    exact pd_iret C hE rfl rfl rfl ⟨by decide, by decide⟩ dX12_few_38
  · refine pd_if_eq (tgt := 37) C dX12_few_8 (by decide) (fun zc20 => ?_) (fun zc20 => ?_)
    · have hF := pd_t zc20 hF
      refine pd_wk (ls' := [none, none, none, none, none, none, none, none, none, none]) True.intro ?_
      exact hzj1 _ hF
    · have hF := pd_f zc20 hF
      refine pd_aload_n C dX12_few_11 rfl rfl ?_
      refine pd_iload C dX12_few_12 rfl ?_
      refine pd_iconst (v := 1) C dX12_few_14 (by decide) ?_
      obtain ⟨zx1, hS, hF⟩ := pd_bd_some hF
      have hJ30 : pd_V cx 0 0 30 [some (.ref 92), some (.int p0), some (.int p1), some (.int p2), some (.int p3), none, none, none, none, none] [.int zx1, .ref 92] zI1 J (pd_RF Z) n := by
        refine pd_iconst (v := 3) C dX12_few_30 (by decide) ?_
        obtain ⟨zr2, zI3, zh2, hF⟩ := pd_bd2_some hF
        refine pd_callV C [.int zx1, .int 3] [] (em_X12_right (pd_C_st C) hn  zh2) mw_X12_right wd_6_30 rfl (by decide) (pd_lt (by decide) hn) sh_92 ⟨by decide, by decide, by decide, by decide⟩ rfl (Nat.le_of_ble_eq_true rfl) pd_oldL_same (fun _ _ => pd_old_same _) dX12_few_31 (stk' := [.int zr2]) rfl ?_
        refine pd_if_ne (tgt := 39) C dX12_few_34 (by decide) (fun zc16 => ?_) (fun zc16 => ?_)
        · have hF := pd_f zc16 hF
          refine pd_aload_n C dX12_few_39 rfl rfl ?_
          refine pd_iload_n C dX12_few_40 rfl rfl ?_
          refine pd_iload_n C dX12_few_41 rfl rfl ?_
          refine pd_iload_n C dX12_few_42 rfl rfl ?_
          obtain ⟨zI4, zh3, hF⟩ := pd_bd_some hF
          refine pd_callV C [.int p0, .int p1, .int p2] [] (em_X12_costs (pd_C_st C) hn  zh3) mw_X12_costs wd_6_172 rfl (by decide) (pd_lt (by decide) hn) sh_92 ⟨by decide, by decide, by decide, by decide⟩ rfl (Nat.le_of_ble_eq_true rfl) pd_oldL_same (fun _ _ => pd_old_same _) dX12_few_43 (stk' := []) rfl ?_
          refine pd_iconst (v := 1) C dX12_few_46 (by decide) ?_
          refine pd_aload_n C dX12_few_47 rfl rfl ?_
          refine gr_12_7 C wd_5_132 (pd_lt (by decide) hn) sh_92 (rf_92_7 _) dX12_few_48 ?_
          refine pd_iload_n C dX12_few_51 rfl rfl ?_
          obtain ⟨zg1, hF⟩ := pd_gd_some hF
          refine pd_iald C (pd_lt (by decide) hn) sh_98 zg1 dX12_few_52 ?_
          refine pd_ishl C dX12_few_53 ?_
          refine pd_topi (fun zv1 hzv1 => ?_)
          have hF := pd_let_at hF hzv1
          refine pd_istore (ls' := [some (.ref 92), some (.int p0), some (.int p1), some (.int p2), some (.int p3), some (.int zv1), none, none, none, none]) C dX12_few_54 (Nat.le_of_ble_eq_true rfl) rfl rfl ?_
          refine pd_iconst (v := 0) C dX12_few_56 (by decide) ?_
          refine pd_istore (ls' := [some (.ref 92), some (.int p0), some (.int p1), some (.int p2), some (.int p3), some (.int zv1), some (.int 0), none, none, none]) C dX12_few_57 (Nat.le_of_ble_eq_true rfl) rfl rfl ?_
          refine pd_wk (ls' := [some (.ref 92), some (.int p0), none, some (.int p2), some (.int p3), some (.int zv1), some (.int 0), none, none, none]) (And.intro rfl (And.intro rfl (And.intro rfl (And.intro rfl (And.intro rfl (And.intro rfl True.intro)))))) ?_
          refine el_X12_few_59 C hn (fun zI6 hF => ?_) pd_FU _ _ hF
          refine pd_iconst (v := 0) C dX12_few_90 (by decide) ?_
          refine pd_istore (ls' := [some (.ref 92), some (.int p0), none, some (.int p2), some (.int p3), some (.int zv1), some (.int 0), none, none, none]) C dX12_few_91 (Nat.le_of_ble_eq_true rfl) rfl rfl ?_
          refine el_X12_few_93 C hn (fun zI9 hF => ?_) pd_FU _ _ hF
          refine pd_iconst (v := 0) C dX12_few_232 (by decide) ?_
          refine pd_istore (ls' := [some (.ref 92), some (.int p0), none, some (.int p2), none, some (.int zv1), some (.int 0), none, none, none]) C dX12_few_233 (Nat.le_of_ble_eq_true rfl) rfl rfl ?_
          refine pd_iconst (v := 0) C dX12_few_235 (by decide) ?_
          refine pd_istore (ls' := [some (.ref 92), some (.int p0), none, some (.int p2), none, some (.int zv1), some (.int 0), some (.int 0), none, none]) C dX12_few_236 (Nat.le_of_ble_eq_true rfl) rfl rfl ?_
          refine el_X12_few_238 C hn (fun zx11 hF => ?_) pd_FU _ _ hF
          refine pd_aload_n C dX12_few_272 rfl rfl ?_
          refine pd_iconst (v := 1) C dX12_few_273 (by decide) ?_
          refine pi_12_14 C wd_5_139 rfl rfl (pd_lt (by decide) hn) sh_92 dX12_few_274 ?_
          refine pd_memI (fun zI21 hzI21 => ?_)
          have hF := pd_let_at hF hzI21
          refine pd_aload_n C dX12_few_277 rfl rfl ?_
          refine gr_12_16 C wd_5_141 (pd_lt (by decide) hn) sh_92 (rf_92_16 _) dX12_few_278 ?_
          refine pd_iconst (v := 0) C dX12_few_281 (by decide) ?_
          refine pd_aload_n C dX12_few_282 rfl rfl ?_
          refine gr_12_36 C wd_5_161 (pd_lt (by decide) hn) sh_92 (rf_92_36 _) dX12_few_283 ?_
          refine pd_iload C dX12_few_286 rfl ?_
          obtain ⟨zg7, hF⟩ := pd_gd_some hF
          refine pd_iald C (pd_lt (by decide) hn) sh_124 zg7 dX12_few_288 ?_
          obtain ⟨zg8, hF⟩ := pd_gd_some hF
          refine pd_iast C (pd_lt (by decide) hn) sh_106 zg8 dX12_few_289 ?_
          refine pd_memI (fun zI22 hzI22 => ?_)
          have hF := pd_let_at hF hzI22
          refine pd_aload_n C dX12_few_290 rfl rfl ?_
          refine gr_12_17 C wd_5_142 (pd_lt (by decide) hn) sh_92 (rf_92_17 _) dX12_few_291 ?_
          refine pd_iconst (v := 0) C dX12_few_294 (by decide) ?_
          refine pd_iconst (v := 0) C dX12_few_295 (by decide) ?_
          obtain ⟨zg9, hF⟩ := pd_gd_some hF
          refine pd_iast C (pd_lt (by decide) hn) sh_107 zg9 dX12_few_296 ?_
          refine pd_memI (fun zI23 hzI23 => ?_)
          have hF := pd_let_at hF hzI23
          refine pd_aload_n C dX12_few_297 rfl rfl ?_
          refine gr_12_18 C wd_5_143 (pd_lt (by decide) hn) sh_92 (rf_92_18 _) dX12_few_298 ?_
          refine pd_iconst (v := 0) C dX12_few_301 (by decide) ?_
          refine pd_iload_n C dX12_few_302 rfl rfl ?_
          obtain ⟨zg10, hF⟩ := pd_gd_some hF
          refine pd_iast C (pd_lt (by decide) hn) sh_108 zg10 dX12_few_303 ?_
          refine pd_memI (fun zI24 hzI24 => ?_)
          have hF := pd_let_at hF hzI24
          refine pd_iload C dX12_few_304 rfl ?_
          refine pd_istore (ls' := [some (.ref 92), some (.int p0), none, some (.int p2), none, none, some (.int zx11), some (.int zx11), none, none]) C dX12_few_306 (Nat.le_of_ble_eq_true rfl) rfl rfl ?_
          refine pd_aload_n C dX12_few_308 rfl rfl ?_
          refine pd_iload_n C dX12_few_309 rfl rfl ?_
          refine pd_iload_n C dX12_few_310 rfl rfl ?_
          obtain ⟨zr5, zh8, hF⟩ := pd_bd_some hF
          refine pd_callV C [.int p0, .int p2] [] (em_X12_steps (pd_C_st C) hn  zh8) mw_X12_steps wd_6_128 rfl (by decide) (pd_lt (by decide) hn) sh_92 ⟨by decide, by decide, by decide, by decide⟩ rfl (Nat.le_of_ble_eq_true rfl) pd_oldL_same (fun _ _ => pd_old_same _) dX12_few_311 (stk' := [.int zr5]) rfl ?_
          refine pd_iconst (v := 1) C dX12_few_314 (by decide) ?_
          refine pd_isub C dX12_few_315 ?_
          refine pd_topi (fun zv8 hzv8 => ?_)
          have hF := pd_let_at hF hzv8
          refine pd_istore (ls' := [some (.ref 92), some (.int p0), none, some (.int p2), none, none, some (.int zx11), some (.int zx11), some (.int zv8), none]) C dX12_few_316 (Nat.le_of_ble_eq_true rfl) rfl rfl ?_
          refine pd_wk (ls' := [some (.ref 92), none, none, some (.int p2), none, none, none, some (.int zx11), some (.int zv8), none]) (And.intro rfl (And.intro rfl (And.intro rfl (And.intro rfl True.intro)))) ?_
          refine el_X12_few_318 C hn (fun zI26 hF => ?_) pd_FU _ _ _ hF
          refine pd_aload_n C dX12_few_370 rfl rfl ?_
          refine gr_12_16 C wd_5_141 (pd_lt (by decide) hn) sh_92 (rf_92_16 _) dX12_few_371 ?_
          refine pd_iconst (v := 0) C dX12_few_374 (by decide) ?_
          obtain ⟨zg14, hF⟩ := pd_gd_some hF
          refine pd_iald C (pd_lt (by decide) hn) sh_106 zg14 dX12_few_375 ?_
          cases hF
          exact pd_iret C hE rfl rfl rfl ⟨by decide, by decide⟩ dX12_few_376
        · have hF := pd_t zc16 hF
          refine pd_wk (ls' := [none, none, none, none, none, none, none, none, none, none]) True.intro ?_
          exact hzj1 _ hF
      replace hF := hS
      clear hS
      obtain ⟨zc17, hS, hF⟩ := pd_bd_some hF
      have hTzc17 : zc17 = true → pd_V cx 0 0 25 [some (.ref 92), some (.int p0), some (.int p1), some (.int p2), some (.int p3), none, none, none, none, none] [.ref 92] zI1 J (pd_RF Z) n := by
        intro hc
        have hF := pd_t hc hF
        refine pd_iconst (v := 1) C dX12_few_25 (by decide) ?_
        refine pd_goto (tgt := 30) C dX12_few_26 (by decide) ?_
        have hF := hF.symm
        cases hF
        exact hJ30
      have hEzc17 : zc17 = false → pd_V cx 0 0 29 [some (.ref 92), some (.int p0), some (.int p1), some (.int p2), some (.int p3), none, none, none, none, none] [.ref 92] zI1 J (pd_RF Z) n := by
        intro hc
        have hF := pd_bf hc hF
        refine pd_iconst (v := 0) C dX12_few_29 (by decide) ?_
        have hF := hF.symm
        cases hF
        exact hJ30
      replace hF := hS
      clear hS
      refine pd_icmp_lt (tgt := 29) C dX12_few_15 (by decide) (fun zc19 => ?_) (fun zc19 => ?_)
      · have hF := pd_t zc19 hF
        cases hF
        exact hEzc17 rfl
      · have hF := pd_f zc19 hF
        refine pd_iload C dX12_few_18 rfl ?_
        refine pd_bipush (v := 64) C dX12_few_20 (by decide) ?_
        refine pd_icmp_gt (tgt := 29) C dX12_few_22 (by decide) (fun zc18 => ?_) (fun zc18 => ?_)
        · have hF := pd_t zc18 hF
          cases hF
          exact hEzc17 rfl
        · have hF := pd_f zc18 hF
          cases hF
          exact hTzc17 rfl

def fl_X12_leasts_49 {O : Type} (p0 : Int32) (p1 : Int32) (p4 : Int32) (zI3 : pd_I) (kont : Int32 → Option O) : Nat → Int32 → Int32 → Int32 → Option O
  | 0, _, _, _ => none
  | fu + 1, zx3, zx4, zx5 => pd_bd (if p4 = 0 then some false else (pd_gd (pd_in p0 12) (if (p1 + (zI3 98 p0.toNatClampNeg)) ≤ zx5 then some false else (some true)))) fun zc1 => if zc1 = true then pd_bd (fn_X12_fed zI3 p0 zx4) fun zr1 => pd_gd (pd_in (((128 * zx5) + (2 * zx4)) + zr1) 26368) (pd_let (zx3 + (zI3 110 (((128 * zx5) + (2 * zx4)) + zr1).toNatClampNeg)) fun zv2 => pd_bd (fn_X12_next zI3 p0 zx4 zr1) fun zr2 => pd_let (zx5 + 1) fun zv3 => fl_X12_leasts_49 p0 p1 p4 zI3 kont fu zv2 zr2 zv3) else (kont zx3)
set_option maxRecDepth 100000 in
set_option maxHeartbeats 4000000 in
theorem el_X12_leasts_49 {cx : pd_X} (C : pd_C cx "PathDecoderModel" cX12_leasts rm_X12_leasts) {p0 : Int32} {p1 : Int32} {p2 : Int32} {p3 : Int32} {p4 : Int32} {zv1 : Int32} {zx1 : Int32} {zI3 : pd_I} {J : pd_J} {Z : pd_R} {n : Nat} (hn : 133 ≤ n)  {O : Type} {kont : Int32 → Option O} {out : O} (K : ∀ (zx6 : Int32), kont zx6 = some out → pd_V cx 0 0 117 [some (.ref 92), some (.int p0), some (.int p1), some (.int p2), some (.int p3), some (.int p4), some (.int zv1), some (.int zx1), some (.int zx6), none, none, none, none] [] zI3 J (pd_RF Z) n) :
    ∀ (fu : Nat) (zx3 : Int32) (zx4 : Int32) (zx5 : Int32), fl_X12_leasts_49 p0 p1 p4 zI3 kont fu zx3 zx4 zx5 = some out → pd_V cx 0 0 49 [some (.ref 92), some (.int p0), some (.int p1), some (.int p2), some (.int p3), some (.int p4), some (.int zv1), some (.int zx1), some (.int zx3), some (.int zx4), some (.int zx5), none, none] [] zI3 J (pd_RF Z) n := by
  intro fu
  induction fu with
  | zero => intro zx3 zx4 zx5 hF; rw [fl_X12_leasts_49] at hF; cases hF
  | succ fu ih =>
    intro zx3 zx4 zx5 hF
    rw [fl_X12_leasts_49] at hF
    refine pd_iload C dX12_leasts_49 rfl ?_
    obtain ⟨zc1, hS, hF⟩ := pd_bd_some hF
    have hTzc1 : zc1 = true → pd_V cx 0 0 67 [some (.ref 92), some (.int p0), some (.int p1), some (.int p2), some (.int p3), some (.int p4), some (.int zv1), some (.int zx1), some (.int zx3), some (.int zx4), some (.int zx5), none, none] [] zI3 J (pd_RF Z) n := by
      intro hc
      have hF := pd_t hc hF
      refine pd_aload_n C dX12_leasts_67 rfl rfl ?_
      refine pd_iload_n C dX12_leasts_68 rfl rfl ?_
      refine pd_iload C dX12_leasts_69 rfl ?_
      obtain ⟨zr1, zh1, hF⟩ := pd_bd_some hF
      refine pd_callV C [.int p0, .int zx4] [] (em_X12_fed (pd_C_st C) hn  zh1) mw_X12_fed wd_6_113 rfl (by decide) (pd_lt (by decide) hn) sh_92 ⟨by decide, by decide, by decide, by decide⟩ rfl (Nat.le_of_ble_eq_true rfl) pd_oldL_same (fun _ _ => pd_old_same _) dX12_leasts_71 (stk' := [.int zr1]) rfl ?_
      refine pd_istore (ls' := [some (.ref 92), some (.int p0), some (.int p1), some (.int p2), some (.int p3), some (.int p4), some (.int zv1), some (.int zx1), some (.int zx3), some (.int zx4), some (.int zx5), some (.int zr1), none]) C dX12_leasts_74 (Nat.le_of_ble_eq_true rfl) rfl rfl ?_
      refine pd_iload C dX12_leasts_76 rfl ?_
      refine pd_aload_n C dX12_leasts_78 rfl rfl ?_
      refine gr_12_22 C wd_5_147 (pd_lt (by decide) hn) sh_92 (rf_92_22 _) dX12_leasts_79 ?_
      refine pd_sipush (v := 128) C dX12_leasts_82 (by decide) ?_
      refine pd_iload C dX12_leasts_85 rfl ?_
      refine pd_imul C dX12_leasts_87 ?_
      refine pd_iconst (v := 2) C dX12_leasts_88 (by decide) ?_
      refine pd_iload C dX12_leasts_89 rfl ?_
      refine pd_imul C dX12_leasts_91 ?_
      refine pd_iadd C dX12_leasts_92 ?_
      refine pd_iload C dX12_leasts_93 rfl ?_
      refine pd_iadd C dX12_leasts_95 ?_
      obtain ⟨zg3, hF⟩ := pd_gd_some hF
      refine pd_iald C (pd_lt (by decide) hn) sh_110 zg3 dX12_leasts_96 ?_
      refine pd_iadd C dX12_leasts_97 ?_
      refine pd_topi (fun zv2 hzv2 => ?_)
      have hF := pd_let_at hF hzv2
      refine pd_istore (ls' := [some (.ref 92), some (.int p0), some (.int p1), some (.int p2), some (.int p3), some (.int p4), some (.int zv1), some (.int zx1), some (.int zv2), some (.int zx4), some (.int zx5), some (.int zr1), none]) C dX12_leasts_98 (Nat.le_of_ble_eq_true rfl) rfl rfl ?_
      refine pd_aload_n C dX12_leasts_100 rfl rfl ?_
      refine pd_iload_n C dX12_leasts_101 rfl rfl ?_
      refine pd_iload C dX12_leasts_102 rfl ?_
      refine pd_iload C dX12_leasts_104 rfl ?_
      obtain ⟨zr2, zh2, hF⟩ := pd_bd_some hF
      refine pd_callV C [.int p0, .int zx4, .int zr1] [] (em_X12_next (pd_C_st C) hn  zh2) mw_X12_next wd_6_109 rfl (by decide) (pd_lt (by decide) hn) sh_92 ⟨by decide, by decide, by decide, by decide⟩ rfl (Nat.le_of_ble_eq_true rfl) pd_oldL_same (fun _ _ => pd_old_same _) dX12_leasts_106 (stk' := [.int zr2]) rfl ?_
      refine pd_istore (ls' := [some (.ref 92), some (.int p0), some (.int p1), some (.int p2), some (.int p3), some (.int p4), some (.int zv1), some (.int zx1), some (.int zv2), some (.int zr2), some (.int zx5), some (.int zr1), none]) C dX12_leasts_109 (Nat.le_of_ble_eq_true rfl) rfl rfl ?_
      refine pd_iincG (zz := 1) C dX12_leasts_111 rfl (by decide) rfl (fun zv3 hzv3 => ?_)
      have hF := pd_let_at hF hzv3
      refine pd_lsE (ls' := [some (.ref 92), some (.int p0), some (.int p1), some (.int p2), some (.int p3), some (.int p4), some (.int zv1), some (.int zx1), some (.int zv2), some (.int zr2), some (.int zv3), some (.int zr1), none]) rfl ?_
      refine pd_goto (tgt := 49) C dX12_leasts_114 (by decide) ?_
      refine pd_wk (ls' := [some (.ref 92), some (.int p0), some (.int p1), some (.int p2), some (.int p3), some (.int p4), some (.int zv1), some (.int zx1), some (.int zv2), some (.int zr2), some (.int zv3), none, none]) (And.intro rfl (And.intro rfl (And.intro rfl (And.intro rfl (And.intro rfl (And.intro rfl (And.intro rfl (And.intro rfl (And.intro rfl (And.intro rfl (And.intro rfl True.intro))))))))))) ?_
      exact ih _ _ _ hF
    have hEzc1 : zc1 = false → pd_V cx 0 0 117 [some (.ref 92), some (.int p0), some (.int p1), some (.int p2), some (.int p3), some (.int p4), some (.int zv1), some (.int zx1), some (.int zx3), some (.int zx4), some (.int zx5), none, none] [] zI3 J (pd_RF Z) n := by
      intro hc
      have hF := pd_bf hc hF
      refine pd_wk (ls' := [some (.ref 92), some (.int p0), some (.int p1), some (.int p2), some (.int p3), some (.int p4), some (.int zv1), some (.int zx1), some (.int zx3), none, none, none, none]) (And.intro rfl (And.intro rfl (And.intro rfl (And.intro rfl (And.intro rfl (And.intro rfl (And.intro rfl (And.intro rfl (And.intro rfl True.intro))))))))) ?_
      exact K _ hF
    replace hF := hS
    clear hS
    refine pd_if_eq (tgt := 117) C dX12_leasts_51 (by decide) (fun zc3 => ?_) (fun zc3 => ?_)
    · have hF := pd_t zc3 hF
      cases hF
      exact hEzc1 rfl
    · have hF := pd_f zc3 hF
      refine pd_iload C dX12_leasts_54 rfl ?_
      refine pd_iload_n C dX12_leasts_56 rfl rfl ?_
      refine pd_aload_n C dX12_leasts_57 rfl rfl ?_
      refine gr_12_7 C wd_5_132 (pd_lt (by decide) hn) sh_92 (rf_92_7 _) dX12_leasts_58 ?_
      refine pd_iload_n C dX12_leasts_61 rfl rfl ?_
      obtain ⟨zg4, hF⟩ := pd_gd_some hF
      refine pd_iald C (pd_lt (by decide) hn) sh_98 zg4 dX12_leasts_62 ?_
      refine pd_iadd C dX12_leasts_63 ?_
      refine pd_icmp_ge (tgt := 117) C dX12_leasts_64 (by decide) (fun zc2 => ?_) (fun zc2 => ?_)
      · have hF := pd_t zc2 hF
        cases hF
        exact hEzc1 rfl
      · have hF := pd_f zc2 hF
        cases hF
        exact hTzc1 rfl
def fl_X12_leasts_13 {O : Type} (p0 : Int32) (p1 : Int32) (p2 : Int32) (p3 : Int32) (p4 : Int32) (zv1 : Int32) (kont : pd_I → Option O) : Nat → Int32 → pd_I → Option O
  | 0, _, _ => none
  | fu + 1, zx1, zI1 => if zv1 ≤ zx1 then kont zI1 else (pd_bd (if zx1 = p2 then some 0 else (some 1000000000)) fun (zx2 : Int32) => pd_gd (pd_in zx1 13184) (pd_let (pd_ui zI1 115 zx1.toNatClampNeg zx2) fun zI3 => fl_X12_leasts_49 p0 p1 p4 zI3 (fun zx6 => pd_bd (pd_bd (if p3 = 0 then some false else (if zx1 = p2 then some false else (some true))) fun zc4 => if zc4 = true then some 1000000000 else (some zx6)) fun (zx7 : Int32) => pd_gd (pd_in ((64 * p1) + zx1) 13184) (pd_let (pd_ui zI3 116 ((64 * p1) + zx1).toNatClampNeg zx7) fun zI4 => pd_let (zx1 + 1) fun zv4 => fl_X12_leasts_13 p0 p1 p2 p3 p4 zv1 kont fu zv4 zI4)) pd_FU 0 zx1 p1))
set_option maxRecDepth 100000 in
set_option maxHeartbeats 4000000 in
theorem el_X12_leasts_13 {cx : pd_X} (C : pd_C cx "PathDecoderModel" cX12_leasts rm_X12_leasts) {p0 : Int32} {p1 : Int32} {p2 : Int32} {p3 : Int32} {p4 : Int32} {zv1 : Int32} {J : pd_J} {Z : pd_R} {n : Nat} (hn : 133 ≤ n)  {O : Type} {kont : pd_I → Option O} {out : O} (K : ∀ (zI2 : pd_I), kont zI2 = some out → pd_V cx 0 0 153 [some (.ref 92), some (.int p0), some (.int p1), none, none, none, some (.int zv1), none, none, none, none, none, none] [] zI2 J (pd_RF Z) n) :
    ∀ (fu : Nat) (zx1 : Int32) (zI1 : pd_I), fl_X12_leasts_13 p0 p1 p2 p3 p4 zv1 kont fu zx1 zI1 = some out → pd_V cx 0 0 13 [some (.ref 92), some (.int p0), some (.int p1), some (.int p2), some (.int p3), some (.int p4), some (.int zv1), some (.int zx1), none, none, none, none, none] [] zI1 J (pd_RF Z) n := by
  intro fu
  induction fu with
  | zero => intro zx1 zI1 hF; rw [fl_X12_leasts_13] at hF; cases hF
  | succ fu ih =>
    intro zx1 zI1 hF
    rw [fl_X12_leasts_13] at hF
    refine pd_iload C dX12_leasts_13 rfl ?_
    refine pd_iload C dX12_leasts_15 rfl ?_
    refine pd_icmp_ge (tgt := 153) C dX12_leasts_17 (by decide) (fun zc8 => ?_) (fun zc8 => ?_)
    · have hF := pd_t zc8 hF
      refine pd_wk (ls' := [some (.ref 92), some (.int p0), some (.int p1), none, none, none, some (.int zv1), none, none, none, none, none, none]) (And.intro rfl (And.intro rfl (And.intro rfl (And.intro rfl True.intro)))) ?_
      exact K _ hF
    · have hF := pd_f zc8 hF
      refine pd_aload_n C dX12_leasts_20 rfl rfl ?_
      refine gr_12_27 C wd_5_152 (pd_lt (by decide) hn) sh_92 (rf_92_27 _) dX12_leasts_21 ?_
      refine pd_iload C dX12_leasts_24 rfl ?_
      refine pd_iload C dX12_leasts_26 rfl ?_
      refine pd_iload_n C dX12_leasts_28 rfl rfl ?_
      obtain ⟨zx2, hS, hF⟩ := pd_bd_some hF
      have hJ38 : pd_V cx 0 0 38 [some (.ref 92), some (.int p0), some (.int p1), some (.int p2), some (.int p3), some (.int p4), some (.int zv1), some (.int zx1), none, none, none, none, none] [.int zx2, .int zx1, .ref 115] zI1 J (pd_RF Z) n := by
        obtain ⟨zg2, hF⟩ := pd_gd_some hF
        refine pd_iast C (pd_lt (by decide) hn) sh_115 zg2 dX12_leasts_38 ?_
        refine pd_memI (fun zI3 hzI3 => ?_)
        have hF := pd_let_at hF hzI3
        refine pd_iconst (v := 0) C dX12_leasts_39 (by decide) ?_
        refine pd_istore (ls' := [some (.ref 92), some (.int p0), some (.int p1), some (.int p2), some (.int p3), some (.int p4), some (.int zv1), some (.int zx1), some (.int 0), none, none, none, none]) C dX12_leasts_40 (Nat.le_of_ble_eq_true rfl) rfl rfl ?_
        refine pd_iload C dX12_leasts_42 rfl ?_
        refine pd_istore (ls' := [some (.ref 92), some (.int p0), some (.int p1), some (.int p2), some (.int p3), some (.int p4), some (.int zv1), some (.int zx1), some (.int 0), some (.int zx1), none, none, none]) C dX12_leasts_44 (Nat.le_of_ble_eq_true rfl) rfl rfl ?_
        refine pd_iload_n C dX12_leasts_46 rfl rfl ?_
        refine pd_istore (ls' := [some (.ref 92), some (.int p0), some (.int p1), some (.int p2), some (.int p3), some (.int p4), some (.int zv1), some (.int zx1), some (.int 0), some (.int zx1), some (.int p1), none, none]) C dX12_leasts_47 (Nat.le_of_ble_eq_true rfl) rfl rfl ?_
        refine el_X12_leasts_49 C hn (fun zx6 hF => ?_) pd_FU _ _ _ hF
        refine pd_aload_n C dX12_leasts_117 rfl rfl ?_
        refine gr_12_28 C wd_5_153 (pd_lt (by decide) hn) sh_92 (rf_92_28 _) dX12_leasts_118 ?_
        refine pd_bipush (v := 64) C dX12_leasts_121 (by decide) ?_
        refine pd_iload_n C dX12_leasts_123 rfl rfl ?_
        refine pd_imul C dX12_leasts_124 ?_
        refine pd_iload C dX12_leasts_125 rfl ?_
        refine pd_iadd C dX12_leasts_127 ?_
        refine pd_iload C dX12_leasts_128 rfl ?_
        obtain ⟨zx7, hS, hF⟩ := pd_bd_some hF
        have hJ146 : pd_V cx 0 0 146 [some (.ref 92), some (.int p0), some (.int p1), some (.int p2), some (.int p3), some (.int p4), some (.int zv1), some (.int zx1), none, none, none, none, none] [.int zx7, .int ((64 * p1) + zx1), .ref 116] zI3 J (pd_RF Z) n := by
          obtain ⟨zg5, hF⟩ := pd_gd_some hF
          refine pd_iast C (pd_lt (by decide) hn) sh_116 zg5 dX12_leasts_146 ?_
          refine pd_memI (fun zI4 hzI4 => ?_)
          have hF := pd_let_at hF hzI4
          refine pd_iincG (zz := 1) C dX12_leasts_147 rfl (by decide) rfl (fun zv4 hzv4 => ?_)
          have hF := pd_let_at hF hzv4
          refine pd_lsE (ls' := [some (.ref 92), some (.int p0), some (.int p1), some (.int p2), some (.int p3), some (.int p4), some (.int zv1), some (.int zv4), none, none, none, none, none]) rfl ?_
          refine pd_goto (tgt := 13) C dX12_leasts_150 (by decide) ?_
          exact ih _ _ hF
        replace hF := hS
        clear hS
        obtain ⟨zc4, hS, hF⟩ := pd_bd_some hF
        have hTzc4 : zc4 = true → pd_V cx 0 0 139 [some (.ref 92), some (.int p0), some (.int p1), some (.int p2), some (.int p3), some (.int p4), some (.int zv1), some (.int zx1), some (.int zx6), none, none, none, none] [.int ((64 * p1) + zx1), .ref 116] zI3 J (pd_RF Z) n := by
          intro hc
          have hF := pd_t hc hF
          refine pd_ldc C wd_6_184 dX12_leasts_139 ?_
          refine pd_goto (tgt := 146) C dX12_leasts_141 (by decide) ?_
          refine pd_wk (ls' := [some (.ref 92), some (.int p0), some (.int p1), some (.int p2), some (.int p3), some (.int p4), some (.int zv1), some (.int zx1), none, none, none, none, none]) (And.intro rfl (And.intro rfl (And.intro rfl (And.intro rfl (And.intro rfl (And.intro rfl (And.intro rfl (And.intro rfl True.intro)))))))) ?_
          have hF := hF.symm
          cases hF
          exact hJ146
        have hEzc4 : zc4 = false → pd_V cx 0 0 144 [some (.ref 92), some (.int p0), some (.int p1), some (.int p2), some (.int p3), some (.int p4), some (.int zv1), some (.int zx1), some (.int zx6), none, none, none, none] [.int ((64 * p1) + zx1), .ref 116] zI3 J (pd_RF Z) n := by
          intro hc
          have hF := pd_bf hc hF
          refine pd_iload C dX12_leasts_144 rfl ?_
          refine pd_wk (ls' := [some (.ref 92), some (.int p0), some (.int p1), some (.int p2), some (.int p3), some (.int p4), some (.int zv1), some (.int zx1), none, none, none, none, none]) (And.intro rfl (And.intro rfl (And.intro rfl (And.intro rfl (And.intro rfl (And.intro rfl (And.intro rfl (And.intro rfl True.intro)))))))) ?_
          have hF := hF.symm
          cases hF
          exact hJ146
        replace hF := hS
        clear hS
        refine pd_if_eq (tgt := 144) C dX12_leasts_130 (by decide) (fun zc6 => ?_) (fun zc6 => ?_)
        · have hF := pd_t zc6 hF
          cases hF
          exact hEzc4 rfl
        · have hF := pd_f zc6 hF
          refine pd_iload C dX12_leasts_133 rfl ?_
          refine pd_iload_n C dX12_leasts_135 rfl rfl ?_
          refine pd_icmp_eq (tgt := 144) C dX12_leasts_136 (by decide) (fun zc5 => ?_) (fun zc5 => ?_)
          · have hF := pd_t zc5 hF
            cases hF
            exact hEzc4 rfl
          · have hF := pd_f zc5 hF
            cases hF
            exact hTzc4 rfl
      replace hF := hS
      clear hS
      refine pd_icmp_ne (tgt := 36) C dX12_leasts_29 (by decide) (fun zc7 => ?_) (fun zc7 => ?_)
      · have hF := pd_f zc7 hF
        refine pd_ldc C wd_6_184 dX12_leasts_36 ?_
        have hF := hF.symm
        cases hF
        exact hJ38
      · have hF := pd_t zc7 hF
        refine pd_iconst (v := 0) C dX12_leasts_32 (by decide) ?_
        refine pd_goto (tgt := 38) C dX12_leasts_33 (by decide) ?_
        have hF := hF.symm
        cases hF
        exact hJ38
def fl_X12_leasts_165 {O : Type} (zv1 : Int32) (zx8 : Int32) (kont : pd_I → Option O) : Nat → Int32 → pd_I → Option O
  | 0, _, _ => none
  | fu + 1, zx9, zI7 => if zv1 ≤ zx9 then kont zI7 else (pd_gd (pd_in ((64 * (zx8 + 1)) + zx9) 13184) (pd_let (pd_ui zI7 115 ((64 * (zx8 + 1)) + zx9).toNatClampNeg 1000000000) fun zI9 => pd_let (zx9 + 1) fun zv5 => fl_X12_leasts_165 zv1 zx8 kont fu zv5 zI9))
set_option maxRecDepth 100000 in
set_option maxHeartbeats 4000000 in
theorem el_X12_leasts_165 {cx : pd_X} (C : pd_C cx "PathDecoderModel" cX12_leasts rm_X12_leasts) {p0 : Int32} {p1 : Int32} {zv1 : Int32} {zx8 : Int32} {J : pd_J} {Z : pd_R} {n : Nat} (hn : 133 ≤ n)  {O : Type} {kont : pd_I → Option O} {out : O} (K : ∀ (zI8 : pd_I), kont zI8 = some out → pd_V cx 0 0 195 [some (.ref 92), some (.int p0), some (.int p1), none, none, none, some (.int zv1), some (.int zx8), none, none, none, none, none] [] zI8 J (pd_RF Z) n) :
    ∀ (fu : Nat) (zx9 : Int32) (zI7 : pd_I), fl_X12_leasts_165 zv1 zx8 kont fu zx9 zI7 = some out → pd_V cx 0 0 165 [some (.ref 92), some (.int p0), some (.int p1), none, none, none, some (.int zv1), some (.int zx8), some (.int zx9), none, none, none, none] [] zI7 J (pd_RF Z) n := by
  intro fu
  induction fu with
  | zero => intro zx9 zI7 hF; rw [fl_X12_leasts_165] at hF; cases hF
  | succ fu ih =>
    intro zx9 zI7 hF
    rw [fl_X12_leasts_165] at hF
    refine pd_iload C dX12_leasts_165 rfl ?_
    refine pd_iload C dX12_leasts_167 rfl ?_
    refine pd_icmp_ge (tgt := 195) C dX12_leasts_169 (by decide) (fun zc9 => ?_) (fun zc9 => ?_)
    · have hF := pd_t zc9 hF
      refine pd_wk (ls' := [some (.ref 92), some (.int p0), some (.int p1), none, none, none, some (.int zv1), some (.int zx8), none, none, none, none, none]) (And.intro rfl (And.intro rfl (And.intro rfl (And.intro rfl (And.intro rfl True.intro))))) ?_
      exact K _ hF
    · have hF := pd_f zc9 hF
      refine pd_aload_n C dX12_leasts_172 rfl rfl ?_
      refine gr_12_27 C wd_5_152 (pd_lt (by decide) hn) sh_92 (rf_92_27 _) dX12_leasts_173 ?_
      refine pd_bipush (v := 64) C dX12_leasts_176 (by decide) ?_
      refine pd_iload C dX12_leasts_178 rfl ?_
      refine pd_iconst (v := 1) C dX12_leasts_180 (by decide) ?_
      refine pd_iadd C dX12_leasts_181 ?_
      refine pd_imul C dX12_leasts_182 ?_
      refine pd_iload C dX12_leasts_183 rfl ?_
      refine pd_iadd C dX12_leasts_185 ?_
      refine pd_ldc C wd_6_184 dX12_leasts_186 ?_
      obtain ⟨zg6, hF⟩ := pd_gd_some hF
      refine pd_iast C (pd_lt (by decide) hn) sh_115 zg6 dX12_leasts_188 ?_
      refine pd_memI (fun zI9 hzI9 => ?_)
      have hF := pd_let_at hF hzI9
      refine pd_iincG (zz := 1) C dX12_leasts_189 rfl (by decide) rfl (fun zv5 hzv5 => ?_)
      have hF := pd_let_at hF hzv5
      refine pd_lsE (ls' := [some (.ref 92), some (.int p0), some (.int p1), none, none, none, some (.int zv1), some (.int zx8), some (.int zv5), none, none, none, none]) rfl ?_
      refine pd_goto (tgt := 165) C dX12_leasts_192 (by decide) ?_
      exact ih _ _ hF
def fl_X12_leasts_229 {O : Type} (p0 : Int32) (zx8 : Int32) (zx10 : Int32) (kont : pd_I → Option O) : Nat → Int32 → pd_I → Option O
  | 0, _, _ => none
  | fu + 1, zx11, zI13 => if 2 ≤ zx11 then kont zI13 else (pd_bd (fn_X12_next zI13 p0 zx10 zx11) fun zr3 => pd_let ((64 * (zx8 + 1)) + zr3) fun zv7 => pd_gd (pd_in zv7 13184) (pd_gd (pd_in ((64 * zx8) + zx10) 13184) (pd_gd (pd_in (((128 * zx8) + (2 * zx10)) + zx11) 26368) (pd_gd (pd_in zv7 13184) (pd_let (pd_ui zI13 115 zv7.toNatClampNeg (pd_min (zI13 115 zv7.toNatClampNeg) ((zI13 115 ((64 * zx8) + zx10).toNatClampNeg) + (zI13 110 (((128 * zx8) + (2 * zx10)) + zx11).toNatClampNeg)))) fun zI15 => pd_let (zx11 + 1) fun zv8 => fl_X12_leasts_229 p0 zx8 zx10 kont fu zv8 zI15)))))
set_option maxRecDepth 100000 in
set_option maxHeartbeats 4000000 in
theorem el_X12_leasts_229 {cx : pd_X} (C : pd_C cx "PathDecoderModel" cX12_leasts rm_X12_leasts) {p0 : Int32} {p1 : Int32} {zv1 : Int32} {zx8 : Int32} {zx10 : Int32} {J : pd_J} {Z : pd_R} {n : Nat} (hn : 133 ≤ n)  {O : Type} {kont : pd_I → Option O} {out : O} (K : ∀ (zI14 : pd_I), kont zI14 = some out → pd_V cx 0 0 310 [some (.ref 92), some (.int p0), some (.int p1), none, none, none, some (.int zv1), some (.int zx8), some (.int zx10), none, none, none, none] [] zI14 J (pd_RF Z) n) :
    ∀ (fu : Nat) (zx11 : Int32) (zI13 : pd_I), fl_X12_leasts_229 p0 zx8 zx10 kont fu zx11 zI13 = some out → pd_V cx 0 0 229 [some (.ref 92), some (.int p0), some (.int p1), none, none, none, some (.int zv1), some (.int zx8), some (.int zx10), some (.int zx11), none, none, none] [] zI13 J (pd_RF Z) n := by
  intro fu
  induction fu with
  | zero => intro zx11 zI13 hF; rw [fl_X12_leasts_229] at hF; cases hF
  | succ fu ih =>
    intro zx11 zI13 hF
    rw [fl_X12_leasts_229] at hF
    refine pd_iload C dX12_leasts_229 rfl ?_
    refine pd_iconst (v := 2) C dX12_leasts_231 (by decide) ?_
    refine pd_icmp_ge (tgt := 310) C dX12_leasts_232 (by decide) (fun zc10 => ?_) (fun zc10 => ?_)
    · have hF := pd_t zc10 hF
      refine pd_wk (ls' := [some (.ref 92), some (.int p0), some (.int p1), none, none, none, some (.int zv1), some (.int zx8), some (.int zx10), none, none, none, none]) (And.intro rfl (And.intro rfl (And.intro rfl (And.intro rfl (And.intro rfl (And.intro rfl True.intro)))))) ?_
      exact K _ hF
    · have hF := pd_f zc10 hF
      refine pd_bipush (v := 64) C dX12_leasts_235 (by decide) ?_
      refine pd_iload C dX12_leasts_237 rfl ?_
      refine pd_iconst (v := 1) C dX12_leasts_239 (by decide) ?_
      refine pd_iadd C dX12_leasts_240 ?_
      refine pd_imul C dX12_leasts_241 ?_
      refine pd_aload_n C dX12_leasts_242 rfl rfl ?_
      refine pd_iload_n C dX12_leasts_243 rfl rfl ?_
      refine pd_iload C dX12_leasts_244 rfl ?_
      refine pd_iload C dX12_leasts_246 rfl ?_
      obtain ⟨zr3, zh3, hF⟩ := pd_bd_some hF
      refine pd_callV C [.int p0, .int zx10, .int zx11] [.int (64 * (zx8 + 1))] (em_X12_next (pd_C_st C) hn  zh3) mw_X12_next wd_6_109 rfl (by decide) (pd_lt (by decide) hn) sh_92 ⟨by decide, by decide, by decide, by decide⟩ rfl (Nat.le_of_ble_eq_true rfl) pd_oldL_same (fun _ _ => pd_old_same _) dX12_leasts_248 (stk' := [.int zr3, .int (64 * (zx8 + 1))]) rfl ?_
      refine pd_iadd C dX12_leasts_251 ?_
      refine pd_topi (fun zv7 hzv7 => ?_)
      have hF := pd_let_at hF hzv7
      refine pd_istore (ls' := [some (.ref 92), some (.int p0), some (.int p1), none, none, none, some (.int zv1), some (.int zx8), some (.int zx10), some (.int zx11), some (.int zv7), none, none]) C dX12_leasts_252 (Nat.le_of_ble_eq_true rfl) rfl rfl ?_
      refine pd_aload_n C dX12_leasts_254 rfl rfl ?_
      refine gr_12_27 C wd_5_152 (pd_lt (by decide) hn) sh_92 (rf_92_27 _) dX12_leasts_255 ?_
      refine pd_iload C dX12_leasts_258 rfl ?_
      refine pd_aload_n C dX12_leasts_260 rfl rfl ?_
      refine gr_12_27 C wd_5_152 (pd_lt (by decide) hn) sh_92 (rf_92_27 _) dX12_leasts_261 ?_
      refine pd_iload C dX12_leasts_264 rfl ?_
      obtain ⟨zg8, hF⟩ := pd_gd_some hF
      refine pd_iald C (pd_lt (by decide) hn) sh_115 zg8 dX12_leasts_266 ?_
      refine pd_aload_n C dX12_leasts_267 rfl rfl ?_
      refine gr_12_27 C wd_5_152 (pd_lt (by decide) hn) sh_92 (rf_92_27 _) dX12_leasts_268 ?_
      refine pd_bipush (v := 64) C dX12_leasts_271 (by decide) ?_
      refine pd_iload C dX12_leasts_273 rfl ?_
      refine pd_imul C dX12_leasts_275 ?_
      refine pd_iload C dX12_leasts_276 rfl ?_
      refine pd_iadd C dX12_leasts_278 ?_
      obtain ⟨zg9, hF⟩ := pd_gd_some hF
      refine pd_iald C (pd_lt (by decide) hn) sh_115 zg9 dX12_leasts_279 ?_
      refine pd_aload_n C dX12_leasts_280 rfl rfl ?_
      refine gr_12_22 C wd_5_147 (pd_lt (by decide) hn) sh_92 (rf_92_22 _) dX12_leasts_281 ?_
      refine pd_sipush (v := 128) C dX12_leasts_284 (by decide) ?_
      refine pd_iload C dX12_leasts_287 rfl ?_
      refine pd_imul C dX12_leasts_289 ?_
      refine pd_iconst (v := 2) C dX12_leasts_290 (by decide) ?_
      refine pd_iload C dX12_leasts_291 rfl ?_
      refine pd_imul C dX12_leasts_293 ?_
      refine pd_iadd C dX12_leasts_294 ?_
      refine pd_iload C dX12_leasts_295 rfl ?_
      refine pd_iadd C dX12_leasts_297 ?_
      obtain ⟨zg10, hF⟩ := pd_gd_some hF
      refine pd_iald C (pd_lt (by decide) hn) sh_110 zg10 dX12_leasts_298 ?_
      refine pd_iadd C dX12_leasts_299 ?_
      refine pd_mmin C wd_6_80 wd_2_187 wd_1_18 wd_2_188 ⟨by decide, Nat.le_of_ble_eq_true rfl, by decide, by decide⟩ dX12_leasts_300 ?_
      obtain ⟨zg11, hF⟩ := pd_gd_some hF
      refine pd_iast C (pd_lt (by decide) hn) sh_115 zg11 dX12_leasts_303 ?_
      refine pd_memI (fun zI15 hzI15 => ?_)
      have hF := pd_let_at hF hzI15
      refine pd_iincG (zz := 1) C dX12_leasts_304 rfl (by decide) rfl (fun zv8 hzv8 => ?_)
      have hF := pd_let_at hF hzv8
      refine pd_lsE (ls' := [some (.ref 92), some (.int p0), some (.int p1), none, none, none, some (.int zv1), some (.int zx8), some (.int zx10), some (.int zv8), some (.int zv7), none, none]) rfl ?_
      refine pd_goto (tgt := 229) C dX12_leasts_307 (by decide) ?_
      refine pd_wk (ls' := [some (.ref 92), some (.int p0), some (.int p1), none, none, none, some (.int zv1), some (.int zx8), some (.int zx10), some (.int zv8), none, none, none]) (And.intro rfl (And.intro rfl (And.intro rfl (And.intro rfl (And.intro rfl (And.intro rfl (And.intro rfl True.intro))))))) ?_
      exact ih _ _ hF
def fl_X12_leasts_198 {O : Type} (p0 : Int32) (zv1 : Int32) (zx8 : Int32) (kont : pd_I → Option O) : Nat → Int32 → pd_I → Option O
  | 0, _, _ => none
  | fu + 1, zx10, zI10 => if zv1 ≤ zx10 then kont zI10 else (pd_gd (pd_in ((64 * zx8) + zx10) 13184) (pd_jn (fun (zI12 : pd_I) => pd_let (zx10 + 1) fun zv6 => fl_X12_leasts_198 p0 zv1 zx8 kont fu zv6 zI12) fun zj1 => if (zI10 115 ((64 * zx8) + zx10).toNatClampNeg) < 1000000000 then fl_X12_leasts_229 p0 zx8 zx10 (fun zI14 => zj1 zI14) pd_FU 0 zI10 else (zj1 zI10)))
set_option maxRecDepth 100000 in
set_option maxHeartbeats 4000000 in
theorem el_X12_leasts_198 {cx : pd_X} (C : pd_C cx "PathDecoderModel" cX12_leasts rm_X12_leasts) {p0 : Int32} {p1 : Int32} {zv1 : Int32} {zx8 : Int32} {J : pd_J} {Z : pd_R} {n : Nat} (hn : 133 ≤ n)  {O : Type} {kont : pd_I → Option O} {out : O} (K : ∀ (zI11 : pd_I), kont zI11 = some out → pd_V cx 0 0 316 [some (.ref 92), some (.int p0), some (.int p1), none, none, none, some (.int zv1), some (.int zx8), none, none, none, none, none] [] zI11 J (pd_RF Z) n) :
    ∀ (fu : Nat) (zx10 : Int32) (zI10 : pd_I), fl_X12_leasts_198 p0 zv1 zx8 kont fu zx10 zI10 = some out → pd_V cx 0 0 198 [some (.ref 92), some (.int p0), some (.int p1), none, none, none, some (.int zv1), some (.int zx8), some (.int zx10), none, none, none, none] [] zI10 J (pd_RF Z) n := by
  intro fu
  induction fu with
  | zero => intro zx10 zI10 hF; rw [fl_X12_leasts_198] at hF; cases hF
  | succ fu ih =>
    intro zx10 zI10 hF
    rw [fl_X12_leasts_198] at hF
    refine pd_iload C dX12_leasts_198 rfl ?_
    refine pd_iload C dX12_leasts_200 rfl ?_
    refine pd_icmp_ge (tgt := 316) C dX12_leasts_202 (by decide) (fun zc12 => ?_) (fun zc12 => ?_)
    · have hF := pd_t zc12 hF
      refine pd_wk (ls' := [some (.ref 92), some (.int p0), some (.int p1), none, none, none, some (.int zv1), some (.int zx8), none, none, none, none, none]) (And.intro rfl (And.intro rfl (And.intro rfl (And.intro rfl (And.intro rfl True.intro))))) ?_
      exact K _ hF
    · have hF := pd_f zc12 hF
      refine pd_aload_n C dX12_leasts_205 rfl rfl ?_
      refine gr_12_27 C wd_5_152 (pd_lt (by decide) hn) sh_92 (rf_92_27 _) dX12_leasts_206 ?_
      refine pd_bipush (v := 64) C dX12_leasts_209 (by decide) ?_
      refine pd_iload C dX12_leasts_211 rfl ?_
      refine pd_imul C dX12_leasts_213 ?_
      refine pd_iload C dX12_leasts_214 rfl ?_
      refine pd_iadd C dX12_leasts_216 ?_
      obtain ⟨zg7, hF⟩ := pd_gd_some hF
      refine pd_iald C (pd_lt (by decide) hn) sh_115 zg7 dX12_leasts_217 ?_
      refine pd_ldc C wd_6_184 dX12_leasts_218 ?_
      refine pd_jn_use hF (fun j => ∀ (zI12 : pd_I), j zI12 = some out → pd_V cx 0 0 310 [some (.ref 92), some (.int p0), some (.int p1), none, none, none, some (.int zv1), some (.int zx8), some (.int zx10), none, none, none, none] [] zI12 J (pd_RF Z) n) (fun zI12 hF => ?_) (fun zj1 hzj1 hF => ?_)
      · refine pd_iincG (zz := 1) C dX12_leasts_310 rfl (by decide) rfl (fun zv6 hzv6 => ?_)
        have hF := pd_let_at hF hzv6
        refine pd_lsE (ls' := [some (.ref 92), some (.int p0), some (.int p1), none, none, none, some (.int zv1), some (.int zx8), some (.int zv6), none, none, none, none]) rfl ?_
        refine pd_goto (tgt := 198) C dX12_leasts_313 (by decide) ?_
        exact ih _ _ hF
      · refine pd_icmp_lt (tgt := 226) C dX12_leasts_220 (by decide) (fun zc11 => ?_) (fun zc11 => ?_)
        · have hF := pd_t zc11 hF
          refine pd_iconst (v := 0) C dX12_leasts_226 (by decide) ?_
          refine pd_istore (ls' := [some (.ref 92), some (.int p0), some (.int p1), none, none, none, some (.int zv1), some (.int zx8), some (.int zx10), some (.int 0), none, none, none]) C dX12_leasts_227 (Nat.le_of_ble_eq_true rfl) rfl rfl ?_
          refine el_X12_leasts_229 C hn (fun zI14 hF => ?_) pd_FU _ _ hF
          exact hzj1 _ hF
        · have hF := pd_f zc11 hF
          refine pd_goto (tgt := 310) C dX12_leasts_223 (by decide) ?_
          exact hzj1 _ hF
def fl_X12_leasts_156 {O : Type} (p0 : Int32) (p1 : Int32) (zv1 : Int32) (kont : pd_I → Option O) : Nat → Int32 → pd_I → Option O
  | 0, _, _ => none
  | fu + 1, zx8, zI5 => if p1 ≤ zx8 then kont zI5 else (fl_X12_leasts_165 zv1 zx8 (fun zI8 => fl_X12_leasts_198 p0 zv1 zx8 (fun zI11 => pd_let (zx8 + 1) fun zv9 => fl_X12_leasts_156 p0 p1 zv1 kont fu zv9 zI11) pd_FU 0 zI8) pd_FU 0 zI5)
set_option maxRecDepth 100000 in
set_option maxHeartbeats 4000000 in
theorem el_X12_leasts_156 {cx : pd_X} (C : pd_C cx "PathDecoderModel" cX12_leasts rm_X12_leasts) {p0 : Int32} {p1 : Int32} {zv1 : Int32} {J : pd_J} {Z : pd_R} {n : Nat} (hn : 133 ≤ n)  {O : Type} {kont : pd_I → Option O} {out : O} (K : ∀ (zI6 : pd_I), kont zI6 = some out → pd_V cx 0 0 322 [some (.ref 92), some (.int p0), some (.int p1), none, none, none, some (.int zv1), none, none, none, none, none, none] [] zI6 J (pd_RF Z) n) :
    ∀ (fu : Nat) (zx8 : Int32) (zI5 : pd_I), fl_X12_leasts_156 p0 p1 zv1 kont fu zx8 zI5 = some out → pd_V cx 0 0 156 [some (.ref 92), some (.int p0), some (.int p1), none, none, none, some (.int zv1), some (.int zx8), none, none, none, none, none] [] zI5 J (pd_RF Z) n := by
  intro fu
  induction fu with
  | zero => intro zx8 zI5 hF; rw [fl_X12_leasts_156] at hF; cases hF
  | succ fu ih =>
    intro zx8 zI5 hF
    rw [fl_X12_leasts_156] at hF
    refine pd_iload C dX12_leasts_156 rfl ?_
    refine pd_iload_n C dX12_leasts_158 rfl rfl ?_
    refine pd_icmp_ge (tgt := 322) C dX12_leasts_159 (by decide) (fun zc13 => ?_) (fun zc13 => ?_)
    · have hF := pd_t zc13 hF
      refine pd_wk (ls' := [some (.ref 92), some (.int p0), some (.int p1), none, none, none, some (.int zv1), none, none, none, none, none, none]) (And.intro rfl (And.intro rfl (And.intro rfl (And.intro rfl True.intro)))) ?_
      exact K _ hF
    · have hF := pd_f zc13 hF
      refine pd_iconst (v := 0) C dX12_leasts_162 (by decide) ?_
      refine pd_istore (ls' := [some (.ref 92), some (.int p0), some (.int p1), none, none, none, some (.int zv1), some (.int zx8), some (.int 0), none, none, none, none]) C dX12_leasts_163 (Nat.le_of_ble_eq_true rfl) rfl rfl ?_
      refine el_X12_leasts_165 C hn (fun zI8 hF => ?_) pd_FU _ _ hF
      refine pd_iconst (v := 0) C dX12_leasts_195 (by decide) ?_
      refine pd_istore (ls' := [some (.ref 92), some (.int p0), some (.int p1), none, none, none, some (.int zv1), some (.int zx8), some (.int 0), none, none, none, none]) C dX12_leasts_196 (Nat.le_of_ble_eq_true rfl) rfl rfl ?_
      refine el_X12_leasts_198 C hn (fun zI11 hF => ?_) pd_FU _ _ hF
      refine pd_iincG (zz := 1) C dX12_leasts_316 rfl (by decide) rfl (fun zv9 hzv9 => ?_)
      have hF := pd_let_at hF hzv9
      refine pd_lsE (ls' := [some (.ref 92), some (.int p0), some (.int p1), none, none, none, some (.int zv1), some (.int zv9), none, none, none, none, none]) rfl ?_
      refine pd_goto (tgt := 156) C dX12_leasts_319 (by decide) ?_
      exact ih _ _ hF
def fl_X12_leasts_335 {O : Type} (p0 : Int32) (zv1 : Int32) (zx12 : Int32) (kont : pd_I → Option O) : Nat → Int32 → pd_I → Option O
  | 0, _, _ => none
  | fu + 1, zx13, zI18 => if zv1 ≤ zx13 then kont zI18 else (pd_bd (fn_X12_next zI18 p0 zx13 0) fun zr4 => pd_gd (pd_in ((64 * (zx12 + 1)) + zr4) 13184) (pd_let (zI18 116 ((64 * (zx12 + 1)) + zr4).toNatClampNeg) fun zv11 => pd_bd (fn_X12_next zI18 p0 zx13 1) fun zr5 => pd_gd (pd_in ((64 * (zx12 + 1)) + zr5) 13184) (pd_let (zI18 116 ((64 * (zx12 + 1)) + zr5).toNatClampNeg) fun zv12 => pd_bd (if zv11 < 1000000000 then pd_gd (pd_in ((128 * zx12) + (2 * zx13)) 26368) (some (zv11 + (zI18 110 ((128 * zx12) + (2 * zx13)).toNatClampNeg))) else (some 1000000000)) fun (zx14 : Int32) => pd_bd (if zv12 < 1000000000 then pd_gd (pd_in (((128 * zx12) + (2 * zx13)) + 1) 26368) (some (zv12 + (zI18 110 (((128 * zx12) + (2 * zx13)) + 1).toNatClampNeg))) else (some 1000000000)) fun (zx15 : Int32) => pd_gd (pd_in ((64 * zx12) + zx13) 13184) (pd_let (pd_ui zI18 116 ((64 * zx12) + zx13).toNatClampNeg (pd_min zx14 zx15)) fun zI20 => pd_gd (pd_in ((64 * zx12) + zx13) 13184) (pd_bd (if (zI20 115 ((64 * zx12) + zx13).toNatClampNeg) < 1000000000 then pd_bd (if 1000000000 ≤ zx14 then some zI20 else (pd_gd (pd_in zx12 200) (pd_gd (pd_in ((64 * zx12) + zx13) 13184) (pd_gd (pd_in zx12 200) (pd_let (pd_ui zI20 117 zx12.toNatClampNeg (pd_min (zI20 117 zx12.toNatClampNeg) ((zI20 115 ((64 * zx12) + zx13).toNatClampNeg) + zx14))) fun zI24 => some zI24))))) fun (zI22 : pd_I) => if 1000000000 ≤ zx15 then some zI22 else (pd_gd (pd_in zx12 200) (pd_gd (pd_in ((64 * zx12) + zx13) 13184) (pd_gd (pd_in zx12 200) (pd_let (pd_ui zI22 118 zx12.toNatClampNeg (pd_min (zI22 118 zx12.toNatClampNeg) ((zI22 115 ((64 * zx12) + zx13).toNatClampNeg) + zx15))) fun zI23 => some zI23)))) else (some zI20)) fun (zI21 : pd_I) => pd_let (zx13 + 1) fun zv13 => fl_X12_leasts_335 p0 zv1 zx12 kont fu zv13 zI21)))))
set_option maxRecDepth 100000 in
set_option maxHeartbeats 4000000 in
theorem el_X12_leasts_335 {cx : pd_X} (C : pd_C cx "PathDecoderModel" cX12_leasts rm_X12_leasts) {p0 : Int32} {zv1 : Int32} {zx12 : Int32} {J : pd_J} {Z : pd_R} {n : Nat} (hn : 133 ≤ n)  {O : Type} {kont : pd_I → Option O} {out : O} (K : ∀ (zI19 : pd_I), kont zI19 = some out → pd_V cx 0 0 583 [some (.ref 92), some (.int p0), none, none, none, none, some (.int zv1), some (.int zx12), none, none, none, none, none] [] zI19 J (pd_RF Z) n) :
    ∀ (fu : Nat) (zx13 : Int32) (zI18 : pd_I), fl_X12_leasts_335 p0 zv1 zx12 kont fu zx13 zI18 = some out → pd_V cx 0 0 335 [some (.ref 92), some (.int p0), none, none, none, none, some (.int zv1), some (.int zx12), some (.int zx13), none, none, none, none] [] zI18 J (pd_RF Z) n := by
  intro fu
  induction fu with
  | zero => intro zx13 zI18 hF; rw [fl_X12_leasts_335] at hF; cases hF
  | succ fu ih =>
    intro zx13 zI18 hF
    rw [fl_X12_leasts_335] at hF
    refine pd_iload C dX12_leasts_335 rfl ?_
    refine pd_iload C dX12_leasts_337 rfl ?_
    refine pd_icmp_ge (tgt := 583) C dX12_leasts_339 (by decide) (fun zc19 => ?_) (fun zc19 => ?_)
    · have hF := pd_t zc19 hF
      refine pd_wk (ls' := [some (.ref 92), some (.int p0), none, none, none, none, some (.int zv1), some (.int zx12), none, none, none, none, none]) (And.intro rfl (And.intro rfl (And.intro rfl (And.intro rfl True.intro)))) ?_
      exact K _ hF
    · have hF := pd_f zc19 hF
      refine pd_aload_n C dX12_leasts_342 rfl rfl ?_
      refine gr_12_28 C wd_5_153 (pd_lt (by decide) hn) sh_92 (rf_92_28 _) dX12_leasts_343 ?_
      refine pd_bipush (v := 64) C dX12_leasts_346 (by decide) ?_
      refine pd_iload C dX12_leasts_348 rfl ?_
      refine pd_iconst (v := 1) C dX12_leasts_350 (by decide) ?_
      refine pd_iadd C dX12_leasts_351 ?_
      refine pd_imul C dX12_leasts_352 ?_
      refine pd_aload_n C dX12_leasts_353 rfl rfl ?_
      refine pd_iload_n C dX12_leasts_354 rfl rfl ?_
      refine pd_iload C dX12_leasts_355 rfl ?_
      refine pd_iconst (v := 0) C dX12_leasts_357 (by decide) ?_
      obtain ⟨zr4, zh4, hF⟩ := pd_bd_some hF
      refine pd_callV C [.int p0, .int zx13, .int 0] [.int (64 * (zx12 + 1)), .ref 116] (em_X12_next (pd_C_st C) hn  zh4) mw_X12_next wd_6_109 rfl (by decide) (pd_lt (by decide) hn) sh_92 ⟨by decide, by decide, by decide, by decide⟩ rfl (Nat.le_of_ble_eq_true rfl) pd_oldL_same (fun _ _ => pd_old_same _) dX12_leasts_358 (stk' := [.int zr4, .int (64 * (zx12 + 1)), .ref 116]) rfl ?_
      refine pd_iadd C dX12_leasts_361 ?_
      obtain ⟨zg12, hF⟩ := pd_gd_some hF
      refine pd_iald C (pd_lt (by decide) hn) sh_116 zg12 dX12_leasts_362 ?_
      refine pd_topi (fun zv11 hzv11 => ?_)
      have hF := pd_let_at hF hzv11
      refine pd_istore (ls' := [some (.ref 92), some (.int p0), none, none, none, none, some (.int zv1), some (.int zx12), some (.int zx13), some (.int zv11), none, none, none]) C dX12_leasts_363 (Nat.le_of_ble_eq_true rfl) rfl rfl ?_
      refine pd_aload_n C dX12_leasts_365 rfl rfl ?_
      refine gr_12_28 C wd_5_153 (pd_lt (by decide) hn) sh_92 (rf_92_28 _) dX12_leasts_366 ?_
      refine pd_bipush (v := 64) C dX12_leasts_369 (by decide) ?_
      refine pd_iload C dX12_leasts_371 rfl ?_
      refine pd_iconst (v := 1) C dX12_leasts_373 (by decide) ?_
      refine pd_iadd C dX12_leasts_374 ?_
      refine pd_imul C dX12_leasts_375 ?_
      refine pd_aload_n C dX12_leasts_376 rfl rfl ?_
      refine pd_iload_n C dX12_leasts_377 rfl rfl ?_
      refine pd_iload C dX12_leasts_378 rfl ?_
      refine pd_iconst (v := 1) C dX12_leasts_380 (by decide) ?_
      obtain ⟨zr5, zh5, hF⟩ := pd_bd_some hF
      refine pd_callV C [.int p0, .int zx13, .int 1] [.int (64 * (zx12 + 1)), .ref 116] (em_X12_next (pd_C_st C) hn  zh5) mw_X12_next wd_6_109 rfl (by decide) (pd_lt (by decide) hn) sh_92 ⟨by decide, by decide, by decide, by decide⟩ rfl (Nat.le_of_ble_eq_true rfl) pd_oldL_same (fun _ _ => pd_old_same _) dX12_leasts_381 (stk' := [.int zr5, .int (64 * (zx12 + 1)), .ref 116]) rfl ?_
      refine pd_iadd C dX12_leasts_384 ?_
      obtain ⟨zg13, hF⟩ := pd_gd_some hF
      refine pd_iald C (pd_lt (by decide) hn) sh_116 zg13 dX12_leasts_385 ?_
      refine pd_topi (fun zv12 hzv12 => ?_)
      have hF := pd_let_at hF hzv12
      refine pd_istore (ls' := [some (.ref 92), some (.int p0), none, none, none, none, some (.int zv1), some (.int zx12), some (.int zx13), some (.int zv11), some (.int zv12), none, none]) C dX12_leasts_386 (Nat.le_of_ble_eq_true rfl) rfl rfl ?_
      refine pd_iload C dX12_leasts_388 rfl ?_
      refine pd_ldc C wd_6_184 dX12_leasts_390 ?_
      obtain ⟨zx14, hS, hF⟩ := pd_bd_some hF
      have hJ419 : pd_V cx 0 0 419 [some (.ref 92), some (.int p0), none, none, none, none, some (.int zv1), some (.int zx12), some (.int zx13), none, some (.int zv12), none, none] [.int zx14] zI18 J (pd_RF Z) n := by
        refine pd_istore (ls' := [some (.ref 92), some (.int p0), none, none, none, none, some (.int zv1), some (.int zx12), some (.int zx13), none, some (.int zv12), some (.int zx14), none]) C dX12_leasts_419 (Nat.le_of_ble_eq_true rfl) rfl rfl ?_
        refine pd_iload C dX12_leasts_421 rfl ?_
        refine pd_ldc C wd_6_184 dX12_leasts_423 ?_
        obtain ⟨zx15, hS, hF⟩ := pd_bd_some hF
        have hJ454 : pd_V cx 0 0 454 [some (.ref 92), some (.int p0), none, none, none, none, some (.int zv1), some (.int zx12), some (.int zx13), none, none, some (.int zx14), none] [.int zx15] zI18 J (pd_RF Z) n := by
          refine pd_istore (ls' := [some (.ref 92), some (.int p0), none, none, none, none, some (.int zv1), some (.int zx12), some (.int zx13), none, none, some (.int zx14), some (.int zx15)]) C dX12_leasts_454 (Nat.le_of_ble_eq_true rfl) rfl rfl ?_
          refine pd_aload_n C dX12_leasts_456 rfl rfl ?_
          refine gr_12_28 C wd_5_153 (pd_lt (by decide) hn) sh_92 (rf_92_28 _) dX12_leasts_457 ?_
          refine pd_bipush (v := 64) C dX12_leasts_460 (by decide) ?_
          refine pd_iload C dX12_leasts_462 rfl ?_
          refine pd_imul C dX12_leasts_464 ?_
          refine pd_iload C dX12_leasts_465 rfl ?_
          refine pd_iadd C dX12_leasts_467 ?_
          refine pd_iload C dX12_leasts_468 rfl ?_
          refine pd_iload C dX12_leasts_470 rfl ?_
          refine pd_mmin C wd_6_80 wd_2_187 wd_1_18 wd_2_188 ⟨by decide, Nat.le_of_ble_eq_true rfl, by decide, by decide⟩ dX12_leasts_472 ?_
          obtain ⟨zg14, hF⟩ := pd_gd_some hF
          refine pd_iast C (pd_lt (by decide) hn) sh_116 zg14 dX12_leasts_475 ?_
          refine pd_memI (fun zI20 hzI20 => ?_)
          have hF := pd_let_at hF hzI20
          refine pd_aload_n C dX12_leasts_476 rfl rfl ?_
          refine gr_12_27 C wd_5_152 (pd_lt (by decide) hn) sh_92 (rf_92_27 _) dX12_leasts_477 ?_
          refine pd_bipush (v := 64) C dX12_leasts_480 (by decide) ?_
          refine pd_iload C dX12_leasts_482 rfl ?_
          refine pd_imul C dX12_leasts_484 ?_
          refine pd_iload C dX12_leasts_485 rfl ?_
          refine pd_iadd C dX12_leasts_487 ?_
          obtain ⟨zg15, hF⟩ := pd_gd_some hF
          refine pd_iald C (pd_lt (by decide) hn) sh_115 zg15 dX12_leasts_488 ?_
          refine pd_ldc C wd_6_184 dX12_leasts_489 ?_
          obtain ⟨zI21, hS, hF⟩ := pd_bd_some hF
          have hJ577 : pd_V cx 0 0 577 [some (.ref 92), some (.int p0), none, none, none, none, some (.int zv1), some (.int zx12), some (.int zx13), none, none, none, none] [] zI21 J (pd_RF Z) n := by
            refine pd_iincG (zz := 1) C dX12_leasts_577 rfl (by decide) rfl (fun zv13 hzv13 => ?_)
            have hF := pd_let_at hF hzv13
            refine pd_lsE (ls' := [some (.ref 92), some (.int p0), none, none, none, none, some (.int zv1), some (.int zx12), some (.int zv13), none, none, none, none]) rfl ?_
            refine pd_goto (tgt := 335) C dX12_leasts_580 (by decide) ?_
            exact ih _ _ hF
          replace hF := hS
          clear hS
          refine pd_icmp_lt (tgt := 497) C dX12_leasts_491 (by decide) (fun zc16 => ?_) (fun zc16 => ?_)
          · have hF := pd_t zc16 hF
            refine pd_iload C dX12_leasts_497 rfl ?_
            refine pd_ldc C wd_6_184 dX12_leasts_499 ?_
            obtain ⟨zI22, hS, hF⟩ := pd_bd_some hF
            have hJ537 : pd_V cx 0 0 537 [some (.ref 92), some (.int p0), none, none, none, none, some (.int zv1), some (.int zx12), some (.int zx13), none, none, none, some (.int zx15)] [] zI22 J (pd_RF Z) n := by
              refine pd_iload C dX12_leasts_537 rfl ?_
              refine pd_ldc C wd_6_184 dX12_leasts_539 ?_
              refine pd_icmp_ge (tgt := 577) C dX12_leasts_541 (by decide) (fun zc14 => ?_) (fun zc14 => ?_)
              · have hF := pd_t zc14 hF
                refine pd_wk (ls' := [some (.ref 92), some (.int p0), none, none, none, none, some (.int zv1), some (.int zx12), some (.int zx13), none, none, none, none]) (And.intro rfl (And.intro rfl (And.intro rfl (And.intro rfl (And.intro rfl True.intro))))) ?_
                have hF := hF.symm
                cases hF
                exact hJ577
              · have hF := pd_f zc14 hF
                refine pd_aload_n C dX12_leasts_544 rfl rfl ?_
                refine gr_12_30 C wd_5_155 (pd_lt (by decide) hn) sh_92 (rf_92_30 _) dX12_leasts_545 ?_
                refine pd_iload C dX12_leasts_548 rfl ?_
                refine pd_aload_n C dX12_leasts_550 rfl rfl ?_
                refine gr_12_30 C wd_5_155 (pd_lt (by decide) hn) sh_92 (rf_92_30 _) dX12_leasts_551 ?_
                refine pd_iload C dX12_leasts_554 rfl ?_
                obtain ⟨zg16, hF⟩ := pd_gd_some hF
                refine pd_iald C (pd_lt (by decide) hn) sh_118 zg16 dX12_leasts_556 ?_
                refine pd_aload_n C dX12_leasts_557 rfl rfl ?_
                refine gr_12_27 C wd_5_152 (pd_lt (by decide) hn) sh_92 (rf_92_27 _) dX12_leasts_558 ?_
                refine pd_bipush (v := 64) C dX12_leasts_561 (by decide) ?_
                refine pd_iload C dX12_leasts_563 rfl ?_
                refine pd_imul C dX12_leasts_565 ?_
                refine pd_iload C dX12_leasts_566 rfl ?_
                refine pd_iadd C dX12_leasts_568 ?_
                obtain ⟨zg17, hF⟩ := pd_gd_some hF
                refine pd_iald C (pd_lt (by decide) hn) sh_115 zg17 dX12_leasts_569 ?_
                refine pd_iload C dX12_leasts_570 rfl ?_
                refine pd_iadd C dX12_leasts_572 ?_
                refine pd_mmin C wd_6_80 wd_2_187 wd_1_18 wd_2_188 ⟨by decide, Nat.le_of_ble_eq_true rfl, by decide, by decide⟩ dX12_leasts_573 ?_
                obtain ⟨zg18, hF⟩ := pd_gd_some hF
                refine pd_iast C (pd_lt (by decide) hn) sh_118 zg18 dX12_leasts_576 ?_
                refine pd_memI (fun zI23 hzI23 => ?_)
                have hF := pd_let_at hF hzI23
                refine pd_wk (ls' := [some (.ref 92), some (.int p0), none, none, none, none, some (.int zv1), some (.int zx12), some (.int zx13), none, none, none, none]) (And.intro rfl (And.intro rfl (And.intro rfl (And.intro rfl (And.intro rfl True.intro))))) ?_
                have hF := hF.symm
                cases hF
                exact hJ577
            replace hF := hS
            clear hS
            refine pd_icmp_ge (tgt := 537) C dX12_leasts_501 (by decide) (fun zc15 => ?_) (fun zc15 => ?_)
            · have hF := pd_t zc15 hF
              refine pd_wk (ls' := [some (.ref 92), some (.int p0), none, none, none, none, some (.int zv1), some (.int zx12), some (.int zx13), none, none, none, some (.int zx15)]) (And.intro rfl (And.intro rfl (And.intro rfl (And.intro rfl (And.intro rfl (And.intro rfl True.intro)))))) ?_
              have hF := hF.symm
              cases hF
              exact hJ537
            · have hF := pd_f zc15 hF
              refine pd_aload_n C dX12_leasts_504 rfl rfl ?_
              refine gr_12_29 C wd_5_154 (pd_lt (by decide) hn) sh_92 (rf_92_29 _) dX12_leasts_505 ?_
              refine pd_iload C dX12_leasts_508 rfl ?_
              refine pd_aload_n C dX12_leasts_510 rfl rfl ?_
              refine gr_12_29 C wd_5_154 (pd_lt (by decide) hn) sh_92 (rf_92_29 _) dX12_leasts_511 ?_
              refine pd_iload C dX12_leasts_514 rfl ?_
              obtain ⟨zg19, hF⟩ := pd_gd_some hF
              refine pd_iald C (pd_lt (by decide) hn) sh_117 zg19 dX12_leasts_516 ?_
              refine pd_aload_n C dX12_leasts_517 rfl rfl ?_
              refine gr_12_27 C wd_5_152 (pd_lt (by decide) hn) sh_92 (rf_92_27 _) dX12_leasts_518 ?_
              refine pd_bipush (v := 64) C dX12_leasts_521 (by decide) ?_
              refine pd_iload C dX12_leasts_523 rfl ?_
              refine pd_imul C dX12_leasts_525 ?_
              refine pd_iload C dX12_leasts_526 rfl ?_
              refine pd_iadd C dX12_leasts_528 ?_
              obtain ⟨zg20, hF⟩ := pd_gd_some hF
              refine pd_iald C (pd_lt (by decide) hn) sh_115 zg20 dX12_leasts_529 ?_
              refine pd_iload C dX12_leasts_530 rfl ?_
              refine pd_iadd C dX12_leasts_532 ?_
              refine pd_mmin C wd_6_80 wd_2_187 wd_1_18 wd_2_188 ⟨by decide, Nat.le_of_ble_eq_true rfl, by decide, by decide⟩ dX12_leasts_533 ?_
              obtain ⟨zg21, hF⟩ := pd_gd_some hF
              refine pd_iast C (pd_lt (by decide) hn) sh_117 zg21 dX12_leasts_536 ?_
              refine pd_memI (fun zI24 hzI24 => ?_)
              have hF := pd_let_at hF hzI24
              refine pd_wk (ls' := [some (.ref 92), some (.int p0), none, none, none, none, some (.int zv1), some (.int zx12), some (.int zx13), none, none, none, some (.int zx15)]) (And.intro rfl (And.intro rfl (And.intro rfl (And.intro rfl (And.intro rfl (And.intro rfl True.intro)))))) ?_
              have hF := hF.symm
              cases hF
              exact hJ537
          · have hF := pd_f zc16 hF
            refine pd_goto (tgt := 577) C dX12_leasts_494 (by decide) ?_
            refine pd_wk (ls' := [some (.ref 92), some (.int p0), none, none, none, none, some (.int zv1), some (.int zx12), some (.int zx13), none, none, none, none]) (And.intro rfl (And.intro rfl (And.intro rfl (And.intro rfl (And.intro rfl True.intro))))) ?_
            have hF := hF.symm
            cases hF
            exact hJ577
        replace hF := hS
        clear hS
        refine pd_icmp_lt (tgt := 433) C dX12_leasts_425 (by decide) (fun zc17 => ?_) (fun zc17 => ?_)
        · have hF := pd_t zc17 hF
          refine pd_iload C dX12_leasts_433 rfl ?_
          refine pd_aload_n C dX12_leasts_435 rfl rfl ?_
          refine gr_12_22 C wd_5_147 (pd_lt (by decide) hn) sh_92 (rf_92_22 _) dX12_leasts_436 ?_
          refine pd_sipush (v := 128) C dX12_leasts_439 (by decide) ?_
          refine pd_iload C dX12_leasts_442 rfl ?_
          refine pd_imul C dX12_leasts_444 ?_
          refine pd_iconst (v := 2) C dX12_leasts_445 (by decide) ?_
          refine pd_iload C dX12_leasts_446 rfl ?_
          refine pd_imul C dX12_leasts_448 ?_
          refine pd_iadd C dX12_leasts_449 ?_
          refine pd_iconst (v := 1) C dX12_leasts_450 (by decide) ?_
          refine pd_iadd C dX12_leasts_451 ?_
          obtain ⟨zg22, hF⟩ := pd_gd_some hF
          refine pd_iald C (pd_lt (by decide) hn) sh_110 zg22 dX12_leasts_452 ?_
          refine pd_iadd C dX12_leasts_453 ?_
          refine pd_wk (ls' := [some (.ref 92), some (.int p0), none, none, none, none, some (.int zv1), some (.int zx12), some (.int zx13), none, none, some (.int zx14), none]) (And.intro rfl (And.intro rfl (And.intro rfl (And.intro rfl (And.intro rfl (And.intro rfl True.intro)))))) ?_
          have hF := hF.symm
          cases hF
          exact hJ454
        · have hF := pd_f zc17 hF
          refine pd_ldc C wd_6_184 dX12_leasts_428 ?_
          refine pd_goto (tgt := 454) C dX12_leasts_430 (by decide) ?_
          refine pd_wk (ls' := [some (.ref 92), some (.int p0), none, none, none, none, some (.int zv1), some (.int zx12), some (.int zx13), none, none, some (.int zx14), none]) (And.intro rfl (And.intro rfl (And.intro rfl (And.intro rfl (And.intro rfl (And.intro rfl True.intro)))))) ?_
          have hF := hF.symm
          cases hF
          exact hJ454
      replace hF := hS
      clear hS
      refine pd_icmp_lt (tgt := 400) C dX12_leasts_392 (by decide) (fun zc18 => ?_) (fun zc18 => ?_)
      · have hF := pd_t zc18 hF
        refine pd_iload C dX12_leasts_400 rfl ?_
        refine pd_aload_n C dX12_leasts_402 rfl rfl ?_
        refine gr_12_22 C wd_5_147 (pd_lt (by decide) hn) sh_92 (rf_92_22 _) dX12_leasts_403 ?_
        refine pd_sipush (v := 128) C dX12_leasts_406 (by decide) ?_
        refine pd_iload C dX12_leasts_409 rfl ?_
        refine pd_imul C dX12_leasts_411 ?_
        refine pd_iconst (v := 2) C dX12_leasts_412 (by decide) ?_
        refine pd_iload C dX12_leasts_413 rfl ?_
        refine pd_imul C dX12_leasts_415 ?_
        refine pd_iadd C dX12_leasts_416 ?_
        obtain ⟨zg23, hF⟩ := pd_gd_some hF
        refine pd_iald C (pd_lt (by decide) hn) sh_110 zg23 dX12_leasts_417 ?_
        refine pd_iadd C dX12_leasts_418 ?_
        refine pd_wk (ls' := [some (.ref 92), some (.int p0), none, none, none, none, some (.int zv1), some (.int zx12), some (.int zx13), none, some (.int zv12), none, none]) (And.intro rfl (And.intro rfl (And.intro rfl (And.intro rfl (And.intro rfl (And.intro rfl True.intro)))))) ?_
        have hF := hF.symm
        cases hF
        exact hJ419
      · have hF := pd_f zc18 hF
        refine pd_ldc C wd_6_184 dX12_leasts_395 ?_
        refine pd_goto (tgt := 419) C dX12_leasts_397 (by decide) ?_
        refine pd_wk (ls' := [some (.ref 92), some (.int p0), none, none, none, none, some (.int zv1), some (.int zx12), some (.int zx13), none, some (.int zv12), none, none]) (And.intro rfl (And.intro rfl (And.intro rfl (And.intro rfl (And.intro rfl (And.intro rfl True.intro)))))) ?_
        have hF := hF.symm
        cases hF
        exact hJ419
def fl_X12_leasts_327 {O : Type} (p0 : Int32) (zv1 : Int32) (kont : pd_I → Option O) : Nat → Int32 → pd_I → Option O
  | 0, _, _ => none
  | fu + 1, zx12, zI16 => if zx12 < 0 then kont zI16 else (fl_X12_leasts_335 p0 zv1 zx12 (fun zI19 => pd_let (zx12 + (-1)) fun zv14 => fl_X12_leasts_327 p0 zv1 kont fu zv14 zI19) pd_FU 0 zI16)
set_option maxRecDepth 100000 in
set_option maxHeartbeats 4000000 in
theorem el_X12_leasts_327 {cx : pd_X} (C : pd_C cx "PathDecoderModel" cX12_leasts rm_X12_leasts) {p0 : Int32} {zv1 : Int32} {J : pd_J} {Z : pd_R} {n : Nat} (hn : 133 ≤ n)  {O : Type} {kont : pd_I → Option O} {out : O} (K : ∀ (zI17 : pd_I), kont zI17 = some out → pd_V cx 0 0 589 [none, none, none, none, none, none, none, none, none, none, none, none, none] [] zI17 J (pd_RF Z) n) :
    ∀ (fu : Nat) (zx12 : Int32) (zI16 : pd_I), fl_X12_leasts_327 p0 zv1 kont fu zx12 zI16 = some out → pd_V cx 0 0 327 [some (.ref 92), some (.int p0), none, none, none, none, some (.int zv1), some (.int zx12), none, none, none, none, none] [] zI16 J (pd_RF Z) n := by
  intro fu
  induction fu with
  | zero => intro zx12 zI16 hF; rw [fl_X12_leasts_327] at hF; cases hF
  | succ fu ih =>
    intro zx12 zI16 hF
    rw [fl_X12_leasts_327] at hF
    refine pd_iload C dX12_leasts_327 rfl ?_
    refine pd_if_lt (tgt := 589) C dX12_leasts_329 (by decide) (fun zc20 => ?_) (fun zc20 => ?_)
    · have hF := pd_t zc20 hF
      refine pd_wk (ls' := [none, none, none, none, none, none, none, none, none, none, none, none, none]) True.intro ?_
      exact K _ hF
    · have hF := pd_f zc20 hF
      refine pd_iconst (v := 0) C dX12_leasts_332 (by decide) ?_
      refine pd_istore (ls' := [some (.ref 92), some (.int p0), none, none, none, none, some (.int zv1), some (.int zx12), some (.int 0), none, none, none, none]) C dX12_leasts_333 (Nat.le_of_ble_eq_true rfl) rfl rfl ?_
      refine el_X12_leasts_335 C hn (fun zI19 hF => ?_) pd_FU _ _ hF
      refine pd_iincG (zz := (-1)) C dX12_leasts_583 rfl (by decide) rfl (fun zv14 hzv14 => ?_)
      have hF := pd_let_at hF hzv14
      refine pd_lsE (ls' := [some (.ref 92), some (.int p0), none, none, none, none, some (.int zv1), some (.int zv14), none, none, none, none, none]) rfl ?_
      refine pd_goto (tgt := 327) C dX12_leasts_586 (by decide) ?_
      exact ih _ _ hF
def fn_X12_leasts (I : pd_I) (p0 : Int32) (p1 : Int32) (p2 : Int32) (p3 : Int32) (p4 : Int32) : Option pd_I := pd_gd (pd_in p0 12) (pd_let ((1 : Int32) <<< ((I 98 p0.toNatClampNeg) &&& 31)) fun zv1 => fl_X12_leasts_13 p0 p1 p2 p3 p4 zv1 (fun zI2 => fl_X12_leasts_156 p0 p1 zv1 (fun zI6 => pd_let (p1 - 1) fun zv10 => fl_X12_leasts_327 p0 zv1 (fun zI17 => some zI17) pd_FU zv10 zI6) pd_FU 0 zI2) pd_FU 0 I)
set_option maxRecDepth 100000 in
set_option maxHeartbeats 4000000 in
theorem em_X12_leasts {l : Launch} {D : va_G} {tc : Nat → ClassId} (hst : l.stackTraces = false) {I : pd_I} {J : pd_J} {Z : pd_R} {n : Nat} {p0 : Int32} {p1 : Int32} {p2 : Int32} {p3 : Int32} {p4 : Int32} (hn : 133 ≤ n)  {out : pd_I} (hF : fn_X12_leasts I p0 p1 p2 p3 p4 = some out) :
    pd_M l D tc yX12_leasts (.code yX12_leasts cX12_leasts 13 (Option.none : Option Jvm.ClassFile.FieldType)) rm_X12_leasts [.ref 92, .int p0, .int p1, .int p2, .int p3, .int p4] I J (pd_RF Z) n (.ok (none)) out J (pd_RF Z) n := by
  refine pd_open (own := "PathDecoderModel") (ls0 := [some (.ref 92), some (.int p0), some (.int p1), some (.int p2), some (.int p3), some (.int p4), none, none, none, none, none, none, none]) (by decide) rfl (Nat.le_of_ble_eq_true rfl) rfl rfl hst (fun cx hl hD htc C hE htab hnm => ?_)
  subst hl hD htc
  unfold fn_X12_leasts at hF
  refine pd_iconst (v := 1) C dX12_leasts_0 (by decide) ?_
  refine pd_aload_n C dX12_leasts_1 rfl rfl ?_
  refine gr_12_7 C wd_5_132 (pd_lt (by decide) hn) sh_92 (rf_92_7 _) dX12_leasts_2 ?_
  refine pd_iload_n C dX12_leasts_5 rfl rfl ?_
  obtain ⟨zg1, hF⟩ := pd_gd_some hF
  refine pd_iald C (pd_lt (by decide) hn) sh_98 zg1 dX12_leasts_6 ?_
  refine pd_ishl C dX12_leasts_7 ?_
  refine pd_topi (fun zv1 hzv1 => ?_)
  have hF := pd_let_at hF hzv1
  refine pd_istore (ls' := [some (.ref 92), some (.int p0), some (.int p1), some (.int p2), some (.int p3), some (.int p4), some (.int zv1), none, none, none, none, none, none]) C dX12_leasts_8 (Nat.le_of_ble_eq_true rfl) rfl rfl ?_
  refine pd_iconst (v := 0) C dX12_leasts_10 (by decide) ?_
  refine pd_istore (ls' := [some (.ref 92), some (.int p0), some (.int p1), some (.int p2), some (.int p3), some (.int p4), some (.int zv1), some (.int 0), none, none, none, none, none]) C dX12_leasts_11 (Nat.le_of_ble_eq_true rfl) rfl rfl ?_
  refine el_X12_leasts_13 C hn (fun zI2 hF => ?_) pd_FU _ _ hF
  refine pd_iconst (v := 0) C dX12_leasts_153 (by decide) ?_
  refine pd_istore (ls' := [some (.ref 92), some (.int p0), some (.int p1), none, none, none, some (.int zv1), some (.int 0), none, none, none, none, none]) C dX12_leasts_154 (Nat.le_of_ble_eq_true rfl) rfl rfl ?_
  refine el_X12_leasts_156 C hn (fun zI6 hF => ?_) pd_FU _ _ hF
  refine pd_iload_n C dX12_leasts_322 rfl rfl ?_
  refine pd_iconst (v := 1) C dX12_leasts_323 (by decide) ?_
  refine pd_isub C dX12_leasts_324 ?_
  refine pd_topi (fun zv10 hzv10 => ?_)
  have hF := pd_let_at hF hzv10
  refine pd_istore (ls' := [some (.ref 92), some (.int p0), some (.int p1), none, none, none, some (.int zv1), some (.int zv10), none, none, none, none, none]) C dX12_leasts_325 (Nat.le_of_ble_eq_true rfl) rfl rfl ?_
  refine pd_wk (ls' := [some (.ref 92), some (.int p0), none, none, none, none, some (.int zv1), some (.int zv10), none, none, none, none, none]) (And.intro rfl (And.intro rfl (And.intro rfl (And.intro rfl True.intro)))) ?_
  refine el_X12_leasts_327 C hn (fun zI17 hF => ?_) pd_FU _ _ hF
  cases hF
  exact pd_vret C hE rfl ⟨by decide, by decide⟩ dX12_leasts_589

