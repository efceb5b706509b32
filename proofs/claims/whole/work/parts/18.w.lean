def fn_X12_stride (I : pd_I) (p0 : Int32) (p1 : Int32) : Option (Int32 × pd_I) := pd_bd2 (fn_X12_isCode I p0) fun zr1 zI1 => pd_jn (fun (zI2 : pd_I) => some (0, zI2)) fun zj1 => if zr1 = 0 then zj1 zI1 else (pd_gd (pd_in p0 12) (pd_bd (if (zI1 97 p0.toNatClampNeg) = 5 then some 1 else (some 0)) fun (zx1 : Int32) => pd_bd2 (fn_X12_right zI1 zx1 2) fun zr2 zI3 => if zr2 = 0 then zj1 zI3 else (pd_bd (pd_bd (if p1 < 1 then some false else (if 199 < p1 then some false else (some true))) fun zc2 => if zc2 = true then some 1 else (some 0)) fun (zx2 : Int32) => pd_bd2 (fn_X12_right zI3 zx2 3) fun zr3 zI4 => if zr3 = 0 then zj1 zI4 else (pd_gd (pd_in p0 12) (pd_let (zI4 102 p0.toNatClampNeg) fun zv1 => pd_gd (pd_in p0 12) (pd_let (pd_ui zI4 102 p0.toNatClampNeg p1) fun zI5 => some (zv1, zI5)))))))
set_option maxRecDepth 100000 in
set_option maxHeartbeats 4000000 in
theorem em_X12_stride {l : Launch} {D : va_G} {tc : Nat → ClassId} (hst : l.stackTraces = false) {I : pd_I} {J : pd_J} {Z : pd_R} {n : Nat} {p0 : Int32} {p1 : Int32} (hn : 133 ≤ n)  {out : Int32 × pd_I} (hF : fn_X12_stride I p0 p1 = some out) :
    pd_M l D tc yX12_stride (.code yX12_stride cX12_stride 4 (Option.some Jvm.ClassFile.FieldType.int)) rm_X12_stride [.ref 92, .int p0, .int p1] I J (pd_RF Z) n (.ok (some (.int out.1))) out.2 J (pd_RF Z) n := by
  refine pd_open (own := "PathDecoderModel") (ls0 := [some (.ref 92), some (.int p0), some (.int p1), none]) (by decide) rfl (Nat.le_of_ble_eq_true rfl) rfl rfl hst (fun cx hl hD htc C hE htab hnm => ?_)
  subst hl hD htc
  unfold fn_X12_stride at hF
  refine pd_aload_n C dX12_stride_0 rfl rfl ?_
  refine pd_iload_n C dX12_stride_1 rfl rfl ?_
  obtain ⟨zr1, zI1, zh1, hF⟩ := pd_bd2_some hF
  refine pd_callV C [.int p0] [] (em_X12_isCode (pd_C_st C) hn  zh1) mw_X12_isCode wd_6_69 rfl (by decide) (pd_lt (by decide) hn) sh_92 ⟨by decide, by decide, by decide, by decide⟩ rfl (Nat.le_of_ble_eq_true rfl) pd_oldL_same (fun _ _ => pd_old_same _) dX12_stride_2 (stk' := [.int zr1]) rfl ?_
  refine pd_jn_use hF (fun j => ∀ (zI2 : pd_I), j zI2 = some out → pd_V cx 0 0 56 [none, none, none, none] [] zI2 J (pd_RF Z) n) (fun zI2 hF => ?_) (fun zj1 hzj1 hF => ?_)
  · refine pd_iconst (v := 0) C dX12_stride_56 (by decide) ?_
    cases hF
    exact pd_iret C hE rfl rfl rfl ⟨by decide, by decide⟩ dX12_stride_57
  · refine pd_if_eq (tgt := 56) C dX12_stride_5 (by decide) (fun zc7 => ?_) (fun zc7 => ?_)
    · have hF := pd_t zc7 hF
      refine pd_wk (ls' := [none, none, none, none]) True.intro ?_
      exact hzj1 _ hF
    · have hF := pd_f zc7 hF
      refine pd_aload_n C dX12_stride_8 rfl rfl ?_
      refine pd_aload_n C dX12_stride_9 rfl rfl ?_
      refine gr_12_6 C wd_5_131 (pd_lt (by decide) hn) sh_92 (rf_92_6 _) dX12_stride_10 ?_
      refine pd_iload_n C dX12_stride_13 rfl rfl ?_
      obtain ⟨zg1, hF⟩ := pd_gd_some hF
      refine pd_iald C (pd_lt (by decide) hn) sh_97 zg1 dX12_stride_14 ?_
      refine pd_iconst (v := 5) C dX12_stride_15 (by decide) ?_
      obtain ⟨zx1, hS, hF⟩ := pd_bd_some hF
      have hJ24 : pd_V cx 0 0 24 [some (.ref 92), some (.int p0), some (.int p1), none] [.int zx1, .ref 92] zI1 J (pd_RF Z) n := by
        refine pd_iconst (v := 2) C dX12_stride_24 (by decide) ?_
        obtain ⟨zr2, zI3, zh2, hF⟩ := pd_bd2_some hF
        refine pd_callV C [.int zx1, .int 2] [] (em_X12_right (pd_C_st C) hn  zh2) mw_X12_right wd_6_30 rfl (by decide) (pd_lt (by decide) hn) sh_92 ⟨by decide, by decide, by decide, by decide⟩ rfl (Nat.le_of_ble_eq_true rfl) pd_oldL_same (fun _ _ => pd_old_same _) dX12_stride_25 (stk' := [.int zr2]) rfl ?_
        refine pd_if_eq (tgt := 56) C dX12_stride_28 (by decide) (fun zc5 => ?_) (fun zc5 => ?_)
        · have hF := pd_t zc5 hF
          refine pd_wk (ls' := [none, none, none, none]) True.intro ?_
          exact hzj1 _ hF
        · have hF := pd_f zc5 hF
          refine pd_aload_n C dX12_stride_31 rfl rfl ?_
          refine pd_iload_n C dX12_stride_32 rfl rfl ?_
          refine pd_iconst (v := 1) C dX12_stride_33 (by decide) ?_
          obtain ⟨zx2, hS, hF⟩ := pd_bd_some hF
          have hJ49 : pd_V cx 0 0 49 [some (.ref 92), some (.int p0), some (.int p1), none] [.int zx2, .ref 92] zI3 J (pd_RF Z) n := by
            refine pd_iconst (v := 3) C dX12_stride_49 (by decide) ?_
            obtain ⟨zr3, zI4, zh3, hF⟩ := pd_bd2_some hF
            refine pd_callV C [.int zx2, .int 3] [] (em_X12_right (pd_C_st C) hn  zh3) mw_X12_right wd_6_30 rfl (by decide) (pd_lt (by decide) hn) sh_92 ⟨by decide, by decide, by decide, by decide⟩ rfl (Nat.le_of_ble_eq_true rfl) pd_oldL_same (fun _ _ => pd_old_same _) dX12_stride_50 (stk' := [.int zr3]) rfl ?_
            refine pd_if_ne (tgt := 58) C dX12_stride_53 (by decide) (fun zc1 => ?_) (fun zc1 => ?_)
            · have hF := pd_f zc1 hF
              refine pd_aload_n C dX12_stride_58 rfl rfl ?_
              refine gr_12_11 C wd_5_136 (pd_lt (by decide) hn) sh_92 (rf_92_11 _) dX12_stride_59 ?_
              refine pd_iload_n C dX12_stride_62 rfl rfl ?_
              obtain ⟨zg2, hF⟩ := pd_gd_some hF
              refine pd_iald C (pd_lt (by decide) hn) sh_102 zg2 dX12_stride_63 ?_
              refine pd_topi (fun zv1 hzv1 => ?_)
              have hF := pd_let_at hF hzv1
              refine pd_istore_n (ls' := [some (.ref 92), some (.int p0), some (.int p1), some (.int zv1)]) C dX12_stride_64 rfl (Nat.le_of_ble_eq_true rfl) rfl rfl ?_
              refine pd_aload_n C dX12_stride_65 rfl rfl ?_
              refine gr_12_11 C wd_5_136 (pd_lt (by decide) hn) sh_92 (rf_92_11 _) dX12_stride_66 ?_
              refine pd_iload_n C dX12_stride_69 rfl rfl ?_
              refine pd_iload_n C dX12_stride_70 rfl rfl ?_
              obtain ⟨zg3, hF⟩ := pd_gd_some hF
              refine pd_iast C (pd_lt (by decide) hn) sh_102 zg3 dX12_stride_71 ?_
              refine pd_memI (fun zI5 hzI5 => ?_)
              have hF := pd_let_at hF hzI5
              refine pd_iload_n C dX12_stride_72 rfl rfl ?_
              cases hF
              exact pd_iret C hE rfl rfl rfl ⟨by decide, by decide⟩ dX12_stride_73
            · have hF := pd_t zc1 hF
              refine pd_wk (ls' := [none, none, none, none]) True.intro ?_
              exact hzj1 _ hF
          replace hF := hS
          clear hS
          obtain ⟨zc2, hS, hF⟩ := pd_bd_some hF
          have hTzc2 : zc2 = true → pd_V cx 0 0 44 [some (.ref 92), some (.int p0), some (.int p1), none] [.ref 92] zI3 J (pd_RF Z) n := by
            intro hc
            have hF := pd_t hc hF
            refine pd_iconst (v := 1) C dX12_stride_44 (by decide) ?_
            refine pd_goto (tgt := 49) C dX12_stride_45 (by decide) ?_
            have hF := hF.symm
            cases hF
            exact hJ49
          have hEzc2 : zc2 = false → pd_V cx 0 0 48 [some (.ref 92), some (.int p0), some (.int p1), none] [.ref 92] zI3 J (pd_RF Z) n := by
            intro hc
            have hF := pd_bf hc hF
            refine pd_iconst (v := 0) C dX12_stride_48 (by decide) ?_
            have hF := hF.symm
            cases hF
            exact hJ49
          replace hF := hS
          clear hS
          refine pd_icmp_lt (tgt := 48) C dX12_stride_34 (by decide) (fun zc4 => ?_) (fun zc4 => ?_)
          · have hF := pd_t zc4 hF
            cases hF
            exact hEzc2 rfl
          · have hF := pd_f zc4 hF
            refine pd_iload_n C dX12_stride_37 rfl rfl ?_
            refine pd_sipush (v := 199) C dX12_stride_38 (by decide) ?_
            refine pd_icmp_gt (tgt := 48) C dX12_stride_41 (by decide) (fun zc3 => ?_) (fun zc3 => ?_)
            · have hF := pd_t zc3 hF
              cases hF
              exact hEzc2 rfl
            · have hF := pd_f zc3 hF
              cases hF
              exact hTzc2 rfl
      replace hF := hS
      clear hS
      refine pd_icmp_ne (tgt := 23) C dX12_stride_16 (by decide) (fun zc6 => ?_) (fun zc6 => ?_)
      · have hF := pd_f zc6 hF
        refine pd_iconst (v := 0) C dX12_stride_23 (by decide) ?_
        have hF := hF.symm
        cases hF
        exact hJ24
      · have hF := pd_t zc6 hF
        refine pd_iconst (v := 1) C dX12_stride_19 (by decide) ?_
        refine pd_goto (tgt := 24) C dX12_stride_20 (by decide) ?_
        have hF := hF.symm
        cases hF
        exact hJ24

def fn_X12_about (I : pd_I) (p0 : Int32) (p1 : Int32) : Option (Int32 × pd_I) := pd_bd2 (fn_X12_isCode I p0) fun zr1 zI1 => pd_jn (fun (zI2 : pd_I) => some (0, zI2)) fun zj1 => if zr1 = 0 then zj1 zI1 else (pd_bd (pd_bd (if p1 < 0 then some false else (if 18 < p1 then some false else (some true))) fun zc9 => if zc9 = true then some 1 else (some 0)) fun (zx1 : Int32) => pd_bd2 (fn_X12_right zI1 zx1 2) fun zr2 zI3 => if zr2 = 0 then zj1 zI3 else (pd_jn (fun (_ : Unit) => if p1 < 11 then if p1 = 0 then pd_gd (pd_in p0 12) (some ((zI3 97 p0.toNatClampNeg), zI3)) else (if p1 = 1 then pd_gd (pd_in p0 12) (some ((zI3 98 p0.toNatClampNeg), zI3)) else (if p1 = 2 then pd_gd (pd_in p0 12) (some ((zI3 99 p0.toNatClampNeg), zI3)) else (if p1 = 3 then pd_gd (pd_in p0 12) (some (((1 : Int32) <<< ((zI3 98 p0.toNatClampNeg) &&& 31)), zI3)) else (if p1 = 4 then pd_gd (pd_in p0 12) (some ((zI3 100 p0.toNatClampNeg), zI3)) else (if p1 = 5 then pd_gd (pd_in p0 12) (some ((zI3 101 p0.toNatClampNeg), zI3)) else (pd_gd (pd_in p0 12) (some ((zI3 102 p0.toNatClampNeg), zI3)))))))) else (pd_gd (pd_in p0 12) (pd_bd (pd_bd (if (zI3 97 p0.toNatClampNeg) < 2 then some false else (pd_gd (pd_in p0 12) (if (zI3 101 p0.toNatClampNeg) ≤ (p1 - 11) then some false else (some true)))) fun zc1 => if zc1 = true then pd_gd (pd_in (((8 * p0) + p1) - 11) 96) (some (zI3 104 (((8 * p0) + p1) - 11).toNatClampNeg)) else (some (-1))) fun (zx2 : Int32) => some (zx2, zI3)))) fun zj2 => if p1 < 7 then zj2 () else (if 10 < p1 then zj2 () else (pd_gd (pd_in p0 12) (pd_bd (if (zI3 99 p0.toNatClampNeg) ≤ (p1 - 7) then some (-1) else (pd_gd (pd_in (((4 * p0) + p1) - 7) 48) (some (zI3 103 (((4 * p0) + p1) - 7).toNatClampNeg)))) fun (zx3 : Int32) => some (zx3, zI3))))))
set_option maxRecDepth 100000 in
set_option maxHeartbeats 4000000 in
theorem em_X12_about {l : Launch} {D : va_G} {tc : Nat → ClassId} (hst : l.stackTraces = false) {I : pd_I} {J : pd_J} {Z : pd_R} {n : Nat} {p0 : Int32} {p1 : Int32} (hn : 133 ≤ n)  {out : Int32 × pd_I} (hF : fn_X12_about I p0 p1 = some out) :
    pd_M l D tc yX12_about (.code yX12_about cX12_about 3 (Option.some Jvm.ClassFile.FieldType.int)) rm_X12_about [.ref 92, .int p0, .int p1] I J (pd_RF Z) n (.ok (some (.int out.1))) out.2 J (pd_RF Z) n := by
  refine pd_open (own := "PathDecoderModel") (ls0 := [some (.ref 92), some (.int p0), some (.int p1)]) (by decide) rfl (Nat.le_of_ble_eq_true rfl) rfl rfl hst (fun cx hl hD htc C hE htab hnm => ?_)
  subst hl hD htc
  unfold fn_X12_about at hF
  refine pd_aload_n C dX12_about_0 rfl rfl ?_
  refine pd_iload_n C dX12_about_1 rfl rfl ?_
  obtain ⟨zr1, zI1, zh1, hF⟩ := pd_bd2_some hF
  refine pd_callV C [.int p0] [] (em_X12_isCode (pd_C_st C) hn  zh1) mw_X12_isCode wd_6_69 rfl (by decide) (pd_lt (by decide) hn) sh_92 ⟨by decide, by decide, by decide, by decide⟩ rfl (Nat.le_of_ble_eq_true rfl) pd_oldL_same (fun _ _ => pd_old_same _) dX12_about_2 (stk' := [.int zr1]) rfl ?_
  refine pd_jn_use hF (fun j => ∀ (zI2 : pd_I), j zI2 = some out → pd_V cx 0 0 31 [none, none, none] [] zI2 J (pd_RF Z) n) (fun zI2 hF => ?_) (fun zj1 hzj1 hF => ?_)
  · refine pd_iconst (v := 0) C dX12_about_31 (by decide) ?_
    cases hF
    exact pd_iret C hE rfl rfl rfl ⟨by decide, by decide⟩ dX12_about_32
  · refine pd_if_eq (tgt := 31) C dX12_about_5 (by decide) (fun zc12 => ?_) (fun zc12 => ?_)
    · have hF := pd_t zc12 hF
      refine pd_wk (ls' := [none, none, none]) True.intro ?_
      exact hzj1 _ hF
    · have hF := pd_f zc12 hF
      refine pd_aload_n C dX12_about_8 rfl rfl ?_
      refine pd_iload_n C dX12_about_9 rfl rfl ?_
      obtain ⟨zx1, hS, hF⟩ := pd_bd_some hF
      have hJ24 : pd_V cx 0 0 24 [some (.ref 92), some (.int p0), some (.int p1)] [.int zx1, .ref 92] zI1 J (pd_RF Z) n := by
        refine pd_iconst (v := 2) C dX12_about_24 (by decide) ?_
        obtain ⟨zr2, zI3, zh2, hF⟩ := pd_bd2_some hF
        refine pd_callV C [.int zx1, .int 2] [] (em_X12_right (pd_C_st C) hn  zh2) mw_X12_right wd_6_30 rfl (by decide) (pd_lt (by decide) hn) sh_92 ⟨by decide, by decide, by decide, by decide⟩ rfl (Nat.le_of_ble_eq_true rfl) pd_oldL_same (fun _ _ => pd_old_same _) dX12_about_25 (stk' := [.int zr2]) rfl ?_
        refine pd_if_ne (tgt := 33) C dX12_about_28 (by decide) (fun zc8 => ?_) (fun zc8 => ?_)
        · have hF := pd_f zc8 hF
          refine pd_iload_n C dX12_about_33 rfl rfl ?_
          refine pd_bipush (v := 7) C dX12_about_34 (by decide) ?_
          refine pd_jn_use hF (fun j => ∀ (_u : Unit), j _u = some out → pd_V cx 0 0 76 [some (.ref 92), some (.int p0), some (.int p1)] [] zI3 J (pd_RF Z) n) (fun _u hF => ?_) (fun zj2 hzj2 hF => ?_)
          · refine pd_iload_n C dX12_about_76 rfl rfl ?_
            refine pd_bipush (v := 11) C dX12_about_77 (by decide) ?_
            refine pd_icmp_lt (tgt := 124) C dX12_about_79 (by decide) (fun zc4 => ?_) (fun zc4 => ?_)
            · have hF := pd_t zc4 hF
              refine pd_iload_n C dX12_about_124 rfl rfl ?_
              by_cases hs0 : p1 = 0
              · have hF := pd_t hs0 hF
                refine pd_tabAt (tgt := 164) C dX12_about_125 hs0 (by decide) (by decide) rfl (by decide) ?_
                refine pd_aload_n C dX12_about_164 rfl rfl ?_
                refine gr_12_6 C wd_5_131 (pd_lt (by decide) hn) sh_92 (rf_92_6 _) dX12_about_165 ?_
                refine pd_iload_n C dX12_about_168 rfl rfl ?_
                obtain ⟨zg1, hF⟩ := pd_gd_some hF
                refine pd_iald C (pd_lt (by decide) hn) sh_97 zg1 dX12_about_169 ?_
                cases hF
                exact pd_iret C hE rfl rfl rfl ⟨by decide, by decide⟩ dX12_about_170
              have hF := pd_f hs0 hF
              by_cases hs1 : p1 = 1
              · have hF := pd_t hs1 hF
                refine pd_tabAt (tgt := 171) C dX12_about_125 hs1 (by decide) (by decide) rfl (by decide) ?_
                refine pd_aload_n C dX12_about_171 rfl rfl ?_
                refine gr_12_7 C wd_5_132 (pd_lt (by decide) hn) sh_92 (rf_92_7 _) dX12_about_172 ?_
                refine pd_iload_n C dX12_about_175 rfl rfl ?_
                obtain ⟨zg2, hF⟩ := pd_gd_some hF
                refine pd_iald C (pd_lt (by decide) hn) sh_98 zg2 dX12_about_176 ?_
                cases hF
                exact pd_iret C hE rfl rfl rfl ⟨by decide, by decide⟩ dX12_about_177
              have hF := pd_f hs1 hF
              by_cases hs2 : p1 = 2
              · have hF := pd_t hs2 hF
                refine pd_tabAt (tgt := 178) C dX12_about_125 hs2 (by decide) (by decide) rfl (by decide) ?_
                refine pd_aload_n C dX12_about_178 rfl rfl ?_
                refine gr_12_8 C wd_5_133 (pd_lt (by decide) hn) sh_92 (rf_92_8 _) dX12_about_179 ?_
                refine pd_iload_n C dX12_about_182 rfl rfl ?_
                obtain ⟨zg3, hF⟩ := pd_gd_some hF
                refine pd_iald C (pd_lt (by decide) hn) sh_99 zg3 dX12_about_183 ?_
                cases hF
                exact pd_iret C hE rfl rfl rfl ⟨by decide, by decide⟩ dX12_about_184
              have hF := pd_f hs2 hF
              by_cases hs3 : p1 = 3
              · have hF := pd_t hs3 hF
                refine pd_tabAt (tgt := 185) C dX12_about_125 hs3 (by decide) (by decide) rfl (by decide) ?_
                refine pd_iconst (v := 1) C dX12_about_185 (by decide) ?_
                refine pd_aload_n C dX12_about_186 rfl rfl ?_
                refine gr_12_7 C wd_5_132 (pd_lt (by decide) hn) sh_92 (rf_92_7 _) dX12_about_187 ?_
                refine pd_iload_n C dX12_about_190 rfl rfl ?_
                obtain ⟨zg4, hF⟩ := pd_gd_some hF
                refine pd_iald C (pd_lt (by decide) hn) sh_98 zg4 dX12_about_191 ?_
                refine pd_ishl C dX12_about_192 ?_
                cases hF
                exact pd_iret C hE rfl rfl rfl ⟨by decide, by decide⟩ dX12_about_193
              have hF := pd_f hs3 hF
              by_cases hs4 : p1 = 4
              · have hF := pd_t hs4 hF
                refine pd_tabAt (tgt := 194) C dX12_about_125 hs4 (by decide) (by decide) rfl (by decide) ?_
                refine pd_aload_n C dX12_about_194 rfl rfl ?_
                refine gr_12_9 C wd_5_134 (pd_lt (by decide) hn) sh_92 (rf_92_9 _) dX12_about_195 ?_
                refine pd_iload_n C dX12_about_198 rfl rfl ?_
                obtain ⟨zg5, hF⟩ := pd_gd_some hF
                refine pd_iald C (pd_lt (by decide) hn) sh_100 zg5 dX12_about_199 ?_
                cases hF
                exact pd_iret C hE rfl rfl rfl ⟨by decide, by decide⟩ dX12_about_200
              have hF := pd_f hs4 hF
              by_cases hs5 : p1 = 5
              · have hF := pd_t hs5 hF
                refine pd_tabAt (tgt := 201) C dX12_about_125 hs5 (by decide) (by decide) rfl (by decide) ?_
                refine pd_aload_n C dX12_about_201 rfl rfl ?_
                refine gr_12_10 C wd_5_135 (pd_lt (by decide) hn) sh_92 (rf_92_10 _) dX12_about_202 ?_
                refine pd_iload_n C dX12_about_205 rfl rfl ?_
                obtain ⟨zg6, hF⟩ := pd_gd_some hF
                refine pd_iald C (pd_lt (by decide) hn) sh_101 zg6 dX12_about_206 ?_
                cases hF
                exact pd_iret C hE rfl rfl rfl ⟨by decide, by decide⟩ dX12_about_207
              have hF := pd_f hs5 hF
              have hsw : ∀ z : Int, z ≠ 0 → z ≠ 1 → z ≠ 2 → z ≠ 3 → z ≠ 4 → z ≠ 5 → z < 0 ∨ 5 < z := fun z => by omega
              refine pd_tabOut (tgt := 208) C dX12_about_125 (hsw _ (fun z => hs0 (Int32.toInt_inj.mp (z.trans (by decide)))) (fun z => hs1 (Int32.toInt_inj.mp (z.trans (by decide)))) (fun z => hs2 (Int32.toInt_inj.mp (z.trans (by decide)))) (fun z => hs3 (Int32.toInt_inj.mp (z.trans (by decide)))) (fun z => hs4 (Int32.toInt_inj.mp (z.trans (by decide)))) (fun z => hs5 (Int32.toInt_inj.mp (z.trans (by decide))))) (by decide) ?_
              refine pd_aload_n C dX12_about_208 rfl rfl ?_
              refine gr_12_11 C wd_5_136 (pd_lt (by decide) hn) sh_92 (rf_92_11 _) dX12_about_209 ?_
              refine pd_iload_n C dX12_about_212 rfl rfl ?_
              obtain ⟨zg7, hF⟩ := pd_gd_some hF
              refine pd_iald C (pd_lt (by decide) hn) sh_102 zg7 dX12_about_213 ?_
              cases hF
              exact pd_iret C hE rfl rfl rfl ⟨by decide, by decide⟩ dX12_about_214
            · have hF := pd_f zc4 hF
              refine pd_aload_n C dX12_about_82 rfl rfl ?_
              refine gr_12_6 C wd_5_131 (pd_lt (by decide) hn) sh_92 (rf_92_6 _) dX12_about_83 ?_
              refine pd_iload_n C dX12_about_86 rfl rfl ?_
              obtain ⟨zg8, hF⟩ := pd_gd_some hF
              refine pd_iald C (pd_lt (by decide) hn) sh_97 zg8 dX12_about_87 ?_
              refine pd_iconst (v := 2) C dX12_about_88 (by decide) ?_
              obtain ⟨zx2, hS, hF⟩ := pd_bd_some hF
              have hJ123 : pd_V cx 0 0 123 [none, none, none] [.int zx2] zI3 J (pd_RF Z) n := by
                cases hF
                exact pd_iret C hE rfl rfl rfl ⟨by decide, by decide⟩ dX12_about_123
              replace hF := hS
              clear hS
              obtain ⟨zc1, hS, hF⟩ := pd_bd_some hF
              have hTzc1 : zc1 = true → pd_V cx 0 0 105 [some (.ref 92), some (.int p0), some (.int p1)] [] zI3 J (pd_RF Z) n := by
                intro hc
                have hF := pd_t hc hF
                refine pd_aload_n C dX12_about_105 rfl rfl ?_
                refine gr_12_13 C wd_5_138 (pd_lt (by decide) hn) sh_92 (rf_92_13 _) dX12_about_106 ?_
                refine pd_bipush (v := 8) C dX12_about_109 (by decide) ?_
                refine pd_iload_n C dX12_about_111 rfl rfl ?_
                refine pd_imul C dX12_about_112 ?_
                refine pd_iload_n C dX12_about_113 rfl rfl ?_
                refine pd_iadd C dX12_about_114 ?_
                refine pd_bipush (v := 11) C dX12_about_115 (by decide) ?_
                refine pd_isub C dX12_about_117 ?_
                obtain ⟨zg9, hF⟩ := pd_gd_some hF
                refine pd_iald C (pd_lt (by decide) hn) sh_104 zg9 dX12_about_118 ?_
                refine pd_goto (tgt := 123) C dX12_about_119 (by decide) ?_
                refine pd_wk (ls' := [none, none, none]) True.intro ?_
                have hF := hF.symm
                cases hF
                exact hJ123
              have hEzc1 : zc1 = false → pd_V cx 0 0 122 [some (.ref 92), some (.int p0), some (.int p1)] [] zI3 J (pd_RF Z) n := by
                intro hc
                have hF := pd_bf hc hF
                refine pd_iconst (v := (-1)) C dX12_about_122 (by decide) ?_
                refine pd_wk (ls' := [none, none, none]) True.intro ?_
                have hF := hF.symm
                cases hF
                exact hJ123
              replace hF := hS
              clear hS
              refine pd_icmp_lt (tgt := 122) C dX12_about_89 (by decide) (fun zc3 => ?_) (fun zc3 => ?_)
              · have hF := pd_t zc3 hF
                cases hF
                exact hEzc1 rfl
              · have hF := pd_f zc3 hF
                refine pd_iload_n C dX12_about_92 rfl rfl ?_
                refine pd_bipush (v := 11) C dX12_about_93 (by decide) ?_
                refine pd_isub C dX12_about_95 ?_
                refine pd_aload_n C dX12_about_96 rfl rfl ?_
                refine gr_12_10 C wd_5_135 (pd_lt (by decide) hn) sh_92 (rf_92_10 _) dX12_about_97 ?_
                refine pd_iload_n C dX12_about_100 rfl rfl ?_
                obtain ⟨zg10, hF⟩ := pd_gd_some hF
                refine pd_iald C (pd_lt (by decide) hn) sh_101 zg10 dX12_about_101 ?_
                refine pd_icmp_ge (tgt := 122) C dX12_about_102 (by decide) (fun zc2 => ?_) (fun zc2 => ?_)
                · have hF := pd_t zc2 hF
                  cases hF
                  exact hEzc1 rfl
                · have hF := pd_f zc2 hF
                  cases hF
                  exact hTzc1 rfl
          · refine pd_icmp_lt (tgt := 76) C dX12_about_36 (by decide) (fun zc7 => ?_) (fun zc7 => ?_)
            · have hF := pd_t zc7 hF
              exact hzj2 _ hF
            · have hF := pd_f zc7 hF
              refine pd_iload_n C dX12_about_39 rfl rfl ?_
              refine pd_bipush (v := 10) C dX12_about_40 (by decide) ?_
              refine pd_icmp_gt (tgt := 76) C dX12_about_42 (by decide) (fun zc6 => ?_) (fun zc6 => ?_)
              · have hF := pd_t zc6 hF
                exact hzj2 _ hF
              · have hF := pd_f zc6 hF
                refine pd_iload_n C dX12_about_45 rfl rfl ?_
                refine pd_bipush (v := 7) C dX12_about_46 (by decide) ?_
                refine pd_isub C dX12_about_48 ?_
                refine pd_aload_n C dX12_about_49 rfl rfl ?_
                refine gr_12_8 C wd_5_133 (pd_lt (by decide) hn) sh_92 (rf_92_8 _) dX12_about_50 ?_
                refine pd_iload_n C dX12_about_53 rfl rfl ?_
                obtain ⟨zg11, hF⟩ := pd_gd_some hF
                refine pd_iald C (pd_lt (by decide) hn) sh_99 zg11 dX12_about_54 ?_
                obtain ⟨zx3, hS, hF⟩ := pd_bd_some hF
                have hJ75 : pd_V cx 0 0 75 [none, none, none] [.int zx3] zI3 J (pd_RF Z) n := by
                  cases hF
                  exact pd_iret C hE rfl rfl rfl ⟨by decide, by decide⟩ dX12_about_75
                replace hF := hS
                clear hS
                refine pd_icmp_ge (tgt := 74) C dX12_about_55 (by decide) (fun zc5 => ?_) (fun zc5 => ?_)
                · have hF := pd_t zc5 hF
                  refine pd_iconst (v := (-1)) C dX12_about_74 (by decide) ?_
                  refine pd_wk (ls' := [none, none, none]) True.intro ?_
                  have hF := hF.symm
                  cases hF
                  exact hJ75
                · have hF := pd_f zc5 hF
                  refine pd_aload_n C dX12_about_58 rfl rfl ?_
                  refine gr_12_12 C wd_5_137 (pd_lt (by decide) hn) sh_92 (rf_92_12 _) dX12_about_59 ?_
                  refine pd_iconst (v := 4) C dX12_about_62 (by decide) ?_
                  refine pd_iload_n C dX12_about_63 rfl rfl ?_
                  refine pd_imul C dX12_about_64 ?_
                  refine pd_iload_n C dX12_about_65 rfl rfl ?_
                  refine pd_iadd C dX12_about_66 ?_
                  refine pd_bipush (v := 7) C dX12_about_67 (by decide) ?_
                  refine pd_isub C dX12_about_69 ?_
                  obtain ⟨zg12, hF⟩ := pd_gd_some hF
                  refine pd_iald C (pd_lt (by decide) hn) sh_103 zg12 dX12_about_70 ?_
                  refine pd_goto (tgt := 75) C dX12_about_71 (by decide) ?_
                  refine pd_wk (ls' := [none, none, none]) True.intro ?_
                  have hF := hF.symm
                  cases hF
                  exact hJ75
        · have hF := pd_t zc8 hF
          refine pd_wk (ls' := [none, none, none]) True.intro ?_
          exact hzj1 _ hF
      replace hF := hS
      clear hS
      obtain ⟨zc9, hS, hF⟩ := pd_bd_some hF
      have hTzc9 : zc9 = true → pd_V cx 0 0 19 [some (.ref 92), some (.int p0), some (.int p1)] [.ref 92] zI1 J (pd_RF Z) n := by
        intro hc
        have hF := pd_t hc hF
        refine pd_iconst (v := 1) C dX12_about_19 (by decide) ?_
        refine pd_goto (tgt := 24) C dX12_about_20 (by decide) ?_
        have hF := hF.symm
        cases hF
        exact hJ24
      have hEzc9 : zc9 = false → pd_V cx 0 0 23 [some (.ref 92), some (.int p0), some (.int p1)] [.ref 92] zI1 J (pd_RF Z) n := by
        intro hc
        have hF := pd_bf hc hF
        refine pd_iconst (v := 0) C dX12_about_23 (by decide) ?_
        have hF := hF.symm
        cases hF
        exact hJ24
      replace hF := hS
      clear hS
      refine pd_if_lt (tgt := 23) C dX12_about_10 (by decide) (fun zc11 => ?_) (fun zc11 => ?_)
      · have hF := pd_t zc11 hF
        cases hF
        exact hEzc9 rfl
      · have hF := pd_f zc11 hF
        refine pd_iload_n C dX12_about_13 rfl rfl ?_
        refine pd_bipush (v := 18) C dX12_about_14 (by decide) ?_
        refine pd_icmp_gt (tgt := 23) C dX12_about_16 (by decide) (fun zc10 => ?_) (fun zc10 => ?_)
        · have hF := pd_t zc10 hF
          cases hF
          exact hEzc9 rfl
        · have hF := pd_f zc10 hF
          cases hF
          exact hTzc9 rfl

def fl_X12_parity_4 {O : Type}  (kont : Int32 → Option O) : Nat → Int32 → Int32 → Option O
  | 0, _, _ => none
  | fu + 1, zx1, zx2 => if zx2 = 0 then kont zx1 else (pd_let (zx1 ^^^ 1) fun zv1 => pd_let (zx2 &&& (zx2 - 1)) fun zv2 => fl_X12_parity_4 kont fu zv1 zv2)
set_option maxRecDepth 100000 in
set_option maxHeartbeats 4000000 in
theorem el_X12_parity_4 {cx : pd_X} (C : pd_C cx "PathDecoderModel" cX12_parity rm_X12_parity) {I : pd_I} {J : pd_J} {Z : pd_R} {n : Nat} (hn : 133 ≤ n)  {O : Type} {kont : Int32 → Option O} {out : O} (K : ∀ (zx3 : Int32), kont zx3 = some out → pd_V cx 0 0 21 [none, some (.int zx3), none] [] I J (pd_RF Z) n) :
    ∀ (fu : Nat) (zx1 : Int32) (zx2 : Int32), fl_X12_parity_4 kont fu zx1 zx2 = some out → pd_V cx 0 0 4 [none, some (.int zx1), some (.int zx2)] [] I J (pd_RF Z) n := by
  intro fu
  induction fu with
  | zero => intro zx1 zx2 hF; rw [fl_X12_parity_4] at hF; cases hF
  | succ fu ih =>
    intro zx1 zx2 hF
    rw [fl_X12_parity_4] at hF
    refine pd_iload_n C dX12_parity_4 rfl rfl ?_
    refine pd_if_eq (tgt := 21) C dX12_parity_5 (by decide) (fun zc1 => ?_) (fun zc1 => ?_)
    · have hF := pd_t zc1 hF
      refine pd_wk (ls' := [none, some (.int zx1), none]) (And.intro rfl True.intro) ?_
      exact K _ hF
    · have hF := pd_f zc1 hF
      refine pd_iload_n C dX12_parity_8 rfl rfl ?_
      refine pd_iconst (v := 1) C dX12_parity_9 (by decide) ?_
      refine pd_ixor C dX12_parity_10 ?_
      refine pd_topi (fun zv1 hzv1 => ?_)
      have hF := pd_let_at hF hzv1
      refine pd_istore_n (ls' := [none, some (.int zv1), some (.int zx2)]) C dX12_parity_11 rfl (Nat.le_of_ble_eq_true rfl) rfl rfl ?_
      refine pd_iload_n C dX12_parity_12 rfl rfl ?_
      refine pd_iload_n C dX12_parity_13 rfl rfl ?_
      refine pd_iconst (v := 1) C dX12_parity_14 (by decide) ?_
      refine pd_isub C dX12_parity_15 ?_
      refine pd_iand C dX12_parity_16 ?_
      refine pd_topi (fun zv2 hzv2 => ?_)
      have hF := pd_let_at hF hzv2
      refine pd_istore_n (ls' := [none, some (.int zv1), some (.int zv2)]) C dX12_parity_17 rfl (Nat.le_of_ble_eq_true rfl) rfl rfl ?_
      refine pd_goto (tgt := 4) C dX12_parity_18 (by decide) ?_
      exact ih _ _ hF
def fn_X12_parity (p0 : Int32) : Option Int32 := fl_X12_parity_4 (fun zx3 => some zx3) pd_FU 0 p0
set_option maxRecDepth 100000 in
set_option maxHeartbeats 4000000 in
theorem em_X12_parity {l : Launch} {D : va_G} {tc : Nat → ClassId} (hst : l.stackTraces = false) {I : pd_I} {J : pd_J} {Z : pd_R} {n : Nat} {p0 : Int32} (hn : 133 ≤ n)  {out : Int32} (hF : fn_X12_parity p0 = some out) :
    pd_M l D tc yX12_parity (.code yX12_parity cX12_parity 3 (Option.some Jvm.ClassFile.FieldType.int)) rm_X12_parity [.int p0] I J (pd_RF Z) n (.ok (some (.int out))) I J (pd_RF Z) n := by
  refine pd_open (own := "PathDecoderModel") (ls0 := [some (.int p0), none, none]) (by decide) rfl (Nat.le_of_ble_eq_true rfl) rfl rfl hst (fun cx hl hD htc C hE htab hnm => ?_)
  subst hl hD htc
  unfold fn_X12_parity at hF
  refine pd_iconst (v := 0) C dX12_parity_0 (by decide) ?_
  refine pd_istore_n (ls' := [some (.int p0), some (.int 0), none]) C dX12_parity_1 rfl (Nat.le_of_ble_eq_true rfl) rfl rfl ?_
  refine pd_iload_n C dX12_parity_2 rfl rfl ?_
  refine pd_istore_n (ls' := [some (.int p0), some (.int 0), some (.int p0)]) C dX12_parity_3 rfl (Nat.le_of_ble_eq_true rfl) rfl rfl ?_
  refine pd_wk (ls' := [none, some (.int 0), some (.int p0)]) (And.intro rfl (And.intro rfl True.intro)) ?_
  refine el_X12_parity_4 C hn (fun zx3 hF => ?_) pd_FU _ _ hF
  refine pd_iload_n C dX12_parity_21 rfl rfl ?_
  cases hF
  exact pd_iret C hE rfl rfl rfl ⟨by decide, by decide⟩ dX12_parity_22

def fn_X12_fed (I : pd_I) (p0 : Int32) (p1 : Int32) : Option Int32 := pd_gd (pd_in p0 12) (pd_bd (fn_X12_parity (p1 &&& (I 100 p0.toNatClampNeg))) fun zr1 => some zr1)
set_option maxRecDepth 100000 in
set_option maxHeartbeats 4000000 in
theorem em_X12_fed {l : Launch} {D : va_G} {tc : Nat → ClassId} (hst : l.stackTraces = false) {I : pd_I} {J : pd_J} {Z : pd_R} {n : Nat} {p0 : Int32} {p1 : Int32} (hn : 133 ≤ n)  {out : Int32} (hF : fn_X12_fed I p0 p1 = some out) :
    pd_M l D tc yX12_fed (.code yX12_fed cX12_fed 3 (Option.some Jvm.ClassFile.FieldType.int)) rm_X12_fed [.ref 92, .int p0, .int p1] I J (pd_RF Z) n (.ok (some (.int out))) I J (pd_RF Z) n := by
  refine pd_open (own := "PathDecoderModel") (ls0 := [some (.ref 92), some (.int p0), some (.int p1)]) (by decide) rfl (Nat.le_of_ble_eq_true rfl) rfl rfl hst (fun cx hl hD htc C hE htab hnm => ?_)
  subst hl hD htc
  unfold fn_X12_fed at hF
  refine pd_iload_n C dX12_fed_0 rfl rfl ?_
  refine pd_aload_n C dX12_fed_1 rfl rfl ?_
  refine gr_12_9 C wd_5_134 (pd_lt (by decide) hn) sh_92 (rf_92_9 _) dX12_fed_2 ?_
  refine pd_iload_n C dX12_fed_5 rfl rfl ?_
  obtain ⟨zg1, hF⟩ := pd_gd_some hF
  refine pd_iald C (pd_lt (by decide) hn) sh_100 zg1 dX12_fed_6 ?_
  refine pd_iand C dX12_fed_7 ?_
  obtain ⟨zr1, zh1, hF⟩ := pd_bd_some hF
  refine pd_callS C [.int (p1 &&& (I 100 p0.toNatClampNeg))] [] (em_X12_parity (pd_C_st C) hn  zh1) mw_X12_parity wd_6_117 ⟨by decide, by decide, by decide, by decide⟩ rfl (Nat.le_of_ble_eq_true rfl) pd_oldL_same (fun _ _ => pd_old_same _) dX12_fed_8 (stk' := [.int zr1]) rfl ?_
  cases hF
  exact pd_iret C hE rfl rfl rfl ⟨by decide, by decide⟩ dX12_fed_11

def fn_X12_next (I : pd_I) (p0 : Int32) (p1 : Int32) (p2 : Int32) : Option Int32 := pd_bd (fn_X12_fed I p0 p1) fun zr1 => pd_gd (pd_in p0 12) (some (((2 * p1) + (p2 ^^^ zr1)) &&& (((1 : Int32) <<< ((I 98 p0.toNatClampNeg) &&& 31)) - 1)))
set_option maxRecDepth 100000 in
set_option maxHeartbeats 4000000 in
theorem em_X12_next {l : Launch} {D : va_G} {tc : Nat → ClassId} (hst : l.stackTraces = false) {I : pd_I} {J : pd_J} {Z : pd_R} {n : Nat} {p0 : Int32} {p1 : Int32} {p2 : Int32} (hn : 133 ≤ n)  {out : Int32} (hF : fn_X12_next I p0 p1 p2 = some out) :
    pd_M l D tc yX12_next (.code yX12_next cX12_next 4 (Option.some Jvm.ClassFile.FieldType.int)) rm_X12_next [.ref 92, .int p0, .int p1, .int p2] I J (pd_RF Z) n (.ok (some (.int out))) I J (pd_RF Z) n := by
  refine pd_open (own := "PathDecoderModel") (ls0 := [some (.ref 92), some (.int p0), some (.int p1), some (.int p2)]) (by decide) rfl (Nat.le_of_ble_eq_true rfl) rfl rfl hst (fun cx hl hD htc C hE htab hnm => ?_)
  subst hl hD htc
  unfold fn_X12_next at hF
  refine pd_iconst (v := 2) C dX12_next_0 (by decide) ?_
  refine pd_iload_n C dX12_next_1 rfl rfl ?_
  refine pd_imul C dX12_next_2 ?_
  refine pd_iload_n C dX12_next_3 rfl rfl ?_
  refine pd_aload_n C dX12_next_4 rfl rfl ?_
  refine pd_iload_n C dX12_next_5 rfl rfl ?_
  refine pd_iload_n C dX12_next_6 rfl rfl ?_
  obtain ⟨zr1, zh1, hF⟩ := pd_bd_some hF
  refine pd_callV C [.int p0, .int p1] [.int p2, .int (2 * p1)] (em_X12_fed (pd_C_st C) hn  zh1) mw_X12_fed wd_6_113 rfl (by decide) (pd_lt (by decide) hn) sh_92 ⟨by decide, by decide, by decide, by decide⟩ rfl (Nat.le_of_ble_eq_true rfl) pd_oldL_same (fun _ _ => pd_old_same _) dX12_next_7 (stk' := [.int zr1, .int p2, .int (2 * p1)]) rfl ?_
  refine pd_ixor C dX12_next_10 ?_
  refine pd_iadd C dX12_next_11 ?_
  refine pd_iconst (v := 1) C dX12_next_12 (by decide) ?_
  refine pd_aload_n C dX12_next_13 rfl rfl ?_
  refine gr_12_7 C wd_5_132 (pd_lt (by decide) hn) sh_92 (rf_92_7 _) dX12_next_14 ?_
  refine pd_iload_n C dX12_next_17 rfl rfl ?_
  obtain ⟨zg1, hF⟩ := pd_gd_some hF
  refine pd_iald C (pd_lt (by decide) hn) sh_98 zg1 dX12_next_18 ?_
  refine pd_ishl C dX12_next_19 ?_
  refine pd_iconst (v := 1) C dX12_next_20 (by decide) ?_
  refine pd_isub C dX12_next_21 ?_
  refine pd_iand C dX12_next_22 ?_
  cases hF
  exact pd_iret C hE rfl rfl rfl ⟨by decide, by decide⟩ dX12_next_23

def fn_X12_out (I : pd_I) (p0 : Int32) (p1 : Int32) (p2 : Int32) (p3 : Int32) : Option Int32 := pd_bd (if p3 = 0 then pd_gd (pd_in p0 12) (if (I 97 p0.toNatClampNeg) < 1 then some false else (some true)) else (some false)) fun zc1 => if zc1 = true then some p2 else (pd_bd (fn_X12_fed I p0 p1) fun zr1 => pd_gd (pd_in ((4 * p0) + p3) 48) (pd_bd (fn_X12_parity (((2 * p1) ||| (p2 ^^^ zr1)) &&& (I 103 ((4 * p0) + p3).toNatClampNeg))) fun zr2 => some zr2))
set_option maxRecDepth 100000 in
set_option maxHeartbeats 4000000 in
theorem em_X12_out {l : Launch} {D : va_G} {tc : Nat → ClassId} (hst : l.stackTraces = false) {I : pd_I} {J : pd_J} {Z : pd_R} {n : Nat} {p0 : Int32} {p1 : Int32} {p2 : Int32} {p3 : Int32} (hn : 133 ≤ n)  {out : Int32} (hF : fn_X12_out I p0 p1 p2 p3 = some out) :
    pd_M l D tc yX12_out (.code yX12_out cX12_out 5 (Option.some Jvm.ClassFile.FieldType.int)) rm_X12_out [.ref 92, .int p0, .int p1, .int p2, .int p3] I J (pd_RF Z) n (.ok (some (.int out))) I J (pd_RF Z) n := by
  refine pd_open (own := "PathDecoderModel") (ls0 := [some (.ref 92), some (.int p0), some (.int p1), some (.int p2), some (.int p3)]) (by decide) rfl (Nat.le_of_ble_eq_true rfl) rfl rfl hst (fun cx hl hD htc C hE htab hnm => ?_)
  subst hl hD htc
  unfold fn_X12_out at hF
  refine pd_iload C dX12_out_0 rfl ?_
  obtain ⟨zc1, hS, hF⟩ := pd_bd_some hF
  have hTzc1 : zc1 = true → pd_V cx 0 0 15 [some (.ref 92), some (.int p0), some (.int p1), some (.int p2), some (.int p3)] [] I J (pd_RF Z) n := by
    intro hc
    have hF := pd_t hc hF
    refine pd_iload_n C dX12_out_15 rfl rfl ?_
    cases hF
    exact pd_iret C hE rfl rfl rfl ⟨by decide, by decide⟩ dX12_out_16
  have hEzc1 : zc1 = false → pd_V cx 0 0 17 [some (.ref 92), some (.int p0), some (.int p1), some (.int p2), some (.int p3)] [] I J (pd_RF Z) n := by
    intro hc
    have hF := pd_bf hc hF
    refine pd_iconst (v := 2) C dX12_out_17 (by decide) ?_
    refine pd_iload_n C dX12_out_18 rfl rfl ?_
    refine pd_imul C dX12_out_19 ?_
    refine pd_iload_n C dX12_out_20 rfl rfl ?_
    refine pd_aload_n C dX12_out_21 rfl rfl ?_
    refine pd_iload_n C dX12_out_22 rfl rfl ?_
    refine pd_iload_n C dX12_out_23 rfl rfl ?_
    obtain ⟨zr1, zh1, hF⟩ := pd_bd_some hF
    refine pd_callV C [.int p0, .int p1] [.int p2, .int (2 * p1)] (em_X12_fed (pd_C_st C) hn  zh1) mw_X12_fed wd_6_113 rfl (by decide) (pd_lt (by decide) hn) sh_92 ⟨by decide, by decide, by decide, by decide⟩ rfl (Nat.le_of_ble_eq_true rfl) pd_oldL_same (fun _ _ => pd_old_same _) dX12_out_24 (stk' := [.int zr1, .int p2, .int (2 * p1)]) rfl ?_
    refine pd_ixor C dX12_out_27 ?_
    refine pd_ior C dX12_out_28 ?_
    refine pd_aload_n C dX12_out_29 rfl rfl ?_
    refine gr_12_12 C wd_5_137 (pd_lt (by decide) hn) sh_92 (rf_92_12 _) dX12_out_30 ?_
    refine pd_iconst (v := 4) C dX12_out_33 (by decide) ?_
    refine pd_iload_n C dX12_out_34 rfl rfl ?_
    refine pd_imul C dX12_out_35 ?_
    refine pd_iload C dX12_out_36 rfl ?_
    refine pd_iadd C dX12_out_38 ?_
    obtain ⟨zg1, hF⟩ := pd_gd_some hF
    refine pd_iald C (pd_lt (by decide) hn) sh_103 zg1 dX12_out_39 ?_
    refine pd_iand C dX12_out_40 ?_
    obtain ⟨zr2, zh2, hF⟩ := pd_bd_some hF
    refine pd_callS C [.int (((2 * p1) ||| (p2 ^^^ zr1)) &&& (I 103 ((4 * p0) + p3).toNatClampNeg))] [] (em_X12_parity (pd_C_st C) hn  zh2) mw_X12_parity wd_6_117 ⟨by decide, by decide, by decide, by decide⟩ rfl (Nat.le_of_ble_eq_true rfl) pd_oldL_same (fun _ _ => pd_old_same _) dX12_out_41 (stk' := [.int zr2]) rfl ?_
    cases hF
    exact pd_iret C hE rfl rfl rfl ⟨by decide, by decide⟩ dX12_out_44
  replace hF := hS
  clear hS
  refine pd_if_ne (tgt := 17) C dX12_out_2 (by decide) (fun zc3 => ?_) (fun zc3 => ?_)
  · have hF := pd_f zc3 hF
    cases hF
    exact hEzc1 rfl
  · have hF := pd_t zc3 hF
    refine pd_aload_n C dX12_out_5 rfl rfl ?_
    refine gr_12_6 C wd_5_131 (pd_lt (by decide) hn) sh_92 (rf_92_6 _) dX12_out_6 ?_
    refine pd_iload_n C dX12_out_9 rfl rfl ?_
    obtain ⟨zg2, hF⟩ := pd_gd_some hF
    refine pd_iald C (pd_lt (by decide) hn) sh_97 zg2 dX12_out_10 ?_
    refine pd_iconst (v := 1) C dX12_out_11 (by decide) ?_
    refine pd_icmp_lt (tgt := 17) C dX12_out_12 (by decide) (fun zc2 => ?_) (fun zc2 => ?_)
    · have hF := pd_t zc2 hF
      cases hF
      exact hEzc1 rfl
    · have hF := pd_f zc2 hF
      cases hF
      exact hTzc1 rfl

def fn_X12_isKept (I : pd_I) (p0 : Int32) (p1 : Int32) (p2 : Int32) : Option Int32 := pd_gd (pd_in p0 12) (pd_bd (pd_bd (if (I 97 p0.toNatClampNeg) < 2 then some false else (pd_gd (pd_in p0 12) (pd_gd (decide (¬ (I 101 p0.toNatClampNeg) = 0)) (pd_gd (pd_in ((8 * p0) + (p1 % (I 101 p0.toNatClampNeg))) 96) (if (((I 104 ((8 * p0) + (p1 % (I 101 p0.toNatClampNeg))).toNatClampNeg) >>> (p2 &&& 31)) &&& 1) = 1 then some false else (some true)))))) fun zc1 => if zc1 = true then some 0 else (some 1)) fun (zx1 : Int32) => pd_gd (pd_bo zx1) (some zx1))
set_option maxRecDepth 100000 in
set_option maxHeartbeats 4000000 in
theorem em_X12_isKept {l : Launch} {D : va_G} {tc : Nat → ClassId} (hst : l.stackTraces = false) {I : pd_I} {J : pd_J} {Z : pd_R} {n : Nat} {p0 : Int32} {p1 : Int32} {p2 : Int32} (hn : 133 ≤ n)  {out : Int32} (hF : fn_X12_isKept I p0 p1 p2 = some out) :
    pd_M l D tc yX12_isKept (.code yX12_isKept cX12_isKept 4 (Option.some Jvm.ClassFile.FieldType.boolean)) rm_X12_isKept [.ref 92, .int p0, .int p1, .int p2] I J (pd_RF Z) n (.ok (some (.int out))) I J (pd_RF Z) n := by
  refine pd_open (own := "PathDecoderModel") (ls0 := [some (.ref 92), some (.int p0), some (.int p1), some (.int p2)]) (by decide) rfl (Nat.le_of_ble_eq_true rfl) rfl rfl hst (fun cx hl hD htc C hE htab hnm => ?_)
  subst hl hD htc
  unfold fn_X12_isKept at hF
  refine pd_aload_n C dX12_isKept_0 rfl rfl ?_
  refine gr_12_6 C wd_5_131 (pd_lt (by decide) hn) sh_92 (rf_92_6 _) dX12_isKept_1 ?_
  refine pd_iload_n C dX12_isKept_4 rfl rfl ?_
  obtain ⟨zg1, hF⟩ := pd_gd_some hF
  refine pd_iald C (pd_lt (by decide) hn) sh_97 zg1 dX12_isKept_5 ?_
  refine pd_iconst (v := 2) C dX12_isKept_6 (by decide) ?_
  obtain ⟨zx1, hS, hF⟩ := pd_bd_some hF
  have hJ41 : pd_V cx 0 0 41 [none, none, none, none] [.int zx1] I J (pd_RF Z) n := by
    obtain ⟨zg2, hF⟩ := pd_gd_some hF
    cases hF
    exact pd_iret C hE rfl rfl (pd_bo_nar zg2) ⟨by decide, by decide⟩ dX12_isKept_41
  replace hF := hS
  clear hS
  obtain ⟨zc1, hS, hF⟩ := pd_bd_some hF
  have hTzc1 : zc1 = true → pd_V cx 0 0 40 [some (.ref 92), some (.int p0), some (.int p1), some (.int p2)] [] I J (pd_RF Z) n := by
    intro hc
    have hF := pd_t hc hF
    refine pd_iconst (v := 0) C dX12_isKept_40 (by decide) ?_
    refine pd_wk (ls' := [none, none, none, none]) True.intro ?_
    have hF := hF.symm
    cases hF
    exact hJ41
  have hEzc1 : zc1 = false → pd_V cx 0 0 36 [some (.ref 92), some (.int p0), some (.int p1), some (.int p2)] [] I J (pd_RF Z) n := by
    intro hc
    have hF := pd_bf hc hF
    refine pd_iconst (v := 1) C dX12_isKept_36 (by decide) ?_
    refine pd_goto (tgt := 41) C dX12_isKept_37 (by decide) ?_
    refine pd_wk (ls' := [none, none, none, none]) True.intro ?_
    have hF := hF.symm
    cases hF
    exact hJ41
  replace hF := hS
  clear hS
  refine pd_icmp_lt (tgt := 36) C dX12_isKept_7 (by decide) (fun zc3 => ?_) (fun zc3 => ?_)
  · have hF := pd_t zc3 hF
    cases hF
    exact hEzc1 rfl
  · have hF := pd_f zc3 hF
    refine pd_aload_n C dX12_isKept_10 rfl rfl ?_
    refine gr_12_13 C wd_5_138 (pd_lt (by decide) hn) sh_92 (rf_92_13 _) dX12_isKept_11 ?_
    refine pd_bipush (v := 8) C dX12_isKept_14 (by decide) ?_
    refine pd_iload_n C dX12_isKept_16 rfl rfl ?_
    refine pd_imul C dX12_isKept_17 ?_
    refine pd_iload_n C dX12_isKept_18 rfl rfl ?_
    refine pd_aload_n C dX12_isKept_19 rfl rfl ?_
    refine gr_12_10 C wd_5_135 (pd_lt (by decide) hn) sh_92 (rf_92_10 _) dX12_isKept_20 ?_
    refine pd_iload_n C dX12_isKept_23 rfl rfl ?_
    obtain ⟨zg3, hF⟩ := pd_gd_some hF
    refine pd_iald C (pd_lt (by decide) hn) sh_101 zg3 dX12_isKept_24 ?_
    obtain ⟨zg4, hF⟩ := pd_gd_some hF
    refine pd_irem C dX12_isKept_25 (of_decide_eq_true zg4) ?_
    refine pd_iadd C dX12_isKept_26 ?_
    obtain ⟨zg5, hF⟩ := pd_gd_some hF
    refine pd_iald C (pd_lt (by decide) hn) sh_104 zg5 dX12_isKept_27 ?_
    refine pd_iload_n C dX12_isKept_28 rfl rfl ?_
    refine pd_ishr C dX12_isKept_29 ?_
    refine pd_iconst (v := 1) C dX12_isKept_30 (by decide) ?_
    refine pd_iand C dX12_isKept_31 ?_
    refine pd_iconst (v := 1) C dX12_isKept_32 (by decide) ?_
    refine pd_icmp_ne (tgt := 40) C dX12_isKept_33 (by decide) (fun zc2 => ?_) (fun zc2 => ?_)
    · have hF := pd_f zc2 hF
      cases hF
      exact hTzc1 rfl
    · have hF := pd_t zc2 hF
      cases hF
      exact hEzc1 rfl

def fl_X12_sends_5 {O : Type} (p0 : Int32) (p1 : Int32) (I : pd_I) (kont : Int32 → Option O) : Nat → Int32 → Int32 → Option O
  | 0, _, _ => none
  | fu + 1, zx1, zx2 => pd_bd (fn_X12_wide I p0) fun zr1 => if zr1 ≤ zx2 then kont zx1 else (pd_bd (fn_X12_isKept I p0 p1 zx2) fun zr2 => pd_bd (if zr2 = 0 then some 0 else (some 1)) fun (zx4 : Int32) => pd_let (zx1 + zx4) fun zv1 => pd_let (zx2 + 1) fun zv2 => fl_X12_sends_5 p0 p1 I kont fu zv1 zv2)
set_option maxRecDepth 100000 in
set_option maxHeartbeats 4000000 in
theorem el_X12_sends_5 {cx : pd_X} (C : pd_C cx "PathDecoderModel" cX12_sends rm_X12_sends) {p0 : Int32} {p1 : Int32} {I : pd_I} {J : pd_J} {Z : pd_R} {n : Nat} (hn : 133 ≤ n)  {O : Type} {kont : Int32 → Option O} {out : O} (K : ∀ (zx3 : Int32), kont zx3 = some out → pd_V cx 0 0 40 [none, none, none, some (.int zx3), none] [] I J (pd_RF Z) n) :
    ∀ (fu : Nat) (zx1 : Int32) (zx2 : Int32), fl_X12_sends_5 p0 p1 I kont fu zx1 zx2 = some out → pd_V cx 0 0 5 [some (.ref 92), some (.int p0), some (.int p1), some (.int zx1), some (.int zx2)] [] I J (pd_RF Z) n := by
  intro fu
  induction fu with
  | zero => intro zx1 zx2 hF; rw [fl_X12_sends_5] at hF; cases hF
  | succ fu ih =>
    intro zx1 zx2 hF
    rw [fl_X12_sends_5] at hF
    refine pd_iload C dX12_sends_5 rfl ?_
    refine pd_aload_n C dX12_sends_7 rfl rfl ?_
    refine pd_iload_n C dX12_sends_8 rfl rfl ?_
    obtain ⟨zr1, zh1, hF⟩ := pd_bd_some hF
    refine pd_callV C [.int p0] [.int zx2] (em_X12_wide (pd_C_st C) hn  zh1) mw_X12_wide wd_6_61 rfl (by decide) (pd_lt (by decide) hn) sh_92 ⟨by decide, by decide, by decide, by decide⟩ rfl (Nat.le_of_ble_eq_true rfl) pd_oldL_same (fun _ _ => pd_old_same _) dX12_sends_9 (stk' := [.int zr1, .int zx2]) rfl ?_
    refine pd_icmp_ge (tgt := 40) C dX12_sends_12 (by decide) (fun zc2 => ?_) (fun zc2 => ?_)
    · have hF := pd_t zc2 hF
      refine pd_wk (ls' := [none, none, none, some (.int zx1), none]) (And.intro rfl True.intro) ?_
      exact K _ hF
    · have hF := pd_f zc2 hF
      refine pd_iload_n C dX12_sends_15 rfl rfl ?_
      refine pd_aload_n C dX12_sends_16 rfl rfl ?_
      refine pd_iload_n C dX12_sends_17 rfl rfl ?_
      refine pd_iload_n C dX12_sends_18 rfl rfl ?_
      refine pd_iload C dX12_sends_19 rfl ?_
      obtain ⟨zr2, zh2, hF⟩ := pd_bd_some hF
      refine pd_callV C [.int p0, .int p1, .int zx2] [.int zx1] (em_X12_isKept (pd_C_st C) hn  zh2) mw_X12_isKept wd_6_132 rfl (by decide) (pd_lt (by decide) hn) sh_92 ⟨by decide, by decide, by decide, by decide⟩ rfl (Nat.le_of_ble_eq_true rfl) pd_oldL_same (fun _ _ => pd_old_same _) dX12_sends_21 (stk' := [.int zr2, .int zx1]) rfl ?_
      obtain ⟨zx4, hS, hF⟩ := pd_bd_some hF
      have hJ32 : pd_V cx 0 0 32 [some (.ref 92), some (.int p0), some (.int p1), none, some (.int zx2)] [.int zx4, .int zx1] I J (pd_RF Z) n := by
        refine pd_iadd C dX12_sends_32 ?_
        refine pd_topi (fun zv1 hzv1 => ?_)
        have hF := pd_let_at hF hzv1
        refine pd_istore_n (ls' := [some (.ref 92), some (.int p0), some (.int p1), some (.int zv1), some (.int zx2)]) C dX12_sends_33 rfl (Nat.le_of_ble_eq_true rfl) rfl rfl ?_
        refine pd_iincG (zz := 1) C dX12_sends_34 rfl (by decide) rfl (fun zv2 hzv2 => ?_)
        have hF := pd_let_at hF hzv2
        refine pd_lsE (ls' := [some (.ref 92), some (.int p0), some (.int p1), some (.int zv1), some (.int zv2)]) rfl ?_
        refine pd_goto (tgt := 5) C dX12_sends_37 (by decide) ?_
        exact ih _ _ hF
      replace hF := hS
      clear hS
      refine pd_if_eq (tgt := 31) C dX12_sends_24 (by decide) (fun zc1 => ?_) (fun zc1 => ?_)
      · have hF := pd_t zc1 hF
        refine pd_iconst (v := 0) C dX12_sends_31 (by decide) ?_
        refine pd_wk (ls' := [some (.ref 92), some (.int p0), some (.int p1), none, some (.int zx2)]) (And.intro rfl (And.intro rfl (And.intro rfl (And.intro rfl True.intro)))) ?_
        have hF := hF.symm
        cases hF
        exact hJ32
      · have hF := pd_f zc1 hF
        refine pd_iconst (v := 1) C dX12_sends_27 (by decide) ?_
        refine pd_goto (tgt := 32) C dX12_sends_28 (by decide) ?_
        refine pd_wk (ls' := [some (.ref 92), some (.int p0), some (.int p1), none, some (.int zx2)]) (And.intro rfl (And.intro rfl (And.intro rfl (And.intro rfl True.intro)))) ?_
        have hF := hF.symm
        cases hF
        exact hJ32
def fn_X12_sends (I : pd_I) (p0 : Int32) (p1 : Int32) : Option Int32 := fl_X12_sends_5 p0 p1 I (fun zx3 => some zx3) pd_FU 0 0
set_option maxRecDepth 100000 in
set_option maxHeartbeats 4000000 in
theorem em_X12_sends {l : Launch} {D : va_G} {tc : Nat → ClassId} (hst : l.stackTraces = false) {I : pd_I} {J : pd_J} {Z : pd_R} {n : Nat} {p0 : Int32} {p1 : Int32} (hn : 133 ≤ n)  {out : Int32} (hF : fn_X12_sends I p0 p1 = some out) :
    pd_M l D tc yX12_sends (.code yX12_sends cX12_sends 5 (Option.some Jvm.ClassFile.FieldType.int)) rm_X12_sends [.ref 92, .int p0, .int p1] I J (pd_RF Z) n (.ok (some (.int out))) I J (pd_RF Z) n := by
  refine pd_open (own := "PathDecoderModel") (ls0 := [some (.ref 92), some (.int p0), some (.int p1), none, none]) (by decide) rfl (Nat.le_of_ble_eq_true rfl) rfl rfl hst (fun cx hl hD htc C hE htab hnm => ?_)
  subst hl hD htc
  unfold fn_X12_sends at hF
  refine pd_iconst (v := 0) C dX12_sends_0 (by decide) ?_
  refine pd_istore_n (ls' := [some (.ref 92), some (.int p0), some (.int p1), some (.int 0), none]) C dX12_sends_1 rfl (Nat.le_of_ble_eq_true rfl) rfl rfl ?_
  refine pd_iconst (v := 0) C dX12_sends_2 (by decide) ?_
  refine pd_istore (ls' := [some (.ref 92), some (.int p0), some (.int p1), some (.int 0), some (.int 0)]) C dX12_sends_3 (Nat.le_of_ble_eq_true rfl) rfl rfl ?_
  refine el_X12_sends_5 C hn (fun zx3 hF => ?_) pd_FU _ _ hF
  refine pd_iload_n C dX12_sends_40 rfl rfl ?_
  cases hF
  exact pd_iret C hE rfl rfl rfl ⟨by decide, by decide⟩ dX12_sends_41

def fn_X12_steps (I : pd_I) (p0 : Int32) (p1 : Int32) : Option Int32 := pd_gd (pd_in p0 12) (pd_bd (if (I 97 p0.toNatClampNeg) = 3 then pd_gd (pd_in p0 12) (some (p1 + (I 98 p0.toNatClampNeg))) else (some p1)) fun (zx1 : Int32) => some zx1)
set_option maxRecDepth 100000 in
set_option maxHeartbeats 4000000 in
theorem em_X12_steps {l : Launch} {D : va_G} {tc : Nat → ClassId} (hst : l.stackTraces = false) {I : pd_I} {J : pd_J} {Z : pd_R} {n : Nat} {p0 : Int32} {p1 : Int32} (hn : 133 ≤ n)  {out : Int32} (hF : fn_X12_steps I p0 p1 = some out) :
    pd_M l D tc yX12_steps (.code yX12_steps cX12_steps 3 (Option.some Jvm.ClassFile.FieldType.int)) rm_X12_steps [.ref 92, .int p0, .int p1] I J (pd_RF Z) n (.ok (some (.int out))) I J (pd_RF Z) n := by
  refine pd_open (own := "PathDecoderModel") (ls0 := [some (.ref 92), some (.int p0), some (.int p1)]) (by decide) rfl (Nat.le_of_ble_eq_true rfl) rfl rfl hst (fun cx hl hD htc C hE htab hnm => ?_)
  subst hl hD htc
  unfold fn_X12_steps at hF
  refine pd_aload_n C dX12_steps_0 rfl rfl ?_
  refine gr_12_6 C wd_5_131 (pd_lt (by decide) hn) sh_92 (rf_92_6 _) dX12_steps_1 ?_
  refine pd_iload_n C dX12_steps_4 rfl rfl ?_
  obtain ⟨zg1, hF⟩ := pd_gd_some hF
  refine pd_iald C (pd_lt (by decide) hn) sh_97 zg1 dX12_steps_5 ?_
  refine pd_iconst (v := 3) C dX12_steps_6 (by decide) ?_
  obtain ⟨zx1, hS, hF⟩ := pd_bd_some hF
  have hJ22 : pd_V cx 0 0 22 [none, none, none] [.int zx1] I J (pd_RF Z) n := by
    cases hF
    exact pd_iret C hE rfl rfl rfl ⟨by decide, by decide⟩ dX12_steps_22
  replace hF := hS
  clear hS
  refine pd_icmp_ne (tgt := 21) C dX12_steps_7 (by decide) (fun zc1 => ?_) (fun zc1 => ?_)
  · have hF := pd_f zc1 hF
    refine pd_iload_n C dX12_steps_21 rfl rfl ?_
    refine pd_wk (ls' := [none, none, none]) True.intro ?_
    have hF := hF.symm
    cases hF
    exact hJ22
  · have hF := pd_t zc1 hF
    refine pd_iload_n C dX12_steps_10 rfl rfl ?_
    refine pd_aload_n C dX12_steps_11 rfl rfl ?_
    refine gr_12_7 C wd_5_132 (pd_lt (by decide) hn) sh_92 (rf_92_7 _) dX12_steps_12 ?_
    refine pd_iload_n C dX12_steps_15 rfl rfl ?_
    obtain ⟨zg2, hF⟩ := pd_gd_some hF
    refine pd_iald C (pd_lt (by decide) hn) sh_98 zg2 dX12_steps_16 ?_
    refine pd_iadd C dX12_steps_17 ?_
    refine pd_goto (tgt := 22) C dX12_steps_18 (by decide) ?_
    refine pd_wk (ls' := [none, none, none]) True.intro ?_
    have hF := hF.symm
    cases hF
    exact hJ22

def fl_X12_sentAhead_5 {O : Type} (p0 : Int32) (p1 : Int32) (I : pd_I) (kont : Int32 → Option O) : Nat → Int32 → Int32 → Option O
  | 0, _, _ => none
  | fu + 1, zx1, zx2 => if p1 ≤ zx2 then kont zx1 else (pd_bd (fn_X12_sends I p0 zx2) fun zr1 => pd_let (zx1 + zr1) fun zv1 => pd_let (zx2 + 1) fun zv2 => fl_X12_sentAhead_5 p0 p1 I kont fu zv1 zv2)
set_option maxRecDepth 100000 in
set_option maxHeartbeats 4000000 in
theorem el_X12_sentAhead_5 {cx : pd_X} (C : pd_C cx "PathDecoderModel" cX12_sentAhead rm_X12_sentAhead) {p0 : Int32} {p1 : Int32} {I : pd_I} {J : pd_J} {Z : pd_R} {n : Nat} (hn : 133 ≤ n)  {O : Type} {kont : Int32 → Option O} {out : O} (K : ∀ (zx3 : Int32), kont zx3 = some out → pd_V cx 0 0 27 [none, none, none, some (.int zx3), none] [] I J (pd_RF Z) n) :
    ∀ (fu : Nat) (zx1 : Int32) (zx2 : Int32), fl_X12_sentAhead_5 p0 p1 I kont fu zx1 zx2 = some out → pd_V cx 0 0 5 [some (.ref 92), some (.int p0), some (.int p1), some (.int zx1), some (.int zx2)] [] I J (pd_RF Z) n := by
  intro fu
  induction fu with
  | zero => intro zx1 zx2 hF; rw [fl_X12_sentAhead_5] at hF; cases hF
  | succ fu ih =>
    intro zx1 zx2 hF
    rw [fl_X12_sentAhead_5] at hF
    refine pd_iload C dX12_sentAhead_5 rfl ?_
    refine pd_iload_n C dX12_sentAhead_7 rfl rfl ?_
    refine pd_icmp_ge (tgt := 27) C dX12_sentAhead_8 (by decide) (fun zc1 => ?_) (fun zc1 => ?_)
    · have hF := pd_t zc1 hF
      refine pd_wk (ls' := [none, none, none, some (.int zx1), none]) (And.intro rfl True.intro) ?_
      exact K _ hF
    · have hF := pd_f zc1 hF
      refine pd_iload_n C dX12_sentAhead_11 rfl rfl ?_
      refine pd_aload_n C dX12_sentAhead_12 rfl rfl ?_
      refine pd_iload_n C dX12_sentAhead_13 rfl rfl ?_
      refine pd_iload C dX12_sentAhead_14 rfl ?_
      obtain ⟨zr1, zh1, hF⟩ := pd_bd_some hF
      refine pd_callV C [.int p0, .int zx2] [.int zx1] (em_X12_sends (pd_C_st C) hn  zh1) mw_X12_sends wd_6_148 rfl (by decide) (pd_lt (by decide) hn) sh_92 ⟨by decide, by decide, by decide, by decide⟩ rfl (Nat.le_of_ble_eq_true rfl) pd_oldL_same (fun _ _ => pd_old_same _) dX12_sentAhead_16 (stk' := [.int zr1, .int zx1]) rfl ?_
      refine pd_iadd C dX12_sentAhead_19 ?_
      refine pd_topi (fun zv1 hzv1 => ?_)
      have hF := pd_let_at hF hzv1
      refine pd_istore_n (ls' := [some (.ref 92), some (.int p0), some (.int p1), some (.int zv1), some (.int zx2)]) C dX12_sentAhead_20 rfl (Nat.le_of_ble_eq_true rfl) rfl rfl ?_
      refine pd_iincG (zz := 1) C dX12_sentAhead_21 rfl (by decide) rfl (fun zv2 hzv2 => ?_)
      have hF := pd_let_at hF hzv2
      refine pd_lsE (ls' := [some (.ref 92), some (.int p0), some (.int p1), some (.int zv1), some (.int zv2)]) rfl ?_
      refine pd_goto (tgt := 5) C dX12_sentAhead_24 (by decide) ?_
      exact ih _ _ hF
def fn_X12_sentAhead (I : pd_I) (p0 : Int32) (p1 : Int32) : Option Int32 := fl_X12_sentAhead_5 p0 p1 I (fun zx3 => some zx3) pd_FU 0 0
set_option maxRecDepth 100000 in
set_option maxHeartbeats 4000000 in
theorem em_X12_sentAhead {l : Launch} {D : va_G} {tc : Nat → ClassId} (hst : l.stackTraces = false) {I : pd_I} {J : pd_J} {Z : pd_R} {n : Nat} {p0 : Int32} {p1 : Int32} (hn : 133 ≤ n)  {out : Int32} (hF : fn_X12_sentAhead I p0 p1 = some out) :
    pd_M l D tc yX12_sentAhead (.code yX12_sentAhead cX12_sentAhead 5 (Option.some Jvm.ClassFile.FieldType.int)) rm_X12_sentAhead [.ref 92, .int p0, .int p1] I J (pd_RF Z) n (.ok (some (.int out))) I J (pd_RF Z) n := by
  refine pd_open (own := "PathDecoderModel") (ls0 := [some (.ref 92), some (.int p0), some (.int p1), none, none]) (by decide) rfl (Nat.le_of_ble_eq_true rfl) rfl rfl hst (fun cx hl hD htc C hE htab hnm => ?_)
  subst hl hD htc
  unfold fn_X12_sentAhead at hF
  refine pd_iconst (v := 0) C dX12_sentAhead_0 (by decide) ?_
  refine pd_istore_n (ls' := [some (.ref 92), some (.int p0), some (.int p1), some (.int 0), none]) C dX12_sentAhead_1 rfl (Nat.le_of_ble_eq_true rfl) rfl rfl ?_
  refine pd_iconst (v := 0) C dX12_sentAhead_2 (by decide) ?_
  refine pd_istore (ls' := [some (.ref 92), some (.int p0), some (.int p1), some (.int 0), some (.int 0)]) C dX12_sentAhead_3 (Nat.le_of_ble_eq_true rfl) rfl rfl ?_
  refine el_X12_sentAhead_5 C hn (fun zx3 hF => ?_) pd_FU _ _ hF
  refine pd_iload_n C dX12_sentAhead_27 rfl rfl ?_
  cases hF
  exact pd_iret C hE rfl rfl rfl ⟨by decide, by decide⟩ dX12_sentAhead_28

def fn_X12_order (I : pd_I) (p0 : Int32) (p1 : Int32) (p2 : Int32) : Option Int32 := pd_gd (pd_in p0 12) (pd_gd (decide (¬ p1 = 0)) (some ((p2 * (I 102 p0.toNatClampNeg)) % p1)))
set_option maxRecDepth 100000 in
set_option maxHeartbeats 4000000 in
theorem em_X12_order {l : Launch} {D : va_G} {tc : Nat → ClassId} (hst : l.stackTraces = false) {I : pd_I} {J : pd_J} {Z : pd_R} {n : Nat} {p0 : Int32} {p1 : Int32} {p2 : Int32} (hn : 133 ≤ n)  {out : Int32} (hF : fn_X12_order I p0 p1 p2 = some out) :
    pd_M l D tc yX12_order (.code yX12_order cX12_order 4 (Option.some Jvm.ClassFile.FieldType.int)) rm_X12_order [.ref 92, .int p0, .int p1, .int p2] I J (pd_RF Z) n (.ok (some (.int out))) I J (pd_RF Z) n := by
  refine pd_open (own := "PathDecoderModel") (ls0 := [some (.ref 92), some (.int p0), some (.int p1), some (.int p2)]) (by decide) rfl (Nat.le_of_ble_eq_true rfl) rfl rfl hst (fun cx hl hD htc C hE htab hnm => ?_)
  subst hl hD htc
  unfold fn_X12_order at hF
  refine pd_iload_n C dX12_order_0 rfl rfl ?_
  refine pd_aload_n C dX12_order_1 rfl rfl ?_
  refine gr_12_11 C wd_5_136 (pd_lt (by decide) hn) sh_92 (rf_92_11 _) dX12_order_2 ?_
  refine pd_iload_n C dX12_order_5 rfl rfl ?_
  obtain ⟨zg1, hF⟩ := pd_gd_some hF
  refine pd_iald C (pd_lt (by decide) hn) sh_102 zg1 dX12_order_6 ?_
  refine pd_imul C dX12_order_7 ?_
  refine pd_iload_n C dX12_order_8 rfl rfl ?_
  obtain ⟨zg2, hF⟩ := pd_gd_some hF
  refine pd_irem C dX12_order_9 (of_decide_eq_true zg2) ?_
  cases hF
  exact pd_iret C hE rfl rfl rfl ⟨by decide, by decide⟩ dX12_order_10

def fl_X12_isOrder_14 {O : Type} (p0 : Int32) (p1 : Int32) (zx2 : Int32) (I : pd_I) (kont : Int32 → Option O) : Nat → Int32 → Int32 → Option O
  | 0, _, _ => none
  | fu + 1, zx4, zx5 => if zx2 ≤ zx5 then kont zx4 else (pd_bd (pd_bd (if zx4 = 0 then some false else (pd_bd (fn_X12_order I p0 p1 zx2) fun zr1 => pd_bd (fn_X12_order I p0 p1 zx5) fun zr2 => if zr1 = zr2 then some false else (some true))) fun zc1 => if zc1 = true then some 1 else (some 0)) fun (zx7 : Int32) => pd_let (zx5 + 1) fun zv1 => fl_X12_isOrder_14 p0 p1 zx2 I kont fu zx7 zv1)
set_option maxRecDepth 100000 in
set_option maxHeartbeats 4000000 in
theorem el_X12_isOrder_14 {cx : pd_X} (C : pd_C cx "PathDecoderModel" cX12_isOrder rm_X12_isOrder) {p0 : Int32} {p1 : Int32} {zx2 : Int32} {I : pd_I} {J : pd_J} {Z : pd_R} {n : Nat} (hn : 133 ≤ n)  {O : Type} {kont : Int32 → Option O} {out : O} (K : ∀ (zx6 : Int32), kont zx6 = some out → pd_V cx 0 0 56 [some (.ref 92), some (.int p0), some (.int p1), some (.int zx6), some (.int zx2), none] [] I J (pd_RF Z) n) :
    ∀ (fu : Nat) (zx4 : Int32) (zx5 : Int32), fl_X12_isOrder_14 p0 p1 zx2 I kont fu zx4 zx5 = some out → pd_V cx 0 0 14 [some (.ref 92), some (.int p0), some (.int p1), some (.int zx4), some (.int zx2), some (.int zx5)] [] I J (pd_RF Z) n := by
  intro fu
  induction fu with
  | zero => intro zx4 zx5 hF; rw [fl_X12_isOrder_14] at hF; cases hF
  | succ fu ih =>
    intro zx4 zx5 hF
    rw [fl_X12_isOrder_14] at hF
    refine pd_iload C dX12_isOrder_14 rfl ?_
    refine pd_iload C dX12_isOrder_16 rfl ?_
    refine pd_icmp_ge (tgt := 56) C dX12_isOrder_18 (by decide) (fun zc4 => ?_) (fun zc4 => ?_)
    · have hF := pd_t zc4 hF
      refine pd_wk (ls' := [some (.ref 92), some (.int p0), some (.int p1), some (.int zx4), some (.int zx2), none]) (And.intro rfl (And.intro rfl (And.intro rfl (And.intro rfl (And.intro rfl True.intro))))) ?_
      exact K _ hF
    · have hF := pd_f zc4 hF
      refine pd_iload_n C dX12_isOrder_21 rfl rfl ?_
      obtain ⟨zx7, hS, hF⟩ := pd_bd_some hF
      have hJ49 : pd_V cx 0 0 49 [some (.ref 92), some (.int p0), some (.int p1), none, some (.int zx2), some (.int zx5)] [.int zx7] I J (pd_RF Z) n := by
        refine pd_istore_n (ls' := [some (.ref 92), some (.int p0), some (.int p1), some (.int zx7), some (.int zx2), some (.int zx5)]) C dX12_isOrder_49 rfl (Nat.le_of_ble_eq_true rfl) rfl rfl ?_
        refine pd_iincG (zz := 1) C dX12_isOrder_50 rfl (by decide) rfl (fun zv1 hzv1 => ?_)
        have hF := pd_let_at hF hzv1
        refine pd_lsE (ls' := [some (.ref 92), some (.int p0), some (.int p1), some (.int zx7), some (.int zx2), some (.int zv1)]) rfl ?_
        refine pd_goto (tgt := 14) C dX12_isOrder_53 (by decide) ?_
        exact ih _ _ hF
      replace hF := hS
      clear hS
      obtain ⟨zc1, hS, hF⟩ := pd_bd_some hF
      have hTzc1 : zc1 = true → pd_V cx 0 0 44 [some (.ref 92), some (.int p0), some (.int p1), some (.int zx4), some (.int zx2), some (.int zx5)] [] I J (pd_RF Z) n := by
        intro hc
        have hF := pd_t hc hF
        refine pd_iconst (v := 1) C dX12_isOrder_44 (by decide) ?_
        refine pd_goto (tgt := 49) C dX12_isOrder_45 (by decide) ?_
        refine pd_wk (ls' := [some (.ref 92), some (.int p0), some (.int p1), none, some (.int zx2), some (.int zx5)]) (And.intro rfl (And.intro rfl (And.intro rfl (And.intro rfl (And.intro rfl True.intro))))) ?_
        have hF := hF.symm
        cases hF
        exact hJ49
      have hEzc1 : zc1 = false → pd_V cx 0 0 48 [some (.ref 92), some (.int p0), some (.int p1), some (.int zx4), some (.int zx2), some (.int zx5)] [] I J (pd_RF Z) n := by
        intro hc
        have hF := pd_bf hc hF
        refine pd_iconst (v := 0) C dX12_isOrder_48 (by decide) ?_
        refine pd_wk (ls' := [some (.ref 92), some (.int p0), some (.int p1), none, some (.int zx2), some (.int zx5)]) (And.intro rfl (And.intro rfl (And.intro rfl (And.intro rfl (And.intro rfl True.intro))))) ?_
        have hF := hF.symm
        cases hF
        exact hJ49
      replace hF := hS
      clear hS
      refine pd_if_eq (tgt := 48) C dX12_isOrder_22 (by decide) (fun zc3 => ?_) (fun zc3 => ?_)
      · have hF := pd_t zc3 hF
        cases hF
        exact hEzc1 rfl
      · have hF := pd_f zc3 hF
        refine pd_aload_n C dX12_isOrder_25 rfl rfl ?_
        refine pd_iload_n C dX12_isOrder_26 rfl rfl ?_
        refine pd_iload_n C dX12_isOrder_27 rfl rfl ?_
        refine pd_iload C dX12_isOrder_28 rfl ?_
        obtain ⟨zr1, zh1, hF⟩ := pd_bd_some hF
        refine pd_callV C [.int p0, .int p1, .int zx2] [] (em_X12_order (pd_C_st C) hn  zh1) mw_X12_order wd_6_124 rfl (by decide) (pd_lt (by decide) hn) sh_92 ⟨by decide, by decide, by decide, by decide⟩ rfl (Nat.le_of_ble_eq_true rfl) pd_oldL_same (fun _ _ => pd_old_same _) dX12_isOrder_30 (stk' := [.int zr1]) rfl ?_
        refine pd_aload_n C dX12_isOrder_33 rfl rfl ?_
        refine pd_iload_n C dX12_isOrder_34 rfl rfl ?_
        refine pd_iload_n C dX12_isOrder_35 rfl rfl ?_
        refine pd_iload C dX12_isOrder_36 rfl ?_
        obtain ⟨zr2, zh2, hF⟩ := pd_bd_some hF
        refine pd_callV C [.int p0, .int p1, .int zx5] [.int zr1] (em_X12_order (pd_C_st C) hn  zh2) mw_X12_order wd_6_124 rfl (by decide) (pd_lt (by decide) hn) sh_92 ⟨by decide, by decide, by decide, by decide⟩ rfl (Nat.le_of_ble_eq_true rfl) pd_oldL_same (fun _ _ => pd_old_same _) dX12_isOrder_38 (stk' := [.int zr2, .int zr1]) rfl ?_
        refine pd_icmp_eq (tgt := 48) C dX12_isOrder_41 (by decide) (fun zc2 => ?_) (fun zc2 => ?_)
        · have hF := pd_t zc2 hF
          cases hF
          exact hEzc1 rfl
        · have hF := pd_f zc2 hF
          cases hF
          exact hTzc1 rfl
def fl_X12_isOrder_5 {O : Type} (p0 : Int32) (p1 : Int32) (I : pd_I) (kont : Int32 → Option O) : Nat → Int32 → Int32 → Option O
  | 0, _, _ => none
  | fu + 1, zx1, zx2 => if p1 ≤ zx2 then kont zx1 else (fl_X12_isOrder_14 p0 p1 zx2 I (fun zx6 => pd_let (zx2 + 1) fun zv2 => fl_X12_isOrder_5 p0 p1 I kont fu zx6 zv2) pd_FU zx1 0)
set_option maxRecDepth 100000 in
set_option maxHeartbeats 4000000 in
theorem el_X12_isOrder_5 {cx : pd_X} (C : pd_C cx "PathDecoderModel" cX12_isOrder rm_X12_isOrder) {p0 : Int32} {p1 : Int32} {I : pd_I} {J : pd_J} {Z : pd_R} {n : Nat} (hn : 133 ≤ n)  {O : Type} {kont : Int32 → Option O} {out : O} (K : ∀ (zx3 : Int32), kont zx3 = some out → pd_V cx 0 0 62 [none, none, none, some (.int zx3), none, none] [] I J (pd_RF Z) n) :
    ∀ (fu : Nat) (zx1 : Int32) (zx2 : Int32), fl_X12_isOrder_5 p0 p1 I kont fu zx1 zx2 = some out → pd_V cx 0 0 5 [some (.ref 92), some (.int p0), some (.int p1), some (.int zx1), some (.int zx2), none] [] I J (pd_RF Z) n := by
  intro fu
  induction fu with
  | zero => intro zx1 zx2 hF; rw [fl_X12_isOrder_5] at hF; cases hF
  | succ fu ih =>
    intro zx1 zx2 hF
    rw [fl_X12_isOrder_5] at hF
    refine pd_iload C dX12_isOrder_5 rfl ?_
    refine pd_iload_n C dX12_isOrder_7 rfl rfl ?_
    refine pd_icmp_ge (tgt := 62) C dX12_isOrder_8 (by decide) (fun zc5 => ?_) (fun zc5 => ?_)
    · have hF := pd_t zc5 hF
      refine pd_wk (ls' := [none, none, none, some (.int zx1), none, none]) (And.intro rfl True.intro) ?_
      exact K _ hF
    · have hF := pd_f zc5 hF
      refine pd_iconst (v := 0) C dX12_isOrder_11 (by decide) ?_
      refine pd_istore (ls' := [some (.ref 92), some (.int p0), some (.int p1), some (.int zx1), some (.int zx2), some (.int 0)]) C dX12_isOrder_12 (Nat.le_of_ble_eq_true rfl) rfl rfl ?_
      refine el_X12_isOrder_14 C hn (fun zx6 hF => ?_) pd_FU _ _ hF
      refine pd_iincG (zz := 1) C dX12_isOrder_56 rfl (by decide) rfl (fun zv2 hzv2 => ?_)
      have hF := pd_let_at hF hzv2
      refine pd_lsE (ls' := [some (.ref 92), some (.int p0), some (.int p1), some (.int zx6), some (.int zv2), none]) rfl ?_
      refine pd_goto (tgt := 5) C dX12_isOrder_59 (by decide) ?_
      exact ih _ _ hF
def fn_X12_isOrder (I : pd_I) (p0 : Int32) (p1 : Int32) : Option Int32 := fl_X12_isOrder_5 p0 p1 I (fun zx3 => pd_gd (pd_bo zx3) (some zx3)) pd_FU 1 0
set_option maxRecDepth 100000 in
set_option maxHeartbeats 4000000 in
theorem em_X12_isOrder {l : Launch} {D : va_G} {tc : Nat → ClassId} (hst : l.stackTraces = false) {I : pd_I} {J : pd_J} {Z : pd_R} {n : Nat} {p0 : Int32} {p1 : Int32} (hn : 133 ≤ n)  {out : Int32} (hF : fn_X12_isOrder I p0 p1 = some out) :
    pd_M l D tc yX12_isOrder (.code yX12_isOrder cX12_isOrder 6 (Option.some Jvm.ClassFile.FieldType.boolean)) rm_X12_isOrder [.ref 92, .int p0, .int p1] I J (pd_RF Z) n (.ok (some (.int out))) I J (pd_RF Z) n := by
  refine pd_open (own := "PathDecoderModel") (ls0 := [some (.ref 92), some (.int p0), some (.int p1), none, none, none]) (by decide) rfl (Nat.le_of_ble_eq_true rfl) rfl rfl hst (fun cx hl hD htc C hE htab hnm => ?_)
  subst hl hD htc
  unfold fn_X12_isOrder at hF
  refine pd_iconst (v := 1) C dX12_isOrder_0 (by decide) ?_
  refine pd_istore_n (ls' := [some (.ref 92), some (.int p0), some (.int p1), some (.int 1), none, none]) C dX12_isOrder_1 rfl (Nat.le_of_ble_eq_true rfl) rfl rfl ?_
  refine pd_iconst (v := 0) C dX12_isOrder_2 (by decide) ?_
  refine pd_istore (ls' := [some (.ref 92), some (.int p0), some (.int p1), some (.int 1), some (.int 0), none]) C dX12_isOrder_3 (Nat.le_of_ble_eq_true rfl) rfl rfl ?_
  refine el_X12_isOrder_5 C hn (fun zx3 hF => ?_) pd_FU _ _ hF
  refine pd_iload_n C dX12_isOrder_62 rfl rfl ?_
  obtain ⟨zg1, hF⟩ := pd_gd_some hF
  cases hF
  exact pd_iret C hE rfl rfl (pd_bo_nar zg1) ⟨by decide, by decide⟩ dX12_isOrder_63

def fl_X12_ends_6 {O : Type} (p0 : Int32) (p1 : Int32) (I : pd_I) (kont : Int32 → Option O) : Nat → Int32 → Int32 → Option O
  | 0, _, _ => none
  | fu + 1, zx1, zx2 => if p1 ≤ zx2 then kont zx1 else (pd_gd (pd_in zx2 200) (pd_bd (fn_X12_next I p0 zx1 (I 120 zx2.toNatClampNeg)) fun zr1 => pd_let (zx2 + 1) fun zv1 => fl_X12_ends_6 p0 p1 I kont fu zr1 zv1))
set_option maxRecDepth 100000 in
set_option maxHeartbeats 4000000 in
theorem el_X12_ends_6 {cx : pd_X} (C : pd_C cx "PathDecoderModel" cX12_ends rm_X12_ends) {p0 : Int32} {p1 : Int32} {I : pd_I} {J : pd_J} {Z : pd_R} {n : Nat} (hn : 133 ≤ n)  {O : Type} {kont : Int32 → Option O} {out : O} (K : ∀ (zx3 : Int32), kont zx3 = some out → pd_V cx 0 0 34 [none, none, none, none, some (.int zx3), none] [] I J (pd_RF Z) n) :
    ∀ (fu : Nat) (zx1 : Int32) (zx2 : Int32), fl_X12_ends_6 p0 p1 I kont fu zx1 zx2 = some out → pd_V cx 0 0 6 [some (.ref 92), some (.int p0), some (.int p1), none, some (.int zx1), some (.int zx2)] [] I J (pd_RF Z) n := by
  intro fu
  induction fu with
  | zero => intro zx1 zx2 hF; rw [fl_X12_ends_6] at hF; cases hF
  | succ fu ih =>
    intro zx1 zx2 hF
    rw [fl_X12_ends_6] at hF
    refine pd_iload C dX12_ends_6 rfl ?_
    refine pd_iload_n C dX12_ends_8 rfl rfl ?_
    refine pd_icmp_ge (tgt := 34) C dX12_ends_9 (by decide) (fun zc1 => ?_) (fun zc1 => ?_)
    · have hF := pd_t zc1 hF
      refine pd_wk (ls' := [none, none, none, none, some (.int zx1), none]) (And.intro rfl True.intro) ?_
      exact K _ hF
    · have hF := pd_f zc1 hF
      refine pd_aload_n C dX12_ends_12 rfl rfl ?_
      refine pd_iload_n C dX12_ends_13 rfl rfl ?_
      refine pd_iload C dX12_ends_14 rfl ?_
      refine pd_aload_n C dX12_ends_16 rfl rfl ?_
      refine gr_12_32 C wd_5_157 (pd_lt (by decide) hn) sh_92 (rf_92_32 _) dX12_ends_17 ?_
      refine pd_iload C dX12_ends_20 rfl ?_
      obtain ⟨zg1, hF⟩ := pd_gd_some hF
      refine pd_iald C (pd_lt (by decide) hn) sh_120 zg1 dX12_ends_22 ?_
      obtain ⟨zr1, zh1, hF⟩ := pd_bd_some hF
      refine pd_callV C [.int p0, .int zx1, .int (I 120 zx2.toNatClampNeg)] [] (em_X12_next (pd_C_st C) hn  zh1) mw_X12_next wd_6_109 rfl (by decide) (pd_lt (by decide) hn) sh_92 ⟨by decide, by decide, by decide, by decide⟩ rfl (Nat.le_of_ble_eq_true rfl) pd_oldL_same (fun _ _ => pd_old_same _) dX12_ends_23 (stk' := [.int zr1]) rfl ?_
      refine pd_istore (ls' := [some (.ref 92), some (.int p0), some (.int p1), none, some (.int zr1), some (.int zx2)]) C dX12_ends_26 (Nat.le_of_ble_eq_true rfl) rfl rfl ?_
      refine pd_iincG (zz := 1) C dX12_ends_28 rfl (by decide) rfl (fun zv1 hzv1 => ?_)
      have hF := pd_let_at hF hzv1
      refine pd_lsE (ls' := [some (.ref 92), some (.int p0), some (.int p1), none, some (.int zr1), some (.int zv1)]) rfl ?_
      refine pd_goto (tgt := 6) C dX12_ends_31 (by decide) ?_
      exact ih _ _ hF
def fn_X12_ends (I : pd_I) (p0 : Int32) (p1 : Int32) (p2 : Int32) : Option Int32 := fl_X12_ends_6 p0 p1 I (fun zx3 => some zx3) pd_FU p2 0
set_option maxRecDepth 100000 in
set_option maxHeartbeats 4000000 in
theorem em_X12_ends {l : Launch} {D : va_G} {tc : Nat → ClassId} (hst : l.stackTraces = false) {I : pd_I} {J : pd_J} {Z : pd_R} {n : Nat} {p0 : Int32} {p1 : Int32} {p2 : Int32} (hn : 133 ≤ n)  {out : Int32} (hF : fn_X12_ends I p0 p1 p2 = some out) :
    pd_M l D tc yX12_ends (.code yX12_ends cX12_ends 6 (Option.some Jvm.ClassFile.FieldType.int)) rm_X12_ends [.ref 92, .int p0, .int p1, .int p2] I J (pd_RF Z) n (.ok (some (.int out))) I J (pd_RF Z) n := by
  refine pd_open (own := "PathDecoderModel") (ls0 := [some (.ref 92), some (.int p0), some (.int p1), some (.int p2), none, none]) (by decide) rfl (Nat.le_of_ble_eq_true rfl) rfl rfl hst (fun cx hl hD htc C hE htab hnm => ?_)
  subst hl hD htc
  unfold fn_X12_ends at hF
  refine pd_iload_n C dX12_ends_0 rfl rfl ?_
  refine pd_istore (ls' := [some (.ref 92), some (.int p0), some (.int p1), some (.int p2), some (.int p2), none]) C dX12_ends_1 (Nat.le_of_ble_eq_true rfl) rfl rfl ?_
  refine pd_iconst (v := 0) C dX12_ends_3 (by decide) ?_
  refine pd_istore (ls' := [some (.ref 92), some (.int p0), some (.int p1), some (.int p2), some (.int p2), some (.int 0)]) C dX12_ends_4 (Nat.le_of_ble_eq_true rfl) rfl rfl ?_
  refine pd_wk (ls' := [some (.ref 92), some (.int p0), some (.int p1), none, some (.int p2), some (.int 0)]) (And.intro rfl (And.intro rfl (And.intro rfl (And.intro rfl (And.intro rfl True.intro))))) ?_
  refine el_X12_ends_6 C hn (fun zx3 hF => ?_) pd_FU _ _ hF
  refine pd_iload C dX12_ends_34 rfl ?_
  cases hF
  exact pd_iret C hE rfl rfl rfl ⟨by decide, by decide⟩ dX12_ends_36

def fl_X12_sent_123 {O : Type} (p0 : Int32) (zx2 : Int32) (zx5 : Int32) (zx7 : Int32) (kont : Int32 → pd_I → Option O) : Nat → Int32 → Int32 → pd_I → Option O
  | 0, _, _, _ => none
  | fu + 1, zx8, zx9, zI3 => pd_gd (pd_in p0 12) (if (zI3 99 p0.toNatClampNeg) ≤ zx9 then kont zx8 zI3 else (pd_bd (fn_X12_isKept zI3 p0 zx5 zx9) fun zr2 => pd_bd2 (if zr2 = 0 then some (zx8, zI3) else (pd_bd (fn_X12_out zI3 p0 zx2 zx7 zx9) fun zr3 => pd_gd (pd_in zx8 1400) (pd_let (pd_ui zI3 119 zx8.toNatClampNeg zr3) fun zI6 => pd_let (zx8 + 1) fun zv2 => some (zv2, zI6)))) fun (zx11 : Int32) (zI5 : pd_I) => pd_let (zx9 + 1) fun zv1 => fl_X12_sent_123 p0 zx2 zx5 zx7 kont fu zx11 zv1 zI5))
set_option maxRecDepth 100000 in
set_option maxHeartbeats 4000000 in
theorem el_X12_sent_123 {cx : pd_X} (C : pd_C cx "PathDecoderModel" cX12_sent rm_X12_sent) {p0 : Int32} {p1 : Int32} {zx2 : Int32} {zx3 : Int32} {zx5 : Int32} {zx7 : Int32} {J : pd_J} {Z : pd_R} {n : Nat} (hn : 133 ≤ n)  {O : Type} {kont : Int32 → pd_I → Option O} {out : O} (K : ∀ (zx10 : Int32) (zI4 : pd_I), kont zx10 zI4 = some out → pd_V cx 0 0 175 [some (.ref 92), some (.int p0), some (.int p1), some (.int zx2), some (.int zx3), some (.int zx10), some (.int zx5), some (.int zx7), none, none] [] zI4 J (pd_RF Z) n) :
    ∀ (fu : Nat) (zx8 : Int32) (zx9 : Int32) (zI3 : pd_I), fl_X12_sent_123 p0 zx2 zx5 zx7 kont fu zx8 zx9 zI3 = some out → pd_V cx 0 0 123 [some (.ref 92), some (.int p0), some (.int p1), some (.int zx2), some (.int zx3), some (.int zx8), some (.int zx5), some (.int zx7), some (.int zx9), none] [] zI3 J (pd_RF Z) n := by
  intro fu
  induction fu with
  | zero => intro zx8 zx9 zI3 hF; rw [fl_X12_sent_123] at hF; cases hF
  | succ fu ih =>
    intro zx8 zx9 zI3 hF
    rw [fl_X12_sent_123] at hF
    refine pd_iload C dX12_sent_123 rfl ?_
    refine pd_aload_n C dX12_sent_125 rfl rfl ?_
    refine gr_12_8 C wd_5_133 (pd_lt (by decide) hn) sh_92 (rf_92_8 _) dX12_sent_126 ?_
    refine pd_iload_n C dX12_sent_129 rfl rfl ?_
    obtain ⟨zg3, hF⟩ := pd_gd_some hF
    refine pd_iald C (pd_lt (by decide) hn) sh_99 zg3 dX12_sent_130 ?_
    refine pd_icmp_ge (tgt := 175) C dX12_sent_131 (by decide) (fun zc3 => ?_) (fun zc3 => ?_)
    · have hF := pd_t zc3 hF
      refine pd_wk (ls' := [some (.ref 92), some (.int p0), some (.int p1), some (.int zx2), some (.int zx3), some (.int zx8), some (.int zx5), some (.int zx7), none, none]) (And.intro rfl (And.intro rfl (And.intro rfl (And.intro rfl (And.intro rfl (And.intro rfl (And.intro rfl (And.intro rfl True.intro)))))))) ?_
      exact K _ _ hF
    · have hF := pd_f zc3 hF
      refine pd_aload_n C dX12_sent_134 rfl rfl ?_
      refine pd_iload_n C dX12_sent_135 rfl rfl ?_
      refine pd_iload C dX12_sent_136 rfl ?_
      refine pd_iload C dX12_sent_138 rfl ?_
      obtain ⟨zr2, zh2, hF⟩ := pd_bd_some hF
      refine pd_callV C [.int p0, .int zx5, .int zx9] [] (em_X12_isKept (pd_C_st C) hn  zh2) mw_X12_isKept wd_6_132 rfl (by decide) (pd_lt (by decide) hn) sh_92 ⟨by decide, by decide, by decide, by decide⟩ rfl (Nat.le_of_ble_eq_true rfl) pd_oldL_same (fun _ _ => pd_old_same _) dX12_sent_140 (stk' := [.int zr2]) rfl ?_
      obtain ⟨zx11, zI5, hS, hF⟩ := pd_bd2_some hF
      have hJ169 : pd_V cx 0 0 169 [some (.ref 92), some (.int p0), some (.int p1), some (.int zx2), some (.int zx3), some (.int zx11), some (.int zx5), some (.int zx7), some (.int zx9), none] [] zI5 J (pd_RF Z) n := by
        refine pd_iincG (zz := 1) C dX12_sent_169 rfl (by decide) rfl (fun zv1 hzv1 => ?_)
        have hF := pd_let_at hF hzv1
        refine pd_lsE (ls' := [some (.ref 92), some (.int p0), some (.int p1), some (.int zx2), some (.int zx3), some (.int zx11), some (.int zx5), some (.int zx7), some (.int zv1), none]) rfl ?_
        refine pd_goto (tgt := 123) C dX12_sent_172 (by decide) ?_
        exact ih _ _ _ hF
      replace hF := hS
      clear hS
      refine pd_if_ne (tgt := 149) C dX12_sent_143 (by decide) (fun zc2 => ?_) (fun zc2 => ?_)
      · have hF := pd_f zc2 hF
        refine pd_aload_n C dX12_sent_149 rfl rfl ?_
        refine gr_12_31 C wd_5_156 (pd_lt (by decide) hn) sh_92 (rf_92_31 _) dX12_sent_150 ?_
        refine pd_iload C dX12_sent_153 rfl ?_
        refine pd_aload_n C dX12_sent_155 rfl rfl ?_
        refine pd_iload_n C dX12_sent_156 rfl rfl ?_
        refine pd_iload_n C dX12_sent_157 rfl rfl ?_
        refine pd_iload C dX12_sent_158 rfl ?_
        refine pd_iload C dX12_sent_160 rfl ?_
        obtain ⟨zr3, zh3, hF⟩ := pd_bd_some hF
        refine pd_callV C [.int p0, .int zx2, .int zx7, .int zx9] [.int zx8, .ref 119] (em_X12_out (pd_C_st C) hn  zh3) mw_X12_out wd_6_136 rfl (by decide) (pd_lt (by decide) hn) sh_92 ⟨by decide, by decide, by decide, by decide⟩ rfl (Nat.le_of_ble_eq_true rfl) pd_oldL_same (fun _ _ => pd_old_same _) dX12_sent_162 (stk' := [.int zr3, .int zx8, .ref 119]) rfl ?_
        obtain ⟨zg4, hF⟩ := pd_gd_some hF
        refine pd_iast C (pd_lt (by decide) hn) sh_119 zg4 dX12_sent_165 ?_
        refine pd_memI (fun zI6 hzI6 => ?_)
        have hF := pd_let_at hF hzI6
        refine pd_iincG (zz := 1) C dX12_sent_166 rfl (by decide) rfl (fun zv2 hzv2 => ?_)
        have hF := pd_let_at hF hzv2
        refine pd_lsE (ls' := [some (.ref 92), some (.int p0), some (.int p1), some (.int zx2), some (.int zx3), some (.int zv2), some (.int zx5), some (.int zx7), some (.int zx9), none]) rfl ?_
        have hF := hF.symm
        cases hF
        exact hJ169
      · have hF := pd_t zc2 hF
        refine pd_goto (tgt := 169) C dX12_sent_146 (by decide) ?_
        have hF := hF.symm
        cases hF
        exact hJ169
def fl_X12_sent_215 {O : Type} (p0 : Int32) (zx3 : Int32) (zx5 : Int32) (zv4 : Int32) (kont : Int32 → pd_I → Option O) : Nat → Int32 → Int32 → pd_I → Option O
  | 0, _, _, _ => none
  | fu + 1, zx14, zx15, zI8 => pd_gd (pd_in p0 12) (if (zI8 99 p0.toNatClampNeg) ≤ zx15 then kont zx14 zI8 else (pd_gd (pd_in p0 12) (pd_bd (fn_X12_isKept zI8 p0 zx5 (((zI8 99 p0.toNatClampNeg) + zx15) - 1)) fun zr6 => pd_bd2 (if zr6 = 0 then some (zx14, zI8) else (pd_bd (fn_X12_out zI8 p0 zx3 zv4 zx15) fun zr7 => pd_gd (pd_in zx14 1400) (pd_let (pd_ui zI8 119 zx14.toNatClampNeg zr7) fun zI11 => pd_let (zx14 + 1) fun zv6 => some (zv6, zI11)))) fun (zx17 : Int32) (zI10 : pd_I) => pd_let (zx15 + 1) fun zv5 => fl_X12_sent_215 p0 zx3 zx5 zv4 kont fu zx17 zv5 zI10)))
set_option maxRecDepth 100000 in
set_option maxHeartbeats 4000000 in
theorem el_X12_sent_215 {cx : pd_X} (C : pd_C cx "PathDecoderModel" cX12_sent rm_X12_sent) {p0 : Int32} {p1 : Int32} {zr4 : Int32} {zx3 : Int32} {zx5 : Int32} {zv4 : Int32} {J : pd_J} {Z : pd_R} {n : Nat} (hn : 133 ≤ n)  {O : Type} {kont : Int32 → pd_I → Option O} {out : O} (K : ∀ (zx16 : Int32) (zI9 : pd_I), kont zx16 zI9 = some out → pd_V cx 0 0 277 [some (.ref 92), some (.int p0), some (.int p1), some (.int zr4), some (.int zx3), some (.int zx16), some (.int zx5), none, some (.int zv4), none] [] zI9 J (pd_RF Z) n) :
    ∀ (fu : Nat) (zx14 : Int32) (zx15 : Int32) (zI8 : pd_I), fl_X12_sent_215 p0 zx3 zx5 zv4 kont fu zx14 zx15 zI8 = some out → pd_V cx 0 0 215 [some (.ref 92), some (.int p0), some (.int p1), some (.int zr4), some (.int zx3), some (.int zx14), some (.int zx5), none, some (.int zv4), some (.int zx15)] [] zI8 J (pd_RF Z) n := by
  intro fu
  induction fu with
  | zero => intro zx14 zx15 zI8 hF; rw [fl_X12_sent_215] at hF; cases hF
  | succ fu ih =>
    intro zx14 zx15 zI8 hF
    rw [fl_X12_sent_215] at hF
    refine pd_iload C dX12_sent_215 rfl ?_
    refine pd_aload_n C dX12_sent_217 rfl rfl ?_
    refine gr_12_8 C wd_5_133 (pd_lt (by decide) hn) sh_92 (rf_92_8 _) dX12_sent_218 ?_
    refine pd_iload_n C dX12_sent_221 rfl rfl ?_
    obtain ⟨zg7, hF⟩ := pd_gd_some hF
    refine pd_iald C (pd_lt (by decide) hn) sh_99 zg7 dX12_sent_222 ?_
    refine pd_icmp_ge (tgt := 277) C dX12_sent_223 (by decide) (fun zc5 => ?_) (fun zc5 => ?_)
    · have hF := pd_t zc5 hF
      refine pd_wk (ls' := [some (.ref 92), some (.int p0), some (.int p1), some (.int zr4), some (.int zx3), some (.int zx14), some (.int zx5), none, some (.int zv4), none]) (And.intro rfl (And.intro rfl (And.intro rfl (And.intro rfl (And.intro rfl (And.intro rfl (And.intro rfl (And.intro rfl True.intro)))))))) ?_
      exact K _ _ hF
    · have hF := pd_f zc5 hF
      refine pd_aload_n C dX12_sent_226 rfl rfl ?_
      refine pd_iload_n C dX12_sent_227 rfl rfl ?_
      refine pd_iload C dX12_sent_228 rfl ?_
      refine pd_aload_n C dX12_sent_230 rfl rfl ?_
      refine gr_12_8 C wd_5_133 (pd_lt (by decide) hn) sh_92 (rf_92_8 _) dX12_sent_231 ?_
      refine pd_iload_n C dX12_sent_234 rfl rfl ?_
      obtain ⟨zg8, hF⟩ := pd_gd_some hF
      refine pd_iald C (pd_lt (by decide) hn) sh_99 zg8 dX12_sent_235 ?_
      refine pd_iload C dX12_sent_236 rfl ?_
      refine pd_iadd C dX12_sent_238 ?_
      refine pd_iconst (v := 1) C dX12_sent_239 (by decide) ?_
      refine pd_isub C dX12_sent_240 ?_
      obtain ⟨zr6, zh6, hF⟩ := pd_bd_some hF
      refine pd_callV C [.int p0, .int zx5, .int (((zI8 99 p0.toNatClampNeg) + zx15) - 1)] [] (em_X12_isKept (pd_C_st C) hn  zh6) mw_X12_isKept wd_6_132 rfl (by decide) (pd_lt (by decide) hn) sh_92 ⟨by decide, by decide, by decide, by decide⟩ rfl (Nat.le_of_ble_eq_true rfl) pd_oldL_same (fun _ _ => pd_old_same _) dX12_sent_241 (stk' := [.int zr6]) rfl ?_
      obtain ⟨zx17, zI10, hS, hF⟩ := pd_bd2_some hF
      have hJ271 : pd_V cx 0 0 271 [some (.ref 92), some (.int p0), some (.int p1), some (.int zr4), some (.int zx3), some (.int zx17), some (.int zx5), none, some (.int zv4), some (.int zx15)] [] zI10 J (pd_RF Z) n := by
        refine pd_iincG (zz := 1) C dX12_sent_271 rfl (by decide) rfl (fun zv5 hzv5 => ?_)
        have hF := pd_let_at hF hzv5
        refine pd_lsE (ls' := [some (.ref 92), some (.int p0), some (.int p1), some (.int zr4), some (.int zx3), some (.int zx17), some (.int zx5), none, some (.int zv4), some (.int zv5)]) rfl ?_
        refine pd_goto (tgt := 215) C dX12_sent_274 (by decide) ?_
        exact ih _ _ _ hF
      replace hF := hS
      clear hS
      refine pd_if_ne (tgt := 250) C dX12_sent_244 (by decide) (fun zc4 => ?_) (fun zc4 => ?_)
      · have hF := pd_f zc4 hF
        refine pd_aload_n C dX12_sent_250 rfl rfl ?_
        refine gr_12_31 C wd_5_156 (pd_lt (by decide) hn) sh_92 (rf_92_31 _) dX12_sent_251 ?_
        refine pd_iload C dX12_sent_254 rfl ?_
        refine pd_aload_n C dX12_sent_256 rfl rfl ?_
        refine pd_iload_n C dX12_sent_257 rfl rfl ?_
        refine pd_iload C dX12_sent_258 rfl ?_
        refine pd_iload C dX12_sent_260 rfl ?_
        refine pd_iload C dX12_sent_262 rfl ?_
        obtain ⟨zr7, zh7, hF⟩ := pd_bd_some hF
        refine pd_callV C [.int p0, .int zx3, .int zv4, .int zx15] [.int zx14, .ref 119] (em_X12_out (pd_C_st C) hn  zh7) mw_X12_out wd_6_136 rfl (by decide) (pd_lt (by decide) hn) sh_92 ⟨by decide, by decide, by decide, by decide⟩ rfl (Nat.le_of_ble_eq_true rfl) pd_oldL_same (fun _ _ => pd_old_same _) dX12_sent_264 (stk' := [.int zr7, .int zx14, .ref 119]) rfl ?_
        obtain ⟨zg9, hF⟩ := pd_gd_some hF
        refine pd_iast C (pd_lt (by decide) hn) sh_119 zg9 dX12_sent_267 ?_
        refine pd_memI (fun zI11 hzI11 => ?_)
        have hF := pd_let_at hF hzI11
        refine pd_iincG (zz := 1) C dX12_sent_268 rfl (by decide) rfl (fun zv6 hzv6 => ?_)
        have hF := pd_let_at hF hzv6
        refine pd_lsE (ls' := [some (.ref 92), some (.int p0), some (.int p1), some (.int zr4), some (.int zx3), some (.int zv6), some (.int zx5), none, some (.int zv4), some (.int zx15)]) rfl ?_
        have hF := hF.symm
        cases hF
        exact hJ271
      · have hF := pd_t zc4 hF
        refine pd_goto (tgt := 271) C dX12_sent_247 (by decide) ?_
        have hF := hF.symm
        cases hF
        exact hJ271
def fl_X12_sent_85 {O : Type} (p0 : Int32) (p1 : Int32) (kont : Int32 → pd_I → Option O) : Nat → Int32 → Int32 → Int32 → Int32 → pd_I → Option O
  | 0, _, _, _, _, _ => none
  | fu + 1, zx2, zx3, zx4, zx5, zI1 => pd_bd (fn_X12_steps zI1 p0 p1) fun zr1 => if zr1 ≤ zx5 then kont zx4 zI1 else (pd_bd (if p1 ≤ zx5 then pd_bd (fn_X12_fed zI1 p0 zx2) fun zr9 => some zr9 else (pd_gd (pd_in zx5 200) (some (zI1 120 zx5.toNatClampNeg)))) fun (zx7 : Int32) => fl_X12_sent_123 p0 zx2 zx5 zx7 (fun zx10 zI4 => pd_bd (fn_X12_next zI4 p0 zx2 zx7) fun zr4 => pd_gd (pd_in p0 12) (pd_jn (fun (zx12 : Int32) (zx13 : Int32) (zI7 : pd_I) => pd_let (zx5 + 1) fun zv3 => fl_X12_sent_85 p0 p1 kont fu zr4 zx12 zx13 zv3 zI7) fun zj2 => if (zI4 97 p0.toNatClampNeg) = 5 then pd_bd (fn_X12_order zI4 p0 p1 zx5) fun zr5 => pd_gd (pd_in zr5 200) (pd_let (zI4 120 zr5.toNatClampNeg) fun zv4 => fl_X12_sent_215 p0 zx3 zx5 zv4 (fun zx16 zI9 => pd_bd (fn_X12_next zI9 p0 zx3 zv4) fun zr8 => zj2 zr8 zx16 zI9) pd_FU zx10 1 zI4) else (zj2 zx3 zx10 zI4))) pd_FU zx4 0 zI1)
set_option maxRecDepth 100000 in
set_option maxHeartbeats 4000000 in
theorem el_X12_sent_85 {cx : pd_X} (C : pd_C cx "PathDecoderModel" cX12_sent rm_X12_sent) {p0 : Int32} {p1 : Int32} {J : pd_J} {Z : pd_R} {n : Nat} (hn : 133 ≤ n)  {O : Type} {kont : Int32 → pd_I → Option O} {out : O} (K : ∀ (zx6 : Int32) (zI2 : pd_I), kont zx6 zI2 = some out → pd_V cx 0 0 294 [none, none, none, none, none, some (.int zx6), none, none, none, none] [] zI2 J (pd_RF Z) n) :
    ∀ (fu : Nat) (zx2 : Int32) (zx3 : Int32) (zx4 : Int32) (zx5 : Int32) (zI1 : pd_I), fl_X12_sent_85 p0 p1 kont fu zx2 zx3 zx4 zx5 zI1 = some out → pd_V cx 0 0 85 [some (.ref 92), some (.int p0), some (.int p1), some (.int zx2), some (.int zx3), some (.int zx4), some (.int zx5), none, none, none] [] zI1 J (pd_RF Z) n := by
  intro fu
  induction fu with
  | zero => intro zx2 zx3 zx4 zx5 zI1 hF; rw [fl_X12_sent_85] at hF; cases hF
  | succ fu ih =>
    intro zx2 zx3 zx4 zx5 zI1 hF
    rw [fl_X12_sent_85] at hF
    refine pd_iload C dX12_sent_85 rfl ?_
    refine pd_aload_n C dX12_sent_87 rfl rfl ?_
    refine pd_iload_n C dX12_sent_88 rfl rfl ?_
    refine pd_iload_n C dX12_sent_89 rfl rfl ?_
    obtain ⟨zr1, zh1, hF⟩ := pd_bd_some hF
    refine pd_callV C [.int p0, .int p1] [.int zx5] (em_X12_steps (pd_C_st C) hn  zh1) mw_X12_steps wd_6_128 rfl (by decide) (pd_lt (by decide) hn) sh_92 ⟨by decide, by decide, by decide, by decide⟩ rfl (Nat.le_of_ble_eq_true rfl) pd_oldL_same (fun _ _ => pd_old_same _) dX12_sent_90 (stk' := [.int zr1, .int zx5]) rfl ?_
    refine pd_icmp_ge (tgt := 294) C dX12_sent_93 (by decide) (fun zc8 => ?_) (fun zc8 => ?_)
    · have hF := pd_t zc8 hF
      refine pd_wk (ls' := [none, none, none, none, none, some (.int zx4), none, none, none, none]) (And.intro rfl True.intro) ?_
      exact K _ _ hF
    · have hF := pd_f zc8 hF
      refine pd_iload C dX12_sent_96 rfl ?_
      refine pd_iload_n C dX12_sent_98 rfl rfl ?_
      obtain ⟨zx7, hS, hF⟩ := pd_bd_some hF
      have hJ118 : pd_V cx 0 0 118 [some (.ref 92), some (.int p0), some (.int p1), some (.int zx2), some (.int zx3), some (.int zx4), some (.int zx5), none, none, none] [.int zx7] zI1 J (pd_RF Z) n := by
        refine pd_istore (ls' := [some (.ref 92), some (.int p0), some (.int p1), some (.int zx2), some (.int zx3), some (.int zx4), some (.int zx5), some (.int zx7), none, none]) C dX12_sent_118 (Nat.le_of_ble_eq_true rfl) rfl rfl ?_
        refine pd_iconst (v := 0) C dX12_sent_120 (by decide) ?_
        refine pd_istore (ls' := [some (.ref 92), some (.int p0), some (.int p1), some (.int zx2), some (.int zx3), some (.int zx4), some (.int zx5), some (.int zx7), some (.int 0), none]) C dX12_sent_121 (Nat.le_of_ble_eq_true rfl) rfl rfl ?_
        refine el_X12_sent_123 C hn (fun zx10 zI4 hF => ?_) pd_FU _ _ _ hF
        refine pd_aload_n C dX12_sent_175 rfl rfl ?_
        refine pd_iload_n C dX12_sent_176 rfl rfl ?_
        refine pd_iload_n C dX12_sent_177 rfl rfl ?_
        refine pd_iload C dX12_sent_178 rfl ?_
        obtain ⟨zr4, zh4, hF⟩ := pd_bd_some hF
        refine pd_callV C [.int p0, .int zx2, .int zx7] [] (em_X12_next (pd_C_st C) hn  zh4) mw_X12_next wd_6_109 rfl (by decide) (pd_lt (by decide) hn) sh_92 ⟨by decide, by decide, by decide, by decide⟩ rfl (Nat.le_of_ble_eq_true rfl) pd_oldL_same (fun _ _ => pd_old_same _) dX12_sent_180 (stk' := [.int zr4]) rfl ?_
        refine pd_istore_n (ls' := [some (.ref 92), some (.int p0), some (.int p1), some (.int zr4), some (.int zx3), some (.int zx10), some (.int zx5), some (.int zx7), none, none]) C dX12_sent_183 rfl (Nat.le_of_ble_eq_true rfl) rfl rfl ?_
        refine pd_aload_n C dX12_sent_184 rfl rfl ?_
        refine gr_12_6 C wd_5_131 (pd_lt (by decide) hn) sh_92 (rf_92_6 _) dX12_sent_185 ?_
        refine pd_iload_n C dX12_sent_188 rfl rfl ?_
        obtain ⟨zg5, hF⟩ := pd_gd_some hF
        refine pd_iald C (pd_lt (by decide) hn) sh_97 zg5 dX12_sent_189 ?_
        refine pd_iconst (v := 5) C dX12_sent_190 (by decide) ?_
        refine pd_jn_use hF (fun j => ∀ (zx12 : Int32) (zx13 : Int32) (zI7 : pd_I), j zx12 zx13 zI7 = some out → pd_V cx 0 0 288 [some (.ref 92), some (.int p0), some (.int p1), some (.int zr4), some (.int zx12), some (.int zx13), some (.int zx5), none, none, none] [] zI7 J (pd_RF Z) n) (fun zx12 zx13 zI7 hF => ?_) (fun zj2 hzj2 hF => ?_)
        · refine pd_iincG (zz := 1) C dX12_sent_288 rfl (by decide) rfl (fun zv3 hzv3 => ?_)
          have hF := pd_let_at hF hzv3
          refine pd_lsE (ls' := [some (.ref 92), some (.int p0), some (.int p1), some (.int zr4), some (.int zx12), some (.int zx13), some (.int zv3), none, none, none]) rfl ?_
          refine pd_goto (tgt := 85) C dX12_sent_291 (by decide) ?_
          exact ih _ _ _ _ _ hF
        · refine pd_icmp_eq (tgt := 197) C dX12_sent_191 (by decide) (fun zc6 => ?_) (fun zc6 => ?_)
          · have hF := pd_t zc6 hF
            refine pd_aload_n C dX12_sent_197 rfl rfl ?_
            refine gr_12_32 C wd_5_157 (pd_lt (by decide) hn) sh_92 (rf_92_32 _) dX12_sent_198 ?_
            refine pd_aload_n C dX12_sent_201 rfl rfl ?_
            refine pd_iload_n C dX12_sent_202 rfl rfl ?_
            refine pd_iload_n C dX12_sent_203 rfl rfl ?_
            refine pd_iload C dX12_sent_204 rfl ?_
            obtain ⟨zr5, zh5, hF⟩ := pd_bd_some hF
            refine pd_callV C [.int p0, .int p1, .int zx5] [.ref 120] (em_X12_order (pd_C_st C) hn  zh5) mw_X12_order wd_6_124 rfl (by decide) (pd_lt (by decide) hn) sh_92 ⟨by decide, by decide, by decide, by decide⟩ rfl (Nat.le_of_ble_eq_true rfl) pd_oldL_same (fun _ _ => pd_old_same _) dX12_sent_206 (stk' := [.int zr5, .ref 120]) rfl ?_
            obtain ⟨zg6, hF⟩ := pd_gd_some hF
            refine pd_iald C (pd_lt (by decide) hn) sh_120 zg6 dX12_sent_209 ?_
            refine pd_topi (fun zv4 hzv4 => ?_)
            have hF := pd_let_at hF hzv4
            refine pd_istore (ls' := [some (.ref 92), some (.int p0), some (.int p1), some (.int zr4), some (.int zx3), some (.int zx10), some (.int zx5), some (.int zx7), some (.int zv4), none]) C dX12_sent_210 (Nat.le_of_ble_eq_true rfl) rfl rfl ?_
            refine pd_iconst (v := 1) C dX12_sent_212 (by decide) ?_
            refine pd_istore (ls' := [some (.ref 92), some (.int p0), some (.int p1), some (.int zr4), some (.int zx3), some (.int zx10), some (.int zx5), some (.int zx7), some (.int zv4), some (.int 1)]) C dX12_sent_213 (Nat.le_of_ble_eq_true rfl) rfl rfl ?_
            refine pd_wk (ls' := [some (.ref 92), some (.int p0), some (.int p1), some (.int zr4), some (.int zx3), some (.int zx10), some (.int zx5), none, some (.int zv4), some (.int 1)]) (And.intro rfl (And.intro rfl (And.intro rfl (And.intro rfl (And.intro rfl (And.intro rfl (And.intro rfl (And.intro rfl (And.intro rfl True.intro))))))))) ?_
            refine el_X12_sent_215 C hn (fun zx16 zI9 hF => ?_) pd_FU _ _ _ hF
            refine pd_aload_n C dX12_sent_277 rfl rfl ?_
            refine pd_iload_n C dX12_sent_278 rfl rfl ?_
            refine pd_iload C dX12_sent_279 rfl ?_
            refine pd_iload C dX12_sent_281 rfl ?_
            obtain ⟨zr8, zh8, hF⟩ := pd_bd_some hF
            refine pd_callV C [.int p0, .int zx3, .int zv4] [] (em_X12_next (pd_C_st C) hn  zh8) mw_X12_next wd_6_109 rfl (by decide) (pd_lt (by decide) hn) sh_92 ⟨by decide, by decide, by decide, by decide⟩ rfl (Nat.le_of_ble_eq_true rfl) pd_oldL_same (fun _ _ => pd_old_same _) dX12_sent_283 (stk' := [.int zr8]) rfl ?_
            refine pd_istore (ls' := [some (.ref 92), some (.int p0), some (.int p1), some (.int zr4), some (.int zr8), some (.int zx16), some (.int zx5), none, some (.int zv4), none]) C dX12_sent_286 (Nat.le_of_ble_eq_true rfl) rfl rfl ?_
            refine pd_wk (ls' := [some (.ref 92), some (.int p0), some (.int p1), some (.int zr4), some (.int zr8), some (.int zx16), some (.int zx5), none, none, none]) (And.intro rfl (And.intro rfl (And.intro rfl (And.intro rfl (And.intro rfl (And.intro rfl (And.intro rfl True.intro))))))) ?_
            exact hzj2 _ _ _ hF
          · have hF := pd_f zc6 hF
            refine pd_goto (tgt := 288) C dX12_sent_194 (by decide) ?_
            refine pd_wk (ls' := [some (.ref 92), some (.int p0), some (.int p1), some (.int zr4), some (.int zx3), some (.int zx10), some (.int zx5), none, none, none]) (And.intro rfl (And.intro rfl (And.intro rfl (And.intro rfl (And.intro rfl (And.intro rfl (And.intro rfl True.intro))))))) ?_
            exact hzj2 _ _ _ hF
      replace hF := hS
      clear hS
      refine pd_icmp_ge (tgt := 112) C dX12_sent_99 (by decide) (fun zc7 => ?_) (fun zc7 => ?_)
      · have hF := pd_t zc7 hF
        refine pd_aload_n C dX12_sent_112 rfl rfl ?_
        refine pd_iload_n C dX12_sent_113 rfl rfl ?_
        refine pd_iload_n C dX12_sent_114 rfl rfl ?_
        obtain ⟨zr9, zh9, hF⟩ := pd_bd_some hF
        refine pd_callV C [.int p0, .int zx2] [] (em_X12_fed (pd_C_st C) hn  zh9) mw_X12_fed wd_6_113 rfl (by decide) (pd_lt (by decide) hn) sh_92 ⟨by decide, by decide, by decide, by decide⟩ rfl (Nat.le_of_ble_eq_true rfl) pd_oldL_same (fun _ _ => pd_old_same _) dX12_sent_115 (stk' := [.int zr9]) rfl ?_
        have hF := hF.symm
        cases hF
        exact hJ118
      · have hF := pd_f zc7 hF
        refine pd_aload_n C dX12_sent_102 rfl rfl ?_
        refine gr_12_32 C wd_5_157 (pd_lt (by decide) hn) sh_92 (rf_92_32 _) dX12_sent_103 ?_
        refine pd_iload C dX12_sent_106 rfl ?_
        obtain ⟨zg10, hF⟩ := pd_gd_some hF
        refine pd_iald C (pd_lt (by decide) hn) sh_120 zg10 dX12_sent_108 ?_
        refine pd_goto (tgt := 118) C dX12_sent_109 (by decide) ?_
        have hF := hF.symm
        cases hF
        exact hJ118
def fl_X12_sent_12 {O : Type} (p0 : Int32) (p1 : Int32) (I : pd_I) (kont : Int32 → Option O) : Nat → Int32 → Option O
  | 0, _ => none
  | fu + 1, zx18 => pd_gd (pd_in p0 12) (pd_bd (if ((1 : Int32) <<< ((I 98 p0.toNatClampNeg) &&& 31)) ≤ zx18 then some false else (pd_bd (fn_X12_ends I p0 p1 zx18) fun zr11 => if zr11 = zx18 then some false else (some true))) fun zc11 => if zc11 = true then pd_let (zx18 + 1) fun zv7 => fl_X12_sent_12 p0 p1 I kont fu zv7 else (kont zx18))
set_option maxRecDepth 100000 in
set_option maxHeartbeats 4000000 in
theorem el_X12_sent_12 {cx : pd_X} (C : pd_C cx "PathDecoderModel" cX12_sent rm_X12_sent) {p0 : Int32} {p1 : Int32} {I : pd_I} {J : pd_J} {Z : pd_R} {n : Nat} (hn : 133 ≤ n)  {O : Type} {kont : Int32 → Option O} {out : O} (K : ∀ (zx19 : Int32), kont zx19 = some out → pd_V cx 0 0 41 [some (.ref 92), some (.int p0), some (.int p1), some (.int zx19), none, none, none, none, none, none] [] I J (pd_RF Z) n) :
    ∀ (fu : Nat) (zx18 : Int32), fl_X12_sent_12 p0 p1 I kont fu zx18 = some out → pd_V cx 0 0 12 [some (.ref 92), some (.int p0), some (.int p1), some (.int zx18), none, none, none, none, none, none] [] I J (pd_RF Z) n := by
  intro fu
  induction fu with
  | zero => intro zx18 hF; rw [fl_X12_sent_12] at hF; cases hF
  | succ fu ih =>
    intro zx18 hF
    rw [fl_X12_sent_12] at hF
    refine pd_iload_n C dX12_sent_12 rfl rfl ?_
    refine pd_iconst (v := 1) C dX12_sent_13 (by decide) ?_
    refine pd_aload_n C dX12_sent_14 rfl rfl ?_
    refine gr_12_7 C wd_5_132 (pd_lt (by decide) hn) sh_92 (rf_92_7 _) dX12_sent_15 ?_
    refine pd_iload_n C dX12_sent_18 rfl rfl ?_
    obtain ⟨zg11, hF⟩ := pd_gd_some hF
    refine pd_iald C (pd_lt (by decide) hn) sh_98 zg11 dX12_sent_19 ?_
    refine pd_ishl C dX12_sent_20 ?_
    obtain ⟨zc11, hS, hF⟩ := pd_bd_some hF
    have hTzc11 : zc11 = true → pd_V cx 0 0 35 [some (.ref 92), some (.int p0), some (.int p1), some (.int zx18), none, none, none, none, none, none] [] I J (pd_RF Z) n := by
      intro hc
      have hF := pd_t hc hF
      refine pd_iincG (zz := 1) C dX12_sent_35 rfl (by decide) rfl (fun zv7 hzv7 => ?_)
      have hF := pd_let_at hF hzv7
      refine pd_lsE (ls' := [some (.ref 92), some (.int p0), some (.int p1), some (.int zv7), none, none, none, none, none, none]) rfl ?_
      refine pd_goto (tgt := 12) C dX12_sent_38 (by decide) ?_
      exact ih _ hF
    have hEzc11 : zc11 = false → pd_V cx 0 0 41 [some (.ref 92), some (.int p0), some (.int p1), some (.int zx18), none, none, none, none, none, none] [] I J (pd_RF Z) n := by
      intro hc
      have hF := pd_bf hc hF
      exact K _ hF
    replace hF := hS
    clear hS
    refine pd_icmp_ge (tgt := 41) C dX12_sent_21 (by decide) (fun zc13 => ?_) (fun zc13 => ?_)
    · have hF := pd_t zc13 hF
      cases hF
      exact hEzc11 rfl
    · have hF := pd_f zc13 hF
      refine pd_aload_n C dX12_sent_24 rfl rfl ?_
      refine pd_iload_n C dX12_sent_25 rfl rfl ?_
      refine pd_iload_n C dX12_sent_26 rfl rfl ?_
      refine pd_iload_n C dX12_sent_27 rfl rfl ?_
      obtain ⟨zr11, zh11, hF⟩ := pd_bd_some hF
      refine pd_callV C [.int p0, .int p1, .int zx18] [] (em_X12_ends (pd_C_st C) hn  zh11) mw_X12_ends wd_6_105 rfl (by decide) (pd_lt (by decide) hn) sh_92 ⟨by decide, by decide, by decide, by decide⟩ rfl (Nat.le_of_ble_eq_true rfl) pd_oldL_same (fun _ _ => pd_old_same _) dX12_sent_28 (stk' := [.int zr11]) rfl ?_
      refine pd_iload_n C dX12_sent_31 rfl rfl ?_
      refine pd_icmp_eq (tgt := 41) C dX12_sent_32 (by decide) (fun zc12 => ?_) (fun zc12 => ?_)
      · have hF := pd_t zc12 hF
        cases hF
        exact hEzc11 rfl
      · have hF := pd_f zc12 hF
        cases hF
        exact hTzc11 rfl
def fn_X12_sent (I : pd_I) (p0 : Int32) (p1 : Int32) : Option (Int32 × pd_I) := pd_gd (pd_in p0 12) (pd_jn (fun (zx1 : Int32) => pd_gd (pd_in p0 12) (pd_bd (if (I 97 p0.toNatClampNeg) = 5 then pd_bd (fn_X12_isOrder I p0 p1) fun zr10 => if zr10 = 0 then some true else (some false) else (some false)) fun zc1 => if zc1 = true then some ((-1), I) else (fl_X12_sent_85 p0 p1 (fun zx6 zI2 => some (zx6, zI2)) pd_FU zx1 0 0 0 I))) fun zj1 => if (I 97 p0.toNatClampNeg) = 4 then fl_X12_sent_12 p0 p1 I (fun zx19 => pd_gd (pd_in p0 12) (if zx19 = ((1 : Int32) <<< ((I 98 p0.toNatClampNeg) &&& 31)) then some ((-1), I) else (zj1 zx19))) pd_FU 0 else (zj1 0))
set_option maxRecDepth 100000 in
set_option maxHeartbeats 4000000 in
theorem em_X12_sent {l : Launch} {D : va_G} {tc : Nat → ClassId} (hst : l.stackTraces = false) {I : pd_I} {J : pd_J} {Z : pd_R} {n : Nat} {p0 : Int32} {p1 : Int32} (hn : 133 ≤ n)  {out : Int32 × pd_I} (hF : fn_X12_sent I p0 p1 = some out) :
    pd_M l D tc yX12_sent (.code yX12_sent cX12_sent 10 (Option.some Jvm.ClassFile.FieldType.int)) rm_X12_sent [.ref 92, .int p0, .int p1] I J (pd_RF Z) n (.ok (some (.int out.1))) out.2 J (pd_RF Z) n := by
  refine pd_open (own := "PathDecoderModel") (ls0 := [some (.ref 92), some (.int p0), some (.int p1), none, none, none, none, none, none, none]) (by decide) rfl (Nat.le_of_ble_eq_true rfl) rfl rfl hst (fun cx hl hD htc C hE htab hnm => ?_)
  subst hl hD htc
  unfold fn_X12_sent at hF
  refine pd_iconst (v := 0) C dX12_sent_0 (by decide) ?_
  refine pd_istore_n (ls' := [some (.ref 92), some (.int p0), some (.int p1), some (.int 0), none, none, none, none, none, none]) C dX12_sent_1 rfl (Nat.le_of_ble_eq_true rfl) rfl rfl ?_
  refine pd_aload_n C dX12_sent_2 rfl rfl ?_
  refine gr_12_6 C wd_5_131 (pd_lt (by decide) hn) sh_92 (rf_92_6 _) dX12_sent_3 ?_
  refine pd_iload_n C dX12_sent_6 rfl rfl ?_
  obtain ⟨zg1, hF⟩ := pd_gd_some hF
  refine pd_iald C (pd_lt (by decide) hn) sh_97 zg1 dX12_sent_7 ?_
  refine pd_iconst (v := 4) C dX12_sent_8 (by decide) ?_
  refine pd_jn_use hF (fun j => ∀ (zx1 : Int32), j zx1 = some out → pd_V cx 0 0 55 [some (.ref 92), some (.int p0), some (.int p1), some (.int zx1), none, none, none, none, none, none] [] I J (pd_RF Z) n) (fun zx1 hF => ?_) (fun zj1 hzj1 hF => ?_)
  · refine pd_aload_n C dX12_sent_55 rfl rfl ?_
    refine gr_12_6 C wd_5_131 (pd_lt (by decide) hn) sh_92 (rf_92_6 _) dX12_sent_56 ?_
    refine pd_iload_n C dX12_sent_59 rfl rfl ?_
    obtain ⟨zg2, hF⟩ := pd_gd_some hF
    refine pd_iald C (pd_lt (by decide) hn) sh_97 zg2 dX12_sent_60 ?_
    refine pd_iconst (v := 5) C dX12_sent_61 (by decide) ?_
    obtain ⟨zc1, hS, hF⟩ := pd_bd_some hF
    have hTzc1 : zc1 = true → pd_V cx 0 0 74 [some (.ref 92), some (.int p0), some (.int p1), some (.int zx1), none, none, none, none, none, none] [] I J (pd_RF Z) n := by
      intro hc
      have hF := pd_t hc hF
      refine pd_iconst (v := (-1)) C dX12_sent_74 (by decide) ?_
      cases hF
      exact pd_iret C hE rfl rfl rfl ⟨by decide, by decide⟩ dX12_sent_75
    have hEzc1 : zc1 = false → pd_V cx 0 0 76 [some (.ref 92), some (.int p0), some (.int p1), some (.int zx1), none, none, none, none, none, none] [] I J (pd_RF Z) n := by
      intro hc
      have hF := pd_bf hc hF
      refine pd_iconst (v := 0) C dX12_sent_76 (by decide) ?_
      refine pd_istore (ls' := [some (.ref 92), some (.int p0), some (.int p1), some (.int zx1), some (.int 0), none, none, none, none, none]) C dX12_sent_77 (Nat.le_of_ble_eq_true rfl) rfl rfl ?_
      refine pd_iconst (v := 0) C dX12_sent_79 (by decide) ?_
      refine pd_istore (ls' := [some (.ref 92), some (.int p0), some (.int p1), some (.int zx1), some (.int 0), some (.int 0), none, none, none, none]) C dX12_sent_80 (Nat.le_of_ble_eq_true rfl) rfl rfl ?_
      refine pd_iconst (v := 0) C dX12_sent_82 (by decide) ?_
      refine pd_istore (ls' := [some (.ref 92), some (.int p0), some (.int p1), some (.int zx1), some (.int 0), some (.int 0), some (.int 0), none, none, none]) C dX12_sent_83 (Nat.le_of_ble_eq_true rfl) rfl rfl ?_
      refine el_X12_sent_85 C hn (fun zx6 zI2 hF => ?_) pd_FU _ _ _ _ _ hF
      refine pd_iload C dX12_sent_294 rfl ?_
      cases hF
      exact pd_iret C hE rfl rfl rfl ⟨by decide, by decide⟩ dX12_sent_296
    replace hF := hS
    clear hS
    refine pd_icmp_ne (tgt := 76) C dX12_sent_62 (by decide) (fun zc10 => ?_) (fun zc10 => ?_)
    · have hF := pd_f zc10 hF
      cases hF
      exact hEzc1 rfl
    · have hF := pd_t zc10 hF
      refine pd_aload_n C dX12_sent_65 rfl rfl ?_
      refine pd_iload_n C dX12_sent_66 rfl rfl ?_
      refine pd_iload_n C dX12_sent_67 rfl rfl ?_
      obtain ⟨zr10, zh10, hF⟩ := pd_bd_some hF
      refine pd_callV C [.int p0, .int p1] [] (em_X12_isOrder (pd_C_st C) hn  zh10) mw_X12_isOrder wd_6_120 rfl (by decide) (pd_lt (by decide) hn) sh_92 ⟨by decide, by decide, by decide, by decide⟩ rfl (Nat.le_of_ble_eq_true rfl) pd_oldL_same (fun _ _ => pd_old_same _) dX12_sent_68 (stk' := [.int zr10]) rfl ?_
      refine pd_if_ne (tgt := 76) C dX12_sent_71 (by decide) (fun zc9 => ?_) (fun zc9 => ?_)
      · have hF := pd_f zc9 hF
        cases hF
        exact hEzc1 rfl
      · have hF := pd_t zc9 hF
        cases hF
        exact hTzc1 rfl
  · refine pd_icmp_ne (tgt := 55) C dX12_sent_9 (by decide) (fun zc15 => ?_) (fun zc15 => ?_)
    · have hF := pd_f zc15 hF
      exact hzj1 _ hF
    · have hF := pd_t zc15 hF
      refine el_X12_sent_12 C hn (fun zx19 hF => ?_) pd_FU _ hF
      refine pd_iload_n C dX12_sent_41 rfl rfl ?_
      refine pd_iconst (v := 1) C dX12_sent_42 (by decide) ?_
      refine pd_aload_n C dX12_sent_43 rfl rfl ?_
      refine gr_12_7 C wd_5_132 (pd_lt (by decide) hn) sh_92 (rf_92_7 _) dX12_sent_44 ?_
      refine pd_iload_n C dX12_sent_47 rfl rfl ?_
      obtain ⟨zg12, hF⟩ := pd_gd_some hF
      refine pd_iald C (pd_lt (by decide) hn) sh_98 zg12 dX12_sent_48 ?_
      refine pd_ishl C dX12_sent_49 ?_
      refine pd_icmp_ne (tgt := 55) C dX12_sent_50 (by decide) (fun zc14 => ?_) (fun zc14 => ?_)
      · have hF := pd_f zc14 hF
        exact hzj1 _ hF
      · have hF := pd_t zc14 hF
        refine pd_iconst (v := (-1)) C dX12_sent_53 (by decide) ?_
        cases hF
        exact pd_iret C hE rfl rfl rfl ⟨by decide, by decide⟩ dX12_sent_54

def fl_X12_takes_2 {O : Type} (p0 : Int32) (p1 : Int32) (kont : pd_I → Option O) : Nat → Int32 → pd_I → Option O
  | 0, _, _ => none
  | fu + 1, zx1, zI1 => if p1 ≤ zx1 then kont zI1 else (pd_gd (pd_in p0 16) (pd_bd (if (zI1 93 p0.toNatClampNeg) ≤ zx1 then some 0 else (pd_gd (pd_in ((600 * p0) + zx1) 9600) (some ((zI1 94 ((600 * p0) + zx1).toNatClampNeg) &&& 1)))) fun (zx2 : Int32) => pd_gd (pd_in zx1 200) (pd_let (pd_ui zI1 120 zx1.toNatClampNeg zx2) fun zI3 => pd_let (zx1 + 1) fun zv1 => fl_X12_takes_2 p0 p1 kont fu zv1 zI3)))
set_option maxRecDepth 100000 in
set_option maxHeartbeats 4000000 in
theorem el_X12_takes_2 {cx : pd_X} (C : pd_C cx "PathDecoderModel" cX12_takes rm_X12_takes) {p0 : Int32} {p1 : Int32} {J : pd_J} {Z : pd_R} {n : Nat} (hn : 133 ≤ n)  {O : Type} {kont : pd_I → Option O} {out : O} (K : ∀ (zI2 : pd_I), kont zI2 = some out → pd_V cx 0 0 47 [none, none, none, none] [] zI2 J (pd_RF Z) n) :
    ∀ (fu : Nat) (zx1 : Int32) (zI1 : pd_I), fl_X12_takes_2 p0 p1 kont fu zx1 zI1 = some out → pd_V cx 0 0 2 [some (.ref 92), some (.int p0), some (.int p1), some (.int zx1)] [] zI1 J (pd_RF Z) n := by
  intro fu
  induction fu with
  | zero => intro zx1 zI1 hF; rw [fl_X12_takes_2] at hF; cases hF
  | succ fu ih =>
    intro zx1 zI1 hF
    rw [fl_X12_takes_2] at hF
    refine pd_iload_n C dX12_takes_2 rfl rfl ?_
    refine pd_iload_n C dX12_takes_3 rfl rfl ?_
    refine pd_icmp_ge (tgt := 47) C dX12_takes_4 (by decide) (fun zc2 => ?_) (fun zc2 => ?_)
    · have hF := pd_t zc2 hF
      refine pd_wk (ls' := [none, none, none, none]) True.intro ?_
      exact K _ hF
    · have hF := pd_f zc2 hF
      refine pd_aload_n C dX12_takes_7 rfl rfl ?_
      refine gr_12_32 C wd_5_157 (pd_lt (by decide) hn) sh_92 (rf_92_32 _) dX12_takes_8 ?_
      refine pd_iload_n C dX12_takes_11 rfl rfl ?_
      refine pd_iload_n C dX12_takes_12 rfl rfl ?_
      refine pd_aload_n C dX12_takes_13 rfl rfl ?_
      refine gr_12_1 C wd_5_126 (pd_lt (by decide) hn) sh_92 (rf_92_1 _) dX12_takes_14 ?_
      refine pd_iload_n C dX12_takes_17 rfl rfl ?_
      obtain ⟨zg1, hF⟩ := pd_gd_some hF
      refine pd_iald C (pd_lt (by decide) hn) sh_93 zg1 dX12_takes_18 ?_
      obtain ⟨zx2, hS, hF⟩ := pd_bd_some hF
      have hJ40 : pd_V cx 0 0 40 [some (.ref 92), some (.int p0), some (.int p1), some (.int zx1)] [.int zx2, .int zx1, .ref 120] zI1 J (pd_RF Z) n := by
        obtain ⟨zg2, hF⟩ := pd_gd_some hF
        refine pd_iast C (pd_lt (by decide) hn) sh_120 zg2 dX12_takes_40 ?_
        refine pd_memI (fun zI3 hzI3 => ?_)
        have hF := pd_let_at hF hzI3
        refine pd_iincG (zz := 1) C dX12_takes_41 rfl (by decide) rfl (fun zv1 hzv1 => ?_)
        have hF := pd_let_at hF hzv1
        refine pd_lsE (ls' := [some (.ref 92), some (.int p0), some (.int p1), some (.int zv1)]) rfl ?_
        refine pd_goto (tgt := 2) C dX12_takes_44 (by decide) ?_
        exact ih _ _ hF
      replace hF := hS
      clear hS
      refine pd_icmp_ge (tgt := 39) C dX12_takes_19 (by decide) (fun zc1 => ?_) (fun zc1 => ?_)
      · have hF := pd_t zc1 hF
        refine pd_iconst (v := 0) C dX12_takes_39 (by decide) ?_
        have hF := hF.symm
        cases hF
        exact hJ40
      · have hF := pd_f zc1 hF
        refine pd_aload_n C dX12_takes_22 rfl rfl ?_
        refine gr_12_2 C wd_5_127 (pd_lt (by decide) hn) sh_92 (rf_92_2 _) dX12_takes_23 ?_
        refine pd_sipush (v := 600) C dX12_takes_26 (by decide) ?_
        refine pd_iload_n C dX12_takes_29 rfl rfl ?_
        refine pd_imul C dX12_takes_30 ?_
        refine pd_iload_n C dX12_takes_31 rfl rfl ?_
        refine pd_iadd C dX12_takes_32 ?_
        obtain ⟨zg3, hF⟩ := pd_gd_some hF
        refine pd_iald C (pd_lt (by decide) hn) sh_94 zg3 dX12_takes_33 ?_
        refine pd_iconst (v := 1) C dX12_takes_34 (by decide) ?_
        refine pd_iand C dX12_takes_35 ?_
        refine pd_goto (tgt := 40) C dX12_takes_36 (by decide) ?_
        have hF := hF.symm
        cases hF
        exact hJ40
def fn_X12_takes (I : pd_I) (p0 : Int32) (p1 : Int32) : Option pd_I := fl_X12_takes_2 p0 p1 (fun zI2 => some zI2) pd_FU 0 I
set_option maxRecDepth 100000 in
set_option maxHeartbeats 4000000 in
theorem em_X12_takes {l : Launch} {D : va_G} {tc : Nat → ClassId} (hst : l.stackTraces = false) {I : pd_I} {J : pd_J} {Z : pd_R} {n : Nat} {p0 : Int32} {p1 : Int32} (hn : 133 ≤ n)  {out : pd_I} (hF : fn_X12_takes I p0 p1 = some out) :
    pd_M l D tc yX12_takes (.code yX12_takes cX12_takes 4 (Option.none : Option Jvm.ClassFile.FieldType)) rm_X12_takes [.ref 92, .int p0, .int p1] I J (pd_RF Z) n (.ok (none)) out J (pd_RF Z) n := by
  refine pd_open (own := "PathDecoderModel") (ls0 := [some (.ref 92), some (.int p0), some (.int p1), none]) (by decide) rfl (Nat.le_of_ble_eq_true rfl) rfl rfl hst (fun cx hl hD htc C hE htab hnm => ?_)
  subst hl hD htc
  unfold fn_X12_takes at hF
  refine pd_iconst (v := 0) C dX12_takes_0 (by decide) ?_
  refine pd_istore_n (ls' := [some (.ref 92), some (.int p0), some (.int p1), some (.int 0)]) C dX12_takes_1 rfl (Nat.le_of_ble_eq_true rfl) rfl rfl ?_
  refine el_X12_takes_2 C hn (fun zI2 hF => ?_) pd_FU _ _ hF
  cases hF
  exact pd_vret C hE rfl ⟨by decide, by decide⟩ dX12_takes_47

def fn_X12_isN (I : pd_I) (p0 : Int32) (p1 : Int32) : Option (Int32 × pd_I) := pd_bd (pd_bd (if p0 < 1 then some false else (if 200 < p0 then some false else (some true))) fun zc1 => if zc1 = true then some 1 else (some 0)) fun (zx1 : Int32) => pd_bd2 (fn_X12_right I zx1 p1) fun zr1 zI1 => pd_gd (pd_bo zr1) (some (zr1, zI1))
set_option maxRecDepth 100000 in
set_option maxHeartbeats 4000000 in
theorem em_X12_isN {l : Launch} {D : va_G} {tc : Nat → ClassId} (hst : l.stackTraces = false) {I : pd_I} {J : pd_J} {Z : pd_R} {n : Nat} {p0 : Int32} {p1 : Int32} (hn : 133 ≤ n)  {out : Int32 × pd_I} (hF : fn_X12_isN I p0 p1 = some out) :
    pd_M l D tc yX12_isN (.code yX12_isN cX12_isN 3 (Option.some Jvm.ClassFile.FieldType.boolean)) rm_X12_isN [.ref 92, .int p0, .int p1] I J (pd_RF Z) n (.ok (some (.int out.1))) out.2 J (pd_RF Z) n := by
  refine pd_open (own := "PathDecoderModel") (ls0 := [some (.ref 92), some (.int p0), some (.int p1)]) (by decide) rfl (Nat.le_of_ble_eq_true rfl) rfl rfl hst (fun cx hl hD htc C hE htab hnm => ?_)
  subst hl hD htc
  unfold fn_X12_isN at hF
  refine pd_aload_n C dX12_isN_0 rfl rfl ?_
  refine pd_iload_n C dX12_isN_1 rfl rfl ?_
  refine pd_iconst (v := 1) C dX12_isN_2 (by decide) ?_
  obtain ⟨zx1, hS, hF⟩ := pd_bd_some hF
  have hJ18 : pd_V cx 0 0 18 [none, none, some (.int p1)] [.int zx1, .ref 92] I J (pd_RF Z) n := by
    refine pd_iload_n C dX12_isN_18 rfl rfl ?_
    obtain ⟨zr1, zI1, zh1, hF⟩ := pd_bd2_some hF
    refine pd_callV C [.int zx1, .int p1] [] (em_X12_right (pd_C_st C) hn  zh1) mw_X12_right wd_6_30 rfl (by decide) (pd_lt (by decide) hn) sh_92 ⟨by decide, by decide, by decide, by decide⟩ rfl (Nat.le_of_ble_eq_true rfl) pd_oldL_same (fun _ _ => pd_old_same _) dX12_isN_19 (stk' := [.int zr1]) rfl ?_
    obtain ⟨zg1, hF⟩ := pd_gd_some hF
    cases hF
    exact pd_iret C hE rfl rfl (pd_bo_nar zg1) ⟨by decide, by decide⟩ dX12_isN_22
  replace hF := hS
  clear hS
  obtain ⟨zc1, hS, hF⟩ := pd_bd_some hF
  have hTzc1 : zc1 = true → pd_V cx 0 0 13 [some (.ref 92), some (.int p0), some (.int p1)] [.ref 92] I J (pd_RF Z) n := by
    intro hc
    have hF := pd_t hc hF
    refine pd_iconst (v := 1) C dX12_isN_13 (by decide) ?_
    refine pd_goto (tgt := 18) C dX12_isN_14 (by decide) ?_
    refine pd_wk (ls' := [none, none, some (.int p1)]) (And.intro rfl True.intro) ?_
    have hF := hF.symm
    cases hF
    exact hJ18
  have hEzc1 : zc1 = false → pd_V cx 0 0 17 [some (.ref 92), some (.int p0), some (.int p1)] [.ref 92] I J (pd_RF Z) n := by
    intro hc
    have hF := pd_bf hc hF
    refine pd_iconst (v := 0) C dX12_isN_17 (by decide) ?_
    refine pd_wk (ls' := [none, none, some (.int p1)]) (And.intro rfl True.intro) ?_
    have hF := hF.symm
    cases hF
    exact hJ18
  replace hF := hS
  clear hS
  refine pd_icmp_lt (tgt := 17) C dX12_isN_3 (by decide) (fun zc3 => ?_) (fun zc3 => ?_)
  · have hF := pd_t zc3 hF
    cases hF
    exact hEzc1 rfl
  · have hF := pd_f zc3 hF
    refine pd_iload_n C dX12_isN_6 rfl rfl ?_
    refine pd_sipush (v := 200) C dX12_isN_7 (by decide) ?_
    refine pd_icmp_gt (tgt := 17) C dX12_isN_10 (by decide) (fun zc2 => ?_) (fun zc2 => ?_)
    · have hF := pd_t zc2 hF
      cases hF
      exact hEzc1 rfl
    · have hF := pd_f zc2 hF
      cases hF
      exact hTzc1 rfl

def fl_X12_send_83 {O : Type} (p3 : Int32) (zr5 : Int32) (kont : pd_I → Option O) : Nat → Int32 → pd_I → Option O
  | 0, _, _ => none
  | fu + 1, zx1, zI9 => if 600 ≤ zx1 then kont zI9 else (pd_bd (if zr5 ≤ zx1 then some 0 else (pd_gd (pd_in zx1 1400) (if (zI9 119 zx1.toNatClampNeg) = 1 then some (-16) else (some 16)))) fun (zx2 : Int32) => pd_gd (pd_in ((600 * p3) + zx1) 9600) (pd_let (pd_ui zI9 94 ((600 * p3) + zx1).toNatClampNeg zx2) fun zI11 => pd_let (zx1 + 1) fun zv1 => fl_X12_send_83 p3 zr5 kont fu zv1 zI11))
set_option maxRecDepth 100000 in
set_option maxHeartbeats 4000000 in
theorem el_X12_send_83 {cx : pd_X} (C : pd_C cx "PathDecoderModel" cX12_send rm_X12_send) {p3 : Int32} {zr5 : Int32} {J : pd_J} {Z : pd_R} {n : Nat} (hn : 133 ≤ n)  {O : Type} {kont : pd_I → Option O} {out : O} (K : ∀ (zI10 : pd_I), kont zI10 = some out → pd_V cx 0 0 140 [none, none, none, none, none, some (.int zr5), none] [] zI10 J (pd_RF Z) n) :
    ∀ (fu : Nat) (zx1 : Int32) (zI9 : pd_I), fl_X12_send_83 p3 zr5 kont fu zx1 zI9 = some out → pd_V cx 0 0 83 [some (.ref 92), none, none, none, some (.int p3), some (.int zr5), some (.int zx1)] [] zI9 J (pd_RF Z) n := by
  intro fu
  induction fu with
  | zero => intro zx1 zI9 hF; rw [fl_X12_send_83] at hF; cases hF
  | succ fu ih =>
    intro zx1 zI9 hF
    rw [fl_X12_send_83] at hF
    refine pd_iload C dX12_send_83 rfl ?_
    refine pd_sipush (v := 600) C dX12_send_85 (by decide) ?_
    refine pd_icmp_ge (tgt := 140) C dX12_send_88 (by decide) (fun zc3 => ?_) (fun zc3 => ?_)
    · have hF := pd_t zc3 hF
      refine pd_wk (ls' := [none, none, none, none, none, some (.int zr5), none]) (And.intro rfl True.intro) ?_
      exact K _ hF
    · have hF := pd_f zc3 hF
      refine pd_aload_n C dX12_send_91 rfl rfl ?_
      refine gr_12_2 C wd_5_127 (pd_lt (by decide) hn) sh_92 (rf_92_2 _) dX12_send_92 ?_
      refine pd_sipush (v := 600) C dX12_send_95 (by decide) ?_
      refine pd_iload C dX12_send_98 rfl ?_
      refine pd_imul C dX12_send_100 ?_
      refine pd_iload C dX12_send_101 rfl ?_
      refine pd_iadd C dX12_send_103 ?_
      refine pd_iload C dX12_send_104 rfl ?_
      refine pd_iload C dX12_send_106 rfl ?_
      obtain ⟨zx2, hS, hF⟩ := pd_bd_some hF
      have hJ133 : pd_V cx 0 0 133 [some (.ref 92), none, none, none, some (.int p3), some (.int zr5), some (.int zx1)] [.int zx2, .int ((600 * p3) + zx1), .ref 94] zI9 J (pd_RF Z) n := by
        obtain ⟨zg2, hF⟩ := pd_gd_some hF
        refine pd_iast C (pd_lt (by decide) hn) sh_94 zg2 dX12_send_133 ?_
        refine pd_memI (fun zI11 hzI11 => ?_)
        have hF := pd_let_at hF hzI11
        refine pd_iincG (zz := 1) C dX12_send_134 rfl (by decide) rfl (fun zv1 hzv1 => ?_)
        have hF := pd_let_at hF hzv1
        refine pd_lsE (ls' := [some (.ref 92), none, none, none, some (.int p3), some (.int zr5), some (.int zv1)]) rfl ?_
        refine pd_goto (tgt := 83) C dX12_send_137 (by decide) ?_
        exact ih _ _ hF
      replace hF := hS
      clear hS
      refine pd_icmp_ge (tgt := 132) C dX12_send_108 (by decide) (fun zc2 => ?_) (fun zc2 => ?_)
      · have hF := pd_t zc2 hF
        refine pd_iconst (v := 0) C dX12_send_132 (by decide) ?_
        have hF := hF.symm
        cases hF
        exact hJ133
      · have hF := pd_f zc2 hF
        refine pd_aload_n C dX12_send_111 rfl rfl ?_
        refine gr_12_31 C wd_5_156 (pd_lt (by decide) hn) sh_92 (rf_92_31 _) dX12_send_112 ?_
        refine pd_iload C dX12_send_115 rfl ?_
        obtain ⟨zg3, hF⟩ := pd_gd_some hF
        refine pd_iald C (pd_lt (by decide) hn) sh_119 zg3 dX12_send_117 ?_
        refine pd_iconst (v := 1) C dX12_send_118 (by decide) ?_
        refine pd_icmp_ne (tgt := 127) C dX12_send_119 (by decide) (fun zc1 => ?_) (fun zc1 => ?_)
        · have hF := pd_f zc1 hF
          refine pd_bipush (v := 16) C dX12_send_127 (by decide) ?_
          refine pd_goto (tgt := 133) C dX12_send_129 (by decide) ?_
          have hF := hF.symm
          cases hF
          exact hJ133
        · have hF := pd_t zc1 hF
          refine pd_bipush (v := (-16)) C dX12_send_122 (by decide) ?_
          refine pd_goto (tgt := 133) C dX12_send_124 (by decide) ?_
          have hF := hF.symm
          cases hF
          exact hJ133
def fn_X12_send (I : pd_I) (p0 : Int32) (p1 : Int32) (p2 : Int32) (p3 : Int32) : Option (Int32 × pd_I) := pd_bd2 (fn_X12_isCode I p0) fun zr1 zI1 => pd_jn (fun (zI2 : pd_I) => some (0, zI2)) fun zj1 => if zr1 = 0 then zj1 zI1 else (pd_bd2 (fn_X12_isRow zI1 p1 1) fun zr2 zI3 => if zr2 = 0 then zj1 zI3 else (pd_bd2 (fn_X12_isRow zI3 p3 1) fun zr3 zI4 => if zr3 = 0 then zj1 zI4 else (pd_bd2 (fn_X12_isN zI4 p2 2) fun zr4 zI5 => if zr4 = 0 then zj1 zI5 else (pd_bd (fn_X12_takes zI5 p1 p2) fun zI6 => pd_bd2 (fn_X12_sent zI6 p0 p2) fun zr5 zI7 => if zr5 = (-1) then some ((-1), zI7) else (if zr5 ≤ 600 then pd_gd (pd_in p3 16) (pd_let (pd_ui zI7 93 p3.toNatClampNeg zr5) fun zI8 => fl_X12_send_83 p3 zr5 (fun zI10 => some (zr5, zI10)) pd_FU 0 zI8) else (some ((-2), zI7)))))))
set_option maxRecDepth 100000 in
set_option maxHeartbeats 4000000 in
theorem em_X12_send {l : Launch} {D : va_G} {tc : Nat → ClassId} (hst : l.stackTraces = false) {I : pd_I} {J : pd_J} {Z : pd_R} {n : Nat} {p0 : Int32} {p1 : Int32} {p2 : Int32} {p3 : Int32} (hn : 133 ≤ n)  {out : Int32 × pd_I} (hF : fn_X12_send I p0 p1 p2 p3 = some out) :
    pd_M l D tc yX12_send (.code yX12_send cX12_send 7 (Option.some Jvm.ClassFile.FieldType.int)) rm_X12_send [.ref 92, .int p0, .int p1, .int p2, .int p3] I J (pd_RF Z) n (.ok (some (.int out.1))) out.2 J (pd_RF Z) n := by
  refine pd_open (own := "PathDecoderModel") (ls0 := [some (.ref 92), some (.int p0), some (.int p1), some (.int p2), some (.int p3), none, none]) (by decide) rfl (Nat.le_of_ble_eq_true rfl) rfl rfl hst (fun cx hl hD htc C hE htab hnm => ?_)
  subst hl hD htc
  unfold fn_X12_send at hF
  refine pd_aload_n C dX12_send_0 rfl rfl ?_
  refine pd_iload_n C dX12_send_1 rfl rfl ?_
  obtain ⟨zr1, zI1, zh1, hF⟩ := pd_bd2_some hF
  refine pd_callV C [.int p0] [] (em_X12_isCode (pd_C_st C) hn  zh1) mw_X12_isCode wd_6_69 rfl (by decide) (pd_lt (by decide) hn) sh_92 ⟨by decide, by decide, by decide, by decide⟩ rfl (Nat.le_of_ble_eq_true rfl) pd_oldL_same (fun _ _ => pd_old_same _) dX12_send_2 (stk' := [.int zr1]) rfl ?_
  refine pd_jn_use hF (fun j => ∀ (zI2 : pd_I), j zI2 = some out → pd_V cx 0 0 36 [none, none, none, none, none, none, none] [] zI2 J (pd_RF Z) n) (fun zI2 hF => ?_) (fun zj1 hzj1 hF => ?_)
  · refine pd_iconst (v := 0) C dX12_send_36 (by decide) ?_
    cases hF
    exact pd_iret C hE rfl rfl rfl ⟨by decide, by decide⟩ dX12_send_37
  · refine pd_if_eq (tgt := 36) C dX12_send_5 (by decide) (fun zc9 => ?_) (fun zc9 => ?_)
    · have hF := pd_t zc9 hF
      refine pd_wk (ls' := [none, none, none, none, none, none, none]) True.intro ?_
      exact hzj1 _ hF
    · have hF := pd_f zc9 hF
      refine pd_aload_n C dX12_send_8 rfl rfl ?_
      refine pd_iload_n C dX12_send_9 rfl rfl ?_
      refine pd_iconst (v := 1) C dX12_send_10 (by decide) ?_
      obtain ⟨zr2, zI3, zh2, hF⟩ := pd_bd2_some hF
      refine pd_callV C [.int p1, .int 1] [] (em_X12_isRow (pd_C_st C) hn  zh2) mw_X12_isRow wd_6_26 rfl (by decide) (pd_lt (by decide) hn) sh_92 ⟨by decide, by decide, by decide, by decide⟩ rfl (Nat.le_of_ble_eq_true rfl) pd_oldL_same (fun _ _ => pd_old_same _) dX12_send_11 (stk' := [.int zr2]) rfl ?_
      refine pd_if_eq (tgt := 36) C dX12_send_14 (by decide) (fun zc8 => ?_) (fun zc8 => ?_)
      · have hF := pd_t zc8 hF
        refine pd_wk (ls' := [none, none, none, none, none, none, none]) True.intro ?_
        exact hzj1 _ hF
      · have hF := pd_f zc8 hF
        refine pd_aload_n C dX12_send_17 rfl rfl ?_
        refine pd_iload C dX12_send_18 rfl ?_
        refine pd_iconst (v := 1) C dX12_send_20 (by decide) ?_
        obtain ⟨zr3, zI4, zh3, hF⟩ := pd_bd2_some hF
        refine pd_callV C [.int p3, .int 1] [] (em_X12_isRow (pd_C_st C) hn  zh3) mw_X12_isRow wd_6_26 rfl (by decide) (pd_lt (by decide) hn) sh_92 ⟨by decide, by decide, by decide, by decide⟩ rfl (Nat.le_of_ble_eq_true rfl) pd_oldL_same (fun _ _ => pd_old_same _) dX12_send_21 (stk' := [.int zr3]) rfl ?_
        refine pd_if_eq (tgt := 36) C dX12_send_24 (by decide) (fun zc7 => ?_) (fun zc7 => ?_)
        · have hF := pd_t zc7 hF
          refine pd_wk (ls' := [none, none, none, none, none, none, none]) True.intro ?_
          exact hzj1 _ hF
        · have hF := pd_f zc7 hF
          refine pd_aload_n C dX12_send_27 rfl rfl ?_
          refine pd_iload_n C dX12_send_28 rfl rfl ?_
          refine pd_iconst (v := 2) C dX12_send_29 (by decide) ?_
          obtain ⟨zr4, zI5, zh4, hF⟩ := pd_bd2_some hF
          refine pd_callV C [.int p2, .int 2] [] (em_X12_isN (pd_C_st C) hn  zh4) mw_X12_isN wd_6_93 rfl (by decide) (pd_lt (by decide) hn) sh_92 ⟨by decide, by decide, by decide, by decide⟩ rfl (Nat.le_of_ble_eq_true rfl) pd_oldL_same (fun _ _ => pd_old_same _) dX12_send_30 (stk' := [.int zr4]) rfl ?_
          refine pd_if_ne (tgt := 38) C dX12_send_33 (by decide) (fun zc6 => ?_) (fun zc6 => ?_)
          · have hF := pd_f zc6 hF
            refine pd_aload_n C dX12_send_38 rfl rfl ?_
            refine pd_iload_n C dX12_send_39 rfl rfl ?_
            refine pd_iload_n C dX12_send_40 rfl rfl ?_
            obtain ⟨zI6, zh5, hF⟩ := pd_bd_some hF
            refine pd_callV C [.int p1, .int p2] [] (em_X12_takes (pd_C_st C) hn  zh5) mw_X12_takes wd_6_97 rfl (by decide) (pd_lt (by decide) hn) sh_92 ⟨by decide, by decide, by decide, by decide⟩ rfl (Nat.le_of_ble_eq_true rfl) pd_oldL_same (fun _ _ => pd_old_same _) dX12_send_41 (stk' := []) rfl ?_
            refine pd_aload_n C dX12_send_44 rfl rfl ?_
            refine pd_iload_n C dX12_send_45 rfl rfl ?_
            refine pd_iload_n C dX12_send_46 rfl rfl ?_
            obtain ⟨zr5, zI7, zh6, hF⟩ := pd_bd2_some hF
            refine pd_callV C [.int p0, .int p2] [] (em_X12_sent (pd_C_st C) hn  zh6) mw_X12_sent wd_6_101 rfl (by decide) (pd_lt (by decide) hn) sh_92 ⟨by decide, by decide, by decide, by decide⟩ rfl (Nat.le_of_ble_eq_true rfl) pd_oldL_same (fun _ _ => pd_old_same _) dX12_send_47 (stk' := [.int zr5]) rfl ?_
            refine pd_istore (ls' := [some (.ref 92), some (.int p0), some (.int p1), some (.int p2), some (.int p3), some (.int zr5), none]) C dX12_send_50 (Nat.le_of_ble_eq_true rfl) rfl rfl ?_
            refine pd_iload C dX12_send_52 rfl ?_
            refine pd_iconst (v := (-1)) C dX12_send_54 (by decide) ?_
            refine pd_icmp_ne (tgt := 60) C dX12_send_55 (by decide) (fun zc5 => ?_) (fun zc5 => ?_)
            · have hF := pd_f zc5 hF
              refine pd_iload C dX12_send_60 rfl ?_
              refine pd_sipush (v := 600) C dX12_send_62 (by decide) ?_
              refine pd_icmp_le (tgt := 71) C dX12_send_65 (by decide) (fun zc4 => ?_) (fun zc4 => ?_)
              · have hF := pd_t zc4 hF
                refine pd_aload_n C dX12_send_71 rfl rfl ?_
                refine gr_12_1 C wd_5_126 (pd_lt (by decide) hn) sh_92 (rf_92_1 _) dX12_send_72 ?_
                refine pd_iload C dX12_send_75 rfl ?_
                refine pd_iload C dX12_send_77 rfl ?_
                obtain ⟨zg1, hF⟩ := pd_gd_some hF
                refine pd_iast C (pd_lt (by decide) hn) sh_93 zg1 dX12_send_79 ?_
                refine pd_memI (fun zI8 hzI8 => ?_)
                have hF := pd_let_at hF hzI8
                refine pd_iconst (v := 0) C dX12_send_80 (by decide) ?_
                refine pd_istore (ls' := [some (.ref 92), some (.int p0), some (.int p1), some (.int p2), some (.int p3), some (.int zr5), some (.int 0)]) C dX12_send_81 (Nat.le_of_ble_eq_true rfl) rfl rfl ?_
                refine pd_wk (ls' := [some (.ref 92), none, none, none, some (.int p3), some (.int zr5), some (.int 0)]) (And.intro rfl (And.intro rfl (And.intro rfl (And.intro rfl True.intro)))) ?_
                refine el_X12_send_83 C hn (fun zI10 hF => ?_) pd_FU _ _ hF
                refine pd_iload C dX12_send_140 rfl ?_
                cases hF
                exact pd_iret C hE rfl rfl rfl ⟨by decide, by decide⟩ dX12_send_142
              · have hF := pd_f zc4 hF
                refine pd_bipush (v := (-2)) C dX12_send_68 (by decide) ?_
                cases hF
                exact pd_iret C hE rfl rfl rfl ⟨by decide, by decide⟩ dX12_send_70
            · have hF := pd_t zc5 hF
              refine pd_iconst (v := (-1)) C dX12_send_58 (by decide) ?_
              cases hF
              exact pd_iret C hE rfl rfl rfl ⟨by decide, by decide⟩ dX12_send_59
          · have hF := pd_t zc6 hF
            refine pd_wk (ls' := [none, none, none, none, none, none, none]) True.intro ?_
            exact hzj1 _ hF

