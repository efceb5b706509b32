def fn_X12_length (I : pd_I) (p0 : Int32) (p1 : Int32) : Option (Int32 × pd_I) := pd_bd2 (fn_X12_isCode I p0) fun zr1 zI1 => pd_bd2 (if zr1 = 0 then some (0, zI1) else (pd_bd2 (fn_X12_isN zI1 p1 2) fun zr2 zI3 => if zr2 = 0 then some (0, zI3) else (pd_bd (fn_X12_steps zI3 p0 p1) fun zr3 => pd_bd (fn_X12_sentAhead zI3 p0 zr3) fun zr4 => some (zr4, zI3)))) fun (zx1 : Int32) (zI2 : pd_I) => some (zx1, zI2)
set_option maxRecDepth 100000 in
set_option maxHeartbeats 4000000 in
theorem em_X12_length {l : Launch} {D : va_G} {tc : Nat → ClassId} (hst : l.stackTraces = false) {I : pd_I} {J : pd_J} {Z : pd_R} {n : Nat} {p0 : Int32} {p1 : Int32} (hn : 133 ≤ n)  {out : Int32 × pd_I} (hF : fn_X12_length I p0 p1 = some out) :
    pd_M l D tc yX12_length (.code yX12_length cX12_length 3 (Option.some Jvm.ClassFile.FieldType.int)) rm_X12_length [.ref 92, .int p0, .int p1] I J (pd_RF Z) n (.ok (some (.int out.1))) out.2 J (pd_RF Z) n := by
  refine pd_open (own := "PathDecoderModel") (ls0 := [some (.ref 92), some (.int p0), some (.int p1)]) (by decide) rfl (Nat.le_of_ble_eq_true rfl) rfl rfl hst (fun cx hl hD htc C hE htab hnm => ?_)
  subst hl hD htc
  unfold fn_X12_length at hF
  refine pd_aload_n C dX12_length_0 rfl rfl ?_
  refine pd_iload_n C dX12_length_1 rfl rfl ?_
  obtain ⟨zr1, zI1, zh1, hF⟩ := pd_bd2_some hF
  refine pd_callV C [.int p0] [] (em_X12_isCode (pd_C_st C) hn  zh1) mw_X12_isCode wd_6_69 rfl (by decide) (pd_lt (by decide) hn) sh_92 ⟨by decide, by decide, by decide, by decide⟩ rfl (Nat.le_of_ble_eq_true rfl) pd_oldL_same (fun _ _ => pd_old_same _) dX12_length_2 (stk' := [.int zr1]) rfl ?_
  obtain ⟨zx1, zI2, hS, hF⟩ := pd_bd2_some hF
  have hJ32 : pd_V cx 0 0 32 [none, none, none] [.int zx1] zI2 J (pd_RF Z) n := by
    cases hF
    exact pd_iret C hE rfl rfl rfl ⟨by decide, by decide⟩ dX12_length_32
  replace hF := hS
  clear hS
  refine pd_if_eq (tgt := 31) C dX12_length_5 (by decide) (fun zc2 => ?_) (fun zc2 => ?_)
  · have hF := pd_t zc2 hF
    refine pd_iconst (v := 0) C dX12_length_31 (by decide) ?_
    refine pd_wk (ls' := [none, none, none]) True.intro ?_
    have hF := hF.symm
    cases hF
    exact hJ32
  · have hF := pd_f zc2 hF
    refine pd_aload_n C dX12_length_8 rfl rfl ?_
    refine pd_iload_n C dX12_length_9 rfl rfl ?_
    refine pd_iconst (v := 2) C dX12_length_10 (by decide) ?_
    obtain ⟨zr2, zI3, zh2, hF⟩ := pd_bd2_some hF
    refine pd_callV C [.int p1, .int 2] [] (em_X12_isN (pd_C_st C) hn  zh2) mw_X12_isN wd_6_93 rfl (by decide) (pd_lt (by decide) hn) sh_92 ⟨by decide, by decide, by decide, by decide⟩ rfl (Nat.le_of_ble_eq_true rfl) pd_oldL_same (fun _ _ => pd_old_same _) dX12_length_11 (stk' := [.int zr2]) rfl ?_
    refine pd_if_eq (tgt := 31) C dX12_length_14 (by decide) (fun zc1 => ?_) (fun zc1 => ?_)
    · have hF := pd_t zc1 hF
      refine pd_iconst (v := 0) C dX12_length_31 (by decide) ?_
      refine pd_wk (ls' := [none, none, none]) True.intro ?_
      have hF := hF.symm
      cases hF
      exact hJ32
    · have hF := pd_f zc1 hF
      refine pd_aload_n C dX12_length_17 rfl rfl ?_
      refine pd_iload_n C dX12_length_18 rfl rfl ?_
      refine pd_aload_n C dX12_length_19 rfl rfl ?_
      refine pd_iload_n C dX12_length_20 rfl rfl ?_
      refine pd_iload_n C dX12_length_21 rfl rfl ?_
      obtain ⟨zr3, zh3, hF⟩ := pd_bd_some hF
      refine pd_callV C [.int p0, .int p1] [.int p0, .ref 92] (em_X12_steps (pd_C_st C) hn  zh3) mw_X12_steps wd_6_128 rfl (by decide) (pd_lt (by decide) hn) sh_92 ⟨by decide, by decide, by decide, by decide⟩ rfl (Nat.le_of_ble_eq_true rfl) pd_oldL_same (fun _ _ => pd_old_same _) dX12_length_22 (stk' := [.int zr3, .int p0, .ref 92]) rfl ?_
      obtain ⟨zr4, zh4, hF⟩ := pd_bd_some hF
      refine pd_callV C [.int p0, .int zr3] [] (em_X12_sentAhead (pd_C_st C) hn  zh4) mw_X12_sentAhead wd_6_144 rfl (by decide) (pd_lt (by decide) hn) sh_92 ⟨by decide, by decide, by decide, by decide⟩ rfl (Nat.le_of_ble_eq_true rfl) pd_oldL_same (fun _ _ => pd_old_same _) dX12_length_25 (stk' := [.int zr4]) rfl ?_
      refine pd_goto (tgt := 32) C dX12_length_28 (by decide) ?_
      refine pd_wk (ls' := [none, none, none]) True.intro ?_
      have hF := hF.symm
      cases hF
      exact hJ32

def fl_X12_cost_66 {O : Type} (p3 : Int32) (zr5 : Int32) (zI7 : pd_I) (kont : Int32 → Option O) : Nat → Int32 → Int32 → Option O
  | 0, _, _ => none
  | fu + 1, zx1, zx2 => if zr5 ≤ zx2 then kont zx1 else (pd_gd (pd_in zx2 1400) (pd_bd (fn_X12_markCost zI7 p3 zx2 (zI7 119 zx2.toNatClampNeg)) fun zr6 => pd_let (zx1 + zr6) fun zv1 => pd_let (zx2 + 1) fun zv2 => fl_X12_cost_66 p3 zr5 zI7 kont fu zv1 zv2))
set_option maxRecDepth 100000 in
set_option maxHeartbeats 4000000 in
theorem el_X12_cost_66 {cx : pd_X} (C : pd_C cx "PathDecoderModel" cX12_cost rm_X12_cost) {p3 : Int32} {zr5 : Int32} {zI7 : pd_I} {J : pd_J} {Z : pd_R} {n : Nat} (hn : 133 ≤ n)  {O : Type} {kont : Int32 → Option O} {out : O} (K : ∀ (zx3 : Int32), kont zx3 = some out → pd_V cx 0 0 99 [none, none, none, none, none, none, some (.int zx3), none] [] zI7 J (pd_RF Z) n) :
    ∀ (fu : Nat) (zx1 : Int32) (zx2 : Int32), fl_X12_cost_66 p3 zr5 zI7 kont fu zx1 zx2 = some out → pd_V cx 0 0 66 [some (.ref 92), none, none, none, some (.int p3), some (.int zr5), some (.int zx1), some (.int zx2)] [] zI7 J (pd_RF Z) n := by
  intro fu
  induction fu with
  | zero => intro zx1 zx2 hF; rw [fl_X12_cost_66] at hF; cases hF
  | succ fu ih =>
    intro zx1 zx2 hF
    rw [fl_X12_cost_66] at hF
    refine pd_iload C dX12_cost_66 rfl ?_
    refine pd_iload C dX12_cost_68 rfl ?_
    refine pd_icmp_ge (tgt := 99) C dX12_cost_70 (by decide) (fun zc1 => ?_) (fun zc1 => ?_)
    · have hF := pd_t zc1 hF
      refine pd_wk (ls' := [none, none, none, none, none, none, some (.int zx1), none]) (And.intro rfl True.intro) ?_
      exact K _ hF
    · have hF := pd_f zc1 hF
      refine pd_iload C dX12_cost_73 rfl ?_
      refine pd_aload_n C dX12_cost_75 rfl rfl ?_
      refine pd_iload C dX12_cost_76 rfl ?_
      refine pd_iload C dX12_cost_78 rfl ?_
      refine pd_aload_n C dX12_cost_80 rfl rfl ?_
      refine gr_12_31 C wd_5_156 (pd_lt (by decide) hn) sh_92 (rf_92_31 _) dX12_cost_81 ?_
      refine pd_iload C dX12_cost_84 rfl ?_
      obtain ⟨zg1, hF⟩ := pd_gd_some hF
      refine pd_iald C (pd_lt (by decide) hn) sh_119 zg1 dX12_cost_86 ?_
      obtain ⟨zr6, zh7, hF⟩ := pd_bd_some hF
      refine pd_callV C [.int p3, .int zx2, .int (zI7 119 zx2.toNatClampNeg)] [.int zx1] (em_X12_markCost (pd_C_st C) hn  zh7) mw_X12_markCost wd_6_156 rfl (by decide) (pd_lt (by decide) hn) sh_92 ⟨by decide, by decide, by decide, by decide⟩ rfl (Nat.le_of_ble_eq_true rfl) pd_oldL_same (fun _ _ => pd_old_same _) dX12_cost_87 (stk' := [.int zr6, .int zx1]) rfl ?_
      refine pd_iadd C dX12_cost_90 ?_
      refine pd_topi (fun zv1 hzv1 => ?_)
      have hF := pd_let_at hF hzv1
      refine pd_istore (ls' := [some (.ref 92), none, none, none, some (.int p3), some (.int zr5), some (.int zv1), some (.int zx2)]) C dX12_cost_91 (Nat.le_of_ble_eq_true rfl) rfl rfl ?_
      refine pd_iincG (zz := 1) C dX12_cost_93 rfl (by decide) rfl (fun zv2 hzv2 => ?_)
      have hF := pd_let_at hF hzv2
      refine pd_lsE (ls' := [some (.ref 92), none, none, none, some (.int p3), some (.int zr5), some (.int zv1), some (.int zv2)]) rfl ?_
      refine pd_goto (tgt := 66) C dX12_cost_96 (by decide) ?_
      exact ih _ _ hF
def fn_X12_cost (I : pd_I) (p0 : Int32) (p1 : Int32) (p2 : Int32) (p3 : Int32) : Option (Int32 × pd_I) := pd_bd2 (fn_X12_isCode I p0) fun zr1 zI1 => pd_jn (fun (zI2 : pd_I) => some (0, zI2)) fun zj1 => if zr1 = 0 then zj1 zI1 else (pd_bd2 (fn_X12_isRow zI1 p1 1) fun zr2 zI3 => if zr2 = 0 then zj1 zI3 else (pd_bd2 (fn_X12_isRow zI3 p3 1) fun zr3 zI4 => if zr3 = 0 then zj1 zI4 else (pd_bd2 (fn_X12_isN zI4 p2 2) fun zr4 zI5 => if zr4 = 0 then zj1 zI5 else (pd_bd (fn_X12_takes zI5 p1 p2) fun zI6 => pd_bd2 (fn_X12_sent zI6 p0 p2) fun zr5 zI7 => if zr5 = (-1) then some ((-1), zI7) else (fl_X12_cost_66 p3 zr5 zI7 (fun zx3 => some (zx3, zI7)) pd_FU 0 0)))))
set_option maxRecDepth 100000 in
set_option maxHeartbeats 4000000 in
theorem em_X12_cost {l : Launch} {D : va_G} {tc : Nat → ClassId} (hst : l.stackTraces = false) {I : pd_I} {J : pd_J} {Z : pd_R} {n : Nat} {p0 : Int32} {p1 : Int32} {p2 : Int32} {p3 : Int32} (hn : 133 ≤ n)  {out : Int32 × pd_I} (hF : fn_X12_cost I p0 p1 p2 p3 = some out) :
    pd_M l D tc yX12_cost (.code yX12_cost cX12_cost 8 (Option.some Jvm.ClassFile.FieldType.int)) rm_X12_cost [.ref 92, .int p0, .int p1, .int p2, .int p3] I J (pd_RF Z) n (.ok (some (.int out.1))) out.2 J (pd_RF Z) n := by
  refine pd_open (own := "PathDecoderModel") (ls0 := [some (.ref 92), some (.int p0), some (.int p1), some (.int p2), some (.int p3), none, none, none]) (by decide) rfl (Nat.le_of_ble_eq_true rfl) rfl rfl hst (fun cx hl hD htc C hE htab hnm => ?_)
  subst hl hD htc
  unfold fn_X12_cost at hF
  refine pd_aload_n C dX12_cost_0 rfl rfl ?_
  refine pd_iload_n C dX12_cost_1 rfl rfl ?_
  obtain ⟨zr1, zI1, zh1, hF⟩ := pd_bd2_some hF
  refine pd_callV C [.int p0] [] (em_X12_isCode (pd_C_st C) hn  zh1) mw_X12_isCode wd_6_69 rfl (by decide) (pd_lt (by decide) hn) sh_92 ⟨by decide, by decide, by decide, by decide⟩ rfl (Nat.le_of_ble_eq_true rfl) pd_oldL_same (fun _ _ => pd_old_same _) dX12_cost_2 (stk' := [.int zr1]) rfl ?_
  refine pd_jn_use hF (fun j => ∀ (zI2 : pd_I), j zI2 = some out → pd_V cx 0 0 36 [none, none, none, none, none, none, none, none] [] zI2 J (pd_RF Z) n) (fun zI2 hF => ?_) (fun zj1 hzj1 hF => ?_)
  · refine pd_iconst (v := 0) C dX12_cost_36 (by decide) ?_
    cases hF
    exact pd_iret C hE rfl rfl rfl ⟨by decide, by decide⟩ dX12_cost_37
  · refine pd_if_eq (tgt := 36) C dX12_cost_5 (by decide) (fun zc6 => ?_) (fun zc6 => ?_)
    · have hF := pd_t zc6 hF
      refine pd_wk (ls' := [none, none, none, none, none, none, none, none]) True.intro ?_
      exact hzj1 _ hF
    · have hF := pd_f zc6 hF
      refine pd_aload_n C dX12_cost_8 rfl rfl ?_
      refine pd_iload_n C dX12_cost_9 rfl rfl ?_
      refine pd_iconst (v := 1) C dX12_cost_10 (by decide) ?_
      obtain ⟨zr2, zI3, zh2, hF⟩ := pd_bd2_some hF
      refine pd_callV C [.int p1, .int 1] [] (em_X12_isRow (pd_C_st C) hn  zh2) mw_X12_isRow wd_6_26 rfl (by decide) (pd_lt (by decide) hn) sh_92 ⟨by decide, by decide, by decide, by decide⟩ rfl (Nat.le_of_ble_eq_true rfl) pd_oldL_same (fun _ _ => pd_old_same _) dX12_cost_11 (stk' := [.int zr2]) rfl ?_
      refine pd_if_eq (tgt := 36) C dX12_cost_14 (by decide) (fun zc5 => ?_) (fun zc5 => ?_)
      · have hF := pd_t zc5 hF
        refine pd_wk (ls' := [none, none, none, none, none, none, none, none]) True.intro ?_
        exact hzj1 _ hF
      · have hF := pd_f zc5 hF
        refine pd_aload_n C dX12_cost_17 rfl rfl ?_
        refine pd_iload C dX12_cost_18 rfl ?_
        refine pd_iconst (v := 1) C dX12_cost_20 (by decide) ?_
        obtain ⟨zr3, zI4, zh3, hF⟩ := pd_bd2_some hF
        refine pd_callV C [.int p3, .int 1] [] (em_X12_isRow (pd_C_st C) hn  zh3) mw_X12_isRow wd_6_26 rfl (by decide) (pd_lt (by decide) hn) sh_92 ⟨by decide, by decide, by decide, by decide⟩ rfl (Nat.le_of_ble_eq_true rfl) pd_oldL_same (fun _ _ => pd_old_same _) dX12_cost_21 (stk' := [.int zr3]) rfl ?_
        refine pd_if_eq (tgt := 36) C dX12_cost_24 (by decide) (fun zc4 => ?_) (fun zc4 => ?_)
        · have hF := pd_t zc4 hF
          refine pd_wk (ls' := [none, none, none, none, none, none, none, none]) True.intro ?_
          exact hzj1 _ hF
        · have hF := pd_f zc4 hF
          refine pd_aload_n C dX12_cost_27 rfl rfl ?_
          refine pd_iload_n C dX12_cost_28 rfl rfl ?_
          refine pd_iconst (v := 2) C dX12_cost_29 (by decide) ?_
          obtain ⟨zr4, zI5, zh4, hF⟩ := pd_bd2_some hF
          refine pd_callV C [.int p2, .int 2] [] (em_X12_isN (pd_C_st C) hn  zh4) mw_X12_isN wd_6_93 rfl (by decide) (pd_lt (by decide) hn) sh_92 ⟨by decide, by decide, by decide, by decide⟩ rfl (Nat.le_of_ble_eq_true rfl) pd_oldL_same (fun _ _ => pd_old_same _) dX12_cost_30 (stk' := [.int zr4]) rfl ?_
          refine pd_if_ne (tgt := 38) C dX12_cost_33 (by decide) (fun zc3 => ?_) (fun zc3 => ?_)
          · have hF := pd_f zc3 hF
            refine pd_aload_n C dX12_cost_38 rfl rfl ?_
            refine pd_iload_n C dX12_cost_39 rfl rfl ?_
            refine pd_iload_n C dX12_cost_40 rfl rfl ?_
            obtain ⟨zI6, zh5, hF⟩ := pd_bd_some hF
            refine pd_callV C [.int p1, .int p2] [] (em_X12_takes (pd_C_st C) hn  zh5) mw_X12_takes wd_6_97 rfl (by decide) (pd_lt (by decide) hn) sh_92 ⟨by decide, by decide, by decide, by decide⟩ rfl (Nat.le_of_ble_eq_true rfl) pd_oldL_same (fun _ _ => pd_old_same _) dX12_cost_41 (stk' := []) rfl ?_
            refine pd_aload_n C dX12_cost_44 rfl rfl ?_
            refine pd_iload_n C dX12_cost_45 rfl rfl ?_
            refine pd_iload_n C dX12_cost_46 rfl rfl ?_
            obtain ⟨zr5, zI7, zh6, hF⟩ := pd_bd2_some hF
            refine pd_callV C [.int p0, .int p2] [] (em_X12_sent (pd_C_st C) hn  zh6) mw_X12_sent wd_6_101 rfl (by decide) (pd_lt (by decide) hn) sh_92 ⟨by decide, by decide, by decide, by decide⟩ rfl (Nat.le_of_ble_eq_true rfl) pd_oldL_same (fun _ _ => pd_old_same _) dX12_cost_47 (stk' := [.int zr5]) rfl ?_
            refine pd_istore (ls' := [some (.ref 92), some (.int p0), some (.int p1), some (.int p2), some (.int p3), some (.int zr5), none, none]) C dX12_cost_50 (Nat.le_of_ble_eq_true rfl) rfl rfl ?_
            refine pd_iload C dX12_cost_52 rfl ?_
            refine pd_iconst (v := (-1)) C dX12_cost_54 (by decide) ?_
            refine pd_icmp_ne (tgt := 60) C dX12_cost_55 (by decide) (fun zc2 => ?_) (fun zc2 => ?_)
            · have hF := pd_f zc2 hF
              refine pd_iconst (v := 0) C dX12_cost_60 (by decide) ?_
              refine pd_istore (ls' := [some (.ref 92), some (.int p0), some (.int p1), some (.int p2), some (.int p3), some (.int zr5), some (.int 0), none]) C dX12_cost_61 (Nat.le_of_ble_eq_true rfl) rfl rfl ?_
              refine pd_iconst (v := 0) C dX12_cost_63 (by decide) ?_
              refine pd_istore (ls' := [some (.ref 92), some (.int p0), some (.int p1), some (.int p2), some (.int p3), some (.int zr5), some (.int 0), some (.int 0)]) C dX12_cost_64 (Nat.le_of_ble_eq_true rfl) rfl rfl ?_
              refine pd_wk (ls' := [some (.ref 92), none, none, none, some (.int p3), some (.int zr5), some (.int 0), some (.int 0)]) (And.intro rfl (And.intro rfl (And.intro rfl (And.intro rfl (And.intro rfl True.intro))))) ?_
              refine el_X12_cost_66 C hn (fun zx3 hF => ?_) pd_FU _ _ hF
              refine pd_iload C dX12_cost_99 rfl ?_
              cases hF
              exact pd_iret C hE rfl rfl rfl ⟨by decide, by decide⟩ dX12_cost_101
            · have hF := pd_t zc2 hF
              refine pd_iconst (v := (-1)) C dX12_cost_58 (by decide) ?_
              cases hF
              exact pd_iret C hE rfl rfl rfl ⟨by decide, by decide⟩ dX12_cost_59
          · have hF := pd_t zc3 hF
            refine pd_wk (ls' := [none, none, none, none, none, none, none, none]) True.intro ?_
            exact hzj1 _ hF

def fl_X12_costs_52 {O : Type} (p0 : Int32) (p1 : Int32) (zx2 : Int32) (zx3 : Int32) (zx4 : Int32) (zI5 : pd_I) (kont : Int32 → Option O) : Nat → Int32 → Int32 → Int32 → Option O
  | 0, _, _, _ => none
  | fu + 1, zx5, zx6, zx7 => pd_gd (pd_in p0 12) (if (zI5 99 p0.toNatClampNeg) ≤ zx7 then kont zx5 else (pd_bd (fn_X12_isKept zI5 p0 zx2 zx7) fun zr2 => pd_bd2 (if zr2 = 0 then some (zx5, zx6) else (pd_bd (fn_X12_out zI5 p0 zx3 zx4 zx7) fun zr3 => pd_bd (fn_X12_markCost zI5 p1 zx6 zr3) fun zr4 => pd_let (zx5 + zr4) fun zv2 => pd_let (zx6 + 1) fun zv3 => some (zv2, zv3))) fun (zx9 : Int32) (zx10 : Int32) => pd_let (zx7 + 1) fun zv1 => fl_X12_costs_52 p0 p1 zx2 zx3 zx4 zI5 kont fu zx9 zx10 zv1))
set_option maxRecDepth 100000 in
set_option maxHeartbeats 4000000 in
theorem el_X12_costs_52 {cx : pd_X} (C : pd_C cx "PathDecoderModel" cX12_costs rm_X12_costs) {p0 : Int32} {p1 : Int32} {p2 : Int32} {zx1 : Int32} {zx2 : Int32} {zx3 : Int32} {zx4 : Int32} {zI5 : pd_I} {J : pd_J} {Z : pd_R} {n : Nat} (hn : 133 ≤ n)  {O : Type} {kont : Int32 → Option O} {out : O} (K : ∀ (zx8 : Int32), kont zx8 = some out → pd_V cx 0 0 110 [some (.ref 92), some (.int p0), some (.int p1), some (.int p2), some (.int zx1), some (.int zx2), some (.int zx3), some (.int zx4), some (.int zx8), none, none] [] zI5 J (pd_RF Z) n) :
    ∀ (fu : Nat) (zx5 : Int32) (zx6 : Int32) (zx7 : Int32), fl_X12_costs_52 p0 p1 zx2 zx3 zx4 zI5 kont fu zx5 zx6 zx7 = some out → pd_V cx 0 0 52 [some (.ref 92), some (.int p0), some (.int p1), some (.int p2), some (.int zx1), some (.int zx2), some (.int zx3), some (.int zx4), some (.int zx5), some (.int zx6), some (.int zx7)] [] zI5 J (pd_RF Z) n := by
  intro fu
  induction fu with
  | zero => intro zx5 zx6 zx7 hF; rw [fl_X12_costs_52] at hF; cases hF
  | succ fu ih =>
    intro zx5 zx6 zx7 hF
    rw [fl_X12_costs_52] at hF
    refine pd_iload C dX12_costs_52 rfl ?_
    refine pd_aload_n C dX12_costs_54 rfl rfl ?_
    refine gr_12_8 C wd_5_133 (pd_lt (by decide) hn) sh_92 (rf_92_8 _) dX12_costs_55 ?_
    refine pd_iload_n C dX12_costs_58 rfl rfl ?_
    obtain ⟨zg2, hF⟩ := pd_gd_some hF
    refine pd_iald C (pd_lt (by decide) hn) sh_99 zg2 dX12_costs_59 ?_
    refine pd_icmp_ge (tgt := 110) C dX12_costs_60 (by decide) (fun zc2 => ?_) (fun zc2 => ?_)
    · have hF := pd_t zc2 hF
      refine pd_wk (ls' := [some (.ref 92), some (.int p0), some (.int p1), some (.int p2), some (.int zx1), some (.int zx2), some (.int zx3), some (.int zx4), some (.int zx5), none, none]) (And.intro rfl (And.intro rfl (And.intro rfl (And.intro rfl (And.intro rfl (And.intro rfl (And.intro rfl (And.intro rfl (And.intro rfl True.intro))))))))) ?_
      exact K _ hF
    · have hF := pd_f zc2 hF
      refine pd_aload_n C dX12_costs_63 rfl rfl ?_
      refine pd_iload_n C dX12_costs_64 rfl rfl ?_
      refine pd_iload C dX12_costs_65 rfl ?_
      refine pd_iload C dX12_costs_67 rfl ?_
      obtain ⟨zr2, zh2, hF⟩ := pd_bd_some hF
      refine pd_callV C [.int p0, .int zx2, .int zx7] [] (em_X12_isKept (pd_C_st C) hn  zh2) mw_X12_isKept wd_6_132 rfl (by decide) (pd_lt (by decide) hn) sh_92 ⟨by decide, by decide, by decide, by decide⟩ rfl (Nat.le_of_ble_eq_true rfl) pd_oldL_same (fun _ _ => pd_old_same _) dX12_costs_69 (stk' := [.int zr2]) rfl ?_
      obtain ⟨zx9, zx10, hS, hF⟩ := pd_bd2_some hF
      have hJ104 : pd_V cx 0 0 104 [some (.ref 92), some (.int p0), some (.int p1), some (.int p2), some (.int zx1), some (.int zx2), some (.int zx3), some (.int zx4), some (.int zx9), some (.int zx10), some (.int zx7)] [] zI5 J (pd_RF Z) n := by
        refine pd_iincG (zz := 1) C dX12_costs_104 rfl (by decide) rfl (fun zv1 hzv1 => ?_)
        have hF := pd_let_at hF hzv1
        refine pd_lsE (ls' := [some (.ref 92), some (.int p0), some (.int p1), some (.int p2), some (.int zx1), some (.int zx2), some (.int zx3), some (.int zx4), some (.int zx9), some (.int zx10), some (.int zv1)]) rfl ?_
        refine pd_goto (tgt := 52) C dX12_costs_107 (by decide) ?_
        exact ih _ _ _ hF
      replace hF := hS
      clear hS
      refine pd_if_ne (tgt := 78) C dX12_costs_72 (by decide) (fun zc1 => ?_) (fun zc1 => ?_)
      · have hF := pd_f zc1 hF
        refine pd_iload C dX12_costs_78 rfl ?_
        refine pd_aload_n C dX12_costs_80 rfl rfl ?_
        refine pd_iload_n C dX12_costs_81 rfl rfl ?_
        refine pd_iload C dX12_costs_82 rfl ?_
        refine pd_aload_n C dX12_costs_84 rfl rfl ?_
        refine pd_iload_n C dX12_costs_85 rfl rfl ?_
        refine pd_iload C dX12_costs_86 rfl ?_
        refine pd_iload C dX12_costs_88 rfl ?_
        refine pd_iload C dX12_costs_90 rfl ?_
        obtain ⟨zr3, zh3, hF⟩ := pd_bd_some hF
        refine pd_callV C [.int p0, .int zx3, .int zx4, .int zx7] [.int zx6, .int p1, .ref 92, .int zx5] (em_X12_out (pd_C_st C) hn  zh3) mw_X12_out wd_6_136 rfl (by decide) (pd_lt (by decide) hn) sh_92 ⟨by decide, by decide, by decide, by decide⟩ rfl (Nat.le_of_ble_eq_true rfl) pd_oldL_same (fun _ _ => pd_old_same _) dX12_costs_92 (stk' := [.int zr3, .int zx6, .int p1, .ref 92, .int zx5]) rfl ?_
        obtain ⟨zr4, zh4, hF⟩ := pd_bd_some hF
        refine pd_callV C [.int p1, .int zx6, .int zr3] [.int zx5] (em_X12_markCost (pd_C_st C) hn  zh4) mw_X12_markCost wd_6_156 rfl (by decide) (pd_lt (by decide) hn) sh_92 ⟨by decide, by decide, by decide, by decide⟩ rfl (Nat.le_of_ble_eq_true rfl) pd_oldL_same (fun _ _ => pd_old_same _) dX12_costs_95 (stk' := [.int zr4, .int zx5]) rfl ?_
        refine pd_iadd C dX12_costs_98 ?_
        refine pd_topi (fun zv2 hzv2 => ?_)
        have hF := pd_let_at hF hzv2
        refine pd_istore (ls' := [some (.ref 92), some (.int p0), some (.int p1), some (.int p2), some (.int zx1), some (.int zx2), some (.int zx3), some (.int zx4), some (.int zv2), some (.int zx6), some (.int zx7)]) C dX12_costs_99 (Nat.le_of_ble_eq_true rfl) rfl rfl ?_
        refine pd_iincG (zz := 1) C dX12_costs_101 rfl (by decide) rfl (fun zv3 hzv3 => ?_)
        have hF := pd_let_at hF hzv3
        refine pd_lsE (ls' := [some (.ref 92), some (.int p0), some (.int p1), some (.int p2), some (.int zx1), some (.int zx2), some (.int zx3), some (.int zx4), some (.int zv2), some (.int zv3), some (.int zx7)]) rfl ?_
        have hF := hF.symm
        cases hF
        exact hJ104
      · have hF := pd_t zc1 hF
        refine pd_goto (tgt := 104) C dX12_costs_75 (by decide) ?_
        have hF := hF.symm
        cases hF
        exact hJ104
def fl_X12_costs_36 {O : Type} (p0 : Int32) (p1 : Int32) (zx1 : Int32) (zx2 : Int32) (zx3 : Int32) (kont : pd_I → Option O) : Nat → Int32 → pd_I → Option O
  | 0, _, _ => none
  | fu + 1, zx4, zI5 => if 2 ≤ zx4 then kont zI5 else (fl_X12_costs_52 p0 p1 zx2 zx3 zx4 zI5 (fun zx8 => pd_gd (pd_in (((128 * zx2) + (2 * zx3)) + zx4) 26368) (pd_let (pd_ui zI5 110 (((128 * zx2) + (2 * zx3)) + zx4).toNatClampNeg zx8) fun zI7 => pd_let (zx4 + 1) fun zv4 => fl_X12_costs_36 p0 p1 zx1 zx2 zx3 kont fu zv4 zI7)) pd_FU 0 zx1 0)
set_option maxRecDepth 100000 in
set_option maxHeartbeats 4000000 in
theorem el_X12_costs_36 {cx : pd_X} (C : pd_C cx "PathDecoderModel" cX12_costs rm_X12_costs) {p0 : Int32} {p1 : Int32} {p2 : Int32} {zx1 : Int32} {zx2 : Int32} {zx3 : Int32} {J : pd_J} {Z : pd_R} {n : Nat} (hn : 133 ≤ n)  {O : Type} {kont : pd_I → Option O} {out : O} (K : ∀ (zI6 : pd_I), kont zI6 = some out → pd_V cx 0 0 137 [some (.ref 92), some (.int p0), some (.int p1), some (.int p2), some (.int zx1), some (.int zx2), some (.int zx3), none, none, none, none] [] zI6 J (pd_RF Z) n) :
    ∀ (fu : Nat) (zx4 : Int32) (zI5 : pd_I), fl_X12_costs_36 p0 p1 zx1 zx2 zx3 kont fu zx4 zI5 = some out → pd_V cx 0 0 36 [some (.ref 92), some (.int p0), some (.int p1), some (.int p2), some (.int zx1), some (.int zx2), some (.int zx3), some (.int zx4), none, none, none] [] zI5 J (pd_RF Z) n := by
  intro fu
  induction fu with
  | zero => intro zx4 zI5 hF; rw [fl_X12_costs_36] at hF; cases hF
  | succ fu ih =>
    intro zx4 zI5 hF
    rw [fl_X12_costs_36] at hF
    refine pd_iload C dX12_costs_36 rfl ?_
    refine pd_iconst (v := 2) C dX12_costs_38 (by decide) ?_
    refine pd_icmp_ge (tgt := 137) C dX12_costs_39 (by decide) (fun zc3 => ?_) (fun zc3 => ?_)
    · have hF := pd_t zc3 hF
      refine pd_wk (ls' := [some (.ref 92), some (.int p0), some (.int p1), some (.int p2), some (.int zx1), some (.int zx2), some (.int zx3), none, none, none, none]) (And.intro rfl (And.intro rfl (And.intro rfl (And.intro rfl (And.intro rfl (And.intro rfl (And.intro rfl True.intro))))))) ?_
      exact K _ hF
    · have hF := pd_f zc3 hF
      refine pd_iconst (v := 0) C dX12_costs_42 (by decide) ?_
      refine pd_istore (ls' := [some (.ref 92), some (.int p0), some (.int p1), some (.int p2), some (.int zx1), some (.int zx2), some (.int zx3), some (.int zx4), some (.int 0), none, none]) C dX12_costs_43 (Nat.le_of_ble_eq_true rfl) rfl rfl ?_
      refine pd_iload C dX12_costs_45 rfl ?_
      refine pd_istore (ls' := [some (.ref 92), some (.int p0), some (.int p1), some (.int p2), some (.int zx1), some (.int zx2), some (.int zx3), some (.int zx4), some (.int 0), some (.int zx1), none]) C dX12_costs_47 (Nat.le_of_ble_eq_true rfl) rfl rfl ?_
      refine pd_iconst (v := 0) C dX12_costs_49 (by decide) ?_
      refine pd_istore (ls' := [some (.ref 92), some (.int p0), some (.int p1), some (.int p2), some (.int zx1), some (.int zx2), some (.int zx3), some (.int zx4), some (.int 0), some (.int zx1), some (.int 0)]) C dX12_costs_50 (Nat.le_of_ble_eq_true rfl) rfl rfl ?_
      refine el_X12_costs_52 C hn (fun zx8 hF => ?_) pd_FU _ _ _ hF
      refine pd_aload_n C dX12_costs_110 rfl rfl ?_
      refine gr_12_22 C wd_5_147 (pd_lt (by decide) hn) sh_92 (rf_92_22 _) dX12_costs_111 ?_
      refine pd_sipush (v := 128) C dX12_costs_114 (by decide) ?_
      refine pd_iload C dX12_costs_117 rfl ?_
      refine pd_imul C dX12_costs_119 ?_
      refine pd_iconst (v := 2) C dX12_costs_120 (by decide) ?_
      refine pd_iload C dX12_costs_121 rfl ?_
      refine pd_imul C dX12_costs_123 ?_
      refine pd_iadd C dX12_costs_124 ?_
      refine pd_iload C dX12_costs_125 rfl ?_
      refine pd_iadd C dX12_costs_127 ?_
      refine pd_iload C dX12_costs_128 rfl ?_
      obtain ⟨zg3, hF⟩ := pd_gd_some hF
      refine pd_iast C (pd_lt (by decide) hn) sh_110 zg3 dX12_costs_130 ?_
      refine pd_memI (fun zI7 hzI7 => ?_)
      have hF := pd_let_at hF hzI7
      refine pd_iincG (zz := 1) C dX12_costs_131 rfl (by decide) rfl (fun zv4 hzv4 => ?_)
      have hF := pd_let_at hF hzv4
      refine pd_lsE (ls' := [some (.ref 92), some (.int p0), some (.int p1), some (.int p2), some (.int zx1), some (.int zx2), some (.int zx3), some (.int zv4), some (.int zx8), none, none]) rfl ?_
      refine pd_goto (tgt := 36) C dX12_costs_134 (by decide) ?_
      refine pd_wk (ls' := [some (.ref 92), some (.int p0), some (.int p1), some (.int p2), some (.int zx1), some (.int zx2), some (.int zx3), some (.int zv4), none, none, none]) (And.intro rfl (And.intro rfl (And.intro rfl (And.intro rfl (And.intro rfl (And.intro rfl (And.intro rfl (And.intro rfl True.intro)))))))) ?_
      exact ih _ _ hF
def fl_X12_costs_20 {O : Type} (p0 : Int32) (p1 : Int32) (zx1 : Int32) (zx2 : Int32) (kont : pd_I → Option O) : Nat → Int32 → pd_I → Option O
  | 0, _, _ => none
  | fu + 1, zx3, zI3 => pd_gd (pd_in p0 12) (if ((1 : Int32) <<< ((zI3 98 p0.toNatClampNeg) &&& 31)) ≤ zx3 then kont zI3 else (fl_X12_costs_36 p0 p1 zx1 zx2 zx3 (fun zI6 => pd_let (zx3 + 1) fun zv5 => fl_X12_costs_20 p0 p1 zx1 zx2 kont fu zv5 zI6) pd_FU 0 zI3))
set_option maxRecDepth 100000 in
set_option maxHeartbeats 4000000 in
theorem el_X12_costs_20 {cx : pd_X} (C : pd_C cx "PathDecoderModel" cX12_costs rm_X12_costs) {p0 : Int32} {p1 : Int32} {p2 : Int32} {zx1 : Int32} {zx2 : Int32} {J : pd_J} {Z : pd_R} {n : Nat} (hn : 133 ≤ n)  {O : Type} {kont : pd_I → Option O} {out : O} (K : ∀ (zI4 : pd_I), kont zI4 = some out → pd_V cx 0 0 143 [some (.ref 92), some (.int p0), some (.int p1), some (.int p2), some (.int zx1), some (.int zx2), none, none, none, none, none] [] zI4 J (pd_RF Z) n) :
    ∀ (fu : Nat) (zx3 : Int32) (zI3 : pd_I), fl_X12_costs_20 p0 p1 zx1 zx2 kont fu zx3 zI3 = some out → pd_V cx 0 0 20 [some (.ref 92), some (.int p0), some (.int p1), some (.int p2), some (.int zx1), some (.int zx2), some (.int zx3), none, none, none, none] [] zI3 J (pd_RF Z) n := by
  intro fu
  induction fu with
  | zero => intro zx3 zI3 hF; rw [fl_X12_costs_20] at hF; cases hF
  | succ fu ih =>
    intro zx3 zI3 hF
    rw [fl_X12_costs_20] at hF
    refine pd_iload C dX12_costs_20 rfl ?_
    refine pd_iconst (v := 1) C dX12_costs_22 (by decide) ?_
    refine pd_aload_n C dX12_costs_23 rfl rfl ?_
    refine gr_12_7 C wd_5_132 (pd_lt (by decide) hn) sh_92 (rf_92_7 _) dX12_costs_24 ?_
    refine pd_iload_n C dX12_costs_27 rfl rfl ?_
    obtain ⟨zg1, hF⟩ := pd_gd_some hF
    refine pd_iald C (pd_lt (by decide) hn) sh_98 zg1 dX12_costs_28 ?_
    refine pd_ishl C dX12_costs_29 ?_
    refine pd_icmp_ge (tgt := 143) C dX12_costs_30 (by decide) (fun zc4 => ?_) (fun zc4 => ?_)
    · have hF := pd_t zc4 hF
      refine pd_wk (ls' := [some (.ref 92), some (.int p0), some (.int p1), some (.int p2), some (.int zx1), some (.int zx2), none, none, none, none, none]) (And.intro rfl (And.intro rfl (And.intro rfl (And.intro rfl (And.intro rfl (And.intro rfl True.intro)))))) ?_
      exact K _ hF
    · have hF := pd_f zc4 hF
      refine pd_iconst (v := 0) C dX12_costs_33 (by decide) ?_
      refine pd_istore (ls' := [some (.ref 92), some (.int p0), some (.int p1), some (.int p2), some (.int zx1), some (.int zx2), some (.int zx3), some (.int 0), none, none, none]) C dX12_costs_34 (Nat.le_of_ble_eq_true rfl) rfl rfl ?_
      refine el_X12_costs_36 C hn (fun zI6 hF => ?_) pd_FU _ _ hF
      refine pd_iincG (zz := 1) C dX12_costs_137 rfl (by decide) rfl (fun zv5 hzv5 => ?_)
      have hF := pd_let_at hF hzv5
      refine pd_lsE (ls' := [some (.ref 92), some (.int p0), some (.int p1), some (.int p2), some (.int zx1), some (.int zx2), some (.int zv5), none, none, none, none]) rfl ?_
      refine pd_goto (tgt := 20) C dX12_costs_140 (by decide) ?_
      exact ih _ _ hF
def fl_X12_costs_6 {O : Type} (p0 : Int32) (p1 : Int32) (p2 : Int32) (kont : pd_I → Option O) : Nat → Int32 → Int32 → pd_I → Option O
  | 0, _, _, _ => none
  | fu + 1, zx1, zx2, zI1 => pd_bd (fn_X12_steps zI1 p0 p2) fun zr1 => if zr1 ≤ zx2 then kont zI1 else (fl_X12_costs_20 p0 p1 zx1 zx2 (fun zI4 => pd_bd (fn_X12_sends zI4 p0 zx2) fun zr5 => pd_let (zx1 + zr5) fun zv6 => pd_let (zx2 + 1) fun zv7 => fl_X12_costs_6 p0 p1 p2 kont fu zv6 zv7 zI4) pd_FU 0 zI1)
set_option maxRecDepth 100000 in
set_option maxHeartbeats 4000000 in
theorem el_X12_costs_6 {cx : pd_X} (C : pd_C cx "PathDecoderModel" cX12_costs rm_X12_costs) {p0 : Int32} {p1 : Int32} {p2 : Int32} {J : pd_J} {Z : pd_R} {n : Nat} (hn : 133 ≤ n)  {O : Type} {kont : pd_I → Option O} {out : O} (K : ∀ (zI2 : pd_I), kont zI2 = some out → pd_V cx 0 0 161 [none, none, none, none, none, none, none, none, none, none, none] [] zI2 J (pd_RF Z) n) :
    ∀ (fu : Nat) (zx1 : Int32) (zx2 : Int32) (zI1 : pd_I), fl_X12_costs_6 p0 p1 p2 kont fu zx1 zx2 zI1 = some out → pd_V cx 0 0 6 [some (.ref 92), some (.int p0), some (.int p1), some (.int p2), some (.int zx1), some (.int zx2), none, none, none, none, none] [] zI1 J (pd_RF Z) n := by
  intro fu
  induction fu with
  | zero => intro zx1 zx2 zI1 hF; rw [fl_X12_costs_6] at hF; cases hF
  | succ fu ih =>
    intro zx1 zx2 zI1 hF
    rw [fl_X12_costs_6] at hF
    refine pd_iload C dX12_costs_6 rfl ?_
    refine pd_aload_n C dX12_costs_8 rfl rfl ?_
    refine pd_iload_n C dX12_costs_9 rfl rfl ?_
    refine pd_iload_n C dX12_costs_10 rfl rfl ?_
    obtain ⟨zr1, zh1, hF⟩ := pd_bd_some hF
    refine pd_callV C [.int p0, .int p2] [.int zx2] (em_X12_steps (pd_C_st C) hn  zh1) mw_X12_steps wd_6_128 rfl (by decide) (pd_lt (by decide) hn) sh_92 ⟨by decide, by decide, by decide, by decide⟩ rfl (Nat.le_of_ble_eq_true rfl) pd_oldL_same (fun _ _ => pd_old_same _) dX12_costs_11 (stk' := [.int zr1, .int zx2]) rfl ?_
    refine pd_icmp_ge (tgt := 161) C dX12_costs_14 (by decide) (fun zc5 => ?_) (fun zc5 => ?_)
    · have hF := pd_t zc5 hF
      refine pd_wk (ls' := [none, none, none, none, none, none, none, none, none, none, none]) True.intro ?_
      exact K _ hF
    · have hF := pd_f zc5 hF
      refine pd_iconst (v := 0) C dX12_costs_17 (by decide) ?_
      refine pd_istore (ls' := [some (.ref 92), some (.int p0), some (.int p1), some (.int p2), some (.int zx1), some (.int zx2), some (.int 0), none, none, none, none]) C dX12_costs_18 (Nat.le_of_ble_eq_true rfl) rfl rfl ?_
      refine el_X12_costs_20 C hn (fun zI4 hF => ?_) pd_FU _ _ hF
      refine pd_iload C dX12_costs_143 rfl ?_
      refine pd_aload_n C dX12_costs_145 rfl rfl ?_
      refine pd_iload_n C dX12_costs_146 rfl rfl ?_
      refine pd_iload C dX12_costs_147 rfl ?_
      obtain ⟨zr5, zh5, hF⟩ := pd_bd_some hF
      refine pd_callV C [.int p0, .int zx2] [.int zx1] (em_X12_sends (pd_C_st C) hn  zh5) mw_X12_sends wd_6_148 rfl (by decide) (pd_lt (by decide) hn) sh_92 ⟨by decide, by decide, by decide, by decide⟩ rfl (Nat.le_of_ble_eq_true rfl) pd_oldL_same (fun _ _ => pd_old_same _) dX12_costs_149 (stk' := [.int zr5, .int zx1]) rfl ?_
      refine pd_iadd C dX12_costs_152 ?_
      refine pd_topi (fun zv6 hzv6 => ?_)
      have hF := pd_let_at hF hzv6
      refine pd_istore (ls' := [some (.ref 92), some (.int p0), some (.int p1), some (.int p2), some (.int zv6), some (.int zx2), none, none, none, none, none]) C dX12_costs_153 (Nat.le_of_ble_eq_true rfl) rfl rfl ?_
      refine pd_iincG (zz := 1) C dX12_costs_155 rfl (by decide) rfl (fun zv7 hzv7 => ?_)
      have hF := pd_let_at hF hzv7
      refine pd_lsE (ls' := [some (.ref 92), some (.int p0), some (.int p1), some (.int p2), some (.int zv6), some (.int zv7), none, none, none, none, none]) rfl ?_
      refine pd_goto (tgt := 6) C dX12_costs_158 (by decide) ?_
      exact ih _ _ _ hF
def fn_X12_costs (I : pd_I) (p0 : Int32) (p1 : Int32) (p2 : Int32) : Option pd_I := fl_X12_costs_6 p0 p1 p2 (fun zI2 => some zI2) pd_FU 0 0 I
set_option maxRecDepth 100000 in
set_option maxHeartbeats 4000000 in
theorem em_X12_costs {l : Launch} {D : va_G} {tc : Nat → ClassId} (hst : l.stackTraces = false) {I : pd_I} {J : pd_J} {Z : pd_R} {n : Nat} {p0 : Int32} {p1 : Int32} {p2 : Int32} (hn : 133 ≤ n)  {out : pd_I} (hF : fn_X12_costs I p0 p1 p2 = some out) :
    pd_M l D tc yX12_costs (.code yX12_costs cX12_costs 11 (Option.none : Option Jvm.ClassFile.FieldType)) rm_X12_costs [.ref 92, .int p0, .int p1, .int p2] I J (pd_RF Z) n (.ok (none)) out J (pd_RF Z) n := by
  refine pd_open (own := "PathDecoderModel") (ls0 := [some (.ref 92), some (.int p0), some (.int p1), some (.int p2), none, none, none, none, none, none, none]) (by decide) rfl (Nat.le_of_ble_eq_true rfl) rfl rfl hst (fun cx hl hD htc C hE htab hnm => ?_)
  subst hl hD htc
  unfold fn_X12_costs at hF
  refine pd_iconst (v := 0) C dX12_costs_0 (by decide) ?_
  refine pd_istore (ls' := [some (.ref 92), some (.int p0), some (.int p1), some (.int p2), some (.int 0), none, none, none, none, none, none]) C dX12_costs_1 (Nat.le_of_ble_eq_true rfl) rfl rfl ?_
  refine pd_iconst (v := 0) C dX12_costs_3 (by decide) ?_
  refine pd_istore (ls' := [some (.ref 92), some (.int p0), some (.int p1), some (.int p2), some (.int 0), some (.int 0), none, none, none, none, none]) C dX12_costs_4 (Nat.le_of_ble_eq_true rfl) rfl rfl ?_
  refine el_X12_costs_6 C hn (fun zI2 hF => ?_) pd_FU _ _ _ hF
  cases hF
  exact pd_vret C hE rfl ⟨by decide, by decide⟩ dX12_costs_161

def fl_X12_rest_27 {O : Type} (p1 : Int32) (p2 : Int32) (p3 : Int32) (zr1 : Int32) (zr2 : Int32) (kont : Int32 → pd_I → Option O) : Nat → Int32 → Int32 → Int32 → pd_I → Option O
  | 0, _, _, _, _ => none
  | fu + 1, zx1, zx2, zx3, zI1 => if p3 ≤ zx3 then kont zx3 zI1 else (pd_gd (pd_in ((64 * (p1 + 1)) + zr1) 13184) (pd_jn (fun (_ : Unit) => pd_gd (pd_in ((64 * (p1 + 1)) + zr1) 13184) (pd_bd (if (zI1 111 ((64 * (p1 + 1)) + zr1).toNatClampNeg) ≤ zx1 then some 1000000000 else (pd_gd (pd_in ((128 * p1) + (2 * p2)) 26368) (pd_gd (pd_in (((512 * (p1 + 1)) + (8 * zr1)) + zx1) 105472) (some ((zI1 110 ((128 * p1) + (2 * p2)).toNatClampNeg) + (zI1 112 (((512 * (p1 + 1)) + (8 * zr1)) + zx1).toNatClampNeg)))))) fun (zx5 : Int32) => pd_gd (pd_in ((64 * (p1 + 1)) + zr2) 13184) (pd_bd (if (zI1 111 ((64 * (p1 + 1)) + zr2).toNatClampNeg) ≤ zx2 then some 1000000000 else (pd_gd (pd_in (((128 * p1) + (2 * p2)) + 1) 26368) (pd_gd (pd_in (((512 * (p1 + 1)) + (8 * zr2)) + zx2) 105472) (some ((zI1 110 (((128 * p1) + (2 * p2)) + 1).toNatClampNeg) + (zI1 112 (((512 * (p1 + 1)) + (8 * zr2)) + zx2).toNatClampNeg)))))) fun (zx6 : Int32) => pd_let (((512 * p1) + (8 * p2)) + zx3) fun zv1 => pd_bd (if zx6 < zx5 then some zx6 else (some zx5)) fun (zx7 : Int32) => pd_gd (pd_in zv1 105472) (pd_let (pd_ui zI1 112 zv1.toNatClampNeg zx7) fun zI3 => pd_bd (if zx6 < zx5 then some 1 else (some 0)) fun (zx8 : Int32) => pd_gd (pd_in zv1 105472) (pd_let (pd_ui zI3 113 zv1.toNatClampNeg zx8) fun zI4 => pd_bd (if zx6 < zx5 then some zx2 else (some zx1)) fun (zx9 : Int32) => pd_gd (pd_in zv1 105472) (pd_let (pd_ui zI4 114 zv1.toNatClampNeg zx9) fun zI5 => pd_bd2 (if zx6 < zx5 then pd_let (zx2 + 1) fun zv3 => some (zx1, zv3) else (pd_let (zx1 + 1) fun zv4 => some (zv4, zx2))) fun (zx10 : Int32) (zx11 : Int32) => pd_let (zx3 + 1) fun zv2 => fl_X12_rest_27 p1 p2 p3 zr1 zr2 kont fu zx10 zx11 zv2 zI5)))))) fun zj1 => pd_bd (if zx1 < (zI1 111 ((64 * (p1 + 1)) + zr1).toNatClampNeg) then some true else (pd_gd (pd_in ((64 * (p1 + 1)) + zr2) 13184) (if (zI1 111 ((64 * (p1 + 1)) + zr2).toNatClampNeg) ≤ zx2 then some false else (some true)))) fun zc7 => if zc7 = true then zj1 () else (kont zx3 zI1)))
set_option maxRecDepth 100000 in
set_option maxHeartbeats 4000000 in
theorem el_X12_rest_27 {cx : pd_X} (C : pd_C cx "PathDecoderModel" cX12_rest rm_X12_rest) {p1 : Int32} {p2 : Int32} {p3 : Int32} {zr1 : Int32} {zr2 : Int32} {J : pd_J} {Z : pd_R} {n : Nat} (hn : 133 ≤ n)  {O : Type} {kont : Int32 → pd_I → Option O} {out : O} (K : ∀ (zx4 : Int32) (zI2 : pd_I), kont zx4 zI2 = some out → pd_V cx 0 0 296 [some (.ref 92), none, some (.int p1), some (.int p2), none, none, none, none, none, some (.int zx4), none, none, none] [] zI2 J (pd_RF Z) n) :
    ∀ (fu : Nat) (zx1 : Int32) (zx2 : Int32) (zx3 : Int32) (zI1 : pd_I), fl_X12_rest_27 p1 p2 p3 zr1 zr2 kont fu zx1 zx2 zx3 zI1 = some out → pd_V cx 0 0 27 [some (.ref 92), none, some (.int p1), some (.int p2), some (.int p3), some (.int zr1), some (.int zr2), some (.int zx1), some (.int zx2), some (.int zx3), none, none, none] [] zI1 J (pd_RF Z) n := by
  intro fu
  induction fu with
  | zero => intro zx1 zx2 zx3 zI1 hF; rw [fl_X12_rest_27] at hF; cases hF
  | succ fu ih =>
    intro zx1 zx2 zx3 zI1 hF
    rw [fl_X12_rest_27] at hF
    refine pd_iload C dX12_rest_27 rfl ?_
    refine pd_iload C dX12_rest_29 rfl ?_
    refine pd_icmp_ge (tgt := 296) C dX12_rest_31 (by decide) (fun zc10 => ?_) (fun zc10 => ?_)
    · have hF := pd_t zc10 hF
      refine pd_wk (ls' := [some (.ref 92), none, some (.int p1), some (.int p2), none, none, none, none, none, some (.int zx3), none, none, none]) (And.intro rfl (And.intro rfl (And.intro rfl (And.intro rfl True.intro)))) ?_
      exact K _ _ hF
    · have hF := pd_f zc10 hF
      refine pd_iload C dX12_rest_34 rfl ?_
      refine pd_aload_n C dX12_rest_36 rfl rfl ?_
      refine gr_12_23 C wd_5_148 (pd_lt (by decide) hn) sh_92 (rf_92_23 _) dX12_rest_37 ?_
      refine pd_bipush (v := 64) C dX12_rest_40 (by decide) ?_
      refine pd_iload_n C dX12_rest_42 rfl rfl ?_
      refine pd_iconst (v := 1) C dX12_rest_43 (by decide) ?_
      refine pd_iadd C dX12_rest_44 ?_
      refine pd_imul C dX12_rest_45 ?_
      refine pd_iload C dX12_rest_46 rfl ?_
      refine pd_iadd C dX12_rest_48 ?_
      obtain ⟨zg1, hF⟩ := pd_gd_some hF
      refine pd_iald C (pd_lt (by decide) hn) sh_111 zg1 dX12_rest_49 ?_
      refine pd_jn_use hF (fun j => ∀ (_u : Unit), j _u = some out → pd_V cx 0 0 72 [some (.ref 92), none, some (.int p1), some (.int p2), some (.int p3), some (.int zr1), some (.int zr2), some (.int zx1), some (.int zx2), some (.int zx3), none, none, none] [] zI1 J (pd_RF Z) n) (fun _u hF => ?_) (fun zj1 hzj1 hF => ?_)
      · refine pd_iload C dX12_rest_72 rfl ?_
        refine pd_aload_n C dX12_rest_74 rfl rfl ?_
        refine gr_12_23 C wd_5_148 (pd_lt (by decide) hn) sh_92 (rf_92_23 _) dX12_rest_75 ?_
        refine pd_bipush (v := 64) C dX12_rest_78 (by decide) ?_
        refine pd_iload_n C dX12_rest_80 rfl rfl ?_
        refine pd_iconst (v := 1) C dX12_rest_81 (by decide) ?_
        refine pd_iadd C dX12_rest_82 ?_
        refine pd_imul C dX12_rest_83 ?_
        refine pd_iload C dX12_rest_84 rfl ?_
        refine pd_iadd C dX12_rest_86 ?_
        obtain ⟨zg2, hF⟩ := pd_gd_some hF
        refine pd_iald C (pd_lt (by decide) hn) sh_111 zg2 dX12_rest_87 ?_
        obtain ⟨zx5, hS, hF⟩ := pd_bd_some hF
        have hJ132 : pd_V cx 0 0 132 [some (.ref 92), none, some (.int p1), some (.int p2), some (.int p3), some (.int zr1), some (.int zr2), some (.int zx1), some (.int zx2), some (.int zx3), none, none, none] [.int zx5] zI1 J (pd_RF Z) n := by
          refine pd_istore (ls' := [some (.ref 92), none, some (.int p1), some (.int p2), some (.int p3), some (.int zr1), some (.int zr2), some (.int zx1), some (.int zx2), some (.int zx3), some (.int zx5), none, none]) C dX12_rest_132 (Nat.le_of_ble_eq_true rfl) rfl rfl ?_
          refine pd_iload C dX12_rest_134 rfl ?_
          refine pd_aload_n C dX12_rest_136 rfl rfl ?_
          refine gr_12_23 C wd_5_148 (pd_lt (by decide) hn) sh_92 (rf_92_23 _) dX12_rest_137 ?_
          refine pd_bipush (v := 64) C dX12_rest_140 (by decide) ?_
          refine pd_iload_n C dX12_rest_142 rfl rfl ?_
          refine pd_iconst (v := 1) C dX12_rest_143 (by decide) ?_
          refine pd_iadd C dX12_rest_144 ?_
          refine pd_imul C dX12_rest_145 ?_
          refine pd_iload C dX12_rest_146 rfl ?_
          refine pd_iadd C dX12_rest_148 ?_
          obtain ⟨zg3, hF⟩ := pd_gd_some hF
          refine pd_iald C (pd_lt (by decide) hn) sh_111 zg3 dX12_rest_149 ?_
          obtain ⟨zx6, hS, hF⟩ := pd_bd_some hF
          have hJ196 : pd_V cx 0 0 196 [some (.ref 92), none, some (.int p1), some (.int p2), some (.int p3), some (.int zr1), some (.int zr2), some (.int zx1), some (.int zx2), some (.int zx3), some (.int zx5), none, none] [.int zx6] zI1 J (pd_RF Z) n := by
            refine pd_istore (ls' := [some (.ref 92), none, some (.int p1), some (.int p2), some (.int p3), some (.int zr1), some (.int zr2), some (.int zx1), some (.int zx2), some (.int zx3), some (.int zx5), some (.int zx6), none]) C dX12_rest_196 (Nat.le_of_ble_eq_true rfl) rfl rfl ?_
            refine pd_sipush (v := 512) C dX12_rest_198 (by decide) ?_
            refine pd_iload_n C dX12_rest_201 rfl rfl ?_
            refine pd_imul C dX12_rest_202 ?_
            refine pd_bipush (v := 8) C dX12_rest_203 (by decide) ?_
            refine pd_iload_n C dX12_rest_205 rfl rfl ?_
            refine pd_imul C dX12_rest_206 ?_
            refine pd_iadd C dX12_rest_207 ?_
            refine pd_iload C dX12_rest_208 rfl ?_
            refine pd_iadd C dX12_rest_210 ?_
            refine pd_topi (fun zv1 hzv1 => ?_)
            have hF := pd_let_at hF hzv1
            refine pd_istore (ls' := [some (.ref 92), none, some (.int p1), some (.int p2), some (.int p3), some (.int zr1), some (.int zr2), some (.int zx1), some (.int zx2), some (.int zx3), some (.int zx5), some (.int zx6), some (.int zv1)]) C dX12_rest_211 (Nat.le_of_ble_eq_true rfl) rfl rfl ?_
            refine pd_aload_n C dX12_rest_213 rfl rfl ?_
            refine gr_12_24 C wd_5_149 (pd_lt (by decide) hn) sh_92 (rf_92_24 _) dX12_rest_214 ?_
            refine pd_iload C dX12_rest_217 rfl ?_
            refine pd_iload C dX12_rest_219 rfl ?_
            refine pd_iload C dX12_rest_221 rfl ?_
            obtain ⟨zx7, hS, hF⟩ := pd_bd_some hF
            have hJ233 : pd_V cx 0 0 233 [some (.ref 92), none, some (.int p1), some (.int p2), some (.int p3), some (.int zr1), some (.int zr2), some (.int zx1), some (.int zx2), some (.int zx3), some (.int zx5), some (.int zx6), some (.int zv1)] [.int zx7, .int zv1, .ref 112] zI1 J (pd_RF Z) n := by
              obtain ⟨zg4, hF⟩ := pd_gd_some hF
              refine pd_iast C (pd_lt (by decide) hn) sh_112 zg4 dX12_rest_233 ?_
              refine pd_memI (fun zI3 hzI3 => ?_)
              have hF := pd_let_at hF hzI3
              refine pd_aload_n C dX12_rest_234 rfl rfl ?_
              refine gr_12_25 C wd_5_150 (pd_lt (by decide) hn) sh_92 (rf_92_25 _) dX12_rest_235 ?_
              refine pd_iload C dX12_rest_238 rfl ?_
              refine pd_iload C dX12_rest_240 rfl ?_
              refine pd_iload C dX12_rest_242 rfl ?_
              obtain ⟨zx8, hS, hF⟩ := pd_bd_some hF
              have hJ252 : pd_V cx 0 0 252 [some (.ref 92), none, some (.int p1), some (.int p2), some (.int p3), some (.int zr1), some (.int zr2), some (.int zx1), some (.int zx2), some (.int zx3), some (.int zx5), some (.int zx6), some (.int zv1)] [.int zx8, .int zv1, .ref 113] zI3 J (pd_RF Z) n := by
                obtain ⟨zg5, hF⟩ := pd_gd_some hF
                refine pd_iast C (pd_lt (by decide) hn) sh_113 zg5 dX12_rest_252 ?_
                refine pd_memI (fun zI4 hzI4 => ?_)
                have hF := pd_let_at hF hzI4
                refine pd_aload_n C dX12_rest_253 rfl rfl ?_
                refine gr_12_26 C wd_5_151 (pd_lt (by decide) hn) sh_92 (rf_92_26 _) dX12_rest_254 ?_
                refine pd_iload C dX12_rest_257 rfl ?_
                refine pd_iload C dX12_rest_259 rfl ?_
                refine pd_iload C dX12_rest_261 rfl ?_
                obtain ⟨zx9, hS, hF⟩ := pd_bd_some hF
                have hJ273 : pd_V cx 0 0 273 [some (.ref 92), none, some (.int p1), some (.int p2), some (.int p3), some (.int zr1), some (.int zr2), some (.int zx1), some (.int zx2), some (.int zx3), some (.int zx5), some (.int zx6), none] [.int zx9, .int zv1, .ref 114] zI4 J (pd_RF Z) n := by
                  obtain ⟨zg6, hF⟩ := pd_gd_some hF
                  refine pd_iast C (pd_lt (by decide) hn) sh_114 zg6 dX12_rest_273 ?_
                  refine pd_memI (fun zI5 hzI5 => ?_)
                  have hF := pd_let_at hF hzI5
                  refine pd_iload C dX12_rest_274 rfl ?_
                  refine pd_iload C dX12_rest_276 rfl ?_
                  obtain ⟨zx10, zx11, hS, hF⟩ := pd_bd2_some hF
                  have hJ290 : pd_V cx 0 0 290 [some (.ref 92), none, some (.int p1), some (.int p2), some (.int p3), some (.int zr1), some (.int zr2), some (.int zx10), some (.int zx11), some (.int zx3), none, none, none] [] zI5 J (pd_RF Z) n := by
                    refine pd_iincG (zz := 1) C dX12_rest_290 rfl (by decide) rfl (fun zv2 hzv2 => ?_)
                    have hF := pd_let_at hF hzv2
                    refine pd_lsE (ls' := [some (.ref 92), none, some (.int p1), some (.int p2), some (.int p3), some (.int zr1), some (.int zr2), some (.int zx10), some (.int zx11), some (.int zv2), none, none, none]) rfl ?_
                    refine pd_goto (tgt := 27) C dX12_rest_293 (by decide) ?_
                    exact ih _ _ _ _ hF
                  replace hF := hS
                  clear hS
                  refine pd_icmp_gt (tgt := 287) C dX12_rest_278 (by decide) (fun zc1 => ?_) (fun zc1 => ?_)
                  · have hF := pd_t zc1 hF
                    refine pd_iincG (zz := 1) C dX12_rest_287 rfl (by decide) rfl (fun zv3 hzv3 => ?_)
                    have hF := pd_let_at hF hzv3
                    refine pd_lsE (ls' := [some (.ref 92), none, some (.int p1), some (.int p2), some (.int p3), some (.int zr1), some (.int zr2), some (.int zx1), some (.int zv3), some (.int zx3), some (.int zx5), some (.int zx6), none]) rfl ?_
                    refine pd_wk (ls' := [some (.ref 92), none, some (.int p1), some (.int p2), some (.int p3), some (.int zr1), some (.int zr2), some (.int zx1), some (.int zv3), some (.int zx3), none, none, none]) (And.intro rfl (And.intro rfl (And.intro rfl (And.intro rfl (And.intro rfl (And.intro rfl (And.intro rfl (And.intro rfl (And.intro rfl True.intro))))))))) ?_
                    have hF := hF.symm
                    cases hF
                    exact hJ290
                  · have hF := pd_f zc1 hF
                    refine pd_iincG (zz := 1) C dX12_rest_281 rfl (by decide) rfl (fun zv4 hzv4 => ?_)
                    have hF := pd_let_at hF hzv4
                    refine pd_lsE (ls' := [some (.ref 92), none, some (.int p1), some (.int p2), some (.int p3), some (.int zr1), some (.int zr2), some (.int zv4), some (.int zx2), some (.int zx3), some (.int zx5), some (.int zx6), none]) rfl ?_
                    refine pd_goto (tgt := 290) C dX12_rest_284 (by decide) ?_
                    refine pd_wk (ls' := [some (.ref 92), none, some (.int p1), some (.int p2), some (.int p3), some (.int zr1), some (.int zr2), some (.int zv4), some (.int zx2), some (.int zx3), none, none, none]) (And.intro rfl (And.intro rfl (And.intro rfl (And.intro rfl (And.intro rfl (And.intro rfl (And.intro rfl (And.intro rfl (And.intro rfl True.intro))))))))) ?_
                    have hF := hF.symm
                    cases hF
                    exact hJ290
                replace hF := hS
                clear hS
                refine pd_icmp_gt (tgt := 271) C dX12_rest_263 (by decide) (fun zc2 => ?_) (fun zc2 => ?_)
                · have hF := pd_t zc2 hF
                  refine pd_iload C dX12_rest_271 rfl ?_
                  refine pd_wk (ls' := [some (.ref 92), none, some (.int p1), some (.int p2), some (.int p3), some (.int zr1), some (.int zr2), some (.int zx1), some (.int zx2), some (.int zx3), some (.int zx5), some (.int zx6), none]) (And.intro rfl (And.intro rfl (And.intro rfl (And.intro rfl (And.intro rfl (And.intro rfl (And.intro rfl (And.intro rfl (And.intro rfl (And.intro rfl (And.intro rfl True.intro))))))))))) ?_
                  have hF := hF.symm
                  cases hF
                  exact hJ273
                · have hF := pd_f zc2 hF
                  refine pd_iload C dX12_rest_266 rfl ?_
                  refine pd_goto (tgt := 273) C dX12_rest_268 (by decide) ?_
                  refine pd_wk (ls' := [some (.ref 92), none, some (.int p1), some (.int p2), some (.int p3), some (.int zr1), some (.int zr2), some (.int zx1), some (.int zx2), some (.int zx3), some (.int zx5), some (.int zx6), none]) (And.intro rfl (And.intro rfl (And.intro rfl (And.intro rfl (And.intro rfl (And.intro rfl (And.intro rfl (And.intro rfl (And.intro rfl (And.intro rfl (And.intro rfl True.intro))))))))))) ?_
                  have hF := hF.symm
                  cases hF
                  exact hJ273
              replace hF := hS
              clear hS
              refine pd_icmp_gt (tgt := 251) C dX12_rest_244 (by decide) (fun zc3 => ?_) (fun zc3 => ?_)
              · have hF := pd_t zc3 hF
                refine pd_iconst (v := 1) C dX12_rest_251 (by decide) ?_
                have hF := hF.symm
                cases hF
                exact hJ252
              · have hF := pd_f zc3 hF
                refine pd_iconst (v := 0) C dX12_rest_247 (by decide) ?_
                refine pd_goto (tgt := 252) C dX12_rest_248 (by decide) ?_
                have hF := hF.symm
                cases hF
                exact hJ252
            replace hF := hS
            clear hS
            refine pd_icmp_gt (tgt := 231) C dX12_rest_223 (by decide) (fun zc4 => ?_) (fun zc4 => ?_)
            · have hF := pd_t zc4 hF
              refine pd_iload C dX12_rest_231 rfl ?_
              have hF := hF.symm
              cases hF
              exact hJ233
            · have hF := pd_f zc4 hF
              refine pd_iload C dX12_rest_226 rfl ?_
              refine pd_goto (tgt := 233) C dX12_rest_228 (by decide) ?_
              have hF := hF.symm
              cases hF
              exact hJ233
          replace hF := hS
          clear hS
          refine pd_icmp_ge (tgt := 194) C dX12_rest_150 (by decide) (fun zc5 => ?_) (fun zc5 => ?_)
          · have hF := pd_t zc5 hF
            refine pd_ldc C wd_6_184 dX12_rest_194 ?_
            have hF := hF.symm
            cases hF
            exact hJ196
          · have hF := pd_f zc5 hF
            refine pd_aload_n C dX12_rest_153 rfl rfl ?_
            refine gr_12_22 C wd_5_147 (pd_lt (by decide) hn) sh_92 (rf_92_22 _) dX12_rest_154 ?_
            refine pd_sipush (v := 128) C dX12_rest_157 (by decide) ?_
            refine pd_iload_n C dX12_rest_160 rfl rfl ?_
            refine pd_imul C dX12_rest_161 ?_
            refine pd_iconst (v := 2) C dX12_rest_162 (by decide) ?_
            refine pd_iload_n C dX12_rest_163 rfl rfl ?_
            refine pd_imul C dX12_rest_164 ?_
            refine pd_iadd C dX12_rest_165 ?_
            refine pd_iconst (v := 1) C dX12_rest_166 (by decide) ?_
            refine pd_iadd C dX12_rest_167 ?_
            obtain ⟨zg7, hF⟩ := pd_gd_some hF
            refine pd_iald C (pd_lt (by decide) hn) sh_110 zg7 dX12_rest_168 ?_
            refine pd_aload_n C dX12_rest_169 rfl rfl ?_
            refine gr_12_24 C wd_5_149 (pd_lt (by decide) hn) sh_92 (rf_92_24 _) dX12_rest_170 ?_
            refine pd_sipush (v := 512) C dX12_rest_173 (by decide) ?_
            refine pd_iload_n C dX12_rest_176 rfl rfl ?_
            refine pd_iconst (v := 1) C dX12_rest_177 (by decide) ?_
            refine pd_iadd C dX12_rest_178 ?_
            refine pd_imul C dX12_rest_179 ?_
            refine pd_bipush (v := 8) C dX12_rest_180 (by decide) ?_
            refine pd_iload C dX12_rest_182 rfl ?_
            refine pd_imul C dX12_rest_184 ?_
            refine pd_iadd C dX12_rest_185 ?_
            refine pd_iload C dX12_rest_186 rfl ?_
            refine pd_iadd C dX12_rest_188 ?_
            obtain ⟨zg8, hF⟩ := pd_gd_some hF
            refine pd_iald C (pd_lt (by decide) hn) sh_112 zg8 dX12_rest_189 ?_
            refine pd_iadd C dX12_rest_190 ?_
            refine pd_goto (tgt := 196) C dX12_rest_191 (by decide) ?_
            have hF := hF.symm
            cases hF
            exact hJ196
        replace hF := hS
        clear hS
        refine pd_icmp_ge (tgt := 130) C dX12_rest_88 (by decide) (fun zc6 => ?_) (fun zc6 => ?_)
        · have hF := pd_t zc6 hF
          refine pd_ldc C wd_6_184 dX12_rest_130 ?_
          have hF := hF.symm
          cases hF
          exact hJ132
        · have hF := pd_f zc6 hF
          refine pd_aload_n C dX12_rest_91 rfl rfl ?_
          refine gr_12_22 C wd_5_147 (pd_lt (by decide) hn) sh_92 (rf_92_22 _) dX12_rest_92 ?_
          refine pd_sipush (v := 128) C dX12_rest_95 (by decide) ?_
          refine pd_iload_n C dX12_rest_98 rfl rfl ?_
          refine pd_imul C dX12_rest_99 ?_
          refine pd_iconst (v := 2) C dX12_rest_100 (by decide) ?_
          refine pd_iload_n C dX12_rest_101 rfl rfl ?_
          refine pd_imul C dX12_rest_102 ?_
          refine pd_iadd C dX12_rest_103 ?_
          obtain ⟨zg9, hF⟩ := pd_gd_some hF
          refine pd_iald C (pd_lt (by decide) hn) sh_110 zg9 dX12_rest_104 ?_
          refine pd_aload_n C dX12_rest_105 rfl rfl ?_
          refine gr_12_24 C wd_5_149 (pd_lt (by decide) hn) sh_92 (rf_92_24 _) dX12_rest_106 ?_
          refine pd_sipush (v := 512) C dX12_rest_109 (by decide) ?_
          refine pd_iload_n C dX12_rest_112 rfl rfl ?_
          refine pd_iconst (v := 1) C dX12_rest_113 (by decide) ?_
          refine pd_iadd C dX12_rest_114 ?_
          refine pd_imul C dX12_rest_115 ?_
          refine pd_bipush (v := 8) C dX12_rest_116 (by decide) ?_
          refine pd_iload C dX12_rest_118 rfl ?_
          refine pd_imul C dX12_rest_120 ?_
          refine pd_iadd C dX12_rest_121 ?_
          refine pd_iload C dX12_rest_122 rfl ?_
          refine pd_iadd C dX12_rest_124 ?_
          obtain ⟨zg10, hF⟩ := pd_gd_some hF
          refine pd_iald C (pd_lt (by decide) hn) sh_112 zg10 dX12_rest_125 ?_
          refine pd_iadd C dX12_rest_126 ?_
          refine pd_goto (tgt := 132) C dX12_rest_127 (by decide) ?_
          have hF := hF.symm
          cases hF
          exact hJ132
      · obtain ⟨zc7, hS, hF⟩ := pd_bd_some hF
        have hTzc7 : zc7 = true → pd_V cx 0 0 72 [some (.ref 92), none, some (.int p1), some (.int p2), some (.int p3), some (.int zr1), some (.int zr2), some (.int zx1), some (.int zx2), some (.int zx3), none, none, none] [] zI1 J (pd_RF Z) n := by
          intro hc
          have hF := pd_t hc hF
          exact hzj1 _ hF
        have hEzc7 : zc7 = false → pd_V cx 0 0 296 [some (.ref 92), none, some (.int p1), some (.int p2), some (.int p3), some (.int zr1), some (.int zr2), some (.int zx1), some (.int zx2), some (.int zx3), none, none, none] [] zI1 J (pd_RF Z) n := by
          intro hc
          have hF := pd_bf hc hF
          refine pd_wk (ls' := [some (.ref 92), none, some (.int p1), some (.int p2), none, none, none, none, none, some (.int zx3), none, none, none]) (And.intro rfl (And.intro rfl (And.intro rfl (And.intro rfl True.intro)))) ?_
          exact K _ _ hF
        replace hF := hS
        clear hS
        refine pd_icmp_lt (tgt := 72) C dX12_rest_50 (by decide) (fun zc9 => ?_) (fun zc9 => ?_)
        · have hF := pd_t zc9 hF
          cases hF
          exact hTzc7 rfl
        · have hF := pd_f zc9 hF
          refine pd_iload C dX12_rest_53 rfl ?_
          refine pd_aload_n C dX12_rest_55 rfl rfl ?_
          refine gr_12_23 C wd_5_148 (pd_lt (by decide) hn) sh_92 (rf_92_23 _) dX12_rest_56 ?_
          refine pd_bipush (v := 64) C dX12_rest_59 (by decide) ?_
          refine pd_iload_n C dX12_rest_61 rfl rfl ?_
          refine pd_iconst (v := 1) C dX12_rest_62 (by decide) ?_
          refine pd_iadd C dX12_rest_63 ?_
          refine pd_imul C dX12_rest_64 ?_
          refine pd_iload C dX12_rest_65 rfl ?_
          refine pd_iadd C dX12_rest_67 ?_
          obtain ⟨zg11, hF⟩ := pd_gd_some hF
          refine pd_iald C (pd_lt (by decide) hn) sh_111 zg11 dX12_rest_68 ?_
          refine pd_icmp_ge (tgt := 296) C dX12_rest_69 (by decide) (fun zc8 => ?_) (fun zc8 => ?_)
          · have hF := pd_t zc8 hF
            cases hF
            exact hEzc7 rfl
          · have hF := pd_f zc8 hF
            cases hF
            exact hTzc7 rfl
def fn_X12_rest (I : pd_I) (p0 : Int32) (p1 : Int32) (p2 : Int32) (p3 : Int32) : Option pd_I := pd_bd (fn_X12_next I p0 p2 0) fun zr1 => pd_bd (fn_X12_next I p0 p2 1) fun zr2 => fl_X12_rest_27 p1 p2 p3 zr1 zr2 (fun zx4 zI2 => pd_gd (pd_in ((64 * p1) + p2) 13184) (pd_let (pd_ui zI2 111 ((64 * p1) + p2).toNatClampNeg zx4) fun zI6 => some zI6)) pd_FU 0 0 0 I
set_option maxRecDepth 100000 in
set_option maxHeartbeats 4000000 in
theorem em_X12_rest {l : Launch} {D : va_G} {tc : Nat → ClassId} (hst : l.stackTraces = false) {I : pd_I} {J : pd_J} {Z : pd_R} {n : Nat} {p0 : Int32} {p1 : Int32} {p2 : Int32} {p3 : Int32} (hn : 133 ≤ n)  {out : pd_I} (hF : fn_X12_rest I p0 p1 p2 p3 = some out) :
    pd_M l D tc yX12_rest (.code yX12_rest cX12_rest 13 (Option.none : Option Jvm.ClassFile.FieldType)) rm_X12_rest [.ref 92, .int p0, .int p1, .int p2, .int p3] I J (pd_RF Z) n (.ok (none)) out J (pd_RF Z) n := by
  refine pd_open (own := "PathDecoderModel") (ls0 := [some (.ref 92), some (.int p0), some (.int p1), some (.int p2), some (.int p3), none, none, none, none, none, none, none, none]) (by decide) rfl (Nat.le_of_ble_eq_true rfl) rfl rfl hst (fun cx hl hD htc C hE htab hnm => ?_)
  subst hl hD htc
  unfold fn_X12_rest at hF
  refine pd_aload_n C dX12_rest_0 rfl rfl ?_
  refine pd_iload_n C dX12_rest_1 rfl rfl ?_
  refine pd_iload_n C dX12_rest_2 rfl rfl ?_
  refine pd_iconst (v := 0) C dX12_rest_3 (by decide) ?_
  obtain ⟨zr1, zh1, hF⟩ := pd_bd_some hF
  refine pd_callV C [.int p0, .int p2, .int 0] [] (em_X12_next (pd_C_st C) hn  zh1) mw_X12_next wd_6_109 rfl (by decide) (pd_lt (by decide) hn) sh_92 ⟨by decide, by decide, by decide, by decide⟩ rfl (Nat.le_of_ble_eq_true rfl) pd_oldL_same (fun _ _ => pd_old_same _) dX12_rest_4 (stk' := [.int zr1]) rfl ?_
  refine pd_istore (ls' := [some (.ref 92), some (.int p0), some (.int p1), some (.int p2), some (.int p3), some (.int zr1), none, none, none, none, none, none, none]) C dX12_rest_7 (Nat.le_of_ble_eq_true rfl) rfl rfl ?_
  refine pd_aload_n C dX12_rest_9 rfl rfl ?_
  refine pd_iload_n C dX12_rest_10 rfl rfl ?_
  refine pd_iload_n C dX12_rest_11 rfl rfl ?_
  refine pd_iconst (v := 1) C dX12_rest_12 (by decide) ?_
  obtain ⟨zr2, zh2, hF⟩ := pd_bd_some hF
  refine pd_callV C [.int p0, .int p2, .int 1] [] (em_X12_next (pd_C_st C) hn  zh2) mw_X12_next wd_6_109 rfl (by decide) (pd_lt (by decide) hn) sh_92 ⟨by decide, by decide, by decide, by decide⟩ rfl (Nat.le_of_ble_eq_true rfl) pd_oldL_same (fun _ _ => pd_old_same _) dX12_rest_13 (stk' := [.int zr2]) rfl ?_
  refine pd_istore (ls' := [some (.ref 92), some (.int p0), some (.int p1), some (.int p2), some (.int p3), some (.int zr1), some (.int zr2), none, none, none, none, none, none]) C dX12_rest_16 (Nat.le_of_ble_eq_true rfl) rfl rfl ?_
  refine pd_iconst (v := 0) C dX12_rest_18 (by decide) ?_
  refine pd_istore (ls' := [some (.ref 92), some (.int p0), some (.int p1), some (.int p2), some (.int p3), some (.int zr1), some (.int zr2), some (.int 0), none, none, none, none, none]) C dX12_rest_19 (Nat.le_of_ble_eq_true rfl) rfl rfl ?_
  refine pd_iconst (v := 0) C dX12_rest_21 (by decide) ?_
  refine pd_istore (ls' := [some (.ref 92), some (.int p0), some (.int p1), some (.int p2), some (.int p3), some (.int zr1), some (.int zr2), some (.int 0), some (.int 0), none, none, none, none]) C dX12_rest_22 (Nat.le_of_ble_eq_true rfl) rfl rfl ?_
  refine pd_iconst (v := 0) C dX12_rest_24 (by decide) ?_
  refine pd_istore (ls' := [some (.ref 92), some (.int p0), some (.int p1), some (.int p2), some (.int p3), some (.int zr1), some (.int zr2), some (.int 0), some (.int 0), some (.int 0), none, none, none]) C dX12_rest_25 (Nat.le_of_ble_eq_true rfl) rfl rfl ?_
  refine pd_wk (ls' := [some (.ref 92), none, some (.int p1), some (.int p2), some (.int p3), some (.int zr1), some (.int zr2), some (.int 0), some (.int 0), some (.int 0), none, none, none]) (And.intro rfl (And.intro rfl (And.intro rfl (And.intro rfl (And.intro rfl (And.intro rfl (And.intro rfl (And.intro rfl (And.intro rfl True.intro))))))))) ?_
  refine el_X12_rest_27 C hn (fun zx4 zI2 hF => ?_) pd_FU _ _ _ _ hF
  refine pd_aload_n C dX12_rest_296 rfl rfl ?_
  refine gr_12_23 C wd_5_148 (pd_lt (by decide) hn) sh_92 (rf_92_23 _) dX12_rest_297 ?_
  refine pd_bipush (v := 64) C dX12_rest_300 (by decide) ?_
  refine pd_iload_n C dX12_rest_302 rfl rfl ?_
  refine pd_imul C dX12_rest_303 ?_
  refine pd_iload_n C dX12_rest_304 rfl rfl ?_
  refine pd_iadd C dX12_rest_305 ?_
  refine pd_iload C dX12_rest_306 rfl ?_
  obtain ⟨zg12, hF⟩ := pd_gd_some hF
  refine pd_iast C (pd_lt (by decide) hn) sh_111 zg12 dX12_rest_308 ?_
  refine pd_memI (fun zI6 hzI6 => ?_)
  have hF := pd_let_at hF hzI6
  cases hF
  exact pd_vret C hE rfl ⟨by decide, by decide⟩ dX12_rest_309

def fl_X12_rests_76 {O : Type} (p0 : Int32) (p1 : Int32) (zI3 : pd_I) (kont : Int32 → Option O) : Nat → Int32 → Int32 → Int32 → Option O
  | 0, _, _, _ => none
  | fu + 1, zx4, zx5, zx6 => pd_bd (fn_X12_steps zI3 p0 p1) fun zr1 => if zr1 ≤ zx6 then kont zx4 else (pd_bd (fn_X12_fed zI3 p0 zx5) fun zr2 => pd_gd (pd_in (((128 * zx6) + (2 * zx5)) + zr2) 26368) (pd_let (zx4 + (zI3 110 (((128 * zx6) + (2 * zx5)) + zr2).toNatClampNeg)) fun zv2 => pd_bd (fn_X12_next zI3 p0 zx5 zr2) fun zr3 => pd_let (zx6 + 1) fun zv3 => fl_X12_rests_76 p0 p1 zI3 kont fu zv2 zr3 zv3))
set_option maxRecDepth 100000 in
set_option maxHeartbeats 4000000 in
theorem el_X12_rests_76 {cx : pd_X} (C : pd_C cx "PathDecoderModel" cX12_rests rm_X12_rests) {p0 : Int32} {p1 : Int32} {p2 : Int32} {p3 : Int32} {zv1 : Int32} {zx1 : Int32} {zI3 : pd_I} {J : pd_J} {Z : pd_R} {n : Nat} (hn : 133 ≤ n)  {O : Type} {kont : Int32 → Option O} {out : O} (K : ∀ (zx7 : Int32), kont zx7 = some out → pd_V cx 0 0 137 [some (.ref 92), some (.int p0), some (.int p1), some (.int p2), some (.int p3), some (.int zv1), some (.int zx1), none, some (.int zx7), none, none, none] [] zI3 J (pd_RF Z) n) :
    ∀ (fu : Nat) (zx4 : Int32) (zx5 : Int32) (zx6 : Int32), fl_X12_rests_76 p0 p1 zI3 kont fu zx4 zx5 zx6 = some out → pd_V cx 0 0 76 [some (.ref 92), some (.int p0), some (.int p1), some (.int p2), some (.int p3), some (.int zv1), some (.int zx1), none, some (.int zx4), some (.int zx5), some (.int zx6), none] [] zI3 J (pd_RF Z) n := by
  intro fu
  induction fu with
  | zero => intro zx4 zx5 zx6 hF; rw [fl_X12_rests_76] at hF; cases hF
  | succ fu ih =>
    intro zx4 zx5 zx6 hF
    rw [fl_X12_rests_76] at hF
    refine pd_iload C dX12_rests_76 rfl ?_
    refine pd_aload_n C dX12_rests_78 rfl rfl ?_
    refine pd_iload_n C dX12_rests_79 rfl rfl ?_
    refine pd_iload_n C dX12_rests_80 rfl rfl ?_
    obtain ⟨zr1, zh1, hF⟩ := pd_bd_some hF
    refine pd_callV C [.int p0, .int p1] [.int zx6] (em_X12_steps (pd_C_st C) hn  zh1) mw_X12_steps wd_6_128 rfl (by decide) (pd_lt (by decide) hn) sh_92 ⟨by decide, by decide, by decide, by decide⟩ rfl (Nat.le_of_ble_eq_true rfl) pd_oldL_same (fun _ _ => pd_old_same _) dX12_rests_81 (stk' := [.int zr1, .int zx6]) rfl ?_
    refine pd_icmp_ge (tgt := 137) C dX12_rests_84 (by decide) (fun zc1 => ?_) (fun zc1 => ?_)
    · have hF := pd_t zc1 hF
      refine pd_wk (ls' := [some (.ref 92), some (.int p0), some (.int p1), some (.int p2), some (.int p3), some (.int zv1), some (.int zx1), none, some (.int zx4), none, none, none]) (And.intro rfl (And.intro rfl (And.intro rfl (And.intro rfl (And.intro rfl (And.intro rfl (And.intro rfl (And.intro rfl True.intro)))))))) ?_
      exact K _ hF
    · have hF := pd_f zc1 hF
      refine pd_aload_n C dX12_rests_87 rfl rfl ?_
      refine pd_iload_n C dX12_rests_88 rfl rfl ?_
      refine pd_iload C dX12_rests_89 rfl ?_
      obtain ⟨zr2, zh2, hF⟩ := pd_bd_some hF
      refine pd_callV C [.int p0, .int zx5] [] (em_X12_fed (pd_C_st C) hn  zh2) mw_X12_fed wd_6_113 rfl (by decide) (pd_lt (by decide) hn) sh_92 ⟨by decide, by decide, by decide, by decide⟩ rfl (Nat.le_of_ble_eq_true rfl) pd_oldL_same (fun _ _ => pd_old_same _) dX12_rests_91 (stk' := [.int zr2]) rfl ?_
      refine pd_istore (ls' := [some (.ref 92), some (.int p0), some (.int p1), some (.int p2), some (.int p3), some (.int zv1), some (.int zx1), none, some (.int zx4), some (.int zx5), some (.int zx6), some (.int zr2)]) C dX12_rests_94 (Nat.le_of_ble_eq_true rfl) rfl rfl ?_
      refine pd_iload C dX12_rests_96 rfl ?_
      refine pd_aload_n C dX12_rests_98 rfl rfl ?_
      refine gr_12_22 C wd_5_147 (pd_lt (by decide) hn) sh_92 (rf_92_22 _) dX12_rests_99 ?_
      refine pd_sipush (v := 128) C dX12_rests_102 (by decide) ?_
      refine pd_iload C dX12_rests_105 rfl ?_
      refine pd_imul C dX12_rests_107 ?_
      refine pd_iconst (v := 2) C dX12_rests_108 (by decide) ?_
      refine pd_iload C dX12_rests_109 rfl ?_
      refine pd_imul C dX12_rests_111 ?_
      refine pd_iadd C dX12_rests_112 ?_
      refine pd_iload C dX12_rests_113 rfl ?_
      refine pd_iadd C dX12_rests_115 ?_
      obtain ⟨zg4, hF⟩ := pd_gd_some hF
      refine pd_iald C (pd_lt (by decide) hn) sh_110 zg4 dX12_rests_116 ?_
      refine pd_iadd C dX12_rests_117 ?_
      refine pd_topi (fun zv2 hzv2 => ?_)
      have hF := pd_let_at hF hzv2
      refine pd_istore (ls' := [some (.ref 92), some (.int p0), some (.int p1), some (.int p2), some (.int p3), some (.int zv1), some (.int zx1), none, some (.int zv2), some (.int zx5), some (.int zx6), some (.int zr2)]) C dX12_rests_118 (Nat.le_of_ble_eq_true rfl) rfl rfl ?_
      refine pd_aload_n C dX12_rests_120 rfl rfl ?_
      refine pd_iload_n C dX12_rests_121 rfl rfl ?_
      refine pd_iload C dX12_rests_122 rfl ?_
      refine pd_iload C dX12_rests_124 rfl ?_
      obtain ⟨zr3, zh3, hF⟩ := pd_bd_some hF
      refine pd_callV C [.int p0, .int zx5, .int zr2] [] (em_X12_next (pd_C_st C) hn  zh3) mw_X12_next wd_6_109 rfl (by decide) (pd_lt (by decide) hn) sh_92 ⟨by decide, by decide, by decide, by decide⟩ rfl (Nat.le_of_ble_eq_true rfl) pd_oldL_same (fun _ _ => pd_old_same _) dX12_rests_126 (stk' := [.int zr3]) rfl ?_
      refine pd_istore (ls' := [some (.ref 92), some (.int p0), some (.int p1), some (.int p2), some (.int p3), some (.int zv1), some (.int zx1), none, some (.int zv2), some (.int zr3), some (.int zx6), some (.int zr2)]) C dX12_rests_129 (Nat.le_of_ble_eq_true rfl) rfl rfl ?_
      refine pd_iincG (zz := 1) C dX12_rests_131 rfl (by decide) rfl (fun zv3 hzv3 => ?_)
      have hF := pd_let_at hF hzv3
      refine pd_lsE (ls' := [some (.ref 92), some (.int p0), some (.int p1), some (.int p2), some (.int p3), some (.int zv1), some (.int zx1), none, some (.int zv2), some (.int zr3), some (.int zv3), some (.int zr2)]) rfl ?_
      refine pd_goto (tgt := 76) C dX12_rests_134 (by decide) ?_
      refine pd_wk (ls' := [some (.ref 92), some (.int p0), some (.int p1), some (.int p2), some (.int p3), some (.int zv1), some (.int zx1), none, some (.int zv2), some (.int zr3), some (.int zv3), none]) (And.intro rfl (And.intro rfl (And.intro rfl (And.intro rfl (And.intro rfl (And.intro rfl (And.intro rfl (And.intro rfl (And.intro rfl (And.intro rfl True.intro)))))))))) ?_
      exact ih _ _ _ hF
def fl_X12_rests_13 {O : Type} (p0 : Int32) (p1 : Int32) (p3 : Int32) (zv1 : Int32) (kont : pd_I → Option O) : Nat → Int32 → pd_I → Option O
  | 0, _, _ => none
  | fu + 1, zx1, zI1 => if zv1 ≤ zx1 then kont zI1 else (pd_gd (pd_in p0 12) (pd_bd (pd_bd (if (zI1 97 p0.toNatClampNeg) = 4 then if zx1 = p3 then some false else (some true) else (some false)) fun zc3 => if zc3 = true then some 0 else (some 1)) fun (zx2 : Int32) => pd_bd (if zx2 = 0 then some 0 else (some 1)) fun (zx3 : Int32) => pd_gd (pd_in ((64 * p1) + zx1) 13184) (pd_let (pd_ui zI1 111 ((64 * p1) + zx1).toNatClampNeg zx3) fun zI3 => fl_X12_rests_76 p0 p1 zI3 (fun zx7 => pd_gd (pd_in ((512 * p1) + (8 * zx1)) 105472) (pd_let (pd_ui zI3 112 ((512 * p1) + (8 * zx1)).toNatClampNeg zx7) fun zI4 => pd_let (zx1 + 1) fun zv4 => fl_X12_rests_13 p0 p1 p3 zv1 kont fu zv4 zI4)) pd_FU 0 zx1 p1)))
set_option maxRecDepth 100000 in
set_option maxHeartbeats 4000000 in
theorem el_X12_rests_13 {cx : pd_X} (C : pd_C cx "PathDecoderModel" cX12_rests rm_X12_rests) {p0 : Int32} {p1 : Int32} {p2 : Int32} {p3 : Int32} {zv1 : Int32} {J : pd_J} {Z : pd_R} {n : Nat} (hn : 133 ≤ n)  {O : Type} {kont : pd_I → Option O} {out : O} (K : ∀ (zI2 : pd_I), kont zI2 = some out → pd_V cx 0 0 161 [some (.ref 92), some (.int p0), some (.int p1), some (.int p2), none, some (.int zv1), none, none, none, none, none, none] [] zI2 J (pd_RF Z) n) :
    ∀ (fu : Nat) (zx1 : Int32) (zI1 : pd_I), fl_X12_rests_13 p0 p1 p3 zv1 kont fu zx1 zI1 = some out → pd_V cx 0 0 13 [some (.ref 92), some (.int p0), some (.int p1), some (.int p2), some (.int p3), some (.int zv1), some (.int zx1), none, none, none, none, none] [] zI1 J (pd_RF Z) n := by
  intro fu
  induction fu with
  | zero => intro zx1 zI1 hF; rw [fl_X12_rests_13] at hF; cases hF
  | succ fu ih =>
    intro zx1 zI1 hF
    rw [fl_X12_rests_13] at hF
    refine pd_iload C dX12_rests_13 rfl ?_
    refine pd_iload C dX12_rests_15 rfl ?_
    refine pd_icmp_ge (tgt := 161) C dX12_rests_17 (by decide) (fun zc6 => ?_) (fun zc6 => ?_)
    · have hF := pd_t zc6 hF
      refine pd_wk (ls' := [some (.ref 92), some (.int p0), some (.int p1), some (.int p2), none, some (.int zv1), none, none, none, none, none, none]) (And.intro rfl (And.intro rfl (And.intro rfl (And.intro rfl (And.intro rfl True.intro))))) ?_
      exact K _ hF
    · have hF := pd_f zc6 hF
      refine pd_aload_n C dX12_rests_20 rfl rfl ?_
      refine gr_12_6 C wd_5_131 (pd_lt (by decide) hn) sh_92 (rf_92_6 _) dX12_rests_21 ?_
      refine pd_iload_n C dX12_rests_24 rfl rfl ?_
      obtain ⟨zg2, hF⟩ := pd_gd_some hF
      refine pd_iald C (pd_lt (by decide) hn) sh_97 zg2 dX12_rests_25 ?_
      refine pd_iconst (v := 4) C dX12_rests_26 (by decide) ?_
      obtain ⟨zx2, hS, hF⟩ := pd_bd_some hF
      have hJ42 : pd_V cx 0 0 42 [some (.ref 92), some (.int p0), some (.int p1), some (.int p2), some (.int p3), some (.int zv1), some (.int zx1), none, none, none, none, none] [.int zx2] zI1 J (pd_RF Z) n := by
        refine pd_istore (ls' := [some (.ref 92), some (.int p0), some (.int p1), some (.int p2), some (.int p3), some (.int zv1), some (.int zx1), some (.int zx2), none, none, none, none]) C dX12_rests_42 (Nat.le_of_ble_eq_true rfl) rfl rfl ?_
        refine pd_aload_n C dX12_rests_44 rfl rfl ?_
        refine gr_12_23 C wd_5_148 (pd_lt (by decide) hn) sh_92 (rf_92_23 _) dX12_rests_45 ?_
        refine pd_bipush (v := 64) C dX12_rests_48 (by decide) ?_
        refine pd_iload_n C dX12_rests_50 rfl rfl ?_
        refine pd_imul C dX12_rests_51 ?_
        refine pd_iload C dX12_rests_52 rfl ?_
        refine pd_iadd C dX12_rests_54 ?_
        refine pd_iload C dX12_rests_55 rfl ?_
        obtain ⟨zx3, hS, hF⟩ := pd_bd_some hF
        have hJ65 : pd_V cx 0 0 65 [some (.ref 92), some (.int p0), some (.int p1), some (.int p2), some (.int p3), some (.int zv1), some (.int zx1), none, none, none, none, none] [.int zx3, .int ((64 * p1) + zx1), .ref 111] zI1 J (pd_RF Z) n := by
          obtain ⟨zg3, hF⟩ := pd_gd_some hF
          refine pd_iast C (pd_lt (by decide) hn) sh_111 zg3 dX12_rests_65 ?_
          refine pd_memI (fun zI3 hzI3 => ?_)
          have hF := pd_let_at hF hzI3
          refine pd_iconst (v := 0) C dX12_rests_66 (by decide) ?_
          refine pd_istore (ls' := [some (.ref 92), some (.int p0), some (.int p1), some (.int p2), some (.int p3), some (.int zv1), some (.int zx1), none, some (.int 0), none, none, none]) C dX12_rests_67 (Nat.le_of_ble_eq_true rfl) rfl rfl ?_
          refine pd_iload C dX12_rests_69 rfl ?_
          refine pd_istore (ls' := [some (.ref 92), some (.int p0), some (.int p1), some (.int p2), some (.int p3), some (.int zv1), some (.int zx1), none, some (.int 0), some (.int zx1), none, none]) C dX12_rests_71 (Nat.le_of_ble_eq_true rfl) rfl rfl ?_
          refine pd_iload_n C dX12_rests_73 rfl rfl ?_
          refine pd_istore (ls' := [some (.ref 92), some (.int p0), some (.int p1), some (.int p2), some (.int p3), some (.int zv1), some (.int zx1), none, some (.int 0), some (.int zx1), some (.int p1), none]) C dX12_rests_74 (Nat.le_of_ble_eq_true rfl) rfl rfl ?_
          refine el_X12_rests_76 C hn (fun zx7 hF => ?_) pd_FU _ _ _ hF
          refine pd_aload_n C dX12_rests_137 rfl rfl ?_
          refine gr_12_24 C wd_5_149 (pd_lt (by decide) hn) sh_92 (rf_92_24 _) dX12_rests_138 ?_
          refine pd_sipush (v := 512) C dX12_rests_141 (by decide) ?_
          refine pd_iload_n C dX12_rests_144 rfl rfl ?_
          refine pd_imul C dX12_rests_145 ?_
          refine pd_bipush (v := 8) C dX12_rests_146 (by decide) ?_
          refine pd_iload C dX12_rests_148 rfl ?_
          refine pd_imul C dX12_rests_150 ?_
          refine pd_iadd C dX12_rests_151 ?_
          refine pd_iload C dX12_rests_152 rfl ?_
          obtain ⟨zg5, hF⟩ := pd_gd_some hF
          refine pd_iast C (pd_lt (by decide) hn) sh_112 zg5 dX12_rests_154 ?_
          refine pd_memI (fun zI4 hzI4 => ?_)
          have hF := pd_let_at hF hzI4
          refine pd_iincG (zz := 1) C dX12_rests_155 rfl (by decide) rfl (fun zv4 hzv4 => ?_)
          have hF := pd_let_at hF hzv4
          refine pd_lsE (ls' := [some (.ref 92), some (.int p0), some (.int p1), some (.int p2), some (.int p3), some (.int zv1), some (.int zv4), none, some (.int zx7), none, none, none]) rfl ?_
          refine pd_goto (tgt := 13) C dX12_rests_158 (by decide) ?_
          refine pd_wk (ls' := [some (.ref 92), some (.int p0), some (.int p1), some (.int p2), some (.int p3), some (.int zv1), some (.int zv4), none, none, none, none, none]) (And.intro rfl (And.intro rfl (And.intro rfl (And.intro rfl (And.intro rfl (And.intro rfl (And.intro rfl True.intro))))))) ?_
          exact ih _ _ hF
        replace hF := hS
        clear hS
        refine pd_if_eq (tgt := 64) C dX12_rests_57 (by decide) (fun zc2 => ?_) (fun zc2 => ?_)
        · have hF := pd_t zc2 hF
          refine pd_iconst (v := 0) C dX12_rests_64 (by decide) ?_
          refine pd_wk (ls' := [some (.ref 92), some (.int p0), some (.int p1), some (.int p2), some (.int p3), some (.int zv1), some (.int zx1), none, none, none, none, none]) (And.intro rfl (And.intro rfl (And.intro rfl (And.intro rfl (And.intro rfl (And.intro rfl (And.intro rfl True.intro))))))) ?_
          have hF := hF.symm
          cases hF
          exact hJ65
        · have hF := pd_f zc2 hF
          refine pd_iconst (v := 1) C dX12_rests_60 (by decide) ?_
          refine pd_goto (tgt := 65) C dX12_rests_61 (by decide) ?_
          refine pd_wk (ls' := [some (.ref 92), some (.int p0), some (.int p1), some (.int p2), some (.int p3), some (.int zv1), some (.int zx1), none, none, none, none, none]) (And.intro rfl (And.intro rfl (And.intro rfl (And.intro rfl (And.intro rfl (And.intro rfl (And.intro rfl True.intro))))))) ?_
          have hF := hF.symm
          cases hF
          exact hJ65
      replace hF := hS
      clear hS
      obtain ⟨zc3, hS, hF⟩ := pd_bd_some hF
      have hTzc3 : zc3 = true → pd_V cx 0 0 41 [some (.ref 92), some (.int p0), some (.int p1), some (.int p2), some (.int p3), some (.int zv1), some (.int zx1), none, none, none, none, none] [] zI1 J (pd_RF Z) n := by
        intro hc
        have hF := pd_t hc hF
        refine pd_iconst (v := 0) C dX12_rests_41 (by decide) ?_
        have hF := hF.symm
        cases hF
        exact hJ42
      have hEzc3 : zc3 = false → pd_V cx 0 0 37 [some (.ref 92), some (.int p0), some (.int p1), some (.int p2), some (.int p3), some (.int zv1), some (.int zx1), none, none, none, none, none] [] zI1 J (pd_RF Z) n := by
        intro hc
        have hF := pd_bf hc hF
        refine pd_iconst (v := 1) C dX12_rests_37 (by decide) ?_
        refine pd_goto (tgt := 42) C dX12_rests_38 (by decide) ?_
        have hF := hF.symm
        cases hF
        exact hJ42
      replace hF := hS
      clear hS
      refine pd_icmp_ne (tgt := 37) C dX12_rests_27 (by decide) (fun zc5 => ?_) (fun zc5 => ?_)
      · have hF := pd_f zc5 hF
        cases hF
        exact hEzc3 rfl
      · have hF := pd_t zc5 hF
        refine pd_iload C dX12_rests_30 rfl ?_
        refine pd_iload C dX12_rests_32 rfl ?_
        refine pd_icmp_ne (tgt := 41) C dX12_rests_34 (by decide) (fun zc4 => ?_) (fun zc4 => ?_)
        · have hF := pd_f zc4 hF
          cases hF
          exact hTzc3 rfl
        · have hF := pd_t zc4 hF
          cases hF
          exact hEzc3 rfl
def fl_X12_rests_174 {O : Type} (p0 : Int32) (p2 : Int32) (zv1 : Int32) (zx8 : Int32) (kont : pd_I → Option O) : Nat → Int32 → pd_I → Option O
  | 0, _, _ => none
  | fu + 1, zx9, zI7 => if zv1 ≤ zx9 then kont zI7 else (pd_bd (fn_X12_rest zI7 p0 zx8 zx9 p2) fun zI9 => pd_let (zx9 + 1) fun zv6 => fl_X12_rests_174 p0 p2 zv1 zx8 kont fu zv6 zI9)
set_option maxRecDepth 100000 in
set_option maxHeartbeats 4000000 in
theorem el_X12_rests_174 {cx : pd_X} (C : pd_C cx "PathDecoderModel" cX12_rests rm_X12_rests) {p0 : Int32} {p2 : Int32} {zv1 : Int32} {zx8 : Int32} {J : pd_J} {Z : pd_R} {n : Nat} (hn : 133 ≤ n)  {O : Type} {kont : pd_I → Option O} {out : O} (K : ∀ (zI8 : pd_I), kont zI8 = some out → pd_V cx 0 0 197 [some (.ref 92), some (.int p0), none, some (.int p2), none, some (.int zv1), some (.int zx8), none, none, none, none, none] [] zI8 J (pd_RF Z) n) :
    ∀ (fu : Nat) (zx9 : Int32) (zI7 : pd_I), fl_X12_rests_174 p0 p2 zv1 zx8 kont fu zx9 zI7 = some out → pd_V cx 0 0 174 [some (.ref 92), some (.int p0), none, some (.int p2), none, some (.int zv1), some (.int zx8), some (.int zx9), none, none, none, none] [] zI7 J (pd_RF Z) n := by
  intro fu
  induction fu with
  | zero => intro zx9 zI7 hF; rw [fl_X12_rests_174] at hF; cases hF
  | succ fu ih =>
    intro zx9 zI7 hF
    rw [fl_X12_rests_174] at hF
    refine pd_iload C dX12_rests_174 rfl ?_
    refine pd_iload C dX12_rests_176 rfl ?_
    refine pd_icmp_ge (tgt := 197) C dX12_rests_178 (by decide) (fun zc7 => ?_) (fun zc7 => ?_)
    · have hF := pd_t zc7 hF
      refine pd_wk (ls' := [some (.ref 92), some (.int p0), none, some (.int p2), none, some (.int zv1), some (.int zx8), none, none, none, none, none]) (And.intro rfl (And.intro rfl (And.intro rfl (And.intro rfl (And.intro rfl True.intro))))) ?_
      exact K _ hF
    · have hF := pd_f zc7 hF
      refine pd_aload_n C dX12_rests_181 rfl rfl ?_
      refine pd_iload_n C dX12_rests_182 rfl rfl ?_
      refine pd_iload C dX12_rests_183 rfl ?_
      refine pd_iload C dX12_rests_185 rfl ?_
      refine pd_iload_n C dX12_rests_187 rfl rfl ?_
      obtain ⟨zI9, zh4, hF⟩ := pd_bd_some hF
      refine pd_callV C [.int p0, .int zx8, .int zx9, .int p2] [] (em_X12_rest (pd_C_st C) hn  zh4) mw_X12_rest wd_6_180 rfl (by decide) (pd_lt (by decide) hn) sh_92 ⟨by decide, by decide, by decide, by decide⟩ rfl (Nat.le_of_ble_eq_true rfl) pd_oldL_same (fun _ _ => pd_old_same _) dX12_rests_188 (stk' := []) rfl ?_
      refine pd_iincG (zz := 1) C dX12_rests_191 rfl (by decide) rfl (fun zv6 hzv6 => ?_)
      have hF := pd_let_at hF hzv6
      refine pd_lsE (ls' := [some (.ref 92), some (.int p0), none, some (.int p2), none, some (.int zv1), some (.int zx8), some (.int zv6), none, none, none, none]) rfl ?_
      refine pd_goto (tgt := 174) C dX12_rests_194 (by decide) ?_
      exact ih _ _ hF
def fl_X12_rests_166 {O : Type} (p0 : Int32) (p2 : Int32) (zv1 : Int32) (kont : pd_I → Option O) : Nat → Int32 → pd_I → Option O
  | 0, _, _ => none
  | fu + 1, zx8, zI5 => if zx8 < 0 then kont zI5 else (fl_X12_rests_174 p0 p2 zv1 zx8 (fun zI8 => pd_let (zx8 + (-1)) fun zv7 => fl_X12_rests_166 p0 p2 zv1 kont fu zv7 zI8) pd_FU 0 zI5)
set_option maxRecDepth 100000 in
set_option maxHeartbeats 4000000 in
theorem el_X12_rests_166 {cx : pd_X} (C : pd_C cx "PathDecoderModel" cX12_rests rm_X12_rests) {p0 : Int32} {p2 : Int32} {zv1 : Int32} {J : pd_J} {Z : pd_R} {n : Nat} (hn : 133 ≤ n)  {O : Type} {kont : pd_I → Option O} {out : O} (K : ∀ (zI6 : pd_I), kont zI6 = some out → pd_V cx 0 0 203 [none, none, none, none, none, none, none, none, none, none, none, none] [] zI6 J (pd_RF Z) n) :
    ∀ (fu : Nat) (zx8 : Int32) (zI5 : pd_I), fl_X12_rests_166 p0 p2 zv1 kont fu zx8 zI5 = some out → pd_V cx 0 0 166 [some (.ref 92), some (.int p0), none, some (.int p2), none, some (.int zv1), some (.int zx8), none, none, none, none, none] [] zI5 J (pd_RF Z) n := by
  intro fu
  induction fu with
  | zero => intro zx8 zI5 hF; rw [fl_X12_rests_166] at hF; cases hF
  | succ fu ih =>
    intro zx8 zI5 hF
    rw [fl_X12_rests_166] at hF
    refine pd_iload C dX12_rests_166 rfl ?_
    refine pd_if_lt (tgt := 203) C dX12_rests_168 (by decide) (fun zc8 => ?_) (fun zc8 => ?_)
    · have hF := pd_t zc8 hF
      refine pd_wk (ls' := [none, none, none, none, none, none, none, none, none, none, none, none]) True.intro ?_
      exact K _ hF
    · have hF := pd_f zc8 hF
      refine pd_iconst (v := 0) C dX12_rests_171 (by decide) ?_
      refine pd_istore (ls' := [some (.ref 92), some (.int p0), none, some (.int p2), none, some (.int zv1), some (.int zx8), some (.int 0), none, none, none, none]) C dX12_rests_172 (Nat.le_of_ble_eq_true rfl) rfl rfl ?_
      refine el_X12_rests_174 C hn (fun zI8 hF => ?_) pd_FU _ _ hF
      refine pd_iincG (zz := (-1)) C dX12_rests_197 rfl (by decide) rfl (fun zv7 hzv7 => ?_)
      have hF := pd_let_at hF hzv7
      refine pd_lsE (ls' := [some (.ref 92), some (.int p0), none, some (.int p2), none, some (.int zv1), some (.int zv7), none, none, none, none, none]) rfl ?_
      refine pd_goto (tgt := 166) C dX12_rests_200 (by decide) ?_
      exact ih _ _ hF
def fn_X12_rests (I : pd_I) (p0 : Int32) (p1 : Int32) (p2 : Int32) (p3 : Int32) : Option pd_I := pd_gd (pd_in p0 12) (pd_let ((1 : Int32) <<< ((I 98 p0.toNatClampNeg) &&& 31)) fun zv1 => fl_X12_rests_13 p0 p1 p3 zv1 (fun zI2 => pd_let (p1 - 1) fun zv5 => fl_X12_rests_166 p0 p2 zv1 (fun zI6 => some zI6) pd_FU zv5 zI2) pd_FU 0 I)
set_option maxRecDepth 100000 in
set_option maxHeartbeats 4000000 in
theorem em_X12_rests {l : Launch} {D : va_G} {tc : Nat → ClassId} (hst : l.stackTraces = false) {I : pd_I} {J : pd_J} {Z : pd_R} {n : Nat} {p0 : Int32} {p1 : Int32} {p2 : Int32} {p3 : Int32} (hn : 133 ≤ n)  {out : pd_I} (hF : fn_X12_rests I p0 p1 p2 p3 = some out) :
    pd_M l D tc yX12_rests (.code yX12_rests cX12_rests 12 (Option.none : Option Jvm.ClassFile.FieldType)) rm_X12_rests [.ref 92, .int p0, .int p1, .int p2, .int p3] I J (pd_RF Z) n (.ok (none)) out J (pd_RF Z) n := by
  refine pd_open (own := "PathDecoderModel") (ls0 := [some (.ref 92), some (.int p0), some (.int p1), some (.int p2), some (.int p3), none, none, none, none, none, none, none]) (by decide) rfl (Nat.le_of_ble_eq_true rfl) rfl rfl hst (fun cx hl hD htc C hE htab hnm => ?_)
  subst hl hD htc
  unfold fn_X12_rests at hF
  refine pd_iconst (v := 1) C dX12_rests_0 (by decide) ?_
  refine pd_aload_n C dX12_rests_1 rfl rfl ?_
  refine gr_12_7 C wd_5_132 (pd_lt (by decide) hn) sh_92 (rf_92_7 _) dX12_rests_2 ?_
  refine pd_iload_n C dX12_rests_5 rfl rfl ?_
  obtain ⟨zg1, hF⟩ := pd_gd_some hF
  refine pd_iald C (pd_lt (by decide) hn) sh_98 zg1 dX12_rests_6 ?_
  refine pd_ishl C dX12_rests_7 ?_
  refine pd_topi (fun zv1 hzv1 => ?_)
  have hF := pd_let_at hF hzv1
  refine pd_istore (ls' := [some (.ref 92), some (.int p0), some (.int p1), some (.int p2), some (.int p3), some (.int zv1), none, none, none, none, none, none]) C dX12_rests_8 (Nat.le_of_ble_eq_true rfl) rfl rfl ?_
  refine pd_iconst (v := 0) C dX12_rests_10 (by decide) ?_
  refine pd_istore (ls' := [some (.ref 92), some (.int p0), some (.int p1), some (.int p2), some (.int p3), some (.int zv1), some (.int 0), none, none, none, none, none]) C dX12_rests_11 (Nat.le_of_ble_eq_true rfl) rfl rfl ?_
  refine el_X12_rests_13 C hn (fun zI2 hF => ?_) pd_FU _ _ hF
  refine pd_iload_n C dX12_rests_161 rfl rfl ?_
  refine pd_iconst (v := 1) C dX12_rests_162 (by decide) ?_
  refine pd_isub C dX12_rests_163 ?_
  refine pd_topi (fun zv5 hzv5 => ?_)
  have hF := pd_let_at hF hzv5
  refine pd_istore (ls' := [some (.ref 92), some (.int p0), some (.int p1), some (.int p2), none, some (.int zv1), some (.int zv5), none, none, none, none, none]) C dX12_rests_164 (Nat.le_of_ble_eq_true rfl) rfl rfl ?_
  refine pd_wk (ls' := [some (.ref 92), some (.int p0), none, some (.int p2), none, some (.int zv1), some (.int zv5), none, none, none, none, none]) (And.intro rfl (And.intro rfl (And.intro rfl (And.intro rfl (And.intro rfl True.intro))))) ?_
  refine el_X12_rests_166 C hn (fun zI6 hF => ?_) pd_FU _ _ hF
  cases hF
  exact pd_vret C hE rfl ⟨by decide, by decide⟩ dX12_rests_203

def fl_X12_tells_45 {O : Type} (p0 : Int32) (p1 : Int32) (p4 : Int32) (kont : pd_I → Option O) : Nat → Int32 → Int32 → Int32 → pd_I → Option O
  | 0, _, _, _, _ => none
  | fu + 1, zx1, zx2, zx3, zI4 => if p1 ≤ zx3 then kont zI4 else (pd_let (((512 * zx3) + (8 * zx1)) + zx2) fun zv1 => pd_gd (pd_in zv1 105472) (pd_gd (pd_in ((200 * p4) + zx3) 1600) (pd_let (pd_ui zI4 105 ((200 * p4) + zx3).toNatClampNeg (zI4 113 zv1.toNatClampNeg)) fun zI6 => pd_gd (pd_in zv1 105472) (pd_let (zI6 114 zv1.toNatClampNeg) fun zv2 => pd_gd (pd_in zv1 105472) (pd_bd (fn_X12_next zI6 p0 zx1 (zI6 113 zv1.toNatClampNeg)) fun zr1 => pd_let (zx3 + 1) fun zv3 => fl_X12_tells_45 p0 p1 p4 kont fu zr1 zv2 zv3 zI6)))))
set_option maxRecDepth 100000 in
set_option maxHeartbeats 4000000 in
theorem el_X12_tells_45 {cx : pd_X} (C : pd_C cx "PathDecoderModel" cX12_tells rm_X12_tells) {p0 : Int32} {p1 : Int32} {p4 : Int32} {J : pd_J} {Z : pd_R} {n : Nat} (hn : 133 ≤ n)  {O : Type} {kont : pd_I → Option O} {out : O} (K : ∀ (zI5 : pd_I), kont zI5 = some out → pd_V cx 0 0 120 [none, none, none, none, none, none, none, none, none, none] [] zI5 J (pd_RF Z) n) :
    ∀ (fu : Nat) (zx1 : Int32) (zx2 : Int32) (zx3 : Int32) (zI4 : pd_I), fl_X12_tells_45 p0 p1 p4 kont fu zx1 zx2 zx3 zI4 = some out → pd_V cx 0 0 45 [some (.ref 92), some (.int p0), some (.int p1), none, none, some (.int p4), some (.int zx1), some (.int zx2), some (.int zx3), none] [] zI4 J (pd_RF Z) n := by
  intro fu
  induction fu with
  | zero => intro zx1 zx2 zx3 zI4 hF; rw [fl_X12_tells_45] at hF; cases hF
  | succ fu ih =>
    intro zx1 zx2 zx3 zI4 hF
    rw [fl_X12_tells_45] at hF
    refine pd_iload C dX12_tells_45 rfl ?_
    refine pd_iload_n C dX12_tells_47 rfl rfl ?_
    refine pd_icmp_ge (tgt := 120) C dX12_tells_48 (by decide) (fun zc1 => ?_) (fun zc1 => ?_)
    · have hF := pd_t zc1 hF
      refine pd_wk (ls' := [none, none, none, none, none, none, none, none, none, none]) True.intro ?_
      exact K _ hF
    · have hF := pd_f zc1 hF
      refine pd_sipush (v := 512) C dX12_tells_51 (by decide) ?_
      refine pd_iload C dX12_tells_54 rfl ?_
      refine pd_imul C dX12_tells_56 ?_
      refine pd_bipush (v := 8) C dX12_tells_57 (by decide) ?_
      refine pd_iload C dX12_tells_59 rfl ?_
      refine pd_imul C dX12_tells_61 ?_
      refine pd_iadd C dX12_tells_62 ?_
      refine pd_iload C dX12_tells_63 rfl ?_
      refine pd_iadd C dX12_tells_65 ?_
      refine pd_topi (fun zv1 hzv1 => ?_)
      have hF := pd_let_at hF hzv1
      refine pd_istore (ls' := [some (.ref 92), some (.int p0), some (.int p1), none, none, some (.int p4), some (.int zx1), some (.int zx2), some (.int zx3), some (.int zv1)]) C dX12_tells_66 (Nat.le_of_ble_eq_true rfl) rfl rfl ?_
      refine pd_aload_n C dX12_tells_68 rfl rfl ?_
      refine gr_12_15 C wd_5_140 (pd_lt (by decide) hn) sh_92 (rf_92_15 _) dX12_tells_69 ?_
      refine pd_sipush (v := 200) C dX12_tells_72 (by decide) ?_
      refine pd_iload C dX12_tells_75 rfl ?_
      refine pd_imul C dX12_tells_77 ?_
      refine pd_iload C dX12_tells_78 rfl ?_
      refine pd_iadd C dX12_tells_80 ?_
      refine pd_aload_n C dX12_tells_81 rfl rfl ?_
      refine gr_12_25 C wd_5_150 (pd_lt (by decide) hn) sh_92 (rf_92_25 _) dX12_tells_82 ?_
      refine pd_iload C dX12_tells_85 rfl ?_
      obtain ⟨zg5, hF⟩ := pd_gd_some hF
      refine pd_iald C (pd_lt (by decide) hn) sh_113 zg5 dX12_tells_87 ?_
      obtain ⟨zg6, hF⟩ := pd_gd_some hF
      refine pd_iast C (pd_lt (by decide) hn) sh_105 zg6 dX12_tells_88 ?_
      refine pd_memI (fun zI6 hzI6 => ?_)
      have hF := pd_let_at hF hzI6
      refine pd_aload_n C dX12_tells_89 rfl rfl ?_
      refine gr_12_26 C wd_5_151 (pd_lt (by decide) hn) sh_92 (rf_92_26 _) dX12_tells_90 ?_
      refine pd_iload C dX12_tells_93 rfl ?_
      obtain ⟨zg7, hF⟩ := pd_gd_some hF
      refine pd_iald C (pd_lt (by decide) hn) sh_114 zg7 dX12_tells_95 ?_
      refine pd_topi (fun zv2 hzv2 => ?_)
      have hF := pd_let_at hF hzv2
      refine pd_istore (ls' := [some (.ref 92), some (.int p0), some (.int p1), none, none, some (.int p4), some (.int zx1), some (.int zv2), some (.int zx3), some (.int zv1)]) C dX12_tells_96 (Nat.le_of_ble_eq_true rfl) rfl rfl ?_
      refine pd_aload_n C dX12_tells_98 rfl rfl ?_
      refine pd_iload_n C dX12_tells_99 rfl rfl ?_
      refine pd_iload C dX12_tells_100 rfl ?_
      refine pd_aload_n C dX12_tells_102 rfl rfl ?_
      refine gr_12_25 C wd_5_150 (pd_lt (by decide) hn) sh_92 (rf_92_25 _) dX12_tells_103 ?_
      refine pd_iload C dX12_tells_106 rfl ?_
      obtain ⟨zg8, hF⟩ := pd_gd_some hF
      refine pd_iald C (pd_lt (by decide) hn) sh_113 zg8 dX12_tells_108 ?_
      obtain ⟨zr1, zh1, hF⟩ := pd_bd_some hF
      refine pd_callV C [.int p0, .int zx1, .int (zI6 113 zv1.toNatClampNeg)] [] (em_X12_next (pd_C_st C) hn  zh1) mw_X12_next wd_6_109 rfl (by decide) (pd_lt (by decide) hn) sh_92 ⟨by decide, by decide, by decide, by decide⟩ rfl (Nat.le_of_ble_eq_true rfl) pd_oldL_same (fun _ _ => pd_old_same _) dX12_tells_109 (stk' := [.int zr1]) rfl ?_
      refine pd_istore (ls' := [some (.ref 92), some (.int p0), some (.int p1), none, none, some (.int p4), some (.int zr1), some (.int zv2), some (.int zx3), some (.int zv1)]) C dX12_tells_112 (Nat.le_of_ble_eq_true rfl) rfl rfl ?_
      refine pd_iincG (zz := 1) C dX12_tells_114 rfl (by decide) rfl (fun zv3 hzv3 => ?_)
      have hF := pd_let_at hF hzv3
      refine pd_lsE (ls' := [some (.ref 92), some (.int p0), some (.int p1), none, none, some (.int p4), some (.int zr1), some (.int zv2), some (.int zv3), some (.int zv1)]) rfl ?_
      refine pd_goto (tgt := 45) C dX12_tells_117 (by decide) ?_
      refine pd_wk (ls' := [some (.ref 92), some (.int p0), some (.int p1), none, none, some (.int p4), some (.int zr1), some (.int zv2), some (.int zv3), none]) (And.intro rfl (And.intro rfl (And.intro rfl (And.intro rfl (And.intro rfl (And.intro rfl (And.intro rfl True.intro))))))) ?_
      exact ih _ _ _ _ hF
def fn_X12_tells (I : pd_I) (p0 : Int32) (p1 : Int32) (p2 : Int32) (p3 : Int32) (p4 : Int32) : Option pd_I := pd_gd (pd_in ((8 * p2) + p3) 105472) (pd_gd (pd_in p4 8) (pd_let (pd_ui I 106 p4.toNatClampNeg (I 112 ((8 * p2) + p3).toNatClampNeg)) fun zI1 => pd_gd (pd_in p4 8) (pd_let (pd_ui zI1 107 p4.toNatClampNeg p2) fun zI2 => pd_gd (pd_in p4 8) (pd_let (pd_ui zI2 108 p4.toNatClampNeg p1) fun zI3 => fl_X12_tells_45 p0 p1 p4 (fun zI5 => some zI5) pd_FU p2 p3 0 zI3))))
set_option maxRecDepth 100000 in
set_option maxHeartbeats 4000000 in
theorem em_X12_tells {l : Launch} {D : va_G} {tc : Nat → ClassId} (hst : l.stackTraces = false) {I : pd_I} {J : pd_J} {Z : pd_R} {n : Nat} {p0 : Int32} {p1 : Int32} {p2 : Int32} {p3 : Int32} {p4 : Int32} (hn : 133 ≤ n)  {out : pd_I} (hF : fn_X12_tells I p0 p1 p2 p3 p4 = some out) :
    pd_M l D tc yX12_tells (.code yX12_tells cX12_tells 10 (Option.none : Option Jvm.ClassFile.FieldType)) rm_X12_tells [.ref 92, .int p0, .int p1, .int p2, .int p3, .int p4] I J (pd_RF Z) n (.ok (none)) out J (pd_RF Z) n := by
  refine pd_open (own := "PathDecoderModel") (ls0 := [some (.ref 92), some (.int p0), some (.int p1), some (.int p2), some (.int p3), some (.int p4), none, none, none, none]) (by decide) rfl (Nat.le_of_ble_eq_true rfl) rfl rfl hst (fun cx hl hD htc C hE htab hnm => ?_)
  subst hl hD htc
  unfold fn_X12_tells at hF
  refine pd_aload_n C dX12_tells_0 rfl rfl ?_
  refine gr_12_16 C wd_5_141 (pd_lt (by decide) hn) sh_92 (rf_92_16 _) dX12_tells_1 ?_
  refine pd_iload C dX12_tells_4 rfl ?_
  refine pd_aload_n C dX12_tells_6 rfl rfl ?_
  refine gr_12_24 C wd_5_149 (pd_lt (by decide) hn) sh_92 (rf_92_24 _) dX12_tells_7 ?_
  refine pd_bipush (v := 8) C dX12_tells_10 (by decide) ?_
  refine pd_iload_n C dX12_tells_12 rfl rfl ?_
  refine pd_imul C dX12_tells_13 ?_
  refine pd_iload C dX12_tells_14 rfl ?_
  refine pd_iadd C dX12_tells_16 ?_
  obtain ⟨zg1, hF⟩ := pd_gd_some hF
  refine pd_iald C (pd_lt (by decide) hn) sh_112 zg1 dX12_tells_17 ?_
  obtain ⟨zg2, hF⟩ := pd_gd_some hF
  refine pd_iast C (pd_lt (by decide) hn) sh_106 zg2 dX12_tells_18 ?_
  refine pd_memI (fun zI1 hzI1 => ?_)
  have hF := pd_let_at hF hzI1
  refine pd_aload_n C dX12_tells_19 rfl rfl ?_
  refine gr_12_17 C wd_5_142 (pd_lt (by decide) hn) sh_92 (rf_92_17 _) dX12_tells_20 ?_
  refine pd_iload C dX12_tells_23 rfl ?_
  refine pd_iload_n C dX12_tells_25 rfl rfl ?_
  obtain ⟨zg3, hF⟩ := pd_gd_some hF
  refine pd_iast C (pd_lt (by decide) hn) sh_107 zg3 dX12_tells_26 ?_
  refine pd_memI (fun zI2 hzI2 => ?_)
  have hF := pd_let_at hF hzI2
  refine pd_aload_n C dX12_tells_27 rfl rfl ?_
  refine gr_12_18 C wd_5_143 (pd_lt (by decide) hn) sh_92 (rf_92_18 _) dX12_tells_28 ?_
  refine pd_iload C dX12_tells_31 rfl ?_
  refine pd_iload_n C dX12_tells_33 rfl rfl ?_
  obtain ⟨zg4, hF⟩ := pd_gd_some hF
  refine pd_iast C (pd_lt (by decide) hn) sh_108 zg4 dX12_tells_34 ?_
  refine pd_memI (fun zI3 hzI3 => ?_)
  have hF := pd_let_at hF hzI3
  refine pd_iload_n C dX12_tells_35 rfl rfl ?_
  refine pd_istore (ls' := [some (.ref 92), some (.int p0), some (.int p1), some (.int p2), some (.int p3), some (.int p4), some (.int p2), none, none, none]) C dX12_tells_36 (Nat.le_of_ble_eq_true rfl) rfl rfl ?_
  refine pd_iload C dX12_tells_38 rfl ?_
  refine pd_istore (ls' := [some (.ref 92), some (.int p0), some (.int p1), some (.int p2), some (.int p3), some (.int p4), some (.int p2), some (.int p3), none, none]) C dX12_tells_40 (Nat.le_of_ble_eq_true rfl) rfl rfl ?_
  refine pd_iconst (v := 0) C dX12_tells_42 (by decide) ?_
  refine pd_istore (ls' := [some (.ref 92), some (.int p0), some (.int p1), some (.int p2), some (.int p3), some (.int p4), some (.int p2), some (.int p3), some (.int 0), none]) C dX12_tells_43 (Nat.le_of_ble_eq_true rfl) rfl rfl ?_
  refine pd_wk (ls' := [some (.ref 92), some (.int p0), some (.int p1), none, none, some (.int p4), some (.int p2), some (.int p3), some (.int 0), none]) (And.intro rfl (And.intro rfl (And.intro rfl (And.intro rfl (And.intro rfl (And.intro rfl (And.intro rfl True.intro))))))) ?_
  refine el_X12_tells_45 C hn (fun zI5 hF => ?_) pd_FU _ _ _ _ hF
  cases hF
  exact pd_vret C hE rfl ⟨by decide, by decide⟩ dX12_tells_120

def fl_X12_isAhead_39 (p0 : Int32) (p1 : Int32) (p2 : Int32) (I : pd_I) (kont : Unit → Option Int32) : Nat → Int32 → Option Int32
  | 0, _ => none
  | fu + 1, zx1 => if p2 ≤ zx1 then kont () else (pd_gd (pd_in ((200 * p0) + zx1) 1600) (pd_gd (pd_in ((200 * p1) + zx1) 1600) (if (I 105 ((200 * p0) + zx1).toNatClampNeg) = (I 105 ((200 * p1) + zx1).toNatClampNeg) then pd_let (zx1 + 1) fun zv1 => fl_X12_isAhead_39 p0 p1 p2 I kont fu zv1 else (pd_gd (pd_in ((200 * p0) + zx1) 1600) (pd_gd (pd_in ((200 * p1) + zx1) 1600) (pd_bd (if (I 105 ((200 * p1) + zx1).toNatClampNeg) ≤ (I 105 ((200 * p0) + zx1).toNatClampNeg) then some 0 else (some 1)) fun (zx2 : Int32) => pd_gd (pd_bo zx2) (some zx2)))))))
set_option maxRecDepth 100000 in
set_option maxHeartbeats 4000000 in
theorem el_X12_isAhead_39 {cx : pd_X} (C : pd_C cx "PathDecoderModel" cX12_isAhead rm_X12_isAhead) {p0 : Int32} {p1 : Int32} {p2 : Int32} {I : pd_I} {J : pd_J} {Z : pd_R} {n : Nat} (hn : 133 ≤ n)  {kont : Unit → Option Int32} {out : Int32} (hE : pd_E cx (Option.some Jvm.ClassFile.FieldType.boolean) rm_X12_isAhead (.ok (some (.int out))) I J (pd_RF Z) n) (K : ∀ (_u : Unit), kont _u = some out → pd_V cx 0 0 115 [some (.ref 92), some (.int p0), some (.int p1), none, none] [] I J (pd_RF Z) n) :
    ∀ (fu : Nat) (zx1 : Int32), fl_X12_isAhead_39 p0 p1 p2 I kont fu zx1 = some out → pd_V cx 0 0 39 [some (.ref 92), some (.int p0), some (.int p1), some (.int p2), some (.int zx1)] [] I J (pd_RF Z) n := by
  intro fu
  induction fu with
  | zero => intro zx1 hF; rw [fl_X12_isAhead_39] at hF; cases hF
  | succ fu ih =>
    intro zx1 hF
    rw [fl_X12_isAhead_39] at hF
    refine pd_iload C dX12_isAhead_39 rfl ?_
    refine pd_iload_n C dX12_isAhead_41 rfl rfl ?_
    refine pd_icmp_ge (tgt := 115) C dX12_isAhead_42 (by decide) (fun zc3 => ?_) (fun zc3 => ?_)
    · have hF := pd_t zc3 hF
      refine pd_wk (ls' := [some (.ref 92), some (.int p0), some (.int p1), none, none]) (And.intro rfl (And.intro rfl (And.intro rfl True.intro))) ?_
      exact K _ hF
    · have hF := pd_f zc3 hF
      refine pd_aload_n C dX12_isAhead_45 rfl rfl ?_
      refine gr_12_15 C wd_5_140 (pd_lt (by decide) hn) sh_92 (rf_92_15 _) dX12_isAhead_46 ?_
      refine pd_sipush (v := 200) C dX12_isAhead_49 (by decide) ?_
      refine pd_iload_n C dX12_isAhead_52 rfl rfl ?_
      refine pd_imul C dX12_isAhead_53 ?_
      refine pd_iload C dX12_isAhead_54 rfl ?_
      refine pd_iadd C dX12_isAhead_56 ?_
      obtain ⟨zg3, hF⟩ := pd_gd_some hF
      refine pd_iald C (pd_lt (by decide) hn) sh_105 zg3 dX12_isAhead_57 ?_
      refine pd_aload_n C dX12_isAhead_58 rfl rfl ?_
      refine gr_12_15 C wd_5_140 (pd_lt (by decide) hn) sh_92 (rf_92_15 _) dX12_isAhead_59 ?_
      refine pd_sipush (v := 200) C dX12_isAhead_62 (by decide) ?_
      refine pd_iload_n C dX12_isAhead_65 rfl rfl ?_
      refine pd_imul C dX12_isAhead_66 ?_
      refine pd_iload C dX12_isAhead_67 rfl ?_
      refine pd_iadd C dX12_isAhead_69 ?_
      obtain ⟨zg4, hF⟩ := pd_gd_some hF
      refine pd_iald C (pd_lt (by decide) hn) sh_105 zg4 dX12_isAhead_70 ?_
      refine pd_icmp_eq (tgt := 109) C dX12_isAhead_71 (by decide) (fun zc2 => ?_) (fun zc2 => ?_)
      · have hF := pd_t zc2 hF
        refine pd_iincG (zz := 1) C dX12_isAhead_109 rfl (by decide) rfl (fun zv1 hzv1 => ?_)
        have hF := pd_let_at hF hzv1
        refine pd_lsE (ls' := [some (.ref 92), some (.int p0), some (.int p1), some (.int p2), some (.int zv1)]) rfl ?_
        refine pd_goto (tgt := 39) C dX12_isAhead_112 (by decide) ?_
        exact ih _ hF
      · have hF := pd_f zc2 hF
        refine pd_aload_n C dX12_isAhead_74 rfl rfl ?_
        refine gr_12_15 C wd_5_140 (pd_lt (by decide) hn) sh_92 (rf_92_15 _) dX12_isAhead_75 ?_
        refine pd_sipush (v := 200) C dX12_isAhead_78 (by decide) ?_
        refine pd_iload_n C dX12_isAhead_81 rfl rfl ?_
        refine pd_imul C dX12_isAhead_82 ?_
        refine pd_iload C dX12_isAhead_83 rfl ?_
        refine pd_iadd C dX12_isAhead_85 ?_
        obtain ⟨zg5, hF⟩ := pd_gd_some hF
        refine pd_iald C (pd_lt (by decide) hn) sh_105 zg5 dX12_isAhead_86 ?_
        refine pd_aload_n C dX12_isAhead_87 rfl rfl ?_
        refine gr_12_15 C wd_5_140 (pd_lt (by decide) hn) sh_92 (rf_92_15 _) dX12_isAhead_88 ?_
        refine pd_sipush (v := 200) C dX12_isAhead_91 (by decide) ?_
        refine pd_iload_n C dX12_isAhead_94 rfl rfl ?_
        refine pd_imul C dX12_isAhead_95 ?_
        refine pd_iload C dX12_isAhead_96 rfl ?_
        refine pd_iadd C dX12_isAhead_98 ?_
        obtain ⟨zg6, hF⟩ := pd_gd_some hF
        refine pd_iald C (pd_lt (by decide) hn) sh_105 zg6 dX12_isAhead_99 ?_
        obtain ⟨zx2, hS, hF⟩ := pd_bd_some hF
        have hJ108 : pd_V cx 0 0 108 [none, none, none, none, none] [.int zx2] I J (pd_RF Z) n := by
          obtain ⟨zg7, hF⟩ := pd_gd_some hF
          cases hF
          exact pd_iret C hE rfl rfl (pd_bo_nar zg7) ⟨by decide, by decide⟩ dX12_isAhead_108
        replace hF := hS
        clear hS
        refine pd_icmp_ge (tgt := 107) C dX12_isAhead_100 (by decide) (fun zc1 => ?_) (fun zc1 => ?_)
        · have hF := pd_t zc1 hF
          refine pd_iconst (v := 0) C dX12_isAhead_107 (by decide) ?_
          refine pd_wk (ls' := [none, none, none, none, none]) True.intro ?_
          have hF := hF.symm
          cases hF
          exact hJ108
        · have hF := pd_f zc1 hF
          refine pd_iconst (v := 1) C dX12_isAhead_103 (by decide) ?_
          refine pd_goto (tgt := 108) C dX12_isAhead_104 (by decide) ?_
          refine pd_wk (ls' := [none, none, none, none, none]) True.intro ?_
          have hF := hF.symm
          cases hF
          exact hJ108
def fn_X12_isAhead (I : pd_I) (p0 : Int32) (p1 : Int32) (p2 : Int32) : Option Int32 := pd_gd (pd_in p0 8) (pd_gd (pd_in p1 8) (if (I 106 p0.toNatClampNeg) = (I 106 p1.toNatClampNeg) then fl_X12_isAhead_39 p0 p1 p2 I (fun _ => pd_gd (pd_in p0 8) (pd_gd (pd_in p1 8) (pd_bd (if (I 107 p1.toNatClampNeg) ≤ (I 107 p0.toNatClampNeg) then some 0 else (some 1)) fun (zx3 : Int32) => pd_gd (pd_bo zx3) (some zx3)))) pd_FU 0 else (pd_gd (pd_in p0 8) (pd_gd (pd_in p1 8) (pd_bd (if (I 106 p1.toNatClampNeg) ≤ (I 106 p0.toNatClampNeg) then some 0 else (some 1)) fun (zx4 : Int32) => pd_gd (pd_bo zx4) (some zx4))))))
set_option maxRecDepth 100000 in
set_option maxHeartbeats 4000000 in
theorem em_X12_isAhead {l : Launch} {D : va_G} {tc : Nat → ClassId} (hst : l.stackTraces = false) {I : pd_I} {J : pd_J} {Z : pd_R} {n : Nat} {p0 : Int32} {p1 : Int32} {p2 : Int32} (hn : 133 ≤ n)  {out : Int32} (hF : fn_X12_isAhead I p0 p1 p2 = some out) :
    pd_M l D tc yX12_isAhead (.code yX12_isAhead cX12_isAhead 5 (Option.some Jvm.ClassFile.FieldType.boolean)) rm_X12_isAhead [.ref 92, .int p0, .int p1, .int p2] I J (pd_RF Z) n (.ok (some (.int out))) I J (pd_RF Z) n := by
  refine pd_open (own := "PathDecoderModel") (ls0 := [some (.ref 92), some (.int p0), some (.int p1), some (.int p2), none]) (by decide) rfl (Nat.le_of_ble_eq_true rfl) rfl rfl hst (fun cx hl hD htc C hE htab hnm => ?_)
  subst hl hD htc
  unfold fn_X12_isAhead at hF
  refine pd_aload_n C dX12_isAhead_0 rfl rfl ?_
  refine gr_12_16 C wd_5_141 (pd_lt (by decide) hn) sh_92 (rf_92_16 _) dX12_isAhead_1 ?_
  refine pd_iload_n C dX12_isAhead_4 rfl rfl ?_
  obtain ⟨zg1, hF⟩ := pd_gd_some hF
  refine pd_iald C (pd_lt (by decide) hn) sh_106 zg1 dX12_isAhead_5 ?_
  refine pd_aload_n C dX12_isAhead_6 rfl rfl ?_
  refine gr_12_16 C wd_5_141 (pd_lt (by decide) hn) sh_92 (rf_92_16 _) dX12_isAhead_7 ?_
  refine pd_iload_n C dX12_isAhead_10 rfl rfl ?_
  obtain ⟨zg2, hF⟩ := pd_gd_some hF
  refine pd_iald C (pd_lt (by decide) hn) sh_106 zg2 dX12_isAhead_11 ?_
  refine pd_icmp_eq (tgt := 36) C dX12_isAhead_12 (by decide) (fun zc6 => ?_) (fun zc6 => ?_)
  · have hF := pd_t zc6 hF
    refine pd_iconst (v := 0) C dX12_isAhead_36 (by decide) ?_
    refine pd_istore (ls' := [some (.ref 92), some (.int p0), some (.int p1), some (.int p2), some (.int 0)]) C dX12_isAhead_37 (Nat.le_of_ble_eq_true rfl) rfl rfl ?_
    refine el_X12_isAhead_39 C hn hE (fun _ hF => ?_) pd_FU _ hF
    refine pd_aload_n C dX12_isAhead_115 rfl rfl ?_
    refine gr_12_17 C wd_5_142 (pd_lt (by decide) hn) sh_92 (rf_92_17 _) dX12_isAhead_116 ?_
    refine pd_iload_n C dX12_isAhead_119 rfl rfl ?_
    obtain ⟨zg8, hF⟩ := pd_gd_some hF
    refine pd_iald C (pd_lt (by decide) hn) sh_107 zg8 dX12_isAhead_120 ?_
    refine pd_aload_n C dX12_isAhead_121 rfl rfl ?_
    refine gr_12_17 C wd_5_142 (pd_lt (by decide) hn) sh_92 (rf_92_17 _) dX12_isAhead_122 ?_
    refine pd_iload_n C dX12_isAhead_125 rfl rfl ?_
    obtain ⟨zg9, hF⟩ := pd_gd_some hF
    refine pd_iald C (pd_lt (by decide) hn) sh_107 zg9 dX12_isAhead_126 ?_
    obtain ⟨zx3, hS, hF⟩ := pd_bd_some hF
    have hJ135 : pd_V cx 0 0 135 [none, none, none, none, none] [.int zx3] I J (pd_RF Z) n := by
      obtain ⟨zg10, hF⟩ := pd_gd_some hF
      cases hF
      exact pd_iret C hE rfl rfl (pd_bo_nar zg10) ⟨by decide, by decide⟩ dX12_isAhead_135
    replace hF := hS
    clear hS
    refine pd_icmp_ge (tgt := 134) C dX12_isAhead_127 (by decide) (fun zc4 => ?_) (fun zc4 => ?_)
    · have hF := pd_t zc4 hF
      refine pd_iconst (v := 0) C dX12_isAhead_134 (by decide) ?_
      refine pd_wk (ls' := [none, none, none, none, none]) True.intro ?_
      have hF := hF.symm
      cases hF
      exact hJ135
    · have hF := pd_f zc4 hF
      refine pd_iconst (v := 1) C dX12_isAhead_130 (by decide) ?_
      refine pd_goto (tgt := 135) C dX12_isAhead_131 (by decide) ?_
      refine pd_wk (ls' := [none, none, none, none, none]) True.intro ?_
      have hF := hF.symm
      cases hF
      exact hJ135
  · have hF := pd_f zc6 hF
    refine pd_aload_n C dX12_isAhead_15 rfl rfl ?_
    refine gr_12_16 C wd_5_141 (pd_lt (by decide) hn) sh_92 (rf_92_16 _) dX12_isAhead_16 ?_
    refine pd_iload_n C dX12_isAhead_19 rfl rfl ?_
    obtain ⟨zg11, hF⟩ := pd_gd_some hF
    refine pd_iald C (pd_lt (by decide) hn) sh_106 zg11 dX12_isAhead_20 ?_
    refine pd_aload_n C dX12_isAhead_21 rfl rfl ?_
    refine gr_12_16 C wd_5_141 (pd_lt (by decide) hn) sh_92 (rf_92_16 _) dX12_isAhead_22 ?_
    refine pd_iload_n C dX12_isAhead_25 rfl rfl ?_
    obtain ⟨zg12, hF⟩ := pd_gd_some hF
    refine pd_iald C (pd_lt (by decide) hn) sh_106 zg12 dX12_isAhead_26 ?_
    obtain ⟨zx4, hS, hF⟩ := pd_bd_some hF
    have hJ35 : pd_V cx 0 0 35 [none, none, none, none, none] [.int zx4] I J (pd_RF Z) n := by
      obtain ⟨zg13, hF⟩ := pd_gd_some hF
      cases hF
      exact pd_iret C hE rfl rfl (pd_bo_nar zg13) ⟨by decide, by decide⟩ dX12_isAhead_35
    replace hF := hS
    clear hS
    refine pd_icmp_ge (tgt := 34) C dX12_isAhead_27 (by decide) (fun zc5 => ?_) (fun zc5 => ?_)
    · have hF := pd_t zc5 hF
      refine pd_iconst (v := 0) C dX12_isAhead_34 (by decide) ?_
      refine pd_wk (ls' := [none, none, none, none, none]) True.intro ?_
      have hF := hF.symm
      cases hF
      exact hJ35
    · have hF := pd_f zc5 hF
      refine pd_iconst (v := 1) C dX12_isAhead_30 (by decide) ?_
      refine pd_goto (tgt := 35) C dX12_isAhead_31 (by decide) ?_
      refine pd_wk (ls' := [none, none, none, none, none]) True.intro ?_
      have hF := hF.symm
      cases hF
      exact hJ35

def fl_X12_exchange_2 {O : Type} (p0 : Int32) (p1 : Int32) (kont : pd_I → Option O) : Nat → Int32 → pd_I → Option O
  | 0, _, _ => none
  | fu + 1, zx1, zI1 => if 200 ≤ zx1 then kont zI1 else (pd_gd (pd_in ((200 * p0) + zx1) 1600) (pd_let (zI1 105 ((200 * p0) + zx1).toNatClampNeg) fun zv1 => pd_gd (pd_in ((200 * p1) + zx1) 1600) (pd_gd (pd_in ((200 * p0) + zx1) 1600) (pd_let (pd_ui zI1 105 ((200 * p0) + zx1).toNatClampNeg (zI1 105 ((200 * p1) + zx1).toNatClampNeg)) fun zI3 => pd_gd (pd_in ((200 * p1) + zx1) 1600) (pd_let (pd_ui zI3 105 ((200 * p1) + zx1).toNatClampNeg zv1) fun zI4 => pd_let (zx1 + 1) fun zv2 => fl_X12_exchange_2 p0 p1 kont fu zv2 zI4)))))
set_option maxRecDepth 100000 in
set_option maxHeartbeats 4000000 in
theorem el_X12_exchange_2 {cx : pd_X} (C : pd_C cx "PathDecoderModel" cX12_exchange rm_X12_exchange) {p0 : Int32} {p1 : Int32} {J : pd_J} {Z : pd_R} {n : Nat} (hn : 133 ≤ n)  {O : Type} {kont : pd_I → Option O} {out : O} (K : ∀ (zI2 : pd_I), kont zI2 = some out → pd_V cx 0 0 67 [some (.ref 92), some (.int p0), some (.int p1), none, none] [] zI2 J (pd_RF Z) n) :
    ∀ (fu : Nat) (zx1 : Int32) (zI1 : pd_I), fl_X12_exchange_2 p0 p1 kont fu zx1 zI1 = some out → pd_V cx 0 0 2 [some (.ref 92), some (.int p0), some (.int p1), some (.int zx1), none] [] zI1 J (pd_RF Z) n := by
  intro fu
  induction fu with
  | zero => intro zx1 zI1 hF; rw [fl_X12_exchange_2] at hF; cases hF
  | succ fu ih =>
    intro zx1 zI1 hF
    rw [fl_X12_exchange_2] at hF
    refine pd_iload_n C dX12_exchange_2 rfl rfl ?_
    refine pd_sipush (v := 200) C dX12_exchange_3 (by decide) ?_
    refine pd_icmp_ge (tgt := 67) C dX12_exchange_6 (by decide) (fun zc1 => ?_) (fun zc1 => ?_)
    · have hF := pd_t zc1 hF
      refine pd_wk (ls' := [some (.ref 92), some (.int p0), some (.int p1), none, none]) (And.intro rfl (And.intro rfl (And.intro rfl True.intro))) ?_
      exact K _ hF
    · have hF := pd_f zc1 hF
      refine pd_aload_n C dX12_exchange_9 rfl rfl ?_
      refine gr_12_15 C wd_5_140 (pd_lt (by decide) hn) sh_92 (rf_92_15 _) dX12_exchange_10 ?_
      refine pd_sipush (v := 200) C dX12_exchange_13 (by decide) ?_
      refine pd_iload_n C dX12_exchange_16 rfl rfl ?_
      refine pd_imul C dX12_exchange_17 ?_
      refine pd_iload_n C dX12_exchange_18 rfl rfl ?_
      refine pd_iadd C dX12_exchange_19 ?_
      obtain ⟨zg1, hF⟩ := pd_gd_some hF
      refine pd_iald C (pd_lt (by decide) hn) sh_105 zg1 dX12_exchange_20 ?_
      refine pd_topi (fun zv1 hzv1 => ?_)
      have hF := pd_let_at hF hzv1
      refine pd_istore (ls' := [some (.ref 92), some (.int p0), some (.int p1), some (.int zx1), some (.int zv1)]) C dX12_exchange_21 (Nat.le_of_ble_eq_true rfl) rfl rfl ?_
      refine pd_aload_n C dX12_exchange_23 rfl rfl ?_
      refine gr_12_15 C wd_5_140 (pd_lt (by decide) hn) sh_92 (rf_92_15 _) dX12_exchange_24 ?_
      refine pd_sipush (v := 200) C dX12_exchange_27 (by decide) ?_
      refine pd_iload_n C dX12_exchange_30 rfl rfl ?_
      refine pd_imul C dX12_exchange_31 ?_
      refine pd_iload_n C dX12_exchange_32 rfl rfl ?_
      refine pd_iadd C dX12_exchange_33 ?_
      refine pd_aload_n C dX12_exchange_34 rfl rfl ?_
      refine gr_12_15 C wd_5_140 (pd_lt (by decide) hn) sh_92 (rf_92_15 _) dX12_exchange_35 ?_
      refine pd_sipush (v := 200) C dX12_exchange_38 (by decide) ?_
      refine pd_iload_n C dX12_exchange_41 rfl rfl ?_
      refine pd_imul C dX12_exchange_42 ?_
      refine pd_iload_n C dX12_exchange_43 rfl rfl ?_
      refine pd_iadd C dX12_exchange_44 ?_
      obtain ⟨zg2, hF⟩ := pd_gd_some hF
      refine pd_iald C (pd_lt (by decide) hn) sh_105 zg2 dX12_exchange_45 ?_
      obtain ⟨zg3, hF⟩ := pd_gd_some hF
      refine pd_iast C (pd_lt (by decide) hn) sh_105 zg3 dX12_exchange_46 ?_
      refine pd_memI (fun zI3 hzI3 => ?_)
      have hF := pd_let_at hF hzI3
      refine pd_aload_n C dX12_exchange_47 rfl rfl ?_
      refine gr_12_15 C wd_5_140 (pd_lt (by decide) hn) sh_92 (rf_92_15 _) dX12_exchange_48 ?_
      refine pd_sipush (v := 200) C dX12_exchange_51 (by decide) ?_
      refine pd_iload_n C dX12_exchange_54 rfl rfl ?_
      refine pd_imul C dX12_exchange_55 ?_
      refine pd_iload_n C dX12_exchange_56 rfl rfl ?_
      refine pd_iadd C dX12_exchange_57 ?_
      refine pd_iload C dX12_exchange_58 rfl ?_
      obtain ⟨zg4, hF⟩ := pd_gd_some hF
      refine pd_iast C (pd_lt (by decide) hn) sh_105 zg4 dX12_exchange_60 ?_
      refine pd_memI (fun zI4 hzI4 => ?_)
      have hF := pd_let_at hF hzI4
      refine pd_iincG (zz := 1) C dX12_exchange_61 rfl (by decide) rfl (fun zv2 hzv2 => ?_)
      have hF := pd_let_at hF hzv2
      refine pd_lsE (ls' := [some (.ref 92), some (.int p0), some (.int p1), some (.int zv2), some (.int zv1)]) rfl ?_
      refine pd_goto (tgt := 2) C dX12_exchange_64 (by decide) ?_
      refine pd_wk (ls' := [some (.ref 92), some (.int p0), some (.int p1), some (.int zv2), none]) (And.intro rfl (And.intro rfl (And.intro rfl (And.intro rfl True.intro)))) ?_
      exact ih _ _ hF
def fn_X12_exchange (I : pd_I) (p0 : Int32) (p1 : Int32) : Option pd_I := fl_X12_exchange_2 p0 p1 (fun zI2 => pd_gd (pd_in p0 8) (pd_let (zI2 106 p0.toNatClampNeg) fun zv3 => pd_gd (pd_in p1 8) (pd_gd (pd_in p0 8) (pd_let (pd_ui zI2 106 p0.toNatClampNeg (zI2 106 p1.toNatClampNeg)) fun zI5 => pd_gd (pd_in p1 8) (pd_let (pd_ui zI5 106 p1.toNatClampNeg zv3) fun zI6 => pd_gd (pd_in p0 8) (pd_let (zI6 107 p0.toNatClampNeg) fun zv4 => pd_gd (pd_in p1 8) (pd_gd (pd_in p0 8) (pd_let (pd_ui zI6 107 p0.toNatClampNeg (zI6 107 p1.toNatClampNeg)) fun zI7 => pd_gd (pd_in p1 8) (pd_let (pd_ui zI7 107 p1.toNatClampNeg zv4) fun zI8 => some zI8))))))))) pd_FU 0 I
set_option maxRecDepth 100000 in
set_option maxHeartbeats 4000000 in
theorem em_X12_exchange {l : Launch} {D : va_G} {tc : Nat → ClassId} (hst : l.stackTraces = false) {I : pd_I} {J : pd_J} {Z : pd_R} {n : Nat} {p0 : Int32} {p1 : Int32} (hn : 133 ≤ n)  {out : pd_I} (hF : fn_X12_exchange I p0 p1 = some out) :
    pd_M l D tc yX12_exchange (.code yX12_exchange cX12_exchange 5 (Option.none : Option Jvm.ClassFile.FieldType)) rm_X12_exchange [.ref 92, .int p0, .int p1] I J (pd_RF Z) n (.ok (none)) out J (pd_RF Z) n := by
  refine pd_open (own := "PathDecoderModel") (ls0 := [some (.ref 92), some (.int p0), some (.int p1), none, none]) (by decide) rfl (Nat.le_of_ble_eq_true rfl) rfl rfl hst (fun cx hl hD htc C hE htab hnm => ?_)
  subst hl hD htc
  unfold fn_X12_exchange at hF
  refine pd_iconst (v := 0) C dX12_exchange_0 (by decide) ?_
  refine pd_istore_n (ls' := [some (.ref 92), some (.int p0), some (.int p1), some (.int 0), none]) C dX12_exchange_1 rfl (Nat.le_of_ble_eq_true rfl) rfl rfl ?_
  refine el_X12_exchange_2 C hn (fun zI2 hF => ?_) pd_FU _ _ hF
  refine pd_aload_n C dX12_exchange_67 rfl rfl ?_
  refine gr_12_16 C wd_5_141 (pd_lt (by decide) hn) sh_92 (rf_92_16 _) dX12_exchange_68 ?_
  refine pd_iload_n C dX12_exchange_71 rfl rfl ?_
  obtain ⟨zg5, hF⟩ := pd_gd_some hF
  refine pd_iald C (pd_lt (by decide) hn) sh_106 zg5 dX12_exchange_72 ?_
  refine pd_topi (fun zv3 hzv3 => ?_)
  have hF := pd_let_at hF hzv3
  refine pd_istore_n (ls' := [some (.ref 92), some (.int p0), some (.int p1), some (.int zv3), none]) C dX12_exchange_73 rfl (Nat.le_of_ble_eq_true rfl) rfl rfl ?_
  refine pd_aload_n C dX12_exchange_74 rfl rfl ?_
  refine gr_12_16 C wd_5_141 (pd_lt (by decide) hn) sh_92 (rf_92_16 _) dX12_exchange_75 ?_
  refine pd_iload_n C dX12_exchange_78 rfl rfl ?_
  refine pd_aload_n C dX12_exchange_79 rfl rfl ?_
  refine gr_12_16 C wd_5_141 (pd_lt (by decide) hn) sh_92 (rf_92_16 _) dX12_exchange_80 ?_
  refine pd_iload_n C dX12_exchange_83 rfl rfl ?_
  obtain ⟨zg6, hF⟩ := pd_gd_some hF
  refine pd_iald C (pd_lt (by decide) hn) sh_106 zg6 dX12_exchange_84 ?_
  obtain ⟨zg7, hF⟩ := pd_gd_some hF
  refine pd_iast C (pd_lt (by decide) hn) sh_106 zg7 dX12_exchange_85 ?_
  refine pd_memI (fun zI5 hzI5 => ?_)
  have hF := pd_let_at hF hzI5
  refine pd_aload_n C dX12_exchange_86 rfl rfl ?_
  refine gr_12_16 C wd_5_141 (pd_lt (by decide) hn) sh_92 (rf_92_16 _) dX12_exchange_87 ?_
  refine pd_iload_n C dX12_exchange_90 rfl rfl ?_
  refine pd_iload_n C dX12_exchange_91 rfl rfl ?_
  obtain ⟨zg8, hF⟩ := pd_gd_some hF
  refine pd_iast C (pd_lt (by decide) hn) sh_106 zg8 dX12_exchange_92 ?_
  refine pd_memI (fun zI6 hzI6 => ?_)
  have hF := pd_let_at hF hzI6
  refine pd_aload_n C dX12_exchange_93 rfl rfl ?_
  refine gr_12_17 C wd_5_142 (pd_lt (by decide) hn) sh_92 (rf_92_17 _) dX12_exchange_94 ?_
  refine pd_iload_n C dX12_exchange_97 rfl rfl ?_
  obtain ⟨zg9, hF⟩ := pd_gd_some hF
  refine pd_iald C (pd_lt (by decide) hn) sh_107 zg9 dX12_exchange_98 ?_
  refine pd_topi (fun zv4 hzv4 => ?_)
  have hF := pd_let_at hF hzv4
  refine pd_istore_n (ls' := [some (.ref 92), some (.int p0), some (.int p1), some (.int zv4), none]) C dX12_exchange_99 rfl (Nat.le_of_ble_eq_true rfl) rfl rfl ?_
  refine pd_aload_n C dX12_exchange_100 rfl rfl ?_
  refine gr_12_17 C wd_5_142 (pd_lt (by decide) hn) sh_92 (rf_92_17 _) dX12_exchange_101 ?_
  refine pd_iload_n C dX12_exchange_104 rfl rfl ?_
  refine pd_aload_n C dX12_exchange_105 rfl rfl ?_
  refine gr_12_17 C wd_5_142 (pd_lt (by decide) hn) sh_92 (rf_92_17 _) dX12_exchange_106 ?_
  refine pd_iload_n C dX12_exchange_109 rfl rfl ?_
  obtain ⟨zg10, hF⟩ := pd_gd_some hF
  refine pd_iald C (pd_lt (by decide) hn) sh_107 zg10 dX12_exchange_110 ?_
  obtain ⟨zg11, hF⟩ := pd_gd_some hF
  refine pd_iast C (pd_lt (by decide) hn) sh_107 zg11 dX12_exchange_111 ?_
  refine pd_memI (fun zI7 hzI7 => ?_)
  have hF := pd_let_at hF hzI7
  refine pd_aload_n C dX12_exchange_112 rfl rfl ?_
  refine gr_12_17 C wd_5_142 (pd_lt (by decide) hn) sh_92 (rf_92_17 _) dX12_exchange_113 ?_
  refine pd_iload_n C dX12_exchange_116 rfl rfl ?_
  refine pd_iload_n C dX12_exchange_117 rfl rfl ?_
  obtain ⟨zg12, hF⟩ := pd_gd_some hF
  refine pd_iast C (pd_lt (by decide) hn) sh_107 zg12 dX12_exchange_118 ?_
  refine pd_memI (fun zI8 hzI8 => ?_)
  have hF := pd_let_at hF hzI8
  cases hF
  exact pd_vret C hE rfl ⟨by decide, by decide⟩ dX12_exchange_119

def fl_X12_isBefore_10 {O : Type} (p0 : Int32) (p1 : Int32) (kont : pd_I → Option O) : Nat → Int32 → Int32 → Int32 → pd_I → Option O
  | 0, _, _, _, _ => none
  | fu + 1, zx1, zx2, zx3, zI1 => if p1 ≤ zx3 then kont zI1 else (pd_let (((512 * zx3) + (8 * zx1)) + zx2) fun zv1 => pd_gd (pd_in zv1 105472) (pd_gd (pd_in zx3 200) (pd_let (pd_ui zI1 128 zx3.toNatClampNeg (zI1 113 zv1.toNatClampNeg)) fun zI3 => pd_gd (pd_in zv1 105472) (pd_let (zI3 114 zv1.toNatClampNeg) fun zv2 => pd_gd (pd_in zv1 105472) (pd_bd (fn_X12_next zI3 p0 zx1 (zI3 113 zv1.toNatClampNeg)) fun zr1 => pd_let (zx3 + 1) fun zv3 => fl_X12_isBefore_10 p0 p1 kont fu zr1 zv2 zv3 zI3)))))
set_option maxRecDepth 100000 in
set_option maxHeartbeats 4000000 in
theorem el_X12_isBefore_10 {cx : pd_X} (C : pd_C cx "PathDecoderModel" cX12_isBefore rm_X12_isBefore) {p0 : Int32} {p1 : Int32} {p2 : Int32} {p4 : Int32} {J : pd_J} {Z : pd_R} {n : Nat} (hn : 133 ≤ n)  {O : Type} {kont : pd_I → Option O} {out : O} (K : ∀ (zI2 : pd_I), kont zI2 = some out → pd_V cx 0 0 78 [some (.ref 92), none, some (.int p1), some (.int p2), none, some (.int p4), none, none, none, none] [] zI2 J (pd_RF Z) n) :
    ∀ (fu : Nat) (zx1 : Int32) (zx2 : Int32) (zx3 : Int32) (zI1 : pd_I), fl_X12_isBefore_10 p0 p1 kont fu zx1 zx2 zx3 zI1 = some out → pd_V cx 0 0 10 [some (.ref 92), some (.int p0), some (.int p1), some (.int p2), none, some (.int p4), some (.int zx1), some (.int zx2), some (.int zx3), none] [] zI1 J (pd_RF Z) n := by
  intro fu
  induction fu with
  | zero => intro zx1 zx2 zx3 zI1 hF; rw [fl_X12_isBefore_10] at hF; cases hF
  | succ fu ih =>
    intro zx1 zx2 zx3 zI1 hF
    rw [fl_X12_isBefore_10] at hF
    refine pd_iload C dX12_isBefore_10 rfl ?_
    refine pd_iload_n C dX12_isBefore_12 rfl rfl ?_
    refine pd_icmp_ge (tgt := 78) C dX12_isBefore_13 (by decide) (fun zc1 => ?_) (fun zc1 => ?_)
    · have hF := pd_t zc1 hF
      refine pd_wk (ls' := [some (.ref 92), none, some (.int p1), some (.int p2), none, some (.int p4), none, none, none, none]) (And.intro rfl (And.intro rfl (And.intro rfl (And.intro rfl True.intro)))) ?_
      exact K _ hF
    · have hF := pd_f zc1 hF
      refine pd_sipush (v := 512) C dX12_isBefore_16 (by decide) ?_
      refine pd_iload C dX12_isBefore_19 rfl ?_
      refine pd_imul C dX12_isBefore_21 ?_
      refine pd_bipush (v := 8) C dX12_isBefore_22 (by decide) ?_
      refine pd_iload C dX12_isBefore_24 rfl ?_
      refine pd_imul C dX12_isBefore_26 ?_
      refine pd_iadd C dX12_isBefore_27 ?_
      refine pd_iload C dX12_isBefore_28 rfl ?_
      refine pd_iadd C dX12_isBefore_30 ?_
      refine pd_topi (fun zv1 hzv1 => ?_)
      have hF := pd_let_at hF hzv1
      refine pd_istore (ls' := [some (.ref 92), some (.int p0), some (.int p1), some (.int p2), none, some (.int p4), some (.int zx1), some (.int zx2), some (.int zx3), some (.int zv1)]) C dX12_isBefore_31 (Nat.le_of_ble_eq_true rfl) rfl rfl ?_
      refine pd_aload_n C dX12_isBefore_33 rfl rfl ?_
      refine gr_12_40 C wd_5_165 (pd_lt (by decide) hn) sh_92 (rf_92_40 _) dX12_isBefore_34 ?_
      refine pd_iload C dX12_isBefore_37 rfl ?_
      refine pd_aload_n C dX12_isBefore_39 rfl rfl ?_
      refine gr_12_25 C wd_5_150 (pd_lt (by decide) hn) sh_92 (rf_92_25 _) dX12_isBefore_40 ?_
      refine pd_iload C dX12_isBefore_43 rfl ?_
      obtain ⟨zg1, hF⟩ := pd_gd_some hF
      refine pd_iald C (pd_lt (by decide) hn) sh_113 zg1 dX12_isBefore_45 ?_
      obtain ⟨zg2, hF⟩ := pd_gd_some hF
      refine pd_iast C (pd_lt (by decide) hn) sh_128 zg2 dX12_isBefore_46 ?_
      refine pd_memI (fun zI3 hzI3 => ?_)
      have hF := pd_let_at hF hzI3
      refine pd_aload_n C dX12_isBefore_47 rfl rfl ?_
      refine gr_12_26 C wd_5_151 (pd_lt (by decide) hn) sh_92 (rf_92_26 _) dX12_isBefore_48 ?_
      refine pd_iload C dX12_isBefore_51 rfl ?_
      obtain ⟨zg3, hF⟩ := pd_gd_some hF
      refine pd_iald C (pd_lt (by decide) hn) sh_114 zg3 dX12_isBefore_53 ?_
      refine pd_topi (fun zv2 hzv2 => ?_)
      have hF := pd_let_at hF hzv2
      refine pd_istore (ls' := [some (.ref 92), some (.int p0), some (.int p1), some (.int p2), none, some (.int p4), some (.int zx1), some (.int zv2), some (.int zx3), some (.int zv1)]) C dX12_isBefore_54 (Nat.le_of_ble_eq_true rfl) rfl rfl ?_
      refine pd_aload_n C dX12_isBefore_56 rfl rfl ?_
      refine pd_iload_n C dX12_isBefore_57 rfl rfl ?_
      refine pd_iload C dX12_isBefore_58 rfl ?_
      refine pd_aload_n C dX12_isBefore_60 rfl rfl ?_
      refine gr_12_25 C wd_5_150 (pd_lt (by decide) hn) sh_92 (rf_92_25 _) dX12_isBefore_61 ?_
      refine pd_iload C dX12_isBefore_64 rfl ?_
      obtain ⟨zg4, hF⟩ := pd_gd_some hF
      refine pd_iald C (pd_lt (by decide) hn) sh_113 zg4 dX12_isBefore_66 ?_
      obtain ⟨zr1, zh1, hF⟩ := pd_bd_some hF
      refine pd_callV C [.int p0, .int zx1, .int (zI3 113 zv1.toNatClampNeg)] [] (em_X12_next (pd_C_st C) hn  zh1) mw_X12_next wd_6_109 rfl (by decide) (pd_lt (by decide) hn) sh_92 ⟨by decide, by decide, by decide, by decide⟩ rfl (Nat.le_of_ble_eq_true rfl) pd_oldL_same (fun _ _ => pd_old_same _) dX12_isBefore_67 (stk' := [.int zr1]) rfl ?_
      refine pd_istore (ls' := [some (.ref 92), some (.int p0), some (.int p1), some (.int p2), none, some (.int p4), some (.int zr1), some (.int zv2), some (.int zx3), some (.int zv1)]) C dX12_isBefore_70 (Nat.le_of_ble_eq_true rfl) rfl rfl ?_
      refine pd_iincG (zz := 1) C dX12_isBefore_72 rfl (by decide) rfl (fun zv3 hzv3 => ?_)
      have hF := pd_let_at hF hzv3
      refine pd_lsE (ls' := [some (.ref 92), some (.int p0), some (.int p1), some (.int p2), none, some (.int p4), some (.int zr1), some (.int zv2), some (.int zv3), some (.int zv1)]) rfl ?_
      refine pd_goto (tgt := 10) C dX12_isBefore_75 (by decide) ?_
      refine pd_wk (ls' := [some (.ref 92), some (.int p0), some (.int p1), some (.int p2), none, some (.int p4), some (.int zr1), some (.int zv2), some (.int zv3), none]) (And.intro rfl (And.intro rfl (And.intro rfl (And.intro rfl (And.intro rfl (And.intro rfl (And.intro rfl (And.intro rfl True.intro)))))))) ?_
      exact ih _ _ _ _ hF
def fl_X12_isBefore_81 (p1 : Int32) (p4 : Int32) (zI2 : pd_I) (kont : Unit → Option (Int32 × pd_I)) : Nat → Int32 → Option (Int32 × pd_I)
  | 0, _ => none
  | fu + 1, zx4 => if p1 ≤ zx4 then kont () else (pd_gd (pd_in zx4 200) (pd_gd (pd_in ((200 * p4) + zx4) 1600) (if (zI2 128 zx4.toNatClampNeg) = (zI2 105 ((200 * p4) + zx4).toNatClampNeg) then pd_let (zx4 + 1) fun zv4 => fl_X12_isBefore_81 p1 p4 zI2 kont fu zv4 else (pd_gd (pd_in zx4 200) (pd_gd (pd_in ((200 * p4) + zx4) 1600) (pd_bd (if (zI2 105 ((200 * p4) + zx4).toNatClampNeg) ≤ (zI2 128 zx4.toNatClampNeg) then some 0 else (some 1)) fun (zx5 : Int32) => pd_gd (pd_bo zx5) (some (zx5, zI2))))))))
set_option maxRecDepth 100000 in
set_option maxHeartbeats 4000000 in
theorem el_X12_isBefore_81 {cx : pd_X} (C : pd_C cx "PathDecoderModel" cX12_isBefore rm_X12_isBefore) {p1 : Int32} {p2 : Int32} {p4 : Int32} {zI2 : pd_I} {J : pd_J} {Z : pd_R} {n : Nat} (hn : 133 ≤ n)  {kont : Unit → Option (Int32 × pd_I)} {out : Int32 × pd_I} (hE : pd_E cx (Option.some Jvm.ClassFile.FieldType.boolean) rm_X12_isBefore (.ok (some (.int out.1))) out.2 J (pd_RF Z) n) (K : ∀ (_u : Unit), kont _u = some out → pd_V cx 0 0 147 [some (.ref 92), none, none, some (.int p2), none, some (.int p4), none, none, none, none] [] zI2 J (pd_RF Z) n) :
    ∀ (fu : Nat) (zx4 : Int32), fl_X12_isBefore_81 p1 p4 zI2 kont fu zx4 = some out → pd_V cx 0 0 81 [some (.ref 92), none, some (.int p1), some (.int p2), none, some (.int p4), none, none, some (.int zx4), none] [] zI2 J (pd_RF Z) n := by
  intro fu
  induction fu with
  | zero => intro zx4 hF; rw [fl_X12_isBefore_81] at hF; cases hF
  | succ fu ih =>
    intro zx4 hF
    rw [fl_X12_isBefore_81] at hF
    refine pd_iload C dX12_isBefore_81 rfl ?_
    refine pd_iload_n C dX12_isBefore_83 rfl rfl ?_
    refine pd_icmp_ge (tgt := 147) C dX12_isBefore_84 (by decide) (fun zc4 => ?_) (fun zc4 => ?_)
    · have hF := pd_t zc4 hF
      refine pd_wk (ls' := [some (.ref 92), none, none, some (.int p2), none, some (.int p4), none, none, none, none]) (And.intro rfl (And.intro rfl (And.intro rfl True.intro))) ?_
      exact K _ hF
    · have hF := pd_f zc4 hF
      refine pd_aload_n C dX12_isBefore_87 rfl rfl ?_
      refine gr_12_40 C wd_5_165 (pd_lt (by decide) hn) sh_92 (rf_92_40 _) dX12_isBefore_88 ?_
      refine pd_iload C dX12_isBefore_91 rfl ?_
      obtain ⟨zg5, hF⟩ := pd_gd_some hF
      refine pd_iald C (pd_lt (by decide) hn) sh_128 zg5 dX12_isBefore_93 ?_
      refine pd_aload_n C dX12_isBefore_94 rfl rfl ?_
      refine gr_12_15 C wd_5_140 (pd_lt (by decide) hn) sh_92 (rf_92_15 _) dX12_isBefore_95 ?_
      refine pd_sipush (v := 200) C dX12_isBefore_98 (by decide) ?_
      refine pd_iload C dX12_isBefore_101 rfl ?_
      refine pd_imul C dX12_isBefore_103 ?_
      refine pd_iload C dX12_isBefore_104 rfl ?_
      refine pd_iadd C dX12_isBefore_106 ?_
      obtain ⟨zg6, hF⟩ := pd_gd_some hF
      refine pd_iald C (pd_lt (by decide) hn) sh_105 zg6 dX12_isBefore_107 ?_
      refine pd_icmp_eq (tgt := 141) C dX12_isBefore_108 (by decide) (fun zc3 => ?_) (fun zc3 => ?_)
      · have hF := pd_t zc3 hF
        refine pd_iincG (zz := 1) C dX12_isBefore_141 rfl (by decide) rfl (fun zv4 hzv4 => ?_)
        have hF := pd_let_at hF hzv4
        refine pd_lsE (ls' := [some (.ref 92), none, some (.int p1), some (.int p2), none, some (.int p4), none, none, some (.int zv4), none]) rfl ?_
        refine pd_goto (tgt := 81) C dX12_isBefore_144 (by decide) ?_
        exact ih _ hF
      · have hF := pd_f zc3 hF
        refine pd_aload_n C dX12_isBefore_111 rfl rfl ?_
        refine gr_12_40 C wd_5_165 (pd_lt (by decide) hn) sh_92 (rf_92_40 _) dX12_isBefore_112 ?_
        refine pd_iload C dX12_isBefore_115 rfl ?_
        obtain ⟨zg7, hF⟩ := pd_gd_some hF
        refine pd_iald C (pd_lt (by decide) hn) sh_128 zg7 dX12_isBefore_117 ?_
        refine pd_aload_n C dX12_isBefore_118 rfl rfl ?_
        refine gr_12_15 C wd_5_140 (pd_lt (by decide) hn) sh_92 (rf_92_15 _) dX12_isBefore_119 ?_
        refine pd_sipush (v := 200) C dX12_isBefore_122 (by decide) ?_
        refine pd_iload C dX12_isBefore_125 rfl ?_
        refine pd_imul C dX12_isBefore_127 ?_
        refine pd_iload C dX12_isBefore_128 rfl ?_
        refine pd_iadd C dX12_isBefore_130 ?_
        obtain ⟨zg8, hF⟩ := pd_gd_some hF
        refine pd_iald C (pd_lt (by decide) hn) sh_105 zg8 dX12_isBefore_131 ?_
        obtain ⟨zx5, hS, hF⟩ := pd_bd_some hF
        have hJ140 : pd_V cx 0 0 140 [none, none, none, none, none, none, none, none, none, none] [.int zx5] zI2 J (pd_RF Z) n := by
          obtain ⟨zg9, hF⟩ := pd_gd_some hF
          cases hF
          exact pd_iret C hE rfl rfl (pd_bo_nar zg9) ⟨by decide, by decide⟩ dX12_isBefore_140
        replace hF := hS
        clear hS
        refine pd_icmp_ge (tgt := 139) C dX12_isBefore_132 (by decide) (fun zc2 => ?_) (fun zc2 => ?_)
        · have hF := pd_t zc2 hF
          refine pd_iconst (v := 0) C dX12_isBefore_139 (by decide) ?_
          refine pd_wk (ls' := [none, none, none, none, none, none, none, none, none, none]) True.intro ?_
          have hF := hF.symm
          cases hF
          exact hJ140
        · have hF := pd_f zc2 hF
          refine pd_iconst (v := 1) C dX12_isBefore_135 (by decide) ?_
          refine pd_goto (tgt := 140) C dX12_isBefore_136 (by decide) ?_
          refine pd_wk (ls' := [none, none, none, none, none, none, none, none, none, none]) True.intro ?_
          have hF := hF.symm
          cases hF
          exact hJ140
def fn_X12_isBefore (I : pd_I) (p0 : Int32) (p1 : Int32) (p2 : Int32) (p3 : Int32) (p4 : Int32) : Option (Int32 × pd_I) := fl_X12_isBefore_10 p0 p1 (fun zI2 => fl_X12_isBefore_81 p1 p4 zI2 (fun _ => pd_gd (pd_in p4 8) (pd_bd (if (zI2 107 p4.toNatClampNeg) ≤ p2 then some 0 else (some 1)) fun (zx6 : Int32) => pd_gd (pd_bo zx6) (some (zx6, zI2)))) pd_FU 0) pd_FU p2 p3 0 I
set_option maxRecDepth 100000 in
set_option maxHeartbeats 4000000 in
theorem em_X12_isBefore {l : Launch} {D : va_G} {tc : Nat → ClassId} (hst : l.stackTraces = false) {I : pd_I} {J : pd_J} {Z : pd_R} {n : Nat} {p0 : Int32} {p1 : Int32} {p2 : Int32} {p3 : Int32} {p4 : Int32} (hn : 133 ≤ n)  {out : Int32 × pd_I} (hF : fn_X12_isBefore I p0 p1 p2 p3 p4 = some out) :
    pd_M l D tc yX12_isBefore (.code yX12_isBefore cX12_isBefore 10 (Option.some Jvm.ClassFile.FieldType.boolean)) rm_X12_isBefore [.ref 92, .int p0, .int p1, .int p2, .int p3, .int p4] I J (pd_RF Z) n (.ok (some (.int out.1))) out.2 J (pd_RF Z) n := by
  refine pd_open (own := "PathDecoderModel") (ls0 := [some (.ref 92), some (.int p0), some (.int p1), some (.int p2), some (.int p3), some (.int p4), none, none, none, none]) (by decide) rfl (Nat.le_of_ble_eq_true rfl) rfl rfl hst (fun cx hl hD htc C hE htab hnm => ?_)
  subst hl hD htc
  unfold fn_X12_isBefore at hF
  refine pd_iload_n C dX12_isBefore_0 rfl rfl ?_
  refine pd_istore (ls' := [some (.ref 92), some (.int p0), some (.int p1), some (.int p2), some (.int p3), some (.int p4), some (.int p2), none, none, none]) C dX12_isBefore_1 (Nat.le_of_ble_eq_true rfl) rfl rfl ?_
  refine pd_iload C dX12_isBefore_3 rfl ?_
  refine pd_istore (ls' := [some (.ref 92), some (.int p0), some (.int p1), some (.int p2), some (.int p3), some (.int p4), some (.int p2), some (.int p3), none, none]) C dX12_isBefore_5 (Nat.le_of_ble_eq_true rfl) rfl rfl ?_
  refine pd_iconst (v := 0) C dX12_isBefore_7 (by decide) ?_
  refine pd_istore (ls' := [some (.ref 92), some (.int p0), some (.int p1), some (.int p2), some (.int p3), some (.int p4), some (.int p2), some (.int p3), some (.int 0), none]) C dX12_isBefore_8 (Nat.le_of_ble_eq_true rfl) rfl rfl ?_
  refine pd_wk (ls' := [some (.ref 92), some (.int p0), some (.int p1), some (.int p2), none, some (.int p4), some (.int p2), some (.int p3), some (.int 0), none]) (And.intro rfl (And.intro rfl (And.intro rfl (And.intro rfl (And.intro rfl (And.intro rfl (And.intro rfl (And.intro rfl True.intro)))))))) ?_
  refine el_X12_isBefore_10 C hn (fun zI2 hF => ?_) pd_FU _ _ _ _ hF
  refine pd_iconst (v := 0) C dX12_isBefore_78 (by decide) ?_
  refine pd_istore (ls' := [some (.ref 92), none, some (.int p1), some (.int p2), none, some (.int p4), none, none, some (.int 0), none]) C dX12_isBefore_79 (Nat.le_of_ble_eq_true rfl) rfl rfl ?_
  refine el_X12_isBefore_81 C hn hE (fun _ hF => ?_) pd_FU _ hF
  refine pd_iload_n C dX12_isBefore_147 rfl rfl ?_
  refine pd_aload_n C dX12_isBefore_148 rfl rfl ?_
  refine gr_12_17 C wd_5_142 (pd_lt (by decide) hn) sh_92 (rf_92_17 _) dX12_isBefore_149 ?_
  refine pd_iload C dX12_isBefore_152 rfl ?_
  obtain ⟨zg10, hF⟩ := pd_gd_some hF
  refine pd_iald C (pd_lt (by decide) hn) sh_107 zg10 dX12_isBefore_154 ?_
  obtain ⟨zx6, hS, hF⟩ := pd_bd_some hF
  have hJ163 : pd_V cx 0 0 163 [none, none, none, none, none, none, none, none, none, none] [.int zx6] zI2 J (pd_RF Z) n := by
    obtain ⟨zg11, hF⟩ := pd_gd_some hF
    cases hF
    exact pd_iret C hE rfl rfl (pd_bo_nar zg11) ⟨by decide, by decide⟩ dX12_isBefore_163
  replace hF := hS
  clear hS
  refine pd_icmp_ge (tgt := 162) C dX12_isBefore_155 (by decide) (fun zc5 => ?_) (fun zc5 => ?_)
  · have hF := pd_t zc5 hF
    refine pd_iconst (v := 0) C dX12_isBefore_162 (by decide) ?_
    refine pd_wk (ls' := [none, none, none, none, none, none, none, none, none, none]) True.intro ?_
    have hF := hF.symm
    cases hF
    exact hJ163
  · have hF := pd_f zc5 hF
    refine pd_iconst (v := 1) C dX12_isBefore_158 (by decide) ?_
    refine pd_goto (tgt := 163) C dX12_isBefore_159 (by decide) ?_
    refine pd_wk (ls' := [none, none, none, none, none, none, none, none, none, none]) True.intro ?_
    have hF := hF.symm
    cases hF
    exact hJ163

