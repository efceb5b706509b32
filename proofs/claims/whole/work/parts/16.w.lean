def fn_X11_agreed (I : pd_I) : Option Int32 := pd_gd (pd_bo (I 0 13)) (some (I 0 13))
set_option maxRecDepth 100000 in
set_option maxHeartbeats 4000000 in
theorem em_X11_agreed {l : Launch} {D : va_G} {tc : Nat → ClassId} (hst : l.stackTraces = false) {I : pd_I} {J : pd_J} {Z : pd_R} {n : Nat} (hn : 133 ≤ n)  {out : Int32} (hF : fn_X11_agreed I = some out) :
    pd_M l D tc yX11_agreed (.code yX11_agreed cX11_agreed 1 (Option.some Jvm.ClassFile.FieldType.boolean)) rm_X11_agreed [.ref 0] I J (pd_RF Z) n (.ok (some (.int out))) I J (pd_RF Z) n := by
  refine pd_open (own := "PathDecoder") (ls0 := [some (.ref 0)]) (by decide) rfl (Nat.le_of_ble_eq_true rfl) rfl rfl hst (fun cx hl hD htc C hE htab hnm => ?_)
  subst hl hD htc
  unfold fn_X11_agreed at hF
  refine pd_aload_n C dX11_agreed_0 rfl rfl ?_
  refine gi_11_13 C wd_2_45 (pd_lt (by decide) hn) sh_0 dX11_agreed_1 ?_
  obtain ⟨zg1, hF⟩ := pd_gd_some hF
  cases hF
  exact pd_iret C hE rfl rfl (pd_bo_nar zg1) ⟨by decide, by decide⟩ dX11_agreed_4

def fn_X11_seems (I : pd_I) (p0 : Int32) : Option (Except String (Int32)) := pd_bd (if p0 < 0 then some false else (if p0 < (I 0 12) then some true else (some false))) fun zc1 => if zc1 = true then pd_gd (pd_in p0 200) (some (.ok (I 59 p0.toNatClampNeg))) else (some (.error "java/util/NoSuchElementException"))
set_option maxRecDepth 100000 in
set_option maxHeartbeats 4000000 in
theorem em_X11_seems {l : Launch} {D : va_G} {tc : Nat → ClassId} (hst : l.stackTraces = false) {I : pd_I} {J : pd_J} {Z : pd_R} {n : Nat} {p0 : Int32} (hn : 133 ≤ n)  {out : Except String (Int32)} (hF : fn_X11_seems I p0 = some out) :
    pd_M l D tc yX11_seems (.code yX11_seems cX11_seems 2 (Option.some Jvm.ClassFile.FieldType.int)) rm_X11_seems [.ref 0, .int p0] I J (pd_RF Z) n (pd_oo (fun (p : Int32) => some (.int p)) out) I J (pd_RF Z) n := by
  refine pd_open (own := "PathDecoder") (ls0 := [some (.ref 0), some (.int p0)]) (by decide) rfl (Nat.le_of_ble_eq_true rfl) rfl rfl hst (fun cx hl hD htc C hE htab hnm => ?_)
  subst hl hD htc
  unfold fn_X11_seems at hF
  refine pd_iload_n C dX11_seems_0 rfl rfl ?_
  obtain ⟨zc1, hS, hF⟩ := pd_bd_some hF
  have hTzc1 : zc1 = true → pd_V cx 0 0 23 [some (.ref 0), some (.int p0)] [] I J (pd_RF Z) n := by
    intro hc
    have hF := pd_t hc hF
    refine pd_aload_n C dX11_seems_23 rfl rfl ?_
    refine gr_11_11 C wd_2_43 (pd_lt (by decide) hn) sh_0 (rf_0_11 _) dX11_seems_24 ?_
    refine pd_iload_n C dX11_seems_27 rfl rfl ?_
    obtain ⟨zg1, hF⟩ := pd_gd_some hF
    refine pd_iald C (pd_lt (by decide) hn) sh_59 zg1 dX11_seems_28 ?_
    cases hF
    exact pd_iret C hE rfl rfl rfl ⟨by decide, by decide⟩ dX11_seems_29
  have hEzc1 : zc1 = false → pd_V cx 0 0 12 [some (.ref 0), some (.int p0)] [] I J (pd_RF Z) n := by
    intro hc
    have hF := pd_bf hc hF
    cases hF
    exact pd_throwNW (ik := 167) C hE rfl htab pd_tw3 wd_2_209 wd_1_19 (List.mem_of_getElem? (i := 24) rfl) dX11_seems_12 dX11_seems_15 dX11_seems_16 dX11_seems_19 dX11_seems_22 ⟨by decide, Nat.le_of_ble_eq_true rfl, by decide, by decide⟩
  replace hF := hS
  clear hS
  refine pd_if_lt (tgt := 12) C dX11_seems_1 (by decide) (fun zc3 => ?_) (fun zc3 => ?_)
  · have hF := pd_t zc3 hF
    cases hF
    exact hEzc1 rfl
  · have hF := pd_f zc3 hF
    refine pd_iload_n C dX11_seems_4 rfl rfl ?_
    refine pd_aload_n C dX11_seems_5 rfl rfl ?_
    refine gi_11_12 C wd_2_44 (pd_lt (by decide) hn) sh_0 dX11_seems_6 ?_
    refine pd_icmp_lt (tgt := 23) C dX11_seems_9 (by decide) (fun zc2 => ?_) (fun zc2 => ?_)
    · have hF := pd_t zc2 hF
      cases hF
      exact hTzc1 rfl
    · have hF := pd_f zc2 hF
      cases hF
      exact hEzc1 rfl

def fn_X11_wayOf (I : pd_I) (Z : pd_R) (n : Nat) (p0 : Int32) : Option (Except String (Nat)) := pd_bd (pd_bd (if p0 < 0 then some false else (pd_bd (fn_X10_count I) fun zr1 => if zr1 ≤ p0 then some false else (some true))) fun zc1 => if zc1 = true then pd_bd (fn_X10_wayAt Z n p0) fun zq2 => pd_gd (pd_isWay zq2) (some (some zq2)) else (some none)) fun (zo1 : Option Nat) => match zo1 with | none => some (.error "java/util/NoSuchElementException") | some zq1 => pd_gd (pd_isWay zq1) (some (.ok zq1))
set_option maxRecDepth 100000 in
set_option maxHeartbeats 4000000 in
theorem em_X11_wayOf {l : Launch} {D : va_G} {tc : Nat → ClassId} (hst : l.stackTraces = false) {I : pd_I} {J : pd_J} {Z : pd_R} {n : Nat} {p0 : Int32} (hn : 133 ≤ n)  {out : Except String (Nat)} (hF : fn_X11_wayOf I Z n p0 = some out) :
    pd_M l D tc yX11_wayOf (.code yX11_wayOf cX11_wayOf 3 (Option.some (Jvm.ClassFile.FieldType.object "PathDecoder$Way"))) rm_X11_wayOf [.ref 0, .int p0] I J (pd_RF Z) n (pd_oo (fun (p : Nat) => some (.ref p)) out) I J (pd_RF Z) n := by
  refine pd_open (own := "PathDecoder") (ls0 := [some (.ref 0), some (.int p0), none]) (by decide) rfl (Nat.le_of_ble_eq_true rfl) rfl rfl hst (fun cx hl hD htc C hE htab hnm => ?_)
  subst hl hD htc
  unfold fn_X11_wayOf at hF
  refine pd_iload_n C dX11_wayOf_0 rfl rfl ?_
  obtain ⟨zo1, hS, hF⟩ := pd_bd_some hF
  have hJ27 : pd_V cx 0 0 27 [none, none, none] [pd_rv zo1] I J (pd_RF Z) n := by
    refine pd_ostore_n (ls' := [none, none, some (pd_rv zo1)]) C dX11_wayOf_27 rfl (Nat.le_of_ble_eq_true rfl) rfl rfl ?_
    refine pd_oload_n C dX11_wayOf_28 rfl rfl ?_
    cases zo1 with
    | none =>
      refine pd_ifnonnullN C dX11_wayOf_29 ?_
      cases hF
      exact pd_throwNW (ik := 167) C hE rfl htab pd_tw3 wd_2_209 wd_1_19 (List.mem_of_getElem? (i := 25) rfl) dX11_wayOf_32 dX11_wayOf_35 dX11_wayOf_36 dX11_wayOf_39 dX11_wayOf_42 ⟨by decide, Nat.le_of_ble_eq_true rfl, by decide, by decide⟩
    | some zq1 =>
      obtain ⟨zg1, hF⟩ := pd_gd_some hF
      refine pd_ifnonnull (x := zq1) (tgt := 43) C dX11_wayOf_29 (by decide) ?_
      refine pd_aload_n C dX11_wayOf_43 rfl rfl ?_
      cases hF
      exact pd_aret C hE rfl ⟨by decide, by decide⟩ dX11_wayOf_44
  replace hF := hS
  clear hS
  obtain ⟨zc1, hS, hF⟩ := pd_bd_some hF
  have hTzc1 : zc1 = true → pd_V cx 0 0 15 [some (.ref 0), some (.int p0), none] [] I J (pd_RF Z) n := by
    intro hc
    have hF := pd_t hc hF
    refine pd_aload_n C dX11_wayOf_15 rfl rfl ?_
    refine gr_11_6 C wd_2_38 (pd_lt (by decide) hn) sh_0 (rf_0_6 _) dX11_wayOf_16 ?_
    refine pd_iload_n C dX11_wayOf_19 rfl rfl ?_
    obtain ⟨zq2, zh1, hF⟩ := pd_bd_some hF
    obtain ⟨zg2, hF⟩ := pd_gd_some hF
    refine pd_callV C [.int p0] [] (em_X10_wayAt (pd_C_st C) hn  zh1) mw_X10_wayAt wd_4_131 rfl (by decide) (pd_lt (by decide) hn) sh_16 ⟨by decide, by decide, by decide, by decide⟩ rfl (Nat.le_of_ble_eq_true rfl) pd_oldL_same (fun _ _ => pd_old_same _) dX11_wayOf_20 (stk' := [.ref zq2]) rfl ?_
    refine pd_goto (tgt := 27) C dX11_wayOf_23 (by decide) ?_
    refine pd_wk (ls' := [none, none, none]) True.intro ?_
    have hF := hF.symm
    cases hF
    exact hJ27
  have hEzc1 : zc1 = false → pd_V cx 0 0 26 [some (.ref 0), some (.int p0), none] [] I J (pd_RF Z) n := by
    intro hc
    have hF := pd_bf hc hF
    refine pd_null C dX11_wayOf_26 ?_
    refine pd_wk (ls' := [none, none, none]) True.intro ?_
    have hF := hF.symm
    cases hF
    exact hJ27
  replace hF := hS
  clear hS
  refine pd_if_lt (tgt := 26) C dX11_wayOf_1 (by decide) (fun zc3 => ?_) (fun zc3 => ?_)
  · have hF := pd_t zc3 hF
    cases hF
    exact hEzc1 rfl
  · have hF := pd_f zc3 hF
    refine pd_iload_n C dX11_wayOf_4 rfl rfl ?_
    refine pd_aload_n C dX11_wayOf_5 rfl rfl ?_
    refine gr_11_6 C wd_2_38 (pd_lt (by decide) hn) sh_0 (rf_0_6 _) dX11_wayOf_6 ?_
    obtain ⟨zr1, zh2, hF⟩ := pd_bd_some hF
    refine pd_callV C [] [.int p0] (em_X10_count (pd_C_st C) hn  zh2) mw_X10_count wd_4_127 rfl (by decide) (pd_lt (by decide) hn) sh_16 ⟨by decide, by decide, by decide, by decide⟩ rfl (Nat.le_of_ble_eq_true rfl) pd_oldL_same (fun _ _ => pd_old_same _) dX11_wayOf_9 (stk' := [.int zr1, .int p0]) rfl ?_
    refine pd_icmp_ge (tgt := 26) C dX11_wayOf_12 (by decide) (fun zc2 => ?_) (fun zc2 => ?_)
    · have hF := pd_t zc2 hF
      cases hF
      exact hEzc1 rfl
    · have hF := pd_f zc2 hF
      cases hF
      exact hTzc1 rfl

def fn_X11_way (I : pd_I) (Z : pd_R) (n : Nat) (p0 : Int32) (p1 : Int32) : Option (Except String (Int32)) := pd_bx (fn_X11_wayOf I Z n p0) fun zq1 => pd_gd (pd_isWay zq1) (pd_bd (if p1 < (-3) then some false else (if p1 < (I zq1 2) then some true else (some false))) fun zc1 => if zc1 = true then if p1 = (-3) then some (.ok (I zq1 2)) else (if p1 = (-2) then some (.ok (I zq1 1)) else (if p1 = (-1) then some (.ok (I zq1 0)) else (pd_gd (pd_in p1 200) (some (.ok (I (zq1 + 1) p1.toNatClampNeg)))))) else (some (.error "java/util/NoSuchElementException")))
set_option maxRecDepth 100000 in
set_option maxHeartbeats 4000000 in
theorem em_X11_way {l : Launch} {D : va_G} {tc : Nat → ClassId} (hst : l.stackTraces = false) {I : pd_I} {J : pd_J} {Z : pd_R} {n : Nat} {p0 : Int32} {p1 : Int32} (hn : 133 ≤ n)  {out : Except String (Int32)} (hF : fn_X11_way I Z n p0 p1 = some out) :
    pd_M l D tc yX11_way (.code yX11_way cX11_way 4 (Option.some Jvm.ClassFile.FieldType.int)) rm_X11_way [.ref 0, .int p0, .int p1] I J (pd_RF Z) n (pd_oo (fun (p : Int32) => some (.int p)) out) I J (pd_RF Z) n := by
  refine pd_open (own := "PathDecoder") (ls0 := [some (.ref 0), some (.int p0), some (.int p1), none]) (by decide) rfl (Nat.le_of_ble_eq_true rfl) rfl rfl hst (fun cx hl hD htc C hE htab hnm => ?_)
  subst hl hD htc
  unfold fn_X11_way at hF
  refine pd_aload_n C dX11_way_0 rfl rfl ?_
  refine pd_iload_n C dX11_way_1 rfl rfl ?_
  rcases pd_bx_some hF with ⟨e9, zh1, he9⟩ | ⟨zq1, zh1, hF⟩
  · subst he9
    exact pd_callVX C [.int p0] [] (em_X11_wayOf (pd_C_st C) hn  zh1) mw_X11_wayOf wd_5_26 rfl (by decide) (pd_lt (by decide) hn) sh_0 ⟨by decide, by decide, by decide, by decide⟩ rfl (Nat.le_of_ble_eq_true rfl) dX11_way_2 (pd_prop C hE rfl htab ⟨by decide, by decide⟩)
  obtain ⟨zg1, hF⟩ := pd_gd_some hF
  refine pd_callV C [.int p0] [] (em_X11_wayOf (pd_C_st C) hn  zh1) mw_X11_wayOf wd_5_26 rfl (by decide) (pd_lt (by decide) hn) sh_0 ⟨by decide, by decide, by decide, by decide⟩ rfl (Nat.le_of_ble_eq_true rfl) pd_oldL_same (fun _ _ => pd_old_same _) dX11_way_2 (stk' := [.ref zq1]) rfl ?_
  refine pd_astore_n (ls' := [some (.ref 0), some (.int p0), some (.int p1), some (.ref zq1)]) C dX11_way_5 rfl (Nat.le_of_ble_eq_true rfl) rfl rfl ?_
  refine pd_iload_n C dX11_way_6 rfl rfl ?_
  refine pd_bipush (v := (-3)) C dX11_way_7 (by decide) ?_
  obtain ⟨zc1, hS, hF⟩ := pd_bd_some hF
  have hTzc1 : zc1 = true → pd_V cx 1 6 31 [some (.ref 0), some (.int p0), some (.int p1), some (.ref zq1)] [] I J (pd_RF Z) n := by
    intro hc
    have hF := pd_t hc hF
    refine pd_iload_n C dX11_way_31 rfl rfl ?_
    by_cases hs0 : p1 = (-3)
    · have hF := pd_t hs0 hF
      refine pd_tabAt (tgt := 70) C dX11_way_32 hs0 (by decide) (by decide) rfl (by decide) ?_
      refine pd_aload_n C dX11_way_70 rfl rfl ?_
      refine gi_9_2 C wd_1_121 (pd_way_lt zg1 hn) (pd_way_sh zg1) dX11_way_71 ?_
      cases hF
      exact pd_iret C hE rfl rfl rfl ⟨by decide, by decide⟩ dX11_way_74
    have hF := pd_f hs0 hF
    by_cases hs1 : p1 = (-2)
    · have hF := pd_t hs1 hF
      refine pd_tabAt (tgt := 65) C dX11_way_32 hs1 (by decide) (by decide) rfl (by decide) ?_
      refine pd_aload_n C dX11_way_65 rfl rfl ?_
      refine gi_9_1 C wd_1_119 (pd_way_lt zg1 hn) (pd_way_sh zg1) dX11_way_66 ?_
      cases hF
      exact pd_iret C hE rfl rfl rfl ⟨by decide, by decide⟩ dX11_way_69
    have hF := pd_f hs1 hF
    by_cases hs2 : p1 = (-1)
    · have hF := pd_t hs2 hF
      refine pd_tabAt (tgt := 60) C dX11_way_32 hs2 (by decide) (by decide) rfl (by decide) ?_
      refine pd_aload_n C dX11_way_60 rfl rfl ?_
      refine gi_9_0 C wd_1_117 (pd_way_lt zg1 hn) (pd_way_sh zg1) dX11_way_61 ?_
      cases hF
      exact pd_iret C hE rfl rfl rfl ⟨by decide, by decide⟩ dX11_way_64
    have hF := pd_f hs2 hF
    have hsw : ∀ z : Int, z ≠ -3 → z ≠ -2 → z ≠ -1 → z < -3 ∨ -1 < z := fun z => by omega
    refine pd_tabOut (tgt := 75) C dX11_way_32 (hsw _ (fun z => hs0 (Int32.toInt_inj.mp (z.trans (by decide)))) (fun z => hs1 (Int32.toInt_inj.mp (z.trans (by decide)))) (fun z => hs2 (Int32.toInt_inj.mp (z.trans (by decide))))) (by decide) ?_
    refine pd_aload_n C dX11_way_75 rfl rfl ?_
    refine gr_9_3 C wd_1_124 (pd_way_lt zg1 hn) (pd_way_sh zg1) (pd_way_rf zg1) dX11_way_76 ?_
    refine pd_iload_n C dX11_way_79 rfl rfl ?_
    obtain ⟨zg2, hF⟩ := pd_gd_some hF
    refine pd_bald C (pd_way_lt1 zg1 hn) (pd_way_sh1 zg1) zg2 dX11_way_80 ?_
    cases hF
    exact pd_iret C hE rfl rfl rfl ⟨by decide, by decide⟩ dX11_way_81
  have hEzc1 : zc1 = false → pd_V cx 1 6 20 [some (.ref 0), some (.int p0), some (.int p1), some (.ref zq1)] [] I J (pd_RF Z) n := by
    intro hc
    have hF := pd_bf hc hF
    cases hF
    exact pd_throwNW (ik := 167) C hE rfl htab pd_tw3 wd_2_209 wd_1_19 (List.mem_of_getElem? (i := 26) rfl) dX11_way_20 dX11_way_23 dX11_way_24 dX11_way_27 dX11_way_30 ⟨by decide, Nat.le_of_ble_eq_true rfl, by decide, by decide⟩
  replace hF := hS
  clear hS
  refine pd_icmp_lt (tgt := 20) C dX11_way_9 (by decide) (fun zc3 => ?_) (fun zc3 => ?_)
  · have hF := pd_t zc3 hF
    cases hF
    exact hEzc1 rfl
  · have hF := pd_f zc3 hF
    refine pd_iload_n C dX11_way_12 rfl rfl ?_
    refine pd_aload_n C dX11_way_13 rfl rfl ?_
    refine gi_9_2 C wd_1_121 (pd_way_lt zg1 hn) (pd_way_sh zg1) dX11_way_14 ?_
    refine pd_icmp_lt (tgt := 31) C dX11_way_17 (by decide) (fun zc2 => ?_) (fun zc2 => ?_)
    · have hF := pd_t zc2 hF
      cases hF
      exact hTzc1 rfl
    · have hF := pd_f zc2 hF
      cases hF
      exact hEzc1 rfl

def fl_X11_take_25 {O : Type} (zq1 : Nat) (zq2 : Nat) (kont : pd_I → Option O) : Nat → Int32 → pd_I → Option O
  | 0, _, _ => none
  | fu + 1, zx1, zI2 => if (zI2 zq2 2) ≤ zx1 then kont zI2 else (pd_gd (pd_in zx1 200) (pd_bd (fn_X4_change zI2 zq1 zx1 (zI2 (zq2 + 1) zx1.toNatClampNeg)) fun zI4 => pd_let (zx1 + 1) fun zv1 => fl_X11_take_25 zq1 zq2 kont fu zv1 zI4))
set_option maxRecDepth 100000 in
set_option maxHeartbeats 4000000 in
theorem el_X11_take_25 {cx : pd_X} (C : pd_C cx "PathDecoder" cX11_take rm_X11_take) {zq1 : Nat} {zq2 : Nat} {J : pd_J} {Z : pd_R} {n : Nat} (hn : 133 ≤ n) (zg1 : pd_isRow zq1 = true) (zg2 : pd_isWay zq2 = true) {O : Type} {kont : pd_I → Option O} {out : O} (K : ∀ (zI3 : pd_I), kont zI3 = some out → pd_V cx 2 12 55 [none, none, none, none, some (.ref zq2), none] [] zI3 J (pd_RF Z) n) :
    ∀ (fu : Nat) (zx1 : Int32) (zI2 : pd_I), fl_X11_take_25 zq1 zq2 kont fu zx1 zI2 = some out → pd_V cx 2 12 25 [none, none, none, some (.ref zq1), some (.ref zq2), some (.int zx1)] [] zI2 J (pd_RF Z) n := by
  intro fu
  induction fu with
  | zero => intro zx1 zI2 hF; rw [fl_X11_take_25] at hF; cases hF
  | succ fu ih =>
    intro zx1 zI2 hF
    rw [fl_X11_take_25] at hF
    refine pd_iload C dX11_take_25 rfl ?_
    refine pd_aload C dX11_take_27 rfl ?_
    refine gi_9_2 C wd_1_121 (pd_way_lt zg2 hn) (pd_way_sh zg2) dX11_take_29 ?_
    refine pd_icmp_ge (tgt := 55) C dX11_take_32 (by decide) (fun zc1 => ?_) (fun zc1 => ?_)
    · have hF := pd_t zc1 hF
      refine pd_wk (ls' := [none, none, none, none, some (.ref zq2), none]) (And.intro rfl True.intro) ?_
      exact K _ hF
    · have hF := pd_f zc1 hF
      refine pd_aload_n C dX11_take_35 rfl rfl ?_
      refine pd_iload C dX11_take_36 rfl ?_
      refine pd_aload C dX11_take_38 rfl ?_
      refine gr_9_3 C wd_1_124 (pd_way_lt zg2 hn) (pd_way_sh zg2) (pd_way_rf zg2) dX11_take_40 ?_
      refine pd_iload C dX11_take_43 rfl ?_
      obtain ⟨zg3, hF⟩ := pd_gd_some hF
      refine pd_bald C (pd_way_lt1 zg2 hn) (pd_way_sh1 zg2) zg3 dX11_take_45 ?_
      obtain ⟨zI4, zh4, hF⟩ := pd_bd_some hF
      refine pd_callV C [.int zx1, .int (zI2 (zq2 + 1) zx1.toNatClampNeg)] [] (em_X4_change (pd_C_st C) hn zg1 zh4) mw_X4_change wd_2_235 rfl (by decide) (pd_row_lt zg1 hn) (pd_row_sh zg1) ⟨by decide, by decide, by decide, by decide⟩ rfl (Nat.le_of_ble_eq_true rfl) pd_oldL_same (fun _ _ => pd_old_same _) dX11_take_46 (stk' := []) rfl ?_
      refine pd_iincG (zz := 1) C dX11_take_49 rfl (by decide) rfl (fun zv1 hzv1 => ?_)
      have hF := pd_let_at hF hzv1
      refine pd_lsE (ls' := [none, none, none, some (.ref zq1), some (.ref zq2), some (.int zv1)]) rfl ?_
      refine pd_goto (tgt := 25) C dX11_take_52 (by decide) ?_
      exact ih _ _ hF
def fn_X11_take (I : pd_I) (Z : pd_R) (n : Nat) (p0 : Int32) (p1 : Int32) : Option (Except String (Int32 × pd_I)) := pd_bx (fn_X11_rowOf Z n p1) fun zq1 => pd_gd (pd_isRow zq1) (pd_bx (fn_X11_wayOf I Z n p0) fun zq2 => pd_gd (pd_isWay zq2) (pd_bd (fn_X4_begin I zq1 (I zq2 2)) fun zI1 => fl_X11_take_25 zq1 zq2 (fun zI3 => some (.ok ((zI3 zq2 2), zI3))) pd_FU 0 zI1))
set_option maxRecDepth 100000 in
set_option maxHeartbeats 4000000 in
theorem em_X11_take {l : Launch} {D : va_G} {tc : Nat → ClassId} (hst : l.stackTraces = false) {I : pd_I} {J : pd_J} {Z : pd_R} {n : Nat} {p0 : Int32} {p1 : Int32} (hn : 133 ≤ n)  {out : Except String (Int32 × pd_I)} (hF : fn_X11_take I Z n p0 p1 = some out) :
    pd_M l D tc yX11_take (.code yX11_take cX11_take 6 (Option.some Jvm.ClassFile.FieldType.int)) rm_X11_take [.ref 0, .int p0, .int p1] I J (pd_RF Z) n (pd_oo (fun (p : Int32 × pd_I) => some (.int p.1)) out) (pd_os (fun (p : Int32 × pd_I) => p.2) I out) J (pd_RF Z) n := by
  refine pd_open (own := "PathDecoder") (ls0 := [some (.ref 0), some (.int p0), some (.int p1), none, none, none]) (by decide) rfl (Nat.le_of_ble_eq_true rfl) rfl rfl hst (fun cx hl hD htc C hE htab hnm => ?_)
  subst hl hD htc
  unfold fn_X11_take at hF
  refine pd_aload_n C dX11_take_0 rfl rfl ?_
  refine pd_iload_n C dX11_take_1 rfl rfl ?_
  rcases pd_bx_some hF with ⟨e9, zh1, he9⟩ | ⟨zq1, zh1, hF⟩
  · subst he9
    exact pd_callVX C [.int p1] [] (em_X11_rowOf (pd_C_st C) hn  zh1) mw_X11_rowOf wd_2_88 rfl (by decide) (pd_lt (by decide) hn) sh_0 ⟨by decide, by decide, by decide, by decide⟩ rfl (Nat.le_of_ble_eq_true rfl) dX11_take_2 (pd_prop C hE rfl htab ⟨by decide, by decide⟩)
  obtain ⟨zg1, hF⟩ := pd_gd_some hF
  refine pd_callV C [.int p1] [] (em_X11_rowOf (pd_C_st C) hn  zh1) mw_X11_rowOf wd_2_88 rfl (by decide) (pd_lt (by decide) hn) sh_0 ⟨by decide, by decide, by decide, by decide⟩ rfl (Nat.le_of_ble_eq_true rfl) pd_oldL_same (fun _ _ => pd_old_same _) dX11_take_2 (stk' := [.ref zq1]) rfl ?_
  refine pd_astore_n (ls' := [some (.ref 0), some (.int p0), some (.int p1), some (.ref zq1), none, none]) C dX11_take_5 rfl (Nat.le_of_ble_eq_true rfl) rfl rfl ?_
  refine pd_aload_n C dX11_take_6 rfl rfl ?_
  refine pd_iload_n C dX11_take_7 rfl rfl ?_
  rcases pd_bx_some hF with ⟨e9, zh2, he9⟩ | ⟨zq2, zh2, hF⟩
  · subst he9
    exact pd_callVX C [.int p0] [] (em_X11_wayOf (pd_C_st C) hn  zh2) mw_X11_wayOf wd_5_26 rfl (by decide) (pd_lt (by decide) hn) sh_0 ⟨by decide, by decide, by decide, by decide⟩ rfl (Nat.le_of_ble_eq_true rfl) dX11_take_8 (pd_prop C hE rfl htab ⟨by decide, by decide⟩)
  obtain ⟨zg2, hF⟩ := pd_gd_some hF
  refine pd_callV C [.int p0] [] (em_X11_wayOf (pd_C_st C) hn  zh2) mw_X11_wayOf wd_5_26 rfl (by decide) (pd_lt (by decide) hn) sh_0 ⟨by decide, by decide, by decide, by decide⟩ rfl (Nat.le_of_ble_eq_true rfl) pd_oldL_same (fun _ _ => pd_old_same _) dX11_take_8 (stk' := [.ref zq2]) rfl ?_
  refine pd_astore (ls' := [some (.ref 0), some (.int p0), some (.int p1), some (.ref zq1), some (.ref zq2), none]) C dX11_take_11 (Nat.le_of_ble_eq_true rfl) rfl rfl ?_
  refine pd_aload_n C dX11_take_13 rfl rfl ?_
  refine pd_aload C dX11_take_14 rfl ?_
  refine gi_9_2 C wd_1_121 (pd_way_lt zg2 hn) (pd_way_sh zg2) dX11_take_16 ?_
  obtain ⟨zI1, zh3, hF⟩ := pd_bd_some hF
  refine pd_callV C [.int (I zq2 2)] [] (em_X4_begin (pd_C_st C) hn zg1 zh3) mw_X4_begin wd_2_179 rfl (by decide) (pd_row_lt zg1 hn) (pd_row_sh zg1) ⟨by decide, by decide, by decide, by decide⟩ rfl (Nat.le_of_ble_eq_true rfl) pd_oldL_same (fun _ _ => pd_old_same _) dX11_take_19 (stk' := []) rfl ?_
  refine pd_iconst (v := 0) C dX11_take_22 (by decide) ?_
  refine pd_istore (ls' := [some (.ref 0), some (.int p0), some (.int p1), some (.ref zq1), some (.ref zq2), some (.int 0)]) C dX11_take_23 (Nat.le_of_ble_eq_true rfl) rfl rfl ?_
  refine pd_wk (ls' := [none, none, none, some (.ref zq1), some (.ref zq2), some (.int 0)]) (And.intro rfl (And.intro rfl (And.intro rfl True.intro))) ?_
  refine el_X11_take_25 C hn zg1 zg2 (fun zI3 hF => ?_) pd_FU _ _ hF
  refine pd_aload C dX11_take_55 rfl ?_
  refine gi_9_2 C wd_1_121 (pd_way_lt zg2 hn) (pd_way_sh zg2) dX11_take_57 ?_
  cases hF
  exact pd_iret C hE rfl rfl rfl ⟨by decide, by decide⟩ dX11_take_60

def fn_X11_codeWithWeight (I : pd_I) (Z : pd_R) (n : Nat) (p0 : Int32) : Option (Except String (Nat)) := pd_bx (fn_X11_codeOf I Z n p0) fun zq1 => pd_gd (pd_isCode zq1 n) (pd_bd (if (I zq1 0) = 0 then some false else (if (I zq1 0) = 1 then some false else (some true))) fun zc1 => if zc1 = true then some (.error "java/util/NoSuchElementException") else (some (.ok zq1)))
set_option maxRecDepth 100000 in
set_option maxHeartbeats 4000000 in
theorem em_X11_codeWithWeight {l : Launch} {D : va_G} {tc : Nat → ClassId} (hst : l.stackTraces = false) {I : pd_I} {J : pd_J} {Z : pd_R} {n : Nat} {p0 : Int32} (hn : 133 ≤ n)  {out : Except String (Nat)} (hF : fn_X11_codeWithWeight I Z n p0 = some out) :
    pd_M l D tc yX11_codeWithWeight (.code yX11_codeWithWeight cX11_codeWithWeight 3 (Option.some (Jvm.ClassFile.FieldType.object "PathDecoder$Code"))) rm_X11_codeWithWeight [.ref 0, .int p0] I J (pd_RF Z) n (pd_oo (fun (p : Nat) => some (.ref p)) out) I J (pd_RF Z) n := by
  refine pd_open (own := "PathDecoder") (ls0 := [some (.ref 0), some (.int p0), none]) (by decide) rfl (Nat.le_of_ble_eq_true rfl) rfl rfl hst (fun cx hl hD htc C hE htab hnm => ?_)
  subst hl hD htc
  unfold fn_X11_codeWithWeight at hF
  refine pd_aload_n C dX11_codeWithWeight_0 rfl rfl ?_
  refine pd_iload_n C dX11_codeWithWeight_1 rfl rfl ?_
  rcases pd_bx_some hF with ⟨e9, zh1, he9⟩ | ⟨zq1, zh1, hF⟩
  · subst he9
    exact pd_callVX C [.int p0] [] (em_X11_codeOf (pd_C_st C) hn  zh1) mw_X11_codeOf wd_3_100 rfl (by decide) (pd_lt (by decide) hn) sh_0 ⟨by decide, by decide, by decide, by decide⟩ rfl (Nat.le_of_ble_eq_true rfl) dX11_codeWithWeight_2 (pd_prop C hE rfl htab ⟨by decide, by decide⟩)
  obtain ⟨zg1, hF⟩ := pd_gd_some hF
  refine pd_callV C [.int p0] [] (em_X11_codeOf (pd_C_st C) hn  zh1) mw_X11_codeOf wd_3_100 rfl (by decide) (pd_lt (by decide) hn) sh_0 ⟨by decide, by decide, by decide, by decide⟩ rfl (Nat.le_of_ble_eq_true rfl) pd_oldL_same (fun _ _ => pd_old_same _) dX11_codeWithWeight_2 (stk' := [.ref zq1]) rfl ?_
  refine pd_astore_n (ls' := [some (.ref 0), some (.int p0), some (.ref zq1)]) C dX11_codeWithWeight_5 rfl (Nat.le_of_ble_eq_true rfl) rfl rfl ?_
  refine pd_aload_n C dX11_codeWithWeight_6 rfl rfl ?_
  refine gi_0_0 C wd_3_60 (pd_code_lt zg1) (pd_code_sh zg1) dX11_codeWithWeight_7 ?_
  obtain ⟨zc1, hS, hF⟩ := pd_bd_some hF
  have hTzc1 : zc1 = true → pd_V cx 1 6 21 [some (.ref 0), some (.int p0), some (.ref zq1)] [] I J (pd_RF Z) n := by
    intro hc
    have hF := pd_t hc hF
    cases hF
    exact pd_throwNW (ik := 167) C hE rfl htab pd_tw3 wd_2_209 wd_1_19 (List.mem_of_getElem? (i := 27) rfl) dX11_codeWithWeight_21 dX11_codeWithWeight_24 dX11_codeWithWeight_25 dX11_codeWithWeight_28 dX11_codeWithWeight_31 ⟨by decide, Nat.le_of_ble_eq_true rfl, by decide, by decide⟩
  have hEzc1 : zc1 = false → pd_V cx 1 6 32 [some (.ref 0), some (.int p0), some (.ref zq1)] [] I J (pd_RF Z) n := by
    intro hc
    have hF := pd_bf hc hF
    refine pd_aload_n C dX11_codeWithWeight_32 rfl rfl ?_
    cases hF
    exact pd_aret C hE rfl ⟨by decide, by decide⟩ dX11_codeWithWeight_33
  replace hF := hS
  clear hS
  refine pd_if_eq (tgt := 32) C dX11_codeWithWeight_10 (by decide) (fun zc3 => ?_) (fun zc3 => ?_)
  · have hF := pd_t zc3 hF
    cases hF
    exact hEzc1 rfl
  · have hF := pd_f zc3 hF
    refine pd_aload_n C dX11_codeWithWeight_13 rfl rfl ?_
    refine gi_0_0 C wd_3_60 (pd_code_lt zg1) (pd_code_sh zg1) dX11_codeWithWeight_14 ?_
    refine pd_iconst (v := 1) C dX11_codeWithWeight_17 (by decide) ?_
    refine pd_icmp_eq (tgt := 32) C dX11_codeWithWeight_18 (by decide) (fun zc2 => ?_) (fun zc2 => ?_)
    · have hF := pd_t zc2 hF
      cases hF
      exact hEzc1 rfl
    · have hF := pd_f zc2 hF
      cases hF
      exact hTzc1 rfl

def fn_X7_weightOf (I : pd_I) (p0 : Int32) : Option Int32 := pd_gd (pd_in p0 128) (pd_bd (fn_J6_bitCount_0f7a4 (I 13 p0.toNatClampNeg)) fun zr1 => some zr1)
set_option maxRecDepth 100000 in
set_option maxHeartbeats 4000000 in
theorem em_X7_weightOf {l : Launch} {D : va_G} {tc : Nat → ClassId} (hst : l.stackTraces = false) {I : pd_I} {J : pd_J} {Z : pd_R} {n : Nat} {p0 : Int32} (hn : 133 ≤ n)  {out : Int32} (hF : fn_X7_weightOf I p0 = some out) :
    pd_M l D tc yX7_weightOf (.code yX7_weightOf cX7_weightOf 2 (Option.some Jvm.ClassFile.FieldType.int)) rm_X7_weightOf [.ref 54, .int p0] I J (pd_RF Z) n (.ok (some (.int out))) I J (pd_RF Z) n := by
  refine pd_open (own := "PathDecoder$Spectrum") (ls0 := [some (.ref 54), some (.int p0)]) (by decide) rfl (Nat.le_of_ble_eq_true rfl) rfl rfl hst (fun cx hl hD htc C hE htab hnm => ?_)
  subst hl hD htc
  unfold fn_X7_weightOf at hF
  refine pd_aload_n C dX7_weightOf_0 rfl rfl ?_
  refine gr_7_0 C wd_1_239 (pd_lt (by decide) hn) sh_54 (rf_54_0 _) dX7_weightOf_1 ?_
  refine gr_1_1 C wd_1_83 (pd_lt (by decide) hn) sh_11 (rf_11_1 _) dX7_weightOf_4 ?_
  refine pd_iload_n C dX7_weightOf_7 rfl rfl ?_
  obtain ⟨zg1, hF⟩ := pd_gd_some hF
  refine pd_iald C (pd_lt (by decide) hn) sh_13 zg1 dX7_weightOf_8 ?_
  obtain ⟨zr1, zh1, hF⟩ := pd_bd_some hF
  refine pd_callS C [.int (I 13 p0.toNatClampNeg)] [] (em_J6_bitCount_0f7a4 (pd_C_st C) hn  zh1) mw_J6_bitCount_0f7a4 wd_5_64 ⟨by decide, by decide, by decide, by decide⟩ rfl (Nat.le_of_ble_eq_true rfl) pd_oldL_same (fun _ _ => pd_old_same _) dX7_weightOf_9 (stk' := [.int zr1]) rfl ?_
  cases hF
  exact pd_iret C hE rfl rfl rfl ⟨by decide, by decide⟩ dX7_weightOf_12

def fn_X7_isSilent (I : pd_I) (p0 : Int32) : Option Int32 := pd_bd (fn_X7_weightOf I p0) fun zr1 => pd_bd (pd_bd (if zr1 = 0 then if (p0 / 2) = 0 then pd_gd (pd_in p0 128) (if (I 12 p0.toNatClampNeg) = 0 then some false else (some true)) else (some true) else (some false)) fun zc1 => if zc1 = true then some 1 else (some 0)) fun (zx1 : Int32) => pd_gd (pd_bo zx1) (some zx1)
set_option maxRecDepth 100000 in
set_option maxHeartbeats 4000000 in
theorem em_X7_isSilent {l : Launch} {D : va_G} {tc : Nat → ClassId} (hst : l.stackTraces = false) {I : pd_I} {J : pd_J} {Z : pd_R} {n : Nat} {p0 : Int32} (hn : 133 ≤ n)  {out : Int32} (hF : fn_X7_isSilent I p0 = some out) :
    pd_M l D tc yX7_isSilent (.code yX7_isSilent cX7_isSilent 2 (Option.some Jvm.ClassFile.FieldType.boolean)) rm_X7_isSilent [.ref 54, .int p0] I J (pd_RF Z) n (.ok (some (.int out))) I J (pd_RF Z) n := by
  refine pd_open (own := "PathDecoder$Spectrum") (ls0 := [some (.ref 54), some (.int p0)]) (by decide) rfl (Nat.le_of_ble_eq_true rfl) rfl rfl hst (fun cx hl hD htc C hE htab hnm => ?_)
  subst hl hD htc
  unfold fn_X7_isSilent at hF
  refine pd_aload_n C dX7_isSilent_0 rfl rfl ?_
  refine pd_iload_n C dX7_isSilent_1 rfl rfl ?_
  obtain ⟨zr1, zh1, hF⟩ := pd_bd_some hF
  refine pd_callV C [.int p0] [] (em_X7_weightOf (pd_C_st C) hn  zh1) mw_X7_weightOf wd_5_60 rfl (by decide) (pd_lt (by decide) hn) sh_54 ⟨by decide, by decide, by decide, by decide⟩ rfl (Nat.le_of_ble_eq_true rfl) pd_oldL_same (fun _ _ => pd_old_same _) dX7_isSilent_2 (stk' := [.int zr1]) rfl ?_
  obtain ⟨zx1, hS, hF⟩ := pd_bd_some hF
  have hJ31 : pd_V cx 0 0 31 [none, none] [.int zx1] I J (pd_RF Z) n := by
    obtain ⟨zg1, hF⟩ := pd_gd_some hF
    cases hF
    exact pd_iret C hE rfl rfl (pd_bo_nar zg1) ⟨by decide, by decide⟩ dX7_isSilent_31
  replace hF := hS
  clear hS
  obtain ⟨zc1, hS, hF⟩ := pd_bd_some hF
  have hTzc1 : zc1 = true → pd_V cx 0 0 26 [some (.ref 54), some (.int p0)] [] I J (pd_RF Z) n := by
    intro hc
    have hF := pd_t hc hF
    refine pd_iconst (v := 1) C dX7_isSilent_26 (by decide) ?_
    refine pd_goto (tgt := 31) C dX7_isSilent_27 (by decide) ?_
    refine pd_wk (ls' := [none, none]) True.intro ?_
    have hF := hF.symm
    cases hF
    exact hJ31
  have hEzc1 : zc1 = false → pd_V cx 0 0 30 [some (.ref 54), some (.int p0)] [] I J (pd_RF Z) n := by
    intro hc
    have hF := pd_bf hc hF
    refine pd_iconst (v := 0) C dX7_isSilent_30 (by decide) ?_
    refine pd_wk (ls' := [none, none]) True.intro ?_
    have hF := hF.symm
    cases hF
    exact hJ31
  replace hF := hS
  clear hS
  refine pd_if_ne (tgt := 30) C dX7_isSilent_5 (by decide) (fun zc4 => ?_) (fun zc4 => ?_)
  · have hF := pd_f zc4 hF
    cases hF
    exact hEzc1 rfl
  · have hF := pd_t zc4 hF
    refine pd_iload_n C dX7_isSilent_8 rfl rfl ?_
    refine pd_iconst (v := 2) C dX7_isSilent_9 (by decide) ?_
    refine pd_idiv C dX7_isSilent_10 (by decide) ?_
    refine pd_if_ne (tgt := 26) C dX7_isSilent_11 (by decide) (fun zc3 => ?_) (fun zc3 => ?_)
    · have hF := pd_f zc3 hF
      cases hF
      exact hTzc1 rfl
    · have hF := pd_t zc3 hF
      refine pd_aload_n C dX7_isSilent_14 rfl rfl ?_
      refine gr_7_0 C wd_1_239 (pd_lt (by decide) hn) sh_54 (rf_54_0 _) dX7_isSilent_15 ?_
      refine gr_1_0 C wd_1_79 (pd_lt (by decide) hn) sh_11 (rf_11_0 _) dX7_isSilent_18 ?_
      refine pd_iload_n C dX7_isSilent_21 rfl rfl ?_
      obtain ⟨zg2, hF⟩ := pd_gd_some hF
      refine pd_iald C (pd_lt (by decide) hn) sh_12 zg2 dX7_isSilent_22 ?_
      refine pd_if_eq (tgt := 30) C dX7_isSilent_23 (by decide) (fun zc2 => ?_) (fun zc2 => ?_)
      · have hF := pd_t zc2 hF
        cases hF
        exact hEzc1 rfl
      · have hF := pd_f zc2 hF
        cases hF
        exact hTzc1 rfl

def fn_X7_addIfFree (I : pd_I) (p0 : Int32) : Option pd_I := pd_gd (pd_in p0 64) (pd_bd (pd_bd (if (I 56 p0.toNatClampNeg) = 0 then if 64 ≤ (I 54 2) then some false else (some true) else (some false)) fun zc1 => if zc1 = true then pd_gd (pd_in (I 54 2) 64) (pd_let (pd_ui I 55 (I 54 2).toNatClampNeg p0) fun zI2 => pd_let (pd_ui zI2 54 2 ((zI2 54 2) + 1)) fun zI3 => some zI3) else (some I)) fun (zI1 : pd_I) => some zI1)
set_option maxRecDepth 100000 in
set_option maxHeartbeats 4000000 in
theorem em_X7_addIfFree {l : Launch} {D : va_G} {tc : Nat → ClassId} (hst : l.stackTraces = false) {I : pd_I} {J : pd_J} {Z : pd_R} {n : Nat} {p0 : Int32} (hn : 133 ≤ n)  {out : pd_I} (hF : fn_X7_addIfFree I p0 = some out) :
    pd_M l D tc yX7_addIfFree (.code yX7_addIfFree cX7_addIfFree 2 (Option.none : Option Jvm.ClassFile.FieldType)) rm_X7_addIfFree [.ref 54, .int p0] I J (pd_RF Z) n (.ok (none)) out J (pd_RF Z) n := by
  refine pd_open (own := "PathDecoder$Spectrum") (ls0 := [some (.ref 54), some (.int p0)]) (by decide) rfl (Nat.le_of_ble_eq_true rfl) rfl rfl hst (fun cx hl hD htc C hE htab hnm => ?_)
  subst hl hD htc
  unfold fn_X7_addIfFree at hF
  refine pd_aload_n C dX7_addIfFree_0 rfl rfl ?_
  refine gr_7_3 C wd_2_2 (pd_lt (by decide) hn) sh_54 (rf_54_3 _) dX7_addIfFree_1 ?_
  refine pd_iload_n C dX7_addIfFree_4 rfl rfl ?_
  obtain ⟨zg1, hF⟩ := pd_gd_some hF
  refine pd_iald C (pd_lt (by decide) hn) sh_56 zg1 dX7_addIfFree_5 ?_
  obtain ⟨zI1, hS, hF⟩ := pd_bd_some hF
  have hJ38 : pd_V cx 0 0 38 [none, none] [] zI1 J (pd_RF Z) n := by
    cases hF
    exact pd_vret C hE rfl ⟨by decide, by decide⟩ dX7_addIfFree_38
  replace hF := hS
  clear hS
  obtain ⟨zc1, hS, hF⟩ := pd_bd_some hF
  have hTzc1 : zc1 = true → pd_V cx 0 0 18 [some (.ref 54), some (.int p0)] [] I J (pd_RF Z) n := by
    intro hc
    have hF := pd_t hc hF
    refine pd_aload_n C dX7_addIfFree_18 rfl rfl ?_
    refine gr_7_1 C wd_2_0 (pd_lt (by decide) hn) sh_54 (rf_54_1 _) dX7_addIfFree_19 ?_
    refine pd_aload_n C dX7_addIfFree_22 rfl rfl ?_
    refine gi_7_2 C wd_2_1 (pd_lt (by decide) hn) sh_54 dX7_addIfFree_23 ?_
    refine pd_iload_n C dX7_addIfFree_26 rfl rfl ?_
    obtain ⟨zg2, hF⟩ := pd_gd_some hF
    refine pd_iast C (pd_lt (by decide) hn) sh_55 zg2 dX7_addIfFree_27 ?_
    refine pd_memI (fun zI2 hzI2 => ?_)
    have hF := pd_let_at hF hzI2
    refine pd_aload_n C dX7_addIfFree_28 rfl rfl ?_
    refine pd_dup C dX7_addIfFree_29 rfl ?_
    refine gi_7_2 C wd_2_1 (pd_lt (by decide) hn) sh_54 dX7_addIfFree_30 ?_
    refine pd_iconst (v := 1) C dX7_addIfFree_33 (by decide) ?_
    refine pd_iadd C dX7_addIfFree_34 ?_
    refine pi_7_2 C wd_2_1 rfl rfl (pd_lt (by decide) hn) sh_54 dX7_addIfFree_35 ?_
    refine pd_memI (fun zI3 hzI3 => ?_)
    have hF := pd_let_at hF hzI3
    refine pd_wk (ls' := [none, none]) True.intro ?_
    have hF := hF.symm
    cases hF
    exact hJ38
  have hEzc1 : zc1 = false → pd_V cx 0 0 38 [some (.ref 54), some (.int p0)] [] I J (pd_RF Z) n := by
    intro hc
    have hF := pd_bf hc hF
    refine pd_wk (ls' := [none, none]) True.intro ?_
    have hF := hF.symm
    cases hF
    exact hJ38
  replace hF := hS
  clear hS
  refine pd_if_ne (tgt := 38) C dX7_addIfFree_6 (by decide) (fun zc3 => ?_) (fun zc3 => ?_)
  · have hF := pd_f zc3 hF
    cases hF
    exact hEzc1 rfl
  · have hF := pd_t zc3 hF
    refine pd_aload_n C dX7_addIfFree_9 rfl rfl ?_
    refine gi_7_2 C wd_2_1 (pd_lt (by decide) hn) sh_54 dX7_addIfFree_10 ?_
    refine pd_bipush (v := 64) C dX7_addIfFree_13 (by decide) ?_
    refine pd_icmp_ge (tgt := 38) C dX7_addIfFree_15 (by decide) (fun zc2 => ?_) (fun zc2 => ?_)
    · have hF := pd_t zc2 hF
      cases hF
      exact hEzc1 rfl
    · have hF := pd_f zc2 hF
      cases hF
      exact hTzc1 rfl

def fl_X7_read_10 {O : Type}  (kont : pd_I → Option O) : Nat → Int32 → pd_I → Option O
  | 0, _, _ => none
  | fu + 1, zx1, zI2 => if (zI2 11 3) ≤ zx1 then kont zI2 else (pd_gd (pd_in zx1 64) (pd_let (pd_ui zI2 56 zx1.toNatClampNeg 0) fun zI4 => pd_let (zx1 + 1) fun zv1 => fl_X7_read_10 kont fu zv1 zI4))
set_option maxRecDepth 100000 in
set_option maxHeartbeats 4000000 in
theorem el_X7_read_10 {cx : pd_X} (C : pd_C cx "PathDecoder$Spectrum" cX7_read rm_X7_read) {J : pd_J} {Z : pd_R} {n : Nat} (hn : 133 ≤ n)  {O : Type} {kont : pd_I → Option O} {out : O} (K : ∀ (zI3 : pd_I), kont zI3 = some out → pd_V cx 0 0 34 [some (.ref 54), none, none, none] [] zI3 J (pd_RF Z) n) :
    ∀ (fu : Nat) (zx1 : Int32) (zI2 : pd_I), fl_X7_read_10 kont fu zx1 zI2 = some out → pd_V cx 0 0 10 [some (.ref 54), none, some (.int zx1), none] [] zI2 J (pd_RF Z) n := by
  intro fu
  induction fu with
  | zero => intro zx1 zI2 hF; rw [fl_X7_read_10] at hF; cases hF
  | succ fu ih =>
    intro zx1 zI2 hF
    rw [fl_X7_read_10] at hF
    refine pd_iload_n C dX7_read_10 rfl rfl ?_
    refine pd_aload_n C dX7_read_11 rfl rfl ?_
    refine gr_7_0 C wd_1_239 (pd_lt (by decide) hn) sh_54 (rf_54_0 _) dX7_read_12 ?_
    refine gi_1_3 C wd_1_89 (pd_lt (by decide) hn) sh_11 dX7_read_15 ?_
    refine pd_icmp_ge (tgt := 34) C dX7_read_18 (by decide) (fun zc1 => ?_) (fun zc1 => ?_)
    · have hF := pd_t zc1 hF
      refine pd_wk (ls' := [some (.ref 54), none, none, none]) (And.intro rfl True.intro) ?_
      exact K _ hF
    · have hF := pd_f zc1 hF
      refine pd_aload_n C dX7_read_21 rfl rfl ?_
      refine gr_7_3 C wd_2_2 (pd_lt (by decide) hn) sh_54 (rf_54_3 _) dX7_read_22 ?_
      refine pd_iload_n C dX7_read_25 rfl rfl ?_
      refine pd_iconst (v := 0) C dX7_read_26 (by decide) ?_
      obtain ⟨zg1, hF⟩ := pd_gd_some hF
      refine pd_iast C (pd_lt (by decide) hn) sh_56 zg1 dX7_read_27 ?_
      refine pd_memI (fun zI4 hzI4 => ?_)
      have hF := pd_let_at hF hzI4
      refine pd_iincG (zz := 1) C dX7_read_28 rfl (by decide) rfl (fun zv1 hzv1 => ?_)
      have hF := pd_let_at hF hzv1
      refine pd_lsE (ls' := [some (.ref 54), none, some (.int zv1), none]) rfl ?_
      refine pd_goto (tgt := 10) C dX7_read_31 (by decide) ?_
      exact ih _ _ hF
def fl_X7_read_36 {O : Type}  (kont : pd_I → Option O) : Nat → Int32 → pd_I → Option O
  | 0, _, _ => none
  | fu + 1, zx2, zI5 => if (2 * (zI5 11 3)) ≤ zx2 then kont zI5 else (pd_gd (pd_in zx2 128) (pd_gd (pd_in (zI5 12 zx2.toNatClampNeg) 64) (pd_bd (fn_X7_isSilent zI5 zx2) fun zr1 => pd_bd (if zr1 = 0 then some 0 else (some 1)) fun (zx3 : Int32) => pd_gd (pd_in (zI5 12 zx2.toNatClampNeg) 64) (pd_let (pd_ui zI5 56 (zI5 12 zx2.toNatClampNeg).toNatClampNeg ((zI5 56 (zI5 12 zx2.toNatClampNeg).toNatClampNeg) + zx3)) fun zI7 => pd_let (zx2 + 1) fun zv2 => fl_X7_read_36 kont fu zv2 zI7))))
set_option maxRecDepth 100000 in
set_option maxHeartbeats 4000000 in
theorem el_X7_read_36 {cx : pd_X} (C : pd_C cx "PathDecoder$Spectrum" cX7_read rm_X7_read) {J : pd_J} {Z : pd_R} {n : Nat} (hn : 133 ≤ n)  {O : Type} {kont : pd_I → Option O} {out : O} (K : ∀ (zI6 : pd_I), kont zI6 = some out → pd_V cx 0 0 85 [some (.ref 54), none, none, none] [] zI6 J (pd_RF Z) n) :
    ∀ (fu : Nat) (zx2 : Int32) (zI5 : pd_I), fl_X7_read_36 kont fu zx2 zI5 = some out → pd_V cx 0 0 36 [some (.ref 54), none, some (.int zx2), none] [] zI5 J (pd_RF Z) n := by
  intro fu
  induction fu with
  | zero => intro zx2 zI5 hF; rw [fl_X7_read_36] at hF; cases hF
  | succ fu ih =>
    intro zx2 zI5 hF
    rw [fl_X7_read_36] at hF
    refine pd_iload_n C dX7_read_36 rfl rfl ?_
    refine pd_iconst (v := 2) C dX7_read_37 (by decide) ?_
    refine pd_aload_n C dX7_read_38 rfl rfl ?_
    refine gr_7_0 C wd_1_239 (pd_lt (by decide) hn) sh_54 (rf_54_0 _) dX7_read_39 ?_
    refine gi_1_3 C wd_1_89 (pd_lt (by decide) hn) sh_11 dX7_read_42 ?_
    refine pd_imul C dX7_read_45 ?_
    refine pd_icmp_ge (tgt := 85) C dX7_read_46 (by decide) (fun zc3 => ?_) (fun zc3 => ?_)
    · have hF := pd_t zc3 hF
      refine pd_wk (ls' := [some (.ref 54), none, none, none]) (And.intro rfl True.intro) ?_
      exact K _ hF
    · have hF := pd_f zc3 hF
      refine pd_aload_n C dX7_read_49 rfl rfl ?_
      refine gr_7_3 C wd_2_2 (pd_lt (by decide) hn) sh_54 (rf_54_3 _) dX7_read_50 ?_
      refine pd_aload_n C dX7_read_53 rfl rfl ?_
      refine gr_7_0 C wd_1_239 (pd_lt (by decide) hn) sh_54 (rf_54_0 _) dX7_read_54 ?_
      refine gr_1_0 C wd_1_79 (pd_lt (by decide) hn) sh_11 (rf_11_0 _) dX7_read_57 ?_
      refine pd_iload_n C dX7_read_60 rfl rfl ?_
      obtain ⟨zg2, hF⟩ := pd_gd_some hF
      refine pd_iald C (pd_lt (by decide) hn) sh_12 zg2 dX7_read_61 ?_
      refine pd_dup2 C dX7_read_62 rfl rfl ?_
      obtain ⟨zg3, hF⟩ := pd_gd_some hF
      refine pd_iald C (pd_lt (by decide) hn) sh_56 zg3 dX7_read_63 ?_
      refine pd_aload_n C dX7_read_64 rfl rfl ?_
      refine pd_iload_n C dX7_read_65 rfl rfl ?_
      obtain ⟨zr1, zh2, hF⟩ := pd_bd_some hF
      refine pd_callV C [.int zx2] [.int (zI5 56 (zI5 12 zx2.toNatClampNeg).toNatClampNeg), .int (zI5 12 zx2.toNatClampNeg), .ref 56] (em_X7_isSilent (pd_C_st C) hn  zh2) mw_X7_isSilent wd_5_56 rfl (by decide) (pd_lt (by decide) hn) sh_54 ⟨by decide, by decide, by decide, by decide⟩ rfl (Nat.le_of_ble_eq_true rfl) pd_oldL_same (fun _ _ => pd_old_same _) dX7_read_66 (stk' := [.int zr1, .int (zI5 56 (zI5 12 zx2.toNatClampNeg).toNatClampNeg), .int (zI5 12 zx2.toNatClampNeg), .ref 56]) rfl ?_
      obtain ⟨zx3, hS, hF⟩ := pd_bd_some hF
      have hJ77 : pd_V cx 0 0 77 [some (.ref 54), none, some (.int zx2), none] [.int zx3, .int (zI5 56 (zI5 12 zx2.toNatClampNeg).toNatClampNeg), .int (zI5 12 zx2.toNatClampNeg), .ref 56] zI5 J (pd_RF Z) n := by
        refine pd_iadd C dX7_read_77 ?_
        obtain ⟨zg4, hF⟩ := pd_gd_some hF
        refine pd_iast C (pd_lt (by decide) hn) sh_56 zg4 dX7_read_78 ?_
        refine pd_memI (fun zI7 hzI7 => ?_)
        have hF := pd_let_at hF hzI7
        refine pd_iincG (zz := 1) C dX7_read_79 rfl (by decide) rfl (fun zv2 hzv2 => ?_)
        have hF := pd_let_at hF hzv2
        refine pd_lsE (ls' := [some (.ref 54), none, some (.int zv2), none]) rfl ?_
        refine pd_goto (tgt := 36) C dX7_read_82 (by decide) ?_
        exact ih _ _ hF
      replace hF := hS
      clear hS
      refine pd_if_eq (tgt := 76) C dX7_read_69 (by decide) (fun zc2 => ?_) (fun zc2 => ?_)
      · have hF := pd_t zc2 hF
        refine pd_iconst (v := 0) C dX7_read_76 (by decide) ?_
        have hF := hF.symm
        cases hF
        exact hJ77
      · have hF := pd_f zc2 hF
        refine pd_iconst (v := 1) C dX7_read_72 (by decide) ?_
        refine pd_goto (tgt := 77) C dX7_read_73 (by decide) ?_
        have hF := hF.symm
        cases hF
        exact hJ77
def fl_X7_read_92 {O : Type}  (kont : pd_I → Option O) : Nat → Int32 → pd_I → Option O
  | 0, _, _ => none
  | fu + 1, zx4, zI9 => if (zI9 11 3) ≤ zx4 then kont zI9 else (pd_bd (fn_X7_addIfFree zI9 zx4) fun zI11 => pd_let (zx4 + 1) fun zv3 => fl_X7_read_92 kont fu zv3 zI11)
set_option maxRecDepth 100000 in
set_option maxHeartbeats 4000000 in
theorem el_X7_read_92 {cx : pd_X} (C : pd_C cx "PathDecoder$Spectrum" cX7_read rm_X7_read) {J : pd_J} {Z : pd_R} {n : Nat} (hn : 133 ≤ n)  {O : Type} {kont : pd_I → Option O} {out : O} (K : ∀ (zI10 : pd_I), kont zI10 = some out → pd_V cx 0 0 114 [some (.ref 54), none, none, none] [] zI10 J (pd_RF Z) n) :
    ∀ (fu : Nat) (zx4 : Int32) (zI9 : pd_I), fl_X7_read_92 kont fu zx4 zI9 = some out → pd_V cx 0 0 92 [some (.ref 54), none, some (.int zx4), none] [] zI9 J (pd_RF Z) n := by
  intro fu
  induction fu with
  | zero => intro zx4 zI9 hF; rw [fl_X7_read_92] at hF; cases hF
  | succ fu ih =>
    intro zx4 zI9 hF
    rw [fl_X7_read_92] at hF
    refine pd_iload_n C dX7_read_92 rfl rfl ?_
    refine pd_aload_n C dX7_read_93 rfl rfl ?_
    refine gr_7_0 C wd_1_239 (pd_lt (by decide) hn) sh_54 (rf_54_0 _) dX7_read_94 ?_
    refine gi_1_3 C wd_1_89 (pd_lt (by decide) hn) sh_11 dX7_read_97 ?_
    refine pd_icmp_ge (tgt := 114) C dX7_read_100 (by decide) (fun zc4 => ?_) (fun zc4 => ?_)
    · have hF := pd_t zc4 hF
      refine pd_wk (ls' := [some (.ref 54), none, none, none]) (And.intro rfl True.intro) ?_
      exact K _ hF
    · have hF := pd_f zc4 hF
      refine pd_aload_n C dX7_read_103 rfl rfl ?_
      refine pd_iload_n C dX7_read_104 rfl rfl ?_
      obtain ⟨zI11, zh3, hF⟩ := pd_bd_some hF
      refine pd_callV C [.int zx4] [] (em_X7_addIfFree (pd_C_st C) hn  zh3) mw_X7_addIfFree wd_5_65 rfl (by decide) (pd_lt (by decide) hn) sh_54 ⟨by decide, by decide, by decide, by decide⟩ rfl (Nat.le_of_ble_eq_true rfl) pd_oldL_same (fun _ _ => pd_old_same _) dX7_read_105 (stk' := []) rfl ?_
      refine pd_iincG (zz := 1) C dX7_read_108 rfl (by decide) rfl (fun zv3 hzv3 => ?_)
      have hF := pd_let_at hF hzv3
      refine pd_lsE (ls' := [some (.ref 54), none, some (.int zv3), none]) rfl ?_
      refine pd_goto (tgt := 92) C dX7_read_111 (by decide) ?_
      exact ih _ _ hF
def fl_X7_read_144 {O : Type} (zx5 : Int32) (kont : pd_I → Option O) : Nat → Int32 → pd_I → Option O
  | 0, _, _ => none
  | fu + 1, zx6, zI14 => pd_gd (pd_in zx5 64) (if ((2 * (zI14 55 zx5.toNatClampNeg)) + 1) < zx6 then kont zI14 else (pd_bd (fn_X7_isSilent zI14 zx6) fun zr2 => pd_bd (if zr2 = 0 then some zI14 else (pd_gd (pd_in zx6 128) (pd_gd (pd_in (zI14 12 zx6.toNatClampNeg) 64) (pd_gd (pd_in (zI14 12 zx6.toNatClampNeg) 64) (pd_let (pd_ui zI14 56 (zI14 12 zx6.toNatClampNeg).toNatClampNeg ((zI14 56 (zI14 12 zx6.toNatClampNeg).toNatClampNeg) - 1)) fun zI17 => pd_gd (pd_in zx6 128) (pd_bd (fn_X7_addIfFree zI17 (zI17 12 zx6.toNatClampNeg)) fun zI18 => some zI18)))))) fun (zI16 : pd_I) => pd_let (zx6 + 1) fun zv5 => fl_X7_read_144 zx5 kont fu zv5 zI16))
set_option maxRecDepth 100000 in
set_option maxHeartbeats 4000000 in
theorem el_X7_read_144 {cx : pd_X} (C : pd_C cx "PathDecoder$Spectrum" cX7_read rm_X7_read) {zx5 : Int32} {J : pd_J} {Z : pd_R} {n : Nat} (hn : 133 ≤ n)  {O : Type} {kont : pd_I → Option O} {out : O} (K : ∀ (zI15 : pd_I), kont zI15 = some out → pd_V cx 0 0 203 [some (.ref 54), none, some (.int zx5), none] [] zI15 J (pd_RF Z) n) :
    ∀ (fu : Nat) (zx6 : Int32) (zI14 : pd_I), fl_X7_read_144 zx5 kont fu zx6 zI14 = some out → pd_V cx 0 0 144 [some (.ref 54), none, some (.int zx5), some (.int zx6)] [] zI14 J (pd_RF Z) n := by
  intro fu
  induction fu with
  | zero => intro zx6 zI14 hF; rw [fl_X7_read_144] at hF; cases hF
  | succ fu ih =>
    intro zx6 zI14 hF
    rw [fl_X7_read_144] at hF
    refine pd_iload_n C dX7_read_144 rfl rfl ?_
    refine pd_iconst (v := 2) C dX7_read_145 (by decide) ?_
    refine pd_aload_n C dX7_read_146 rfl rfl ?_
    refine gr_7_1 C wd_2_0 (pd_lt (by decide) hn) sh_54 (rf_54_1 _) dX7_read_147 ?_
    refine pd_iload_n C dX7_read_150 rfl rfl ?_
    obtain ⟨zg6, hF⟩ := pd_gd_some hF
    refine pd_iald C (pd_lt (by decide) hn) sh_55 zg6 dX7_read_151 ?_
    refine pd_imul C dX7_read_152 ?_
    refine pd_iconst (v := 1) C dX7_read_153 (by decide) ?_
    refine pd_iadd C dX7_read_154 ?_
    refine pd_icmp_gt (tgt := 203) C dX7_read_155 (by decide) (fun zc7 => ?_) (fun zc7 => ?_)
    · have hF := pd_t zc7 hF
      refine pd_wk (ls' := [some (.ref 54), none, some (.int zx5), none]) (And.intro rfl (And.intro rfl True.intro)) ?_
      exact K _ hF
    · have hF := pd_f zc7 hF
      refine pd_aload_n C dX7_read_158 rfl rfl ?_
      refine pd_iload_n C dX7_read_159 rfl rfl ?_
      obtain ⟨zr2, zh4, hF⟩ := pd_bd_some hF
      refine pd_callV C [.int zx6] [] (em_X7_isSilent (pd_C_st C) hn  zh4) mw_X7_isSilent wd_5_56 rfl (by decide) (pd_lt (by decide) hn) sh_54 ⟨by decide, by decide, by decide, by decide⟩ rfl (Nat.le_of_ble_eq_true rfl) pd_oldL_same (fun _ _ => pd_old_same _) dX7_read_160 (stk' := [.int zr2]) rfl ?_
      obtain ⟨zI16, hS, hF⟩ := pd_bd_some hF
      have hJ197 : pd_V cx 0 0 197 [some (.ref 54), none, some (.int zx5), some (.int zx6)] [] zI16 J (pd_RF Z) n := by
        refine pd_iincG (zz := 1) C dX7_read_197 rfl (by decide) rfl (fun zv5 hzv5 => ?_)
        have hF := pd_let_at hF hzv5
        refine pd_lsE (ls' := [some (.ref 54), none, some (.int zx5), some (.int zv5)]) rfl ?_
        refine pd_goto (tgt := 144) C dX7_read_200 (by decide) ?_
        exact ih _ _ hF
      replace hF := hS
      clear hS
      refine pd_if_eq (tgt := 197) C dX7_read_163 (by decide) (fun zc6 => ?_) (fun zc6 => ?_)
      · have hF := pd_t zc6 hF
        have hF := hF.symm
        cases hF
        exact hJ197
      · have hF := pd_f zc6 hF
        refine pd_aload_n C dX7_read_166 rfl rfl ?_
        refine gr_7_3 C wd_2_2 (pd_lt (by decide) hn) sh_54 (rf_54_3 _) dX7_read_167 ?_
        refine pd_aload_n C dX7_read_170 rfl rfl ?_
        refine gr_7_0 C wd_1_239 (pd_lt (by decide) hn) sh_54 (rf_54_0 _) dX7_read_171 ?_
        refine gr_1_0 C wd_1_79 (pd_lt (by decide) hn) sh_11 (rf_11_0 _) dX7_read_174 ?_
        refine pd_iload_n C dX7_read_177 rfl rfl ?_
        obtain ⟨zg7, hF⟩ := pd_gd_some hF
        refine pd_iald C (pd_lt (by decide) hn) sh_12 zg7 dX7_read_178 ?_
        refine pd_dup2 C dX7_read_179 rfl rfl ?_
        obtain ⟨zg8, hF⟩ := pd_gd_some hF
        refine pd_iald C (pd_lt (by decide) hn) sh_56 zg8 dX7_read_180 ?_
        refine pd_iconst (v := 1) C dX7_read_181 (by decide) ?_
        refine pd_isub C dX7_read_182 ?_
        obtain ⟨zg9, hF⟩ := pd_gd_some hF
        refine pd_iast C (pd_lt (by decide) hn) sh_56 zg9 dX7_read_183 ?_
        refine pd_memI (fun zI17 hzI17 => ?_)
        have hF := pd_let_at hF hzI17
        refine pd_aload_n C dX7_read_184 rfl rfl ?_
        refine pd_aload_n C dX7_read_185 rfl rfl ?_
        refine gr_7_0 C wd_1_239 (pd_lt (by decide) hn) sh_54 (rf_54_0 _) dX7_read_186 ?_
        refine gr_1_0 C wd_1_79 (pd_lt (by decide) hn) sh_11 (rf_11_0 _) dX7_read_189 ?_
        refine pd_iload_n C dX7_read_192 rfl rfl ?_
        obtain ⟨zg10, hF⟩ := pd_gd_some hF
        refine pd_iald C (pd_lt (by decide) hn) sh_12 zg10 dX7_read_193 ?_
        obtain ⟨zI18, zh5, hF⟩ := pd_bd_some hF
        refine pd_callV C [.int (zI17 12 zx6.toNatClampNeg)] [] (em_X7_addIfFree (pd_C_st C) hn  zh5) mw_X7_addIfFree wd_5_65 rfl (by decide) (pd_lt (by decide) hn) sh_54 ⟨by decide, by decide, by decide, by decide⟩ rfl (Nat.le_of_ble_eq_true rfl) pd_oldL_same (fun _ _ => pd_old_same _) dX7_read_194 (stk' := []) rfl ?_
        have hF := hF.symm
        cases hF
        exact hJ197
def fl_X7_read_116 {O : Type}  (kont : pd_I → Option O) : Nat → Int32 → pd_I → Option O
  | 0, _, _ => none
  | fu + 1, zx5, zI12 => pd_bd (if (zI12 54 2) ≤ zx5 then some false else (if (zI12 11 3) ≤ zx5 then some false else (some true))) fun zc5 => if zc5 = true then pd_gd (pd_in zx5 64) (pd_let (2 * (zI12 55 zx5.toNatClampNeg)) fun zv4 => fl_X7_read_144 zx5 (fun zI15 => pd_let (zx5 + 1) fun zv6 => fl_X7_read_116 kont fu zv6 zI15) pd_FU zv4 zI12) else (kont zI12)
set_option maxRecDepth 100000 in
set_option maxHeartbeats 4000000 in
theorem el_X7_read_116 {cx : pd_X} (C : pd_C cx "PathDecoder$Spectrum" cX7_read rm_X7_read) {J : pd_J} {Z : pd_R} {n : Nat} (hn : 133 ≤ n)  {O : Type} {kont : pd_I → Option O} {out : O} (K : ∀ (zI13 : pd_I), kont zI13 = some out → pd_V cx 0 0 209 [none, none, none, none] [] zI13 J (pd_RF Z) n) :
    ∀ (fu : Nat) (zx5 : Int32) (zI12 : pd_I), fl_X7_read_116 kont fu zx5 zI12 = some out → pd_V cx 0 0 116 [some (.ref 54), none, some (.int zx5), none] [] zI12 J (pd_RF Z) n := by
  intro fu
  induction fu with
  | zero => intro zx5 zI12 hF; rw [fl_X7_read_116] at hF; cases hF
  | succ fu ih =>
    intro zx5 zI12 hF
    rw [fl_X7_read_116] at hF
    refine pd_iload_n C dX7_read_116 rfl rfl ?_
    refine pd_aload_n C dX7_read_117 rfl rfl ?_
    refine gi_7_2 C wd_2_1 (pd_lt (by decide) hn) sh_54 dX7_read_118 ?_
    obtain ⟨zc5, hS, hF⟩ := pd_bd_some hF
    have hTzc5 : zc5 = true → pd_V cx 0 0 135 [some (.ref 54), none, some (.int zx5), none] [] zI12 J (pd_RF Z) n := by
      intro hc
      have hF := pd_t hc hF
      refine pd_iconst (v := 2) C dX7_read_135 (by decide) ?_
      refine pd_aload_n C dX7_read_136 rfl rfl ?_
      refine gr_7_1 C wd_2_0 (pd_lt (by decide) hn) sh_54 (rf_54_1 _) dX7_read_137 ?_
      refine pd_iload_n C dX7_read_140 rfl rfl ?_
      obtain ⟨zg5, hF⟩ := pd_gd_some hF
      refine pd_iald C (pd_lt (by decide) hn) sh_55 zg5 dX7_read_141 ?_
      refine pd_imul C dX7_read_142 ?_
      refine pd_topi (fun zv4 hzv4 => ?_)
      have hF := pd_let_at hF hzv4
      refine pd_istore_n (ls' := [some (.ref 54), none, some (.int zx5), some (.int zv4)]) C dX7_read_143 rfl (Nat.le_of_ble_eq_true rfl) rfl rfl ?_
      refine el_X7_read_144 C hn (fun zI15 hF => ?_) pd_FU _ _ hF
      refine pd_iincG (zz := 1) C dX7_read_203 rfl (by decide) rfl (fun zv6 hzv6 => ?_)
      have hF := pd_let_at hF hzv6
      refine pd_lsE (ls' := [some (.ref 54), none, some (.int zv6), none]) rfl ?_
      refine pd_goto (tgt := 116) C dX7_read_206 (by decide) ?_
      exact ih _ _ hF
    have hEzc5 : zc5 = false → pd_V cx 0 0 209 [some (.ref 54), none, some (.int zx5), none] [] zI12 J (pd_RF Z) n := by
      intro hc
      have hF := pd_bf hc hF
      refine pd_wk (ls' := [none, none, none, none]) True.intro ?_
      exact K _ hF
    replace hF := hS
    clear hS
    refine pd_icmp_ge (tgt := 209) C dX7_read_121 (by decide) (fun zc9 => ?_) (fun zc9 => ?_)
    · have hF := pd_t zc9 hF
      cases hF
      exact hEzc5 rfl
    · have hF := pd_f zc9 hF
      refine pd_iload_n C dX7_read_124 rfl rfl ?_
      refine pd_aload_n C dX7_read_125 rfl rfl ?_
      refine gr_7_0 C wd_1_239 (pd_lt (by decide) hn) sh_54 (rf_54_0 _) dX7_read_126 ?_
      refine gi_1_3 C wd_1_89 (pd_lt (by decide) hn) sh_11 dX7_read_129 ?_
      refine pd_icmp_ge (tgt := 209) C dX7_read_132 (by decide) (fun zc8 => ?_) (fun zc8 => ?_)
      · have hF := pd_t zc8 hF
        cases hF
        exact hEzc5 rfl
      · have hF := pd_f zc8 hF
        cases hF
        exact hTzc5 rfl
def fn_X7_read (I : pd_I) (a0 : Nat) : Option pd_I := pd_bd (fn_X1_load I a0) fun zI1 => fl_X7_read_10 (fun zI3 => fl_X7_read_36 (fun zI6 => pd_let (pd_ui zI6 54 2 0) fun zI8 => fl_X7_read_92 (fun zI10 => fl_X7_read_116 (fun zI13 => some zI13) pd_FU 0 zI10) pd_FU 0 zI8) pd_FU 0 zI3) pd_FU 0 zI1
set_option maxRecDepth 100000 in
set_option maxHeartbeats 4000000 in
theorem em_X7_read {l : Launch} {D : va_G} {tc : Nat → ClassId} (hst : l.stackTraces = false) {I : pd_I} {J : pd_J} {Z : pd_R} {n : Nat} {a0 : Nat} (hn : 133 ≤ n) (ha0 : pd_isCode a0 n = true) {out : pd_I} (hF : fn_X7_read I a0 = some out) :
    pd_M l D tc yX7_read (.code yX7_read cX7_read 4 (Option.none : Option Jvm.ClassFile.FieldType)) rm_X7_read [.ref 54, .ref a0] I J (pd_RF Z) n (.ok (none)) out J (pd_RF Z) n := by
  refine pd_open (own := "PathDecoder$Spectrum") (ls0 := [some (.ref 54), some (.ref a0), none, none]) (by decide) rfl (Nat.le_of_ble_eq_true rfl) rfl rfl hst (fun cx hl hD htc C hE htab hnm => ?_)
  subst hl hD htc
  unfold fn_X7_read at hF
  refine pd_aload_n C dX7_read_0 rfl rfl ?_
  refine gr_7_0 C wd_1_239 (pd_lt (by decide) hn) sh_54 (rf_54_0 _) dX7_read_1 ?_
  refine pd_aload_n C dX7_read_4 rfl rfl ?_
  obtain ⟨zI1, zh1, hF⟩ := pd_bd_some hF
  refine pd_callV C [.ref a0] [] (em_X1_load (pd_C_st C) hn ha0 zh1) mw_X1_load wd_5_55 rfl (by decide) (pd_lt (by decide) hn) sh_11 ⟨by decide, by decide, by decide, by decide⟩ rfl (Nat.le_of_ble_eq_true rfl) pd_oldL_same (fun _ _ => pd_old_same _) dX7_read_5 (stk' := []) rfl ?_
  refine pd_iconst (v := 0) C dX7_read_8 (by decide) ?_
  refine pd_istore_n (ls' := [some (.ref 54), some (.ref a0), some (.int 0), none]) C dX7_read_9 rfl (Nat.le_of_ble_eq_true rfl) rfl rfl ?_
  refine pd_wk (ls' := [some (.ref 54), none, some (.int 0), none]) (And.intro rfl (And.intro rfl True.intro)) ?_
  refine el_X7_read_10 C hn (fun zI3 hF => ?_) pd_FU _ _ hF
  refine pd_iconst (v := 0) C dX7_read_34 (by decide) ?_
  refine pd_istore_n (ls' := [some (.ref 54), none, some (.int 0), none]) C dX7_read_35 rfl (Nat.le_of_ble_eq_true rfl) rfl rfl ?_
  refine el_X7_read_36 C hn (fun zI6 hF => ?_) pd_FU _ _ hF
  refine pd_aload_n C dX7_read_85 rfl rfl ?_
  refine pd_iconst (v := 0) C dX7_read_86 (by decide) ?_
  refine pi_7_2 C wd_2_1 rfl rfl (pd_lt (by decide) hn) sh_54 dX7_read_87 ?_
  refine pd_memI (fun zI8 hzI8 => ?_)
  have hF := pd_let_at hF hzI8
  refine pd_iconst (v := 0) C dX7_read_90 (by decide) ?_
  refine pd_istore_n (ls' := [some (.ref 54), none, some (.int 0), none]) C dX7_read_91 rfl (Nat.le_of_ble_eq_true rfl) rfl rfl ?_
  refine el_X7_read_92 C hn (fun zI10 hF => ?_) pd_FU _ _ hF
  refine pd_iconst (v := 0) C dX7_read_114 (by decide) ?_
  refine pd_istore_n (ls' := [some (.ref 54), none, some (.int 0), none]) C dX7_read_115 rfl (Nat.le_of_ble_eq_true rfl) rfl rfl ?_
  refine el_X7_read_116 C hn (fun zI13 hF => ?_) pd_FU _ _ hF
  cases hF
  exact pd_vret C hE rfl ⟨by decide, by decide⟩ dX7_read_209

def fn_X7_isBad (I : pd_I) : Option Int32 := pd_bd (if (I 11 3) ≤ (I 54 2) then some 0 else (some 1)) fun (zx1 : Int32) => pd_gd (pd_bo zx1) (some zx1)
set_option maxRecDepth 100000 in
set_option maxHeartbeats 4000000 in
theorem em_X7_isBad {l : Launch} {D : va_G} {tc : Nat → ClassId} (hst : l.stackTraces = false) {I : pd_I} {J : pd_J} {Z : pd_R} {n : Nat} (hn : 133 ≤ n)  {out : Int32} (hF : fn_X7_isBad I = some out) :
    pd_M l D tc yX7_isBad (.code yX7_isBad cX7_isBad 1 (Option.some Jvm.ClassFile.FieldType.boolean)) rm_X7_isBad [.ref 54] I J (pd_RF Z) n (.ok (some (.int out))) I J (pd_RF Z) n := by
  refine pd_open (own := "PathDecoder$Spectrum") (ls0 := [some (.ref 54)]) (by decide) rfl (Nat.le_of_ble_eq_true rfl) rfl rfl hst (fun cx hl hD htc C hE htab hnm => ?_)
  subst hl hD htc
  unfold fn_X7_isBad at hF
  refine pd_aload_n C dX7_isBad_0 rfl rfl ?_
  refine gi_7_2 C wd_2_1 (pd_lt (by decide) hn) sh_54 dX7_isBad_1 ?_
  refine pd_aload_n C dX7_isBad_4 rfl rfl ?_
  refine gr_7_0 C wd_1_239 (pd_lt (by decide) hn) sh_54 (rf_54_0 _) dX7_isBad_5 ?_
  refine gi_1_3 C wd_1_89 (pd_lt (by decide) hn) sh_11 dX7_isBad_8 ?_
  obtain ⟨zx1, hS, hF⟩ := pd_bd_some hF
  have hJ19 : pd_V cx 0 0 19 [none] [.int zx1] I J (pd_RF Z) n := by
    obtain ⟨zg1, hF⟩ := pd_gd_some hF
    cases hF
    exact pd_iret C hE rfl rfl (pd_bo_nar zg1) ⟨by decide, by decide⟩ dX7_isBad_19
  replace hF := hS
  clear hS
  refine pd_icmp_ge (tgt := 18) C dX7_isBad_11 (by decide) (fun zc1 => ?_) (fun zc1 => ?_)
  · have hF := pd_t zc1 hF
    refine pd_iconst (v := 0) C dX7_isBad_18 (by decide) ?_
    refine pd_wk (ls' := [none]) True.intro ?_
    have hF := hF.symm
    cases hF
    exact hJ19
  · have hF := pd_f zc1 hF
    refine pd_iconst (v := 1) C dX7_isBad_14 (by decide) ?_
    refine pd_goto (tgt := 19) C dX7_isBad_15 (by decide) ?_
    refine pd_wk (ls' := [none]) True.intro ?_
    have hF := hF.symm
    cases hF
    exact hJ19

def fn_X11_bad (I : pd_I) (Z : pd_R) (n : Nat) (p0 : Int32) : Option (Except String (Int32 × pd_I)) := pd_bx (fn_X11_codeWithWeight I Z n p0) fun zq1 => pd_gd (pd_isCode zq1 n) (pd_bd (fn_X7_read I zq1) fun zI1 => pd_bd (fn_X7_isBad zI1) fun zr1 => pd_gd (pd_bo zr1) (some (.ok (zr1, zI1))))
set_option maxRecDepth 100000 in
set_option maxHeartbeats 4000000 in
theorem em_X11_bad {l : Launch} {D : va_G} {tc : Nat → ClassId} (hst : l.stackTraces = false) {I : pd_I} {J : pd_J} {Z : pd_R} {n : Nat} {p0 : Int32} (hn : 133 ≤ n)  {out : Except String (Int32 × pd_I)} (hF : fn_X11_bad I Z n p0 = some out) :
    pd_M l D tc yX11_bad (.code yX11_bad cX11_bad 2 (Option.some Jvm.ClassFile.FieldType.boolean)) rm_X11_bad [.ref 0, .int p0] I J (pd_RF Z) n (pd_oo (fun (p : Int32 × pd_I) => some (.int p.1)) out) (pd_os (fun (p : Int32 × pd_I) => p.2) I out) J (pd_RF Z) n := by
  refine pd_open (own := "PathDecoder") (ls0 := [some (.ref 0), some (.int p0)]) (by decide) rfl (Nat.le_of_ble_eq_true rfl) rfl rfl hst (fun cx hl hD htc C hE htab hnm => ?_)
  subst hl hD htc
  unfold fn_X11_bad at hF
  refine pd_aload_n C dX11_bad_0 rfl rfl ?_
  refine gr_11_10 C wd_2_42 (pd_lt (by decide) hn) sh_0 (rf_0_10 _) dX11_bad_1 ?_
  refine pd_aload_n C dX11_bad_4 rfl rfl ?_
  refine pd_iload_n C dX11_bad_5 rfl rfl ?_
  rcases pd_bx_some hF with ⟨e9, zh1, he9⟩ | ⟨zq1, zh1, hF⟩
  · subst he9
    exact pd_callVX C [.int p0] [.ref 54] (em_X11_codeWithWeight (pd_C_st C) hn  zh1) mw_X11_codeWithWeight wd_5_46 rfl (by decide) (pd_lt (by decide) hn) sh_0 ⟨by decide, by decide, by decide, by decide⟩ rfl (Nat.le_of_ble_eq_true rfl) dX11_bad_6 (pd_prop C hE rfl htab ⟨by decide, by decide⟩)
  obtain ⟨zg1, hF⟩ := pd_gd_some hF
  refine pd_callV C [.int p0] [.ref 54] (em_X11_codeWithWeight (pd_C_st C) hn  zh1) mw_X11_codeWithWeight wd_5_46 rfl (by decide) (pd_lt (by decide) hn) sh_0 ⟨by decide, by decide, by decide, by decide⟩ rfl (Nat.le_of_ble_eq_true rfl) pd_oldL_same (fun _ _ => pd_old_same _) dX11_bad_6 (stk' := [.ref zq1, .ref 54]) rfl ?_
  obtain ⟨zI1, zh2, hF⟩ := pd_bd_some hF
  refine pd_callV C [.ref zq1] [] (em_X7_read (pd_C_st C) hn zg1 zh2) mw_X7_read wd_5_51 rfl (by decide) (pd_lt (by decide) hn) sh_54 ⟨by decide, by decide, by decide, by decide⟩ rfl (Nat.le_of_ble_eq_true rfl) pd_oldL_same (fun _ _ => pd_old_same _) dX11_bad_9 (stk' := []) rfl ?_
  refine pd_aload_n C dX11_bad_12 rfl rfl ?_
  refine gr_11_10 C wd_2_42 (pd_lt (by decide) hn) sh_0 (rf_0_10 _) dX11_bad_13 ?_
  obtain ⟨zr1, zh3, hF⟩ := pd_bd_some hF
  refine pd_callV C [] [] (em_X7_isBad (pd_C_st C) hn  zh3) mw_X7_isBad wd_5_69 rfl (by decide) (pd_lt (by decide) hn) sh_54 ⟨by decide, by decide, by decide, by decide⟩ rfl (Nat.le_of_ble_eq_true rfl) pd_oldL_same (fun _ _ => pd_old_same _) dX11_bad_16 (stk' := [.int zr1]) rfl ?_
  obtain ⟨zg2, hF⟩ := pd_gd_some hF
  cases hF
  exact pd_iret C hE rfl rfl (pd_bo_nar zg2) ⟨by decide, by decide⟩ dX11_bad_19

def fl_X7_leastWeight_2 {O : Type}  (kont : pd_I → Option O) : Nat → Int32 → pd_I → Option O
  | 0, _, _ => none
  | fu + 1, zx1, zI1 => if (zI1 11 3) ≤ zx1 then kont zI1 else (pd_gd (pd_in zx1 64) (pd_let (pd_ui zI1 57 zx1.toNatClampNeg 536870912) fun zI3 => pd_let (zx1 + 1) fun zv1 => fl_X7_leastWeight_2 kont fu zv1 zI3))
set_option maxRecDepth 100000 in
set_option maxHeartbeats 4000000 in
theorem el_X7_leastWeight_2 {cx : pd_X} (C : pd_C cx "PathDecoder$Spectrum" cX7_leastWeight rm_X7_leastWeight) {J : pd_J} {Z : pd_R} {n : Nat} (hn : 133 ≤ n)  {O : Type} {kont : pd_I → Option O} {out : O} (K : ∀ (zI2 : pd_I), kont zI2 = some out → pd_V cx 0 0 27 [some (.ref 54), none, none, none, none, none] [] zI2 J (pd_RF Z) n) :
    ∀ (fu : Nat) (zx1 : Int32) (zI1 : pd_I), fl_X7_leastWeight_2 kont fu zx1 zI1 = some out → pd_V cx 0 0 2 [some (.ref 54), some (.int zx1), none, none, none, none] [] zI1 J (pd_RF Z) n := by
  intro fu
  induction fu with
  | zero => intro zx1 zI1 hF; rw [fl_X7_leastWeight_2] at hF; cases hF
  | succ fu ih =>
    intro zx1 zI1 hF
    rw [fl_X7_leastWeight_2] at hF
    refine pd_iload_n C dX7_leastWeight_2 rfl rfl ?_
    refine pd_aload_n C dX7_leastWeight_3 rfl rfl ?_
    refine gr_7_0 C wd_1_239 (pd_lt (by decide) hn) sh_54 (rf_54_0 _) dX7_leastWeight_4 ?_
    refine gi_1_3 C wd_1_89 (pd_lt (by decide) hn) sh_11 dX7_leastWeight_7 ?_
    refine pd_icmp_ge (tgt := 27) C dX7_leastWeight_10 (by decide) (fun zc1 => ?_) (fun zc1 => ?_)
    · have hF := pd_t zc1 hF
      refine pd_wk (ls' := [some (.ref 54), none, none, none, none, none]) (And.intro rfl True.intro) ?_
      exact K _ hF
    · have hF := pd_f zc1 hF
      refine pd_aload_n C dX7_leastWeight_13 rfl rfl ?_
      refine gr_7_4 C wd_2_3 (pd_lt (by decide) hn) sh_54 (rf_54_4 _) dX7_leastWeight_14 ?_
      refine pd_iload_n C dX7_leastWeight_17 rfl rfl ?_
      refine pd_ldc C wd_5_84 dX7_leastWeight_18 ?_
      obtain ⟨zg1, hF⟩ := pd_gd_some hF
      refine pd_iast C (pd_lt (by decide) hn) sh_57 zg1 dX7_leastWeight_20 ?_
      refine pd_memI (fun zI3 hzI3 => ?_)
      have hF := pd_let_at hF hzI3
      refine pd_iincG (zz := 1) C dX7_leastWeight_21 rfl (by decide) rfl (fun zv1 hzv1 => ?_)
      have hF := pd_let_at hF hzv1
      refine pd_lsE (ls' := [some (.ref 54), some (.int zv1), none, none, none, none]) rfl ?_
      refine pd_goto (tgt := 2) C dX7_leastWeight_24 (by decide) ?_
      exact ih _ _ hF
def fl_X7_leastWeight_56 {O : Type}  (kont : Int32 → pd_I → Option O) : Nat → Int32 → Int32 → pd_I → Option O
  | 0, _, _, _ => none
  | fu + 1, zx5, zx6, zI7 => if (2 * (zI7 11 3)) ≤ zx6 then kont zx5 zI7 else (pd_gd (pd_in (zx6 / 2) 64) (pd_bd (fn_X7_weightOf zI7 zx6) fun zr2 => pd_let ((zI7 57 (zx6 / 2).toNatClampNeg) + zr2) fun zv2 => pd_gd (pd_in zx6 128) (pd_let (zI7 12 zx6.toNatClampNeg) fun zv3 => pd_bd2 (if zv3 = 0 then pd_let (pd_min zx5 zv2) fun zv5 => some (zv5, zI7) else (pd_gd (pd_in zv3 64) (pd_gd (pd_in zv3 64) (pd_let (pd_ui zI7 57 zv3.toNatClampNeg (pd_min (zI7 57 zv3.toNatClampNeg) zv2)) fun zI10 => some (zx5, zI10))))) fun (zx8 : Int32) (zI9 : pd_I) => pd_let (zx6 + 1) fun zv4 => fl_X7_leastWeight_56 kont fu zx8 zv4 zI9)))
set_option maxRecDepth 100000 in
set_option maxHeartbeats 4000000 in
theorem el_X7_leastWeight_56 {cx : pd_X} (C : pd_C cx "PathDecoder$Spectrum" cX7_leastWeight rm_X7_leastWeight) {zx3 : Int32} {J : pd_J} {Z : pd_R} {n : Nat} (hn : 133 ≤ n)  {O : Type} {kont : Int32 → pd_I → Option O} {out : O} (K : ∀ (zx7 : Int32) (zI8 : pd_I), kont zx7 zI8 = some out → pd_V cx 0 0 136 [some (.ref 54), some (.int zx7), some (.int zx3), none, none, none] [] zI8 J (pd_RF Z) n) :
    ∀ (fu : Nat) (zx5 : Int32) (zx6 : Int32) (zI7 : pd_I), fl_X7_leastWeight_56 kont fu zx5 zx6 zI7 = some out → pd_V cx 0 0 56 [some (.ref 54), some (.int zx5), some (.int zx3), some (.int zx6), none, none] [] zI7 J (pd_RF Z) n := by
  intro fu
  induction fu with
  | zero => intro zx5 zx6 zI7 hF; rw [fl_X7_leastWeight_56] at hF; cases hF
  | succ fu ih =>
    intro zx5 zx6 zI7 hF
    rw [fl_X7_leastWeight_56] at hF
    refine pd_iload_n C dX7_leastWeight_56 rfl rfl ?_
    refine pd_iconst (v := 2) C dX7_leastWeight_57 (by decide) ?_
    refine pd_aload_n C dX7_leastWeight_58 rfl rfl ?_
    refine gr_7_0 C wd_1_239 (pd_lt (by decide) hn) sh_54 (rf_54_0 _) dX7_leastWeight_59 ?_
    refine gi_1_3 C wd_1_89 (pd_lt (by decide) hn) sh_11 dX7_leastWeight_62 ?_
    refine pd_imul C dX7_leastWeight_65 ?_
    refine pd_icmp_ge (tgt := 136) C dX7_leastWeight_66 (by decide) (fun zc3 => ?_) (fun zc3 => ?_)
    · have hF := pd_t zc3 hF
      refine pd_wk (ls' := [some (.ref 54), some (.int zx5), some (.int zx3), none, none, none]) (And.intro rfl (And.intro rfl (And.intro rfl True.intro))) ?_
      exact K _ _ hF
    · have hF := pd_f zc3 hF
      refine pd_aload_n C dX7_leastWeight_69 rfl rfl ?_
      refine gr_7_4 C wd_2_3 (pd_lt (by decide) hn) sh_54 (rf_54_4 _) dX7_leastWeight_70 ?_
      refine pd_iload_n C dX7_leastWeight_73 rfl rfl ?_
      refine pd_iconst (v := 2) C dX7_leastWeight_74 (by decide) ?_
      refine pd_idiv C dX7_leastWeight_75 (by decide) ?_
      obtain ⟨zg3, hF⟩ := pd_gd_some hF
      refine pd_iald C (pd_lt (by decide) hn) sh_57 zg3 dX7_leastWeight_76 ?_
      refine pd_aload_n C dX7_leastWeight_77 rfl rfl ?_
      refine pd_iload_n C dX7_leastWeight_78 rfl rfl ?_
      obtain ⟨zr2, zh2, hF⟩ := pd_bd_some hF
      refine pd_callV C [.int zx6] [.int (zI7 57 (zx6 / 2).toNatClampNeg)] (em_X7_weightOf (pd_C_st C) hn  zh2) mw_X7_weightOf wd_5_60 rfl (by decide) (pd_lt (by decide) hn) sh_54 ⟨by decide, by decide, by decide, by decide⟩ rfl (Nat.le_of_ble_eq_true rfl) pd_oldL_same (fun _ _ => pd_old_same _) dX7_leastWeight_79 (stk' := [.int zr2, .int (zI7 57 (zx6 / 2).toNatClampNeg)]) rfl ?_
      refine pd_iadd C dX7_leastWeight_82 ?_
      refine pd_topi (fun zv2 hzv2 => ?_)
      have hF := pd_let_at hF hzv2
      refine pd_istore (ls' := [some (.ref 54), some (.int zx5), some (.int zx3), some (.int zx6), some (.int zv2), none]) C dX7_leastWeight_83 (Nat.le_of_ble_eq_true rfl) rfl rfl ?_
      refine pd_aload_n C dX7_leastWeight_85 rfl rfl ?_
      refine gr_7_0 C wd_1_239 (pd_lt (by decide) hn) sh_54 (rf_54_0 _) dX7_leastWeight_86 ?_
      refine gr_1_0 C wd_1_79 (pd_lt (by decide) hn) sh_11 (rf_11_0 _) dX7_leastWeight_89 ?_
      refine pd_iload_n C dX7_leastWeight_92 rfl rfl ?_
      obtain ⟨zg4, hF⟩ := pd_gd_some hF
      refine pd_iald C (pd_lt (by decide) hn) sh_12 zg4 dX7_leastWeight_93 ?_
      refine pd_topi (fun zv3 hzv3 => ?_)
      have hF := pd_let_at hF hzv3
      refine pd_istore (ls' := [some (.ref 54), some (.int zx5), some (.int zx3), some (.int zx6), some (.int zv2), some (.int zv3)]) C dX7_leastWeight_94 (Nat.le_of_ble_eq_true rfl) rfl rfl ?_
      refine pd_iload C dX7_leastWeight_96 rfl ?_
      obtain ⟨zx8, zI9, hS, hF⟩ := pd_bd2_some hF
      have hJ130 : pd_V cx 0 0 130 [some (.ref 54), some (.int zx8), some (.int zx3), some (.int zx6), none, none] [] zI9 J (pd_RF Z) n := by
        refine pd_iincG (zz := 1) C dX7_leastWeight_130 rfl (by decide) rfl (fun zv4 hzv4 => ?_)
        have hF := pd_let_at hF hzv4
        refine pd_lsE (ls' := [some (.ref 54), some (.int zx8), some (.int zx3), some (.int zv4), none, none]) rfl ?_
        refine pd_goto (tgt := 56) C dX7_leastWeight_133 (by decide) ?_
        exact ih _ _ _ hF
      replace hF := hS
      clear hS
      refine pd_if_ne (tgt := 111) C dX7_leastWeight_98 (by decide) (fun zc2 => ?_) (fun zc2 => ?_)
      · have hF := pd_f zc2 hF
        refine pd_aload_n C dX7_leastWeight_111 rfl rfl ?_
        refine gr_7_4 C wd_2_3 (pd_lt (by decide) hn) sh_54 (rf_54_4 _) dX7_leastWeight_112 ?_
        refine pd_iload C dX7_leastWeight_115 rfl ?_
        refine pd_aload_n C dX7_leastWeight_117 rfl rfl ?_
        refine gr_7_4 C wd_2_3 (pd_lt (by decide) hn) sh_54 (rf_54_4 _) dX7_leastWeight_118 ?_
        refine pd_iload C dX7_leastWeight_121 rfl ?_
        obtain ⟨zg5, hF⟩ := pd_gd_some hF
        refine pd_iald C (pd_lt (by decide) hn) sh_57 zg5 dX7_leastWeight_123 ?_
        refine pd_iload C dX7_leastWeight_124 rfl ?_
        refine pd_mmin C wd_5_85 wd_2_187 wd_1_18 wd_2_188 ⟨by decide, Nat.le_of_ble_eq_true rfl, by decide, by decide⟩ dX7_leastWeight_126 ?_
        obtain ⟨zg6, hF⟩ := pd_gd_some hF
        refine pd_iast C (pd_lt (by decide) hn) sh_57 zg6 dX7_leastWeight_129 ?_
        refine pd_memI (fun zI10 hzI10 => ?_)
        have hF := pd_let_at hF hzI10
        refine pd_wk (ls' := [some (.ref 54), some (.int zx5), some (.int zx3), some (.int zx6), none, none]) (And.intro rfl (And.intro rfl (And.intro rfl (And.intro rfl True.intro)))) ?_
        have hF := hF.symm
        cases hF
        exact hJ130
      · have hF := pd_t zc2 hF
        refine pd_iload_n C dX7_leastWeight_101 rfl rfl ?_
        refine pd_iload C dX7_leastWeight_102 rfl ?_
        refine pd_mmin C wd_5_85 wd_2_187 wd_1_18 wd_2_188 ⟨by decide, Nat.le_of_ble_eq_true rfl, by decide, by decide⟩ dX7_leastWeight_104 ?_
        refine pd_topi (fun zv5 hzv5 => ?_)
        have hF := pd_let_at hF hzv5
        refine pd_istore_n (ls' := [some (.ref 54), some (.int zv5), some (.int zx3), some (.int zx6), some (.int zv2), some (.int zv3)]) C dX7_leastWeight_107 rfl (Nat.le_of_ble_eq_true rfl) rfl rfl ?_
        refine pd_goto (tgt := 130) C dX7_leastWeight_108 (by decide) ?_
        refine pd_wk (ls' := [some (.ref 54), some (.int zv5), some (.int zx3), some (.int zx6), none, none]) (And.intro rfl (And.intro rfl (And.intro rfl (And.intro rfl True.intro)))) ?_
        have hF := hF.symm
        cases hF
        exact hJ130
def fl_X7_leastWeight_43 {O : Type}  (kont : Int32 → pd_I → Option O) : Nat → Int32 → Int32 → pd_I → Option O
  | 0, _, _, _ => none
  | fu + 1, zx2, zx3, zI5 => if (zI5 11 3) ≤ zx3 then kont zx2 zI5 else (fl_X7_leastWeight_56 (fun zx7 zI8 => pd_let (zx3 + 1) fun zv6 => fl_X7_leastWeight_43 kont fu zx7 zv6 zI8) pd_FU zx2 2 zI5)
set_option maxRecDepth 100000 in
set_option maxHeartbeats 4000000 in
theorem el_X7_leastWeight_43 {cx : pd_X} (C : pd_C cx "PathDecoder$Spectrum" cX7_leastWeight rm_X7_leastWeight) {J : pd_J} {Z : pd_R} {n : Nat} (hn : 133 ≤ n)  {O : Type} {kont : Int32 → pd_I → Option O} {out : O} (K : ∀ (zx4 : Int32) (zI6 : pd_I), kont zx4 zI6 = some out → pd_V cx 0 0 142 [none, some (.int zx4), none, none, none, none] [] zI6 J (pd_RF Z) n) :
    ∀ (fu : Nat) (zx2 : Int32) (zx3 : Int32) (zI5 : pd_I), fl_X7_leastWeight_43 kont fu zx2 zx3 zI5 = some out → pd_V cx 0 0 43 [some (.ref 54), some (.int zx2), some (.int zx3), none, none, none] [] zI5 J (pd_RF Z) n := by
  intro fu
  induction fu with
  | zero => intro zx2 zx3 zI5 hF; rw [fl_X7_leastWeight_43] at hF; cases hF
  | succ fu ih =>
    intro zx2 zx3 zI5 hF
    rw [fl_X7_leastWeight_43] at hF
    refine pd_iload_n C dX7_leastWeight_43 rfl rfl ?_
    refine pd_aload_n C dX7_leastWeight_44 rfl rfl ?_
    refine gr_7_0 C wd_1_239 (pd_lt (by decide) hn) sh_54 (rf_54_0 _) dX7_leastWeight_45 ?_
    refine gi_1_3 C wd_1_89 (pd_lt (by decide) hn) sh_11 dX7_leastWeight_48 ?_
    refine pd_icmp_ge (tgt := 142) C dX7_leastWeight_51 (by decide) (fun zc4 => ?_) (fun zc4 => ?_)
    · have hF := pd_t zc4 hF
      refine pd_wk (ls' := [none, some (.int zx2), none, none, none, none]) (And.intro rfl True.intro) ?_
      exact K _ _ hF
    · have hF := pd_f zc4 hF
      refine pd_iconst (v := 2) C dX7_leastWeight_54 (by decide) ?_
      refine pd_istore_n (ls' := [some (.ref 54), some (.int zx2), some (.int zx3), some (.int 2), none, none]) C dX7_leastWeight_55 rfl (Nat.le_of_ble_eq_true rfl) rfl rfl ?_
      refine el_X7_leastWeight_56 C hn (fun zx7 zI8 hF => ?_) pd_FU _ _ _ hF
      refine pd_iincG (zz := 1) C dX7_leastWeight_136 rfl (by decide) rfl (fun zv6 hzv6 => ?_)
      have hF := pd_let_at hF hzv6
      refine pd_lsE (ls' := [some (.ref 54), some (.int zx7), some (.int zv6), none, none, none]) rfl ?_
      refine pd_goto (tgt := 43) C dX7_leastWeight_139 (by decide) ?_
      exact ih _ _ _ hF
def fn_X7_leastWeight (I : pd_I) : Option (Int32 × pd_I) := fl_X7_leastWeight_2 (fun zI2 => pd_bd (fn_X7_weightOf zI2 1) fun zr1 => pd_gd (pd_in 1 64) (pd_let (pd_ui zI2 57 (1 : Int32).toNatClampNeg zr1) fun zI4 => fl_X7_leastWeight_43 (fun zx4 zI6 => some (zx4, zI6)) pd_FU 536870912 0 zI4)) pd_FU 0 I
set_option maxRecDepth 100000 in
set_option maxHeartbeats 4000000 in
theorem em_X7_leastWeight {l : Launch} {D : va_G} {tc : Nat → ClassId} (hst : l.stackTraces = false) {I : pd_I} {J : pd_J} {Z : pd_R} {n : Nat} (hn : 133 ≤ n)  {out : Int32 × pd_I} (hF : fn_X7_leastWeight I = some out) :
    pd_M l D tc yX7_leastWeight (.code yX7_leastWeight cX7_leastWeight 6 (Option.some Jvm.ClassFile.FieldType.int)) rm_X7_leastWeight [.ref 54] I J (pd_RF Z) n (.ok (some (.int out.1))) out.2 J (pd_RF Z) n := by
  refine pd_open (own := "PathDecoder$Spectrum") (ls0 := [some (.ref 54), none, none, none, none, none]) (by decide) rfl (Nat.le_of_ble_eq_true rfl) rfl rfl hst (fun cx hl hD htc C hE htab hnm => ?_)
  subst hl hD htc
  unfold fn_X7_leastWeight at hF
  refine pd_iconst (v := 0) C dX7_leastWeight_0 (by decide) ?_
  refine pd_istore_n (ls' := [some (.ref 54), some (.int 0), none, none, none, none]) C dX7_leastWeight_1 rfl (Nat.le_of_ble_eq_true rfl) rfl rfl ?_
  refine el_X7_leastWeight_2 C hn (fun zI2 hF => ?_) pd_FU _ _ hF
  refine pd_aload_n C dX7_leastWeight_27 rfl rfl ?_
  refine gr_7_4 C wd_2_3 (pd_lt (by decide) hn) sh_54 (rf_54_4 _) dX7_leastWeight_28 ?_
  refine pd_iconst (v := 1) C dX7_leastWeight_31 (by decide) ?_
  refine pd_aload_n C dX7_leastWeight_32 rfl rfl ?_
  refine pd_iconst (v := 1) C dX7_leastWeight_33 (by decide) ?_
  obtain ⟨zr1, zh1, hF⟩ := pd_bd_some hF
  refine pd_callV C [.int 1] [.int 1, .ref 57] (em_X7_weightOf (pd_C_st C) hn  zh1) mw_X7_weightOf wd_5_60 rfl (by decide) (pd_lt (by decide) hn) sh_54 ⟨by decide, by decide, by decide, by decide⟩ rfl (Nat.le_of_ble_eq_true rfl) pd_oldL_same (fun _ _ => pd_old_same _) dX7_leastWeight_34 (stk' := [.int zr1, .int 1, .ref 57]) rfl ?_
  obtain ⟨zg2, hF⟩ := pd_gd_some hF
  refine pd_iast C (pd_lt (by decide) hn) sh_57 zg2 dX7_leastWeight_37 ?_
  refine pd_memI (fun zI4 hzI4 => ?_)
  have hF := pd_let_at hF hzI4
  refine pd_ldc C wd_5_84 dX7_leastWeight_38 ?_
  refine pd_istore_n (ls' := [some (.ref 54), some (.int 536870912), none, none, none, none]) C dX7_leastWeight_40 rfl (Nat.le_of_ble_eq_true rfl) rfl rfl ?_
  refine pd_iconst (v := 0) C dX7_leastWeight_41 (by decide) ?_
  refine pd_istore_n (ls' := [some (.ref 54), some (.int 536870912), some (.int 0), none, none, none]) C dX7_leastWeight_42 rfl (Nat.le_of_ble_eq_true rfl) rfl rfl ?_
  refine el_X7_leastWeight_43 C hn (fun zx4 zI6 hF => ?_) pd_FU _ _ _ hF
  refine pd_iload_n C dX7_leastWeight_142 rfl rfl ?_
  cases hF
  exact pd_iret C hE rfl rfl rfl ⟨by decide, by decide⟩ dX7_leastWeight_143

def fn_X11_free (I : pd_I) (Z : pd_R) (n : Nat) (p0 : Int32) : Option (Except String (Int32 × pd_I)) := pd_bx (fn_X11_codeWithWeight I Z n p0) fun zq1 => pd_gd (pd_isCode zq1 n) (pd_bd (fn_X7_read I zq1) fun zI1 => pd_bd (fn_X7_isBad zI1) fun zr1 => pd_bd2 (if zr1 = 0 then pd_bd2 (fn_X7_leastWeight zI1) fun zr2 zI3 => some (zr2, zI3) else (some ((-1), zI1))) fun (zx1 : Int32) (zI2 : pd_I) => some (.ok (zx1, zI2)))
set_option maxRecDepth 100000 in
set_option maxHeartbeats 4000000 in
theorem em_X11_free {l : Launch} {D : va_G} {tc : Nat → ClassId} (hst : l.stackTraces = false) {I : pd_I} {J : pd_J} {Z : pd_R} {n : Nat} {p0 : Int32} (hn : 133 ≤ n)  {out : Except String (Int32 × pd_I)} (hF : fn_X11_free I Z n p0 = some out) :
    pd_M l D tc yX11_free (.code yX11_free cX11_free 2 (Option.some Jvm.ClassFile.FieldType.int)) rm_X11_free [.ref 0, .int p0] I J (pd_RF Z) n (pd_oo (fun (p : Int32 × pd_I) => some (.int p.1)) out) (pd_os (fun (p : Int32 × pd_I) => p.2) I out) J (pd_RF Z) n := by
  refine pd_open (own := "PathDecoder") (ls0 := [some (.ref 0), some (.int p0)]) (by decide) rfl (Nat.le_of_ble_eq_true rfl) rfl rfl hst (fun cx hl hD htc C hE htab hnm => ?_)
  subst hl hD htc
  unfold fn_X11_free at hF
  refine pd_aload_n C dX11_free_0 rfl rfl ?_
  refine gr_11_10 C wd_2_42 (pd_lt (by decide) hn) sh_0 (rf_0_10 _) dX11_free_1 ?_
  refine pd_aload_n C dX11_free_4 rfl rfl ?_
  refine pd_iload_n C dX11_free_5 rfl rfl ?_
  rcases pd_bx_some hF with ⟨e9, zh1, he9⟩ | ⟨zq1, zh1, hF⟩
  · subst he9
    exact pd_callVX C [.int p0] [.ref 54] (em_X11_codeWithWeight (pd_C_st C) hn  zh1) mw_X11_codeWithWeight wd_5_46 rfl (by decide) (pd_lt (by decide) hn) sh_0 ⟨by decide, by decide, by decide, by decide⟩ rfl (Nat.le_of_ble_eq_true rfl) dX11_free_6 (pd_prop C hE rfl htab ⟨by decide, by decide⟩)
  obtain ⟨zg1, hF⟩ := pd_gd_some hF
  refine pd_callV C [.int p0] [.ref 54] (em_X11_codeWithWeight (pd_C_st C) hn  zh1) mw_X11_codeWithWeight wd_5_46 rfl (by decide) (pd_lt (by decide) hn) sh_0 ⟨by decide, by decide, by decide, by decide⟩ rfl (Nat.le_of_ble_eq_true rfl) pd_oldL_same (fun _ _ => pd_old_same _) dX11_free_6 (stk' := [.ref zq1, .ref 54]) rfl ?_
  obtain ⟨zI1, zh2, hF⟩ := pd_bd_some hF
  refine pd_callV C [.ref zq1] [] (em_X7_read (pd_C_st C) hn zg1 zh2) mw_X7_read wd_5_51 rfl (by decide) (pd_lt (by decide) hn) sh_54 ⟨by decide, by decide, by decide, by decide⟩ rfl (Nat.le_of_ble_eq_true rfl) pd_oldL_same (fun _ _ => pd_old_same _) dX11_free_9 (stk' := []) rfl ?_
  refine pd_aload_n C dX11_free_12 rfl rfl ?_
  refine gr_11_10 C wd_2_42 (pd_lt (by decide) hn) sh_0 (rf_0_10 _) dX11_free_13 ?_
  obtain ⟨zr1, zh3, hF⟩ := pd_bd_some hF
  refine pd_callV C [] [] (em_X7_isBad (pd_C_st C) hn  zh3) mw_X7_isBad wd_5_69 rfl (by decide) (pd_lt (by decide) hn) sh_54 ⟨by decide, by decide, by decide, by decide⟩ rfl (Nat.le_of_ble_eq_true rfl) pd_oldL_same (fun _ _ => pd_old_same _) dX11_free_16 (stk' := [.int zr1]) rfl ?_
  obtain ⟨zx1, zI2, hS, hF⟩ := pd_bd2_some hF
  have hJ33 : pd_V cx 2 12 33 [none, none] [.int zx1] zI2 J (pd_RF Z) n := by
    cases hF
    exact pd_iret C hE rfl rfl rfl ⟨by decide, by decide⟩ dX11_free_33
  replace hF := hS
  clear hS
  refine pd_if_eq (tgt := 26) C dX11_free_19 (by decide) (fun zc1 => ?_) (fun zc1 => ?_)
  · have hF := pd_t zc1 hF
    refine pd_aload_n C dX11_free_26 rfl rfl ?_
    refine gr_11_10 C wd_2_42 (pd_lt (by decide) hn) sh_0 (rf_0_10 _) dX11_free_27 ?_
    obtain ⟨zr2, zI3, zh4, hF⟩ := pd_bd2_some hF
    refine pd_callV C [] [] (em_X7_leastWeight (pd_C_st C) hn  zh4) mw_X7_leastWeight wd_5_80 rfl (by decide) (pd_lt (by decide) hn) sh_54 ⟨by decide, by decide, by decide, by decide⟩ rfl (Nat.le_of_ble_eq_true rfl) pd_oldL_same (fun _ _ => pd_old_same _) dX11_free_30 (stk' := [.int zr2]) rfl ?_
    refine pd_wk (ls' := [none, none]) True.intro ?_
    have hF := hF.symm
    cases hF
    exact hJ33
  · have hF := pd_f zc1 hF
    refine pd_iconst (v := (-1)) C dX11_free_22 (by decide) ?_
    refine pd_goto (tgt := 33) C dX11_free_23 (by decide) ?_
    refine pd_wk (ls' := [none, none]) True.intro ?_
    have hF := hF.symm
    cases hF
    exact hJ33

def fl_X7_spread_5 {O : Type} (p0 : Int32) (p1 : Int32) (p2 : Int32) (I : pd_I) (kont : pd_J → Option O) : Nat → Int32 → pd_J → Option O
  | 0, _, _ => none
  | fu + 1, zx1, zJ1 => if ((2 * p1) + 1) < zx1 then kont zJ1 else (pd_bd (fn_X7_weightOf I zx1) fun zr1 => pd_let (p0 + zr1) fun zv2 => pd_bd (if p2 < zv2 then some zJ1 else (pd_gd (pd_in zx1 128) (pd_gd (pd_in ((zv2 * 64) + (I 12 zx1.toNatClampNeg)) 1984) (pd_gd (pd_in ((p0 * 64) + p1) 1984) (pd_gd (pd_in ((zv2 * 64) + (I 12 zx1.toNatClampNeg)) 1984) (pd_let (pd_uj zJ1 58 ((zv2 * 64) + (I 12 zx1.toNatClampNeg)).toNatClampNeg ((zJ1 58 ((zv2 * 64) + (I 12 zx1.toNatClampNeg)).toNatClampNeg) + (zJ1 58 ((p0 * 64) + p1).toNatClampNeg))) fun zJ4 => some zJ4)))))) fun (zJ3 : pd_J) => pd_let (zx1 + 1) fun zv3 => fl_X7_spread_5 p0 p1 p2 I kont fu zv3 zJ3)
set_option maxRecDepth 100000 in
set_option maxHeartbeats 4000000 in
theorem el_X7_spread_5 {cx : pd_X} (C : pd_C cx "PathDecoder$Spectrum" cX7_spread rm_X7_spread) {p0 : Int32} {p1 : Int32} {p2 : Int32} {I : pd_I} {Z : pd_R} {n : Nat} (hn : 133 ≤ n)  {O : Type} {kont : pd_J → Option O} {out : O} (K : ∀ (zJ2 : pd_J), kont zJ2 = some out → pd_V cx 0 0 72 [none, none, none, none, none, none] [] I zJ2 (pd_RF Z) n) :
    ∀ (fu : Nat) (zx1 : Int32) (zJ1 : pd_J), fl_X7_spread_5 p0 p1 p2 I kont fu zx1 zJ1 = some out → pd_V cx 0 0 5 [some (.ref 54), some (.int p0), some (.int p1), some (.int p2), some (.int zx1), none] [] I zJ1 (pd_RF Z) n := by
  intro fu
  induction fu with
  | zero => intro zx1 zJ1 hF; rw [fl_X7_spread_5] at hF; cases hF
  | succ fu ih =>
    intro zx1 zJ1 hF
    rw [fl_X7_spread_5] at hF
    refine pd_iload C dX7_spread_5 rfl ?_
    refine pd_iconst (v := 2) C dX7_spread_7 (by decide) ?_
    refine pd_iload_n C dX7_spread_8 rfl rfl ?_
    refine pd_imul C dX7_spread_9 ?_
    refine pd_iconst (v := 1) C dX7_spread_10 (by decide) ?_
    refine pd_iadd C dX7_spread_11 ?_
    refine pd_icmp_gt (tgt := 72) C dX7_spread_12 (by decide) (fun zc2 => ?_) (fun zc2 => ?_)
    · have hF := pd_t zc2 hF
      refine pd_wk (ls' := [none, none, none, none, none, none]) True.intro ?_
      exact K _ hF
    · have hF := pd_f zc2 hF
      refine pd_iload_n C dX7_spread_15 rfl rfl ?_
      refine pd_aload_n C dX7_spread_16 rfl rfl ?_
      refine pd_iload C dX7_spread_17 rfl ?_
      obtain ⟨zr1, zh1, hF⟩ := pd_bd_some hF
      refine pd_callV C [.int zx1] [.int p0] (em_X7_weightOf (pd_C_st C) hn  zh1) mw_X7_weightOf wd_5_60 rfl (by decide) (pd_lt (by decide) hn) sh_54 ⟨by decide, by decide, by decide, by decide⟩ rfl (Nat.le_of_ble_eq_true rfl) pd_oldL_same (fun _ _ => pd_old_same _) dX7_spread_19 (stk' := [.int zr1, .int p0]) rfl ?_
      refine pd_iadd C dX7_spread_22 ?_
      refine pd_topi (fun zv2 hzv2 => ?_)
      have hF := pd_let_at hF hzv2
      refine pd_istore (ls' := [some (.ref 54), some (.int p0), some (.int p1), some (.int p2), some (.int zx1), some (.int zv2)]) C dX7_spread_23 (Nat.le_of_ble_eq_true rfl) rfl rfl ?_
      refine pd_iload C dX7_spread_25 rfl ?_
      refine pd_iload_n C dX7_spread_27 rfl rfl ?_
      obtain ⟨zJ3, hS, hF⟩ := pd_bd_some hF
      have hJ66 : pd_V cx 0 0 66 [some (.ref 54), some (.int p0), some (.int p1), some (.int p2), some (.int zx1), none] [] I zJ3 (pd_RF Z) n := by
        refine pd_iincG (zz := 1) C dX7_spread_66 rfl (by decide) rfl (fun zv3 hzv3 => ?_)
        have hF := pd_let_at hF hzv3
        refine pd_lsE (ls' := [some (.ref 54), some (.int p0), some (.int p1), some (.int p2), some (.int zv3), none]) rfl ?_
        refine pd_goto (tgt := 5) C dX7_spread_69 (by decide) ?_
        exact ih _ _ hF
      replace hF := hS
      clear hS
      refine pd_icmp_gt (tgt := 66) C dX7_spread_28 (by decide) (fun zc1 => ?_) (fun zc1 => ?_)
      · have hF := pd_t zc1 hF
        refine pd_wk (ls' := [some (.ref 54), some (.int p0), some (.int p1), some (.int p2), some (.int zx1), none]) (And.intro rfl (And.intro rfl (And.intro rfl (And.intro rfl (And.intro rfl True.intro))))) ?_
        have hF := hF.symm
        cases hF
        exact hJ66
      · have hF := pd_f zc1 hF
        refine pd_aload_n C dX7_spread_31 rfl rfl ?_
        refine gr_7_5 C wd_2_4 (pd_lt (by decide) hn) sh_54 (rf_54_5 _) dX7_spread_32 ?_
        refine pd_iload C dX7_spread_35 rfl ?_
        refine pd_bipush (v := 64) C dX7_spread_37 (by decide) ?_
        refine pd_imul C dX7_spread_39 ?_
        refine pd_aload_n C dX7_spread_40 rfl rfl ?_
        refine gr_7_0 C wd_1_239 (pd_lt (by decide) hn) sh_54 (rf_54_0 _) dX7_spread_41 ?_
        refine gr_1_0 C wd_1_79 (pd_lt (by decide) hn) sh_11 (rf_11_0 _) dX7_spread_44 ?_
        refine pd_iload C dX7_spread_47 rfl ?_
        obtain ⟨zg1, hF⟩ := pd_gd_some hF
        refine pd_iald C (pd_lt (by decide) hn) sh_12 zg1 dX7_spread_49 ?_
        refine pd_iadd C dX7_spread_50 ?_
        refine pd_dup2 C dX7_spread_51 rfl rfl ?_
        obtain ⟨zg2, hF⟩ := pd_gd_some hF
        refine pd_lald C (pd_lt (by decide) hn) sh_58 zg2 dX7_spread_52 ?_
        refine pd_aload_n C dX7_spread_53 rfl rfl ?_
        refine gr_7_5 C wd_2_4 (pd_lt (by decide) hn) sh_54 (rf_54_5 _) dX7_spread_54 ?_
        refine pd_iload_n C dX7_spread_57 rfl rfl ?_
        refine pd_bipush (v := 64) C dX7_spread_58 (by decide) ?_
        refine pd_imul C dX7_spread_60 ?_
        refine pd_iload_n C dX7_spread_61 rfl rfl ?_
        refine pd_iadd C dX7_spread_62 ?_
        obtain ⟨zg3, hF⟩ := pd_gd_some hF
        refine pd_lald C (pd_lt (by decide) hn) sh_58 zg3 dX7_spread_63 ?_
        refine pd_ladd C dX7_spread_64 ?_
        obtain ⟨zg4, hF⟩ := pd_gd_some hF
        refine pd_last C (pd_lt (by decide) hn) sh_58 zg4 dX7_spread_65 ?_
        refine pd_memJ (fun zJ4 hzJ4 => ?_)
        have hF := pd_let_at hF hzJ4
        refine pd_wk (ls' := [some (.ref 54), some (.int p0), some (.int p1), some (.int p2), some (.int zx1), none]) (And.intro rfl (And.intro rfl (And.intro rfl (And.intro rfl (And.intro rfl True.intro))))) ?_
        have hF := hF.symm
        cases hF
        exact hJ66
def fn_X7_spread (I : pd_I) (J : pd_J) (p0 : Int32) (p1 : Int32) (p2 : Int32) : Option pd_J := pd_let (2 * p1) fun zv1 => fl_X7_spread_5 p0 p1 p2 I (fun zJ2 => some zJ2) pd_FU zv1 J
set_option maxRecDepth 100000 in
set_option maxHeartbeats 4000000 in
theorem em_X7_spread {l : Launch} {D : va_G} {tc : Nat → ClassId} (hst : l.stackTraces = false) {I : pd_I} {J : pd_J} {Z : pd_R} {n : Nat} {p0 : Int32} {p1 : Int32} {p2 : Int32} (hn : 133 ≤ n)  {out : pd_J} (hF : fn_X7_spread I J p0 p1 p2 = some out) :
    pd_M l D tc yX7_spread (.code yX7_spread cX7_spread 6 (Option.none : Option Jvm.ClassFile.FieldType)) rm_X7_spread [.ref 54, .int p0, .int p1, .int p2] I J (pd_RF Z) n (.ok (none)) I out (pd_RF Z) n := by
  refine pd_open (own := "PathDecoder$Spectrum") (ls0 := [some (.ref 54), some (.int p0), some (.int p1), some (.int p2), none, none]) (by decide) rfl (Nat.le_of_ble_eq_true rfl) rfl rfl hst (fun cx hl hD htc C hE htab hnm => ?_)
  subst hl hD htc
  unfold fn_X7_spread at hF
  refine pd_iconst (v := 2) C dX7_spread_0 (by decide) ?_
  refine pd_iload_n C dX7_spread_1 rfl rfl ?_
  refine pd_imul C dX7_spread_2 ?_
  refine pd_topi (fun zv1 hzv1 => ?_)
  have hF := pd_let_at hF hzv1
  refine pd_istore (ls' := [some (.ref 54), some (.int p0), some (.int p1), some (.int p2), some (.int zv1), none]) C dX7_spread_3 (Nat.le_of_ble_eq_true rfl) rfl rfl ?_
  refine el_X7_spread_5 C hn (fun zJ2 hF => ?_) pd_FU _ _ hF
  cases hF
  exact pd_vret C hE rfl ⟨by decide, by decide⟩ dX7_spread_72

def fl_X7_waysOfWeight_2 {O : Type} (p0 : Int32) (kont : pd_J → Option O) : Nat → Int32 → pd_J → Option O
  | 0, _, _ => none
  | fu + 1, zx1, zJ1 => if ((p0 + 1) * 64) ≤ zx1 then kont zJ1 else (pd_gd (pd_in zx1 1984) (pd_let (pd_uj zJ1 58 zx1.toNatClampNeg 0) fun zJ3 => pd_let (zx1 + 1) fun zv1 => fl_X7_waysOfWeight_2 p0 kont fu zv1 zJ3))
set_option maxRecDepth 100000 in
set_option maxHeartbeats 4000000 in
theorem el_X7_waysOfWeight_2 {cx : pd_X} (C : pd_C cx "PathDecoder$Spectrum" cX7_waysOfWeight rm_X7_waysOfWeight) {p0 : Int32} {I : pd_I} {Z : pd_R} {n : Nat} (hn : 133 ≤ n)  {O : Type} {kont : pd_J → Option O} {out : O} (K : ∀ (zJ2 : pd_J), kont zJ2 = some out → pd_V cx 0 0 25 [some (.ref 54), some (.int p0), none, none] [] I zJ2 (pd_RF Z) n) :
    ∀ (fu : Nat) (zx1 : Int32) (zJ1 : pd_J), fl_X7_waysOfWeight_2 p0 kont fu zx1 zJ1 = some out → pd_V cx 0 0 2 [some (.ref 54), some (.int p0), some (.int zx1), none] [] I zJ1 (pd_RF Z) n := by
  intro fu
  induction fu with
  | zero => intro zx1 zJ1 hF; rw [fl_X7_waysOfWeight_2] at hF; cases hF
  | succ fu ih =>
    intro zx1 zJ1 hF
    rw [fl_X7_waysOfWeight_2] at hF
    refine pd_iload_n C dX7_waysOfWeight_2 rfl rfl ?_
    refine pd_iload_n C dX7_waysOfWeight_3 rfl rfl ?_
    refine pd_iconst (v := 1) C dX7_waysOfWeight_4 (by decide) ?_
    refine pd_iadd C dX7_waysOfWeight_5 ?_
    refine pd_bipush (v := 64) C dX7_waysOfWeight_6 (by decide) ?_
    refine pd_imul C dX7_waysOfWeight_8 ?_
    refine pd_icmp_ge (tgt := 25) C dX7_waysOfWeight_9 (by decide) (fun zc1 => ?_) (fun zc1 => ?_)
    · have hF := pd_t zc1 hF
      refine pd_wk (ls' := [some (.ref 54), some (.int p0), none, none]) (And.intro rfl (And.intro rfl True.intro)) ?_
      exact K _ hF
    · have hF := pd_f zc1 hF
      refine pd_aload_n C dX7_waysOfWeight_12 rfl rfl ?_
      refine gr_7_5 C wd_2_4 (pd_lt (by decide) hn) sh_54 (rf_54_5 _) dX7_waysOfWeight_13 ?_
      refine pd_iload_n C dX7_waysOfWeight_16 rfl rfl ?_
      refine pd_lconst (v := 0) C dX7_waysOfWeight_17 (by decide) ?_
      obtain ⟨zg1, hF⟩ := pd_gd_some hF
      refine pd_last C (pd_lt (by decide) hn) sh_58 zg1 dX7_waysOfWeight_18 ?_
      refine pd_memJ (fun zJ3 hzJ3 => ?_)
      have hF := pd_let_at hF hzJ3
      refine pd_iincG (zz := 1) C dX7_waysOfWeight_19 rfl (by decide) rfl (fun zv1 hzv1 => ?_)
      have hF := pd_let_at hF hzv1
      refine pd_lsE (ls' := [some (.ref 54), some (.int p0), some (.int zv1), none]) rfl ?_
      refine pd_goto (tgt := 2) C dX7_waysOfWeight_22 (by decide) ?_
      exact ih _ _ hF
def fl_X7_waysOfWeight_59 {O : Type} (p0 : Int32) (zx2 : Int32) (I : pd_I) (kont : pd_J → Option O) : Nat → Int32 → pd_J → Option O
  | 0, _, _ => none
  | fu + 1, zx3, zJ7 => if (I 54 2) ≤ zx3 then kont zJ7 else (pd_gd (pd_in zx3 64) (pd_bd (if (I 55 zx3.toNatClampNeg) = 0 then some zJ7 else (pd_gd (pd_in zx3 64) (pd_bd (fn_X7_spread I zJ7 zx2 (I 55 zx3.toNatClampNeg) p0) fun zJ10 => some zJ10))) fun (zJ9 : pd_J) => pd_let (zx3 + 1) fun zv2 => fl_X7_waysOfWeight_59 p0 zx2 I kont fu zv2 zJ9))
set_option maxRecDepth 100000 in
set_option maxHeartbeats 4000000 in
theorem el_X7_waysOfWeight_59 {cx : pd_X} (C : pd_C cx "PathDecoder$Spectrum" cX7_waysOfWeight rm_X7_waysOfWeight) {p0 : Int32} {zx2 : Int32} {I : pd_I} {Z : pd_R} {n : Nat} (hn : 133 ≤ n)  {O : Type} {kont : pd_J → Option O} {out : O} (K : ∀ (zJ8 : pd_J), kont zJ8 = some out → pd_V cx 0 0 94 [some (.ref 54), some (.int p0), some (.int zx2), none] [] I zJ8 (pd_RF Z) n) :
    ∀ (fu : Nat) (zx3 : Int32) (zJ7 : pd_J), fl_X7_waysOfWeight_59 p0 zx2 I kont fu zx3 zJ7 = some out → pd_V cx 0 0 59 [some (.ref 54), some (.int p0), some (.int zx2), some (.int zx3)] [] I zJ7 (pd_RF Z) n := by
  intro fu
  induction fu with
  | zero => intro zx3 zJ7 hF; rw [fl_X7_waysOfWeight_59] at hF; cases hF
  | succ fu ih =>
    intro zx3 zJ7 hF
    rw [fl_X7_waysOfWeight_59] at hF
    refine pd_iload_n C dX7_waysOfWeight_59 rfl rfl ?_
    refine pd_aload_n C dX7_waysOfWeight_60 rfl rfl ?_
    refine gi_7_2 C wd_2_1 (pd_lt (by decide) hn) sh_54 dX7_waysOfWeight_61 ?_
    refine pd_icmp_ge (tgt := 94) C dX7_waysOfWeight_64 (by decide) (fun zc3 => ?_) (fun zc3 => ?_)
    · have hF := pd_t zc3 hF
      refine pd_wk (ls' := [some (.ref 54), some (.int p0), some (.int zx2), none]) (And.intro rfl (And.intro rfl (And.intro rfl True.intro))) ?_
      exact K _ hF
    · have hF := pd_f zc3 hF
      refine pd_aload_n C dX7_waysOfWeight_67 rfl rfl ?_
      refine gr_7_1 C wd_2_0 (pd_lt (by decide) hn) sh_54 (rf_54_1 _) dX7_waysOfWeight_68 ?_
      refine pd_iload_n C dX7_waysOfWeight_71 rfl rfl ?_
      obtain ⟨zg2, hF⟩ := pd_gd_some hF
      refine pd_iald C (pd_lt (by decide) hn) sh_55 zg2 dX7_waysOfWeight_72 ?_
      obtain ⟨zJ9, hS, hF⟩ := pd_bd_some hF
      have hJ88 : pd_V cx 0 0 88 [some (.ref 54), some (.int p0), some (.int zx2), some (.int zx3)] [] I zJ9 (pd_RF Z) n := by
        refine pd_iincG (zz := 1) C dX7_waysOfWeight_88 rfl (by decide) rfl (fun zv2 hzv2 => ?_)
        have hF := pd_let_at hF hzv2
        refine pd_lsE (ls' := [some (.ref 54), some (.int p0), some (.int zx2), some (.int zv2)]) rfl ?_
        refine pd_goto (tgt := 59) C dX7_waysOfWeight_91 (by decide) ?_
        exact ih _ _ hF
      replace hF := hS
      clear hS
      refine pd_if_eq (tgt := 88) C dX7_waysOfWeight_73 (by decide) (fun zc2 => ?_) (fun zc2 => ?_)
      · have hF := pd_t zc2 hF
        have hF := hF.symm
        cases hF
        exact hJ88
      · have hF := pd_f zc2 hF
        refine pd_aload_n C dX7_waysOfWeight_76 rfl rfl ?_
        refine pd_iload_n C dX7_waysOfWeight_77 rfl rfl ?_
        refine pd_aload_n C dX7_waysOfWeight_78 rfl rfl ?_
        refine gr_7_1 C wd_2_0 (pd_lt (by decide) hn) sh_54 (rf_54_1 _) dX7_waysOfWeight_79 ?_
        refine pd_iload_n C dX7_waysOfWeight_82 rfl rfl ?_
        obtain ⟨zg3, hF⟩ := pd_gd_some hF
        refine pd_iald C (pd_lt (by decide) hn) sh_55 zg3 dX7_waysOfWeight_83 ?_
        refine pd_iload_n C dX7_waysOfWeight_84 rfl rfl ?_
        obtain ⟨zJ10, zh2, hF⟩ := pd_bd_some hF
        refine pd_callV C [.int zx2, .int (I 55 zx3.toNatClampNeg), .int p0] [] (em_X7_spread (pd_C_st C) hn  zh2) mw_X7_spread wd_5_99 rfl (by decide) (pd_lt (by decide) hn) sh_54 ⟨by decide, by decide, by decide, by decide⟩ rfl (Nat.le_of_ble_eq_true rfl) pd_oldL_same (fun _ _ => pd_old_same _) dX7_waysOfWeight_85 (stk' := []) rfl ?_
        have hF := hF.symm
        cases hF
        exact hJ88
def fl_X7_waysOfWeight_52 {O : Type} (p0 : Int32) (I : pd_I) (kont : pd_J → Option O) : Nat → Int32 → pd_J → Option O
  | 0, _, _ => none
  | fu + 1, zx2, zJ5 => if p0 < zx2 then kont zJ5 else (fl_X7_waysOfWeight_59 p0 zx2 I (fun zJ8 => pd_let (zx2 + 1) fun zv3 => fl_X7_waysOfWeight_52 p0 I kont fu zv3 zJ8) pd_FU 0 zJ5)
set_option maxRecDepth 100000 in
set_option maxHeartbeats 4000000 in
theorem el_X7_waysOfWeight_52 {cx : pd_X} (C : pd_C cx "PathDecoder$Spectrum" cX7_waysOfWeight rm_X7_waysOfWeight) {p0 : Int32} {I : pd_I} {Z : pd_R} {n : Nat} (hn : 133 ≤ n)  {O : Type} {kont : pd_J → Option O} {out : O} (K : ∀ (zJ6 : pd_J), kont zJ6 = some out → pd_V cx 0 0 100 [some (.ref 54), some (.int p0), none, none] [] I zJ6 (pd_RF Z) n) :
    ∀ (fu : Nat) (zx2 : Int32) (zJ5 : pd_J), fl_X7_waysOfWeight_52 p0 I kont fu zx2 zJ5 = some out → pd_V cx 0 0 52 [some (.ref 54), some (.int p0), some (.int zx2), none] [] I zJ5 (pd_RF Z) n := by
  intro fu
  induction fu with
  | zero => intro zx2 zJ5 hF; rw [fl_X7_waysOfWeight_52] at hF; cases hF
  | succ fu ih =>
    intro zx2 zJ5 hF
    rw [fl_X7_waysOfWeight_52] at hF
    refine pd_iload_n C dX7_waysOfWeight_52 rfl rfl ?_
    refine pd_iload_n C dX7_waysOfWeight_53 rfl rfl ?_
    refine pd_icmp_gt (tgt := 100) C dX7_waysOfWeight_54 (by decide) (fun zc4 => ?_) (fun zc4 => ?_)
    · have hF := pd_t zc4 hF
      refine pd_wk (ls' := [some (.ref 54), some (.int p0), none, none]) (And.intro rfl (And.intro rfl True.intro)) ?_
      exact K _ hF
    · have hF := pd_f zc4 hF
      refine pd_iconst (v := 0) C dX7_waysOfWeight_57 (by decide) ?_
      refine pd_istore_n (ls' := [some (.ref 54), some (.int p0), some (.int zx2), some (.int 0)]) C dX7_waysOfWeight_58 rfl (Nat.le_of_ble_eq_true rfl) rfl rfl ?_
      refine el_X7_waysOfWeight_59 C hn (fun zJ8 hF => ?_) pd_FU _ _ hF
      refine pd_iincG (zz := 1) C dX7_waysOfWeight_94 rfl (by decide) rfl (fun zv3 hzv3 => ?_)
      have hF := pd_let_at hF hzv3
      refine pd_lsE (ls' := [some (.ref 54), some (.int p0), some (.int zv3), none]) rfl ?_
      refine pd_goto (tgt := 52) C dX7_waysOfWeight_97 (by decide) ?_
      exact ih _ _ hF
def fn_X7_waysOfWeight (I : pd_I) (J : pd_J) (p0 : Int32) : Option (Int64 × pd_J) := fl_X7_waysOfWeight_2 p0 (fun zJ2 => pd_bd (fn_X7_weightOf I 1) fun zr1 => pd_bd (if p0 < zr1 then some zJ2 else (pd_bd (fn_X7_weightOf I 1) fun zr2 => pd_gd (pd_in ((zr2 * 64) + 1) 1984) (pd_let (pd_uj zJ2 58 ((zr2 * 64) + 1).toNatClampNeg 1) fun zJ11 => some zJ11))) fun (zJ4 : pd_J) => fl_X7_waysOfWeight_52 p0 I (fun zJ6 => pd_gd (pd_in (p0 * 64) 1984) (some ((zJ6 58 (p0 * 64).toNatClampNeg), zJ6))) pd_FU 0 zJ4) pd_FU 0 J
set_option maxRecDepth 100000 in
set_option maxHeartbeats 4000000 in
theorem em_X7_waysOfWeight {l : Launch} {D : va_G} {tc : Nat → ClassId} (hst : l.stackTraces = false) {I : pd_I} {J : pd_J} {Z : pd_R} {n : Nat} {p0 : Int32} (hn : 133 ≤ n)  {out : Int64 × pd_J} (hF : fn_X7_waysOfWeight I J p0 = some out) :
    pd_M l D tc yX7_waysOfWeight (.code yX7_waysOfWeight cX7_waysOfWeight 4 (Option.some Jvm.ClassFile.FieldType.long)) rm_X7_waysOfWeight [.ref 54, .int p0] I J (pd_RF Z) n (.ok (some (.long out.1))) I out.2 (pd_RF Z) n := by
  refine pd_open (own := "PathDecoder$Spectrum") (ls0 := [some (.ref 54), some (.int p0), none, none]) (by decide) rfl (Nat.le_of_ble_eq_true rfl) rfl rfl hst (fun cx hl hD htc C hE htab hnm => ?_)
  subst hl hD htc
  unfold fn_X7_waysOfWeight at hF
  refine pd_iconst (v := 0) C dX7_waysOfWeight_0 (by decide) ?_
  refine pd_istore_n (ls' := [some (.ref 54), some (.int p0), some (.int 0), none]) C dX7_waysOfWeight_1 rfl (Nat.le_of_ble_eq_true rfl) rfl rfl ?_
  refine el_X7_waysOfWeight_2 C hn (fun zJ2 hF => ?_) pd_FU _ _ hF
  refine pd_aload_n C dX7_waysOfWeight_25 rfl rfl ?_
  refine pd_iconst (v := 1) C dX7_waysOfWeight_26 (by decide) ?_
  obtain ⟨zr1, zh1, hF⟩ := pd_bd_some hF
  refine pd_callV C [.int 1] [] (em_X7_weightOf (pd_C_st C) hn  zh1) mw_X7_weightOf wd_5_60 rfl (by decide) (pd_lt (by decide) hn) sh_54 ⟨by decide, by decide, by decide, by decide⟩ rfl (Nat.le_of_ble_eq_true rfl) pd_oldL_same (fun _ _ => pd_old_same _) dX7_waysOfWeight_27 (stk' := [.int zr1]) rfl ?_
  refine pd_iload_n C dX7_waysOfWeight_30 rfl rfl ?_
  obtain ⟨zJ4, hS, hF⟩ := pd_bd_some hF
  have hJ50 : pd_V cx 0 0 50 [some (.ref 54), some (.int p0), none, none] [] I zJ4 (pd_RF Z) n := by
    refine pd_iconst (v := 0) C dX7_waysOfWeight_50 (by decide) ?_
    refine pd_istore_n (ls' := [some (.ref 54), some (.int p0), some (.int 0), none]) C dX7_waysOfWeight_51 rfl (Nat.le_of_ble_eq_true rfl) rfl rfl ?_
    refine el_X7_waysOfWeight_52 C hn (fun zJ6 hF => ?_) pd_FU _ _ hF
    refine pd_aload_n C dX7_waysOfWeight_100 rfl rfl ?_
    refine gr_7_5 C wd_2_4 (pd_lt (by decide) hn) sh_54 (rf_54_5 _) dX7_waysOfWeight_101 ?_
    refine pd_iload_n C dX7_waysOfWeight_104 rfl rfl ?_
    refine pd_bipush (v := 64) C dX7_waysOfWeight_105 (by decide) ?_
    refine pd_imul C dX7_waysOfWeight_107 ?_
    obtain ⟨zg4, hF⟩ := pd_gd_some hF
    refine pd_lald C (pd_lt (by decide) hn) sh_58 zg4 dX7_waysOfWeight_108 ?_
    cases hF
    exact pd_lret C hE rfl ⟨by decide, by decide⟩ dX7_waysOfWeight_109
  replace hF := hS
  clear hS
  refine pd_icmp_gt (tgt := 50) C dX7_waysOfWeight_31 (by decide) (fun zc5 => ?_) (fun zc5 => ?_)
  · have hF := pd_t zc5 hF
    have hF := hF.symm
    cases hF
    exact hJ50
  · have hF := pd_f zc5 hF
    refine pd_aload_n C dX7_waysOfWeight_34 rfl rfl ?_
    refine gr_7_5 C wd_2_4 (pd_lt (by decide) hn) sh_54 (rf_54_5 _) dX7_waysOfWeight_35 ?_
    refine pd_aload_n C dX7_waysOfWeight_38 rfl rfl ?_
    refine pd_iconst (v := 1) C dX7_waysOfWeight_39 (by decide) ?_
    obtain ⟨zr2, zh3, hF⟩ := pd_bd_some hF
    refine pd_callV C [.int 1] [.ref 58] (em_X7_weightOf (pd_C_st C) hn  zh3) mw_X7_weightOf wd_5_60 rfl (by decide) (pd_lt (by decide) hn) sh_54 ⟨by decide, by decide, by decide, by decide⟩ rfl (Nat.le_of_ble_eq_true rfl) pd_oldL_same (fun _ _ => pd_old_same _) dX7_waysOfWeight_40 (stk' := [.int zr2, .ref 58]) rfl ?_
    refine pd_bipush (v := 64) C dX7_waysOfWeight_43 (by decide) ?_
    refine pd_imul C dX7_waysOfWeight_45 ?_
    refine pd_iconst (v := 1) C dX7_waysOfWeight_46 (by decide) ?_
    refine pd_iadd C dX7_waysOfWeight_47 ?_
    refine pd_lconst (v := 1) C dX7_waysOfWeight_48 (by decide) ?_
    obtain ⟨zg5, hF⟩ := pd_gd_some hF
    refine pd_last C (pd_lt (by decide) hn) sh_58 zg5 dX7_waysOfWeight_49 ?_
    refine pd_memJ (fun zJ11 hzJ11 => ?_)
    have hF := pd_let_at hF hzJ11
    have hF := hF.symm
    cases hF
    exact hJ50

def fn_X11_weights (I : pd_I) (J : pd_J) (Z : pd_R) (n : Nat) (p0 : Int32) (p1 : Int32) : Option (Except String (Int64 × pd_I × pd_J)) := pd_bx (fn_X11_codeWithWeight I Z n p0) fun zq1 => pd_gd (pd_isCode zq1 n) (pd_bd (if p1 < 0 then some false else (if p1 ≤ 30 then some true else (some false))) fun zc1 => if zc1 = true then pd_bd (fn_X7_read I zq1) fun zI1 => pd_bd (fn_X7_isBad zI1) fun zr1 => pd_bd2 (if zr1 = 0 then pd_bd2 (fn_X7_waysOfWeight zI1 J p1) fun zy2 zJ2 => some (zy2, zJ2) else (some ((-1), J))) fun (zy1 : Int64) (zJ1 : pd_J) => some (.ok (zy1, zI1, zJ1)) else (some (.error "java/lang/IllegalArgumentException")))
set_option maxRecDepth 100000 in
set_option maxHeartbeats 4000000 in
theorem em_X11_weights {l : Launch} {D : va_G} {tc : Nat → ClassId} (hst : l.stackTraces = false) {I : pd_I} {J : pd_J} {Z : pd_R} {n : Nat} {p0 : Int32} {p1 : Int32} (hn : 133 ≤ n)  {out : Except String (Int64 × pd_I × pd_J)} (hF : fn_X11_weights I J Z n p0 p1 = some out) :
    pd_M l D tc yX11_weights (.code yX11_weights cX11_weights 4 (Option.some Jvm.ClassFile.FieldType.long)) rm_X11_weights [.ref 0, .int p0, .int p1] I J (pd_RF Z) n (pd_oo (fun (p : Int64 × pd_I × pd_J) => some (.long p.1)) out) (pd_os (fun (p : Int64 × pd_I × pd_J) => p.2.1) I out) (pd_os (fun (p : Int64 × pd_I × pd_J) => p.2.2) J out) (pd_RF Z) n := by
  refine pd_open (own := "PathDecoder") (ls0 := [some (.ref 0), some (.int p0), some (.int p1), none]) (by decide) rfl (Nat.le_of_ble_eq_true rfl) rfl rfl hst (fun cx hl hD htc C hE htab hnm => ?_)
  subst hl hD htc
  unfold fn_X11_weights at hF
  refine pd_aload_n C dX11_weights_0 rfl rfl ?_
  refine pd_iload_n C dX11_weights_1 rfl rfl ?_
  rcases pd_bx_some hF with ⟨e9, zh1, he9⟩ | ⟨zq1, zh1, hF⟩
  · subst he9
    exact pd_callVX C [.int p0] [] (em_X11_codeWithWeight (pd_C_st C) hn  zh1) mw_X11_codeWithWeight wd_5_46 rfl (by decide) (pd_lt (by decide) hn) sh_0 ⟨by decide, by decide, by decide, by decide⟩ rfl (Nat.le_of_ble_eq_true rfl) dX11_weights_2 (pd_prop C hE rfl htab ⟨by decide, by decide⟩)
  obtain ⟨zg1, hF⟩ := pd_gd_some hF
  refine pd_callV C [.int p0] [] (em_X11_codeWithWeight (pd_C_st C) hn  zh1) mw_X11_codeWithWeight wd_5_46 rfl (by decide) (pd_lt (by decide) hn) sh_0 ⟨by decide, by decide, by decide, by decide⟩ rfl (Nat.le_of_ble_eq_true rfl) pd_oldL_same (fun _ _ => pd_old_same _) dX11_weights_2 (stk' := [.ref zq1]) rfl ?_
  refine pd_astore_n (ls' := [some (.ref 0), some (.int p0), some (.int p1), some (.ref zq1)]) C dX11_weights_5 rfl (Nat.le_of_ble_eq_true rfl) rfl rfl ?_
  refine pd_iload_n C dX11_weights_6 rfl rfl ?_
  obtain ⟨zc1, hS, hF⟩ := pd_bd_some hF
  have hTzc1 : zc1 = true → pd_V cx 2 12 27 [some (.ref 0), some (.int p0), some (.int p1), some (.ref zq1)] [] I J (pd_RF Z) n := by
    intro hc
    have hF := pd_t hc hF
    refine pd_aload_n C dX11_weights_27 rfl rfl ?_
    refine gr_11_10 C wd_2_42 (pd_lt (by decide) hn) sh_0 (rf_0_10 _) dX11_weights_28 ?_
    refine pd_aload_n C dX11_weights_31 rfl rfl ?_
    obtain ⟨zI1, zh2, hF⟩ := pd_bd_some hF
    refine pd_callV C [.ref zq1] [] (em_X7_read (pd_C_st C) hn zg1 zh2) mw_X7_read wd_5_51 rfl (by decide) (pd_lt (by decide) hn) sh_54 ⟨by decide, by decide, by decide, by decide⟩ rfl (Nat.le_of_ble_eq_true rfl) pd_oldL_same (fun _ _ => pd_old_same _) dX11_weights_32 (stk' := []) rfl ?_
    refine pd_aload_n C dX11_weights_35 rfl rfl ?_
    refine gr_11_10 C wd_2_42 (pd_lt (by decide) hn) sh_0 (rf_0_10 _) dX11_weights_36 ?_
    obtain ⟨zr1, zh3, hF⟩ := pd_bd_some hF
    refine pd_callV C [] [] (em_X7_isBad (pd_C_st C) hn  zh3) mw_X7_isBad wd_5_69 rfl (by decide) (pd_lt (by decide) hn) sh_54 ⟨by decide, by decide, by decide, by decide⟩ rfl (Nat.le_of_ble_eq_true rfl) pd_oldL_same (fun _ _ => pd_old_same _) dX11_weights_39 (stk' := [.int zr1]) rfl ?_
    obtain ⟨zy1, zJ1, hS, hF⟩ := pd_bd2_some hF
    have hJ59 : pd_V cx 2 12 59 [none, none, none, none] [.long zy1] zI1 zJ1 (pd_RF Z) n := by
      cases hF
      exact pd_lret C hE rfl ⟨by decide, by decide⟩ dX11_weights_59
    replace hF := hS
    clear hS
    refine pd_if_eq (tgt := 51) C dX11_weights_42 (by decide) (fun zc2 => ?_) (fun zc2 => ?_)
    · have hF := pd_t zc2 hF
      refine pd_aload_n C dX11_weights_51 rfl rfl ?_
      refine gr_11_10 C wd_2_42 (pd_lt (by decide) hn) sh_0 (rf_0_10 _) dX11_weights_52 ?_
      refine pd_iload_n C dX11_weights_55 rfl rfl ?_
      obtain ⟨zy2, zJ2, zh4, hF⟩ := pd_bd2_some hF
      refine pd_callV C [.int p1] [] (em_X7_waysOfWeight (pd_C_st C) hn  zh4) mw_X7_waysOfWeight wd_5_95 rfl (by decide) (pd_lt (by decide) hn) sh_54 ⟨by decide, by decide, by decide, by decide⟩ rfl (Nat.le_of_ble_eq_true rfl) pd_oldL_same (fun _ _ => pd_old_same _) dX11_weights_56 (stk' := [.long zy2]) rfl ?_
      refine pd_wk (ls' := [none, none, none, none]) True.intro ?_
      have hF := hF.symm
      cases hF
      exact hJ59
    · have hF := pd_f zc2 hF
      refine pd_ldc2_w C wd_5_94 dX11_weights_45 ?_
      refine pd_goto (tgt := 59) C dX11_weights_48 (by decide) ?_
      refine pd_wk (ls' := [none, none, none, none]) True.intro ?_
      have hF := hF.symm
      cases hF
      exact hJ59
  have hEzc1 : zc1 = false → pd_V cx 2 12 16 [some (.ref 0), some (.int p0), some (.int p1), some (.ref zq1)] [] I J (pd_RF Z) n := by
    intro hc
    have hF := pd_bf hc hF
    cases hF
    exact pd_throwW (ik := 103) C hE rfl htab pd_tw1 wd_2_159 wd_1_17 (List.mem_of_getElem? (i := 28) rfl) dX11_weights_16 dX11_weights_19 dX11_weights_20 dX11_weights_23 dX11_weights_26 ⟨by decide, Nat.le_of_ble_eq_true rfl, by decide, by decide⟩
  replace hF := hS
  clear hS
  refine pd_if_lt (tgt := 16) C dX11_weights_7 (by decide) (fun zc4 => ?_) (fun zc4 => ?_)
  · have hF := pd_t zc4 hF
    cases hF
    exact hEzc1 rfl
  · have hF := pd_f zc4 hF
    refine pd_iload_n C dX11_weights_10 rfl rfl ?_
    refine pd_bipush (v := 30) C dX11_weights_11 (by decide) ?_
    refine pd_icmp_le (tgt := 27) C dX11_weights_13 (by decide) (fun zc3 => ?_) (fun zc3 => ?_)
    · have hF := pd_t zc3 hF
      cases hF
      exact hTzc1 rfl
    · have hF := pd_f zc3 hF
      cases hF
      exact hEzc1 rfl

def fn_X0_tapOrKeep (I : pd_I) (a : Nat) (p0 : Int32) : Option (Except String (Int32)) := pd_jn (fun (_ : Unit) => pd_jn (fun (_ : Unit) => some (.error "java/util/NoSuchElementException")) fun zj2 => if p0 < 11 then zj2 () else (if 19 ≤ p0 then zj2 () else (pd_bd (fn_X0_isCut I a) fun zr1 => pd_bd (pd_bd (if zr1 = 0 then some false else (if (I a 5) ≤ (p0 - 11) then some false else (some true))) fun zc1 => if zc1 = true then pd_gd (pd_in (p0 - 11) 8) (some (I (a + 2) (p0 - 11).toNatClampNeg)) else (some (-1))) fun (zx1 : Int32) => some (.ok zx1)))) fun zj1 => if p0 < 7 then zj1 () else (if 11 ≤ p0 then zj1 () else (pd_bd (if (I a 2) ≤ (p0 - 7) then some (-1) else (pd_gd (pd_in (p0 - 7) 4) (some (I (a + 1) (p0 - 7).toNatClampNeg)))) fun (zx2 : Int32) => some (.ok zx2)))
set_option maxRecDepth 100000 in
set_option maxHeartbeats 4000000 in
theorem em_X0_tapOrKeep {l : Launch} {D : va_G} {tc : Nat → ClassId} (hst : l.stackTraces = false) {I : pd_I} {J : pd_J} {Z : pd_R} {n : Nat} {a : Nat} {p0 : Int32} (hn : 133 ≤ n) (ha : pd_isCode a n = true) {out : Except String (Int32)} (hF : fn_X0_tapOrKeep I a p0 = some out) :
    pd_M l D tc yX0_tapOrKeep (.code yX0_tapOrKeep cX0_tapOrKeep 2 (Option.some Jvm.ClassFile.FieldType.int)) rm_X0_tapOrKeep [.ref a, .int p0] I J (pd_RF Z) n (pd_oo (fun (p : Int32) => some (.int p)) out) I J (pd_RF Z) n := by
  refine pd_open (own := "PathDecoder$Code") (ls0 := [some (.ref a), some (.int p0)]) (by decide) rfl (Nat.le_of_ble_eq_true rfl) rfl rfl hst (fun cx hl hD htc C hE htab hnm => ?_)
  subst hl hD htc
  unfold fn_X0_tapOrKeep at hF
  refine pd_iload_n C dX0_tapOrKeep_0 rfl rfl ?_
  refine pd_bipush (v := 7) C dX0_tapOrKeep_1 (by decide) ?_
  refine pd_jn_use hF (fun j => ∀ (_u : Unit), j _u = some out → pd_V cx 0 0 37 [some (.ref a), some (.int p0)] [] I J (pd_RF Z) n) (fun _u hF => ?_) (fun zj1 hzj1 hF => ?_)
  · refine pd_iload_n C dX0_tapOrKeep_37 rfl rfl ?_
    refine pd_bipush (v := 11) C dX0_tapOrKeep_38 (by decide) ?_
    refine pd_jn_use hF (fun j => ∀ (_u : Unit), j _u = some out → pd_V cx 0 0 81 [none, none] [] I J (pd_RF Z) n) (fun _u hF => ?_) (fun zj2 hzj2 hF => ?_)
    · cases hF
      exact pd_throwN (ik := 71) C hE rfl htab pd_tw4 wd_5_115 wd_1_19 (List.mem_of_getElem? (i := 29) rfl) dX0_tapOrKeep_81 dX0_tapOrKeep_84 dX0_tapOrKeep_85 dX0_tapOrKeep_87 dX0_tapOrKeep_90 ⟨by decide, Nat.le_of_ble_eq_true rfl, by decide, by decide⟩
    · refine pd_icmp_lt (tgt := 81) C dX0_tapOrKeep_40 (by decide) (fun zc5 => ?_) (fun zc5 => ?_)
      · have hF := pd_t zc5 hF
        refine pd_wk (ls' := [none, none]) True.intro ?_
        exact hzj2 _ hF
      · have hF := pd_f zc5 hF
        refine pd_iload_n C dX0_tapOrKeep_43 rfl rfl ?_
        refine pd_bipush (v := 19) C dX0_tapOrKeep_44 (by decide) ?_
        refine pd_icmp_ge (tgt := 81) C dX0_tapOrKeep_46 (by decide) (fun zc4 => ?_) (fun zc4 => ?_)
        · have hF := pd_t zc4 hF
          refine pd_wk (ls' := [none, none]) True.intro ?_
          exact hzj2 _ hF
        · have hF := pd_f zc4 hF
          refine pd_aload_n C dX0_tapOrKeep_49 rfl rfl ?_
          obtain ⟨zr1, zh1, hF⟩ := pd_bd_some hF
          refine pd_callV C [] [] (em_X0_isCut (pd_C_st C) hn ha zh1) mw_X0_isCut wd_3_229 rfl (by decide) (pd_code_lt ha) (pd_code_sh ha) ⟨by decide, by decide, by decide, by decide⟩ rfl (Nat.le_of_ble_eq_true rfl) pd_oldL_same (fun _ _ => pd_old_same _) dX0_tapOrKeep_50 (stk' := [.int zr1]) rfl ?_
          obtain ⟨zx1, hS, hF⟩ := pd_bd_some hF
          have hJ80 : pd_V cx 0 0 80 [none, none] [.int zx1] I J (pd_RF Z) n := by
            cases hF
            exact pd_iret C hE rfl rfl rfl ⟨by decide, by decide⟩ dX0_tapOrKeep_80
          replace hF := hS
          clear hS
          obtain ⟨zc1, hS, hF⟩ := pd_bd_some hF
          have hTzc1 : zc1 = true → pd_V cx 0 0 67 [some (.ref a), some (.int p0)] [] I J (pd_RF Z) n := by
            intro hc
            have hF := pd_t hc hF
            refine pd_aload_n C dX0_tapOrKeep_67 rfl rfl ?_
            refine gr_0_7 C wd_3_75 (pd_code_lt ha) (pd_code_sh ha) (pd_code_rf7 ha) dX0_tapOrKeep_68 ?_
            refine pd_iload_n C dX0_tapOrKeep_71 rfl rfl ?_
            refine pd_bipush (v := 11) C dX0_tapOrKeep_72 (by decide) ?_
            refine pd_isub C dX0_tapOrKeep_74 ?_
            obtain ⟨zg1, hF⟩ := pd_gd_some hF
            refine pd_iald C (pd_code_lt2 ha) (pd_code_sh2 ha) zg1 dX0_tapOrKeep_75 ?_
            refine pd_goto (tgt := 80) C dX0_tapOrKeep_76 (by decide) ?_
            refine pd_wk (ls' := [none, none]) True.intro ?_
            have hF := hF.symm
            cases hF
            exact hJ80
          have hEzc1 : zc1 = false → pd_V cx 0 0 79 [some (.ref a), some (.int p0)] [] I J (pd_RF Z) n := by
            intro hc
            have hF := pd_bf hc hF
            refine pd_iconst (v := (-1)) C dX0_tapOrKeep_79 (by decide) ?_
            refine pd_wk (ls' := [none, none]) True.intro ?_
            have hF := hF.symm
            cases hF
            exact hJ80
          replace hF := hS
          clear hS
          refine pd_if_eq (tgt := 79) C dX0_tapOrKeep_53 (by decide) (fun zc3 => ?_) (fun zc3 => ?_)
          · have hF := pd_t zc3 hF
            cases hF
            exact hEzc1 rfl
          · have hF := pd_f zc3 hF
            refine pd_iload_n C dX0_tapOrKeep_56 rfl rfl ?_
            refine pd_bipush (v := 11) C dX0_tapOrKeep_57 (by decide) ?_
            refine pd_isub C dX0_tapOrKeep_59 ?_
            refine pd_aload_n C dX0_tapOrKeep_60 rfl rfl ?_
            refine gi_0_5 C wd_3_71 (pd_code_lt ha) (pd_code_sh ha) dX0_tapOrKeep_61 ?_
            refine pd_icmp_ge (tgt := 79) C dX0_tapOrKeep_64 (by decide) (fun zc2 => ?_) (fun zc2 => ?_)
            · have hF := pd_t zc2 hF
              cases hF
              exact hEzc1 rfl
            · have hF := pd_f zc2 hF
              cases hF
              exact hTzc1 rfl
  · refine pd_icmp_lt (tgt := 37) C dX0_tapOrKeep_3 (by decide) (fun zc8 => ?_) (fun zc8 => ?_)
    · have hF := pd_t zc8 hF
      exact hzj1 _ hF
    · have hF := pd_f zc8 hF
      refine pd_iload_n C dX0_tapOrKeep_6 rfl rfl ?_
      refine pd_bipush (v := 11) C dX0_tapOrKeep_7 (by decide) ?_
      refine pd_icmp_ge (tgt := 37) C dX0_tapOrKeep_9 (by decide) (fun zc7 => ?_) (fun zc7 => ?_)
      · have hF := pd_t zc7 hF
        exact hzj1 _ hF
      · have hF := pd_f zc7 hF
        refine pd_iload_n C dX0_tapOrKeep_12 rfl rfl ?_
        refine pd_bipush (v := 7) C dX0_tapOrKeep_13 (by decide) ?_
        refine pd_isub C dX0_tapOrKeep_15 ?_
        refine pd_aload_n C dX0_tapOrKeep_16 rfl rfl ?_
        refine gi_0_2 C wd_3_63 (pd_code_lt ha) (pd_code_sh ha) dX0_tapOrKeep_17 ?_
        obtain ⟨zx2, hS, hF⟩ := pd_bd_some hF
        have hJ36 : pd_V cx 0 0 36 [none, none] [.int zx2] I J (pd_RF Z) n := by
          cases hF
          exact pd_iret C hE rfl rfl rfl ⟨by decide, by decide⟩ dX0_tapOrKeep_36
        replace hF := hS
        clear hS
        refine pd_icmp_ge (tgt := 35) C dX0_tapOrKeep_20 (by decide) (fun zc6 => ?_) (fun zc6 => ?_)
        · have hF := pd_t zc6 hF
          refine pd_iconst (v := (-1)) C dX0_tapOrKeep_35 (by decide) ?_
          refine pd_wk (ls' := [none, none]) True.intro ?_
          have hF := hF.symm
          cases hF
          exact hJ36
        · have hF := pd_f zc6 hF
          refine pd_aload_n C dX0_tapOrKeep_23 rfl rfl ?_
          refine gr_0_3 C wd_3_67 (pd_code_lt ha) (pd_code_sh ha) (pd_code_rf3 ha) dX0_tapOrKeep_24 ?_
          refine pd_iload_n C dX0_tapOrKeep_27 rfl rfl ?_
          refine pd_bipush (v := 7) C dX0_tapOrKeep_28 (by decide) ?_
          refine pd_isub C dX0_tapOrKeep_30 ?_
          obtain ⟨zg2, hF⟩ := pd_gd_some hF
          refine pd_iald C (pd_code_lt1 ha) (pd_code_sh1 ha) zg2 dX0_tapOrKeep_31 ?_
          refine pd_goto (tgt := 36) C dX0_tapOrKeep_32 (by decide) ?_
          refine pd_wk (ls' := [none, none]) True.intro ?_
          have hF := hF.symm
          cases hF
          exact hJ36

def fn_X11_about (I : pd_I) (Z : pd_R) (n : Nat) (p0 : Int32) (p1 : Int32) : Option (Except String (Int32)) := pd_bx (fn_X11_codeOf I Z n p0) fun zq1 => pd_gd (pd_isCode zq1 n) (if p1 = 0 then some (.ok (I zq1 0)) else (if p1 = 1 then some (.ok (I zq1 1)) else (if p1 = 2 then some (.ok (I zq1 2)) else (if p1 = 3 then pd_bd (fn_X0_states I zq1) fun zr1 => some (.ok zr1) else (if p1 = 4 then some (.ok (I zq1 4)) else (if p1 = 5 then some (.ok (I zq1 5)) else (if p1 = 6 then some (.ok (I zq1 6)) else (pd_bx (fn_X0_tapOrKeep I zq1 p1) fun zr2 => some (.ok zr2)))))))))
set_option maxRecDepth 100000 in
set_option maxHeartbeats 4000000 in
theorem em_X11_about {l : Launch} {D : va_G} {tc : Nat → ClassId} (hst : l.stackTraces = false) {I : pd_I} {J : pd_J} {Z : pd_R} {n : Nat} {p0 : Int32} {p1 : Int32} (hn : 133 ≤ n)  {out : Except String (Int32)} (hF : fn_X11_about I Z n p0 p1 = some out) :
    pd_M l D tc yX11_about (.code yX11_about cX11_about 4 (Option.some Jvm.ClassFile.FieldType.int)) rm_X11_about [.ref 0, .int p0, .int p1] I J (pd_RF Z) n (pd_oo (fun (p : Int32) => some (.int p)) out) I J (pd_RF Z) n := by
  refine pd_open (own := "PathDecoder") (ls0 := [some (.ref 0), some (.int p0), some (.int p1), none]) (by decide) rfl (Nat.le_of_ble_eq_true rfl) rfl rfl hst (fun cx hl hD htc C hE htab hnm => ?_)
  subst hl hD htc
  unfold fn_X11_about at hF
  refine pd_aload_n C dX11_about_0 rfl rfl ?_
  refine pd_iload_n C dX11_about_1 rfl rfl ?_
  rcases pd_bx_some hF with ⟨e9, zh1, he9⟩ | ⟨zq1, zh1, hF⟩
  · subst he9
    exact pd_callVX C [.int p0] [] (em_X11_codeOf (pd_C_st C) hn  zh1) mw_X11_codeOf wd_3_100 rfl (by decide) (pd_lt (by decide) hn) sh_0 ⟨by decide, by decide, by decide, by decide⟩ rfl (Nat.le_of_ble_eq_true rfl) dX11_about_2 (pd_prop C hE rfl htab ⟨by decide, by decide⟩)
  obtain ⟨zg1, hF⟩ := pd_gd_some hF
  refine pd_callV C [.int p0] [] (em_X11_codeOf (pd_C_st C) hn  zh1) mw_X11_codeOf wd_3_100 rfl (by decide) (pd_lt (by decide) hn) sh_0 ⟨by decide, by decide, by decide, by decide⟩ rfl (Nat.le_of_ble_eq_true rfl) pd_oldL_same (fun _ _ => pd_old_same _) dX11_about_2 (stk' := [.ref zq1]) rfl ?_
  refine pd_astore_n (ls' := [some (.ref 0), some (.int p0), some (.int p1), some (.ref zq1)]) C dX11_about_5 rfl (Nat.le_of_ble_eq_true rfl) rfl rfl ?_
  refine pd_iload_n C dX11_about_6 rfl rfl ?_
  by_cases hs0 : p1 = 0
  · have hF := pd_t hs0 hF
    refine pd_tabAt (tgt := 48) C dX11_about_7 hs0 (by decide) (by decide) rfl (by decide) ?_
    refine pd_aload_n C dX11_about_48 rfl rfl ?_
    refine gi_0_0 C wd_3_60 (pd_code_lt zg1) (pd_code_sh zg1) dX11_about_49 ?_
    cases hF
    exact pd_iret C hE rfl rfl rfl ⟨by decide, by decide⟩ dX11_about_52
  have hF := pd_f hs0 hF
  by_cases hs1 : p1 = 1
  · have hF := pd_t hs1 hF
    refine pd_tabAt (tgt := 53) C dX11_about_7 hs1 (by decide) (by decide) rfl (by decide) ?_
    refine pd_aload_n C dX11_about_53 rfl rfl ?_
    refine gi_0_1 C wd_3_62 (pd_code_lt zg1) (pd_code_sh zg1) dX11_about_54 ?_
    cases hF
    exact pd_iret C hE rfl rfl rfl ⟨by decide, by decide⟩ dX11_about_57
  have hF := pd_f hs1 hF
  by_cases hs2 : p1 = 2
  · have hF := pd_t hs2 hF
    refine pd_tabAt (tgt := 58) C dX11_about_7 hs2 (by decide) (by decide) rfl (by decide) ?_
    refine pd_aload_n C dX11_about_58 rfl rfl ?_
    refine gi_0_2 C wd_3_66 (pd_code_lt zg1) (pd_code_sh zg1) dX11_about_59 ?_
    cases hF
    exact pd_iret C hE rfl rfl rfl ⟨by decide, by decide⟩ dX11_about_62
  have hF := pd_f hs2 hF
  by_cases hs3 : p1 = 3
  · have hF := pd_t hs3 hF
    refine pd_tabAt (tgt := 63) C dX11_about_7 hs3 (by decide) (by decide) rfl (by decide) ?_
    refine pd_aload_n C dX11_about_63 rfl rfl ?_
    obtain ⟨zr1, zh2, hF⟩ := pd_bd_some hF
    refine pd_callV C [] [] (em_X0_states (pd_C_st C) hn zg1 zh2) mw_X0_states wd_5_110 rfl (by decide) (pd_code_lt zg1) (pd_code_sh zg1) ⟨by decide, by decide, by decide, by decide⟩ rfl (Nat.le_of_ble_eq_true rfl) pd_oldL_same (fun _ _ => pd_old_same _) dX11_about_64 (stk' := [.int zr1]) rfl ?_
    cases hF
    exact pd_iret C hE rfl rfl rfl ⟨by decide, by decide⟩ dX11_about_67
  have hF := pd_f hs3 hF
  by_cases hs4 : p1 = 4
  · have hF := pd_t hs4 hF
    refine pd_tabAt (tgt := 68) C dX11_about_7 hs4 (by decide) (by decide) rfl (by decide) ?_
    refine pd_aload_n C dX11_about_68 rfl rfl ?_
    refine gi_0_4 C wd_3_70 (pd_code_lt zg1) (pd_code_sh zg1) dX11_about_69 ?_
    cases hF
    exact pd_iret C hE rfl rfl rfl ⟨by decide, by decide⟩ dX11_about_72
  have hF := pd_f hs4 hF
  by_cases hs5 : p1 = 5
  · have hF := pd_t hs5 hF
    refine pd_tabAt (tgt := 73) C dX11_about_7 hs5 (by decide) (by decide) rfl (by decide) ?_
    refine pd_aload_n C dX11_about_73 rfl rfl ?_
    refine gi_0_5 C wd_3_72 (pd_code_lt zg1) (pd_code_sh zg1) dX11_about_74 ?_
    cases hF
    exact pd_iret C hE rfl rfl rfl ⟨by decide, by decide⟩ dX11_about_77
  have hF := pd_f hs5 hF
  by_cases hs6 : p1 = 6
  · have hF := pd_t hs6 hF
    refine pd_tabAt (tgt := 78) C dX11_about_7 hs6 (by decide) (by decide) rfl (by decide) ?_
    refine pd_aload_n C dX11_about_78 rfl rfl ?_
    refine gi_0_6 C wd_3_74 (pd_code_lt zg1) (pd_code_sh zg1) dX11_about_79 ?_
    cases hF
    exact pd_iret C hE rfl rfl rfl ⟨by decide, by decide⟩ dX11_about_82
  have hF := pd_f hs6 hF
  have hsw : ∀ z : Int, z ≠ 0 → z ≠ 1 → z ≠ 2 → z ≠ 3 → z ≠ 4 → z ≠ 5 → z ≠ 6 → z < 0 ∨ 6 < z := fun z => by omega
  refine pd_tabOut (tgt := 83) C dX11_about_7 (hsw _ (fun z => hs0 (Int32.toInt_inj.mp (z.trans (by decide)))) (fun z => hs1 (Int32.toInt_inj.mp (z.trans (by decide)))) (fun z => hs2 (Int32.toInt_inj.mp (z.trans (by decide)))) (fun z => hs3 (Int32.toInt_inj.mp (z.trans (by decide)))) (fun z => hs4 (Int32.toInt_inj.mp (z.trans (by decide)))) (fun z => hs5 (Int32.toInt_inj.mp (z.trans (by decide)))) (fun z => hs6 (Int32.toInt_inj.mp (z.trans (by decide))))) (by decide) ?_
  refine pd_aload_n C dX11_about_83 rfl rfl ?_
  refine pd_iload_n C dX11_about_84 rfl rfl ?_
  rcases pd_bx_some hF with ⟨e9, zh3, he9⟩ | ⟨zr2, zh3, hF⟩
  · subst he9
    exact pd_callVX C [.int p1] [] (em_X0_tapOrKeep (pd_C_st C) hn zg1 zh3) mw_X0_tapOrKeep wd_5_111 rfl (by decide) (pd_code_lt zg1) (pd_code_sh zg1) ⟨by decide, by decide, by decide, by decide⟩ rfl (Nat.le_of_ble_eq_true rfl) dX11_about_85 (pd_prop C hE rfl htab ⟨by decide, by decide⟩)
  refine pd_callV C [.int p1] [] (em_X0_tapOrKeep (pd_C_st C) hn zg1 zh3) mw_X0_tapOrKeep wd_5_111 rfl (by decide) (pd_code_lt zg1) (pd_code_sh zg1) ⟨by decide, by decide, by decide, by decide⟩ rfl (Nat.le_of_ble_eq_true rfl) pd_oldL_same (fun _ _ => pd_old_same _) dX11_about_85 (stk' := [.int zr2]) rfl ?_
  cases hF
  exact pd_iret C hE rfl rfl rfl ⟨by decide, by decide⟩ dX11_about_88

def fn_X12_thrown (I : pd_I) : Option Int32 := some (I 92 0)
set_option maxRecDepth 100000 in
set_option maxHeartbeats 4000000 in
theorem em_X12_thrown {l : Launch} {D : va_G} {tc : Nat → ClassId} (hst : l.stackTraces = false) {I : pd_I} {J : pd_J} {Z : pd_R} {n : Nat} (hn : 133 ≤ n)  {out : Int32} (hF : fn_X12_thrown I = some out) :
    pd_M l D tc yX12_thrown (.code yX12_thrown cX12_thrown 1 (Option.some Jvm.ClassFile.FieldType.int)) rm_X12_thrown [.ref 92] I J (pd_RF Z) n (.ok (some (.int out))) I J (pd_RF Z) n := by
  refine pd_open (own := "PathDecoderModel") (ls0 := [some (.ref 92)]) (by decide) rfl (Nat.le_of_ble_eq_true rfl) rfl rfl hst (fun cx hl hD htc C hE htab hnm => ?_)
  subst hl hD htc
  unfold fn_X12_thrown at hF
  refine pd_aload_n C dX12_thrown_0 rfl rfl ?_
  refine gi_12_0 C wd_5_125 (pd_lt (by decide) hn) sh_92 dX12_thrown_1 ?_
  cases hF
  exact pd_iret C hE rfl rfl rfl ⟨by decide, by decide⟩ dX12_thrown_4

