def fn_X11_demandOneWay (I : pd_I) (a0 : Nat) : Option (Except String (Unit)) := if (I a0 0) = 5 then some (.error "java/util/NoSuchElementException") else (some (.ok ()))
set_option maxRecDepth 100000 in
set_option maxHeartbeats 4000000 in
theorem em_X11_demandOneWay {l : Launch} {D : va_G} {tc : Nat → ClassId} (hst : l.stackTraces = false) {I : pd_I} {J : pd_J} {Z : pd_R} {n : Nat} {a0 : Nat} (hn : 133 ≤ n) (ha0 : pd_isCode a0 n = true) {out : Except String (Unit)} (hF : fn_X11_demandOneWay I a0 = some out) :
    pd_M l D tc yX11_demandOneWay (.code yX11_demandOneWay cX11_demandOneWay 1 (Option.none : Option Jvm.ClassFile.FieldType)) rm_X11_demandOneWay [.ref a0] I J (pd_RF Z) n (pd_oo (fun (p : Unit) => none) out) I J (pd_RF Z) n := by
  refine pd_open (own := "PathDecoder") (ls0 := [some (.ref a0)]) (by decide) rfl (Nat.le_of_ble_eq_true rfl) rfl rfl hst (fun cx hl hD htc C hE htab hnm => ?_)
  subst hl hD htc
  unfold fn_X11_demandOneWay at hF
  refine pd_aload_n C dX11_demandOneWay_0 rfl rfl ?_
  refine gi_0_0 C wd_3_60 (pd_code_lt ha0) (pd_code_sh ha0) dX11_demandOneWay_1 ?_
  refine pd_iconst (v := 5) C dX11_demandOneWay_4 (by decide) ?_
  refine pd_icmp_ne (tgt := 19) C dX11_demandOneWay_5 (by decide) (fun zc1 => ?_) (fun zc1 => ?_)
  · have hF := pd_f zc1 hF
    cases hF
    exact pd_vret C hE rfl ⟨by decide, by decide⟩ dX11_demandOneWay_19
  · have hF := pd_t zc1 hF
    cases hF
    exact pd_throwNW (ik := 167) C hE rfl htab pd_tw3 wd_2_209 wd_1_19 (List.mem_of_getElem? (i := 19) rfl) dX11_demandOneWay_8 dX11_demandOneWay_11 dX11_demandOneWay_12 dX11_demandOneWay_15 dX11_demandOneWay_18 ⟨by decide, Nat.le_of_ble_eq_true rfl, by decide, by decide⟩

def fl_X1_load_20 {O : Type} (a0 : Nat) (zx1 : Int32) (kont : pd_I → Option O) : Nat → Int32 → pd_I → Option O
  | 0, _, _ => none
  | fu + 1, zx2, zI4 => if 2 ≤ zx2 then kont zI4 else (pd_bd (fn_X0_stateAfter zI4 a0 zx1 zx2) fun zr2 => pd_gd (pd_in ((2 * zx1) + zx2) 128) (pd_let (pd_ui zI4 12 ((2 * zx1) + zx2).toNatClampNeg zr2) fun zI6 => pd_bd (fn_X0_outsOf zI6 a0 zx1 zx2) fun zr3 => pd_gd (pd_in ((2 * zx1) + zx2) 128) (pd_let (pd_ui zI6 13 ((2 * zx1) + zx2).toNatClampNeg zr3) fun zI7 => pd_let (zx2 + 1) fun zv1 => fl_X1_load_20 a0 zx1 kont fu zv1 zI7)))
set_option maxRecDepth 100000 in
set_option maxHeartbeats 4000000 in
theorem el_X1_load_20 {cx : pd_X} (C : pd_C cx "PathDecoder$Lattice" cX1_load rm_X1_load) {a0 : Nat} {zx1 : Int32} {J : pd_J} {Z : pd_R} {n : Nat} (hn : 133 ≤ n) (ha0 : pd_isCode a0 n = true) {O : Type} {kont : pd_I → Option O} {out : O} (K : ∀ (zI5 : pd_I), kont zI5 = some out → pd_V cx 0 0 63 [some (.ref 11), some (.ref a0), some (.int zx1), none] [] zI5 J (pd_RF Z) n) :
    ∀ (fu : Nat) (zx2 : Int32) (zI4 : pd_I), fl_X1_load_20 a0 zx1 kont fu zx2 zI4 = some out → pd_V cx 0 0 20 [some (.ref 11), some (.ref a0), some (.int zx1), some (.int zx2)] [] zI4 J (pd_RF Z) n := by
  intro fu
  induction fu with
  | zero => intro zx2 zI4 hF; rw [fl_X1_load_20] at hF; cases hF
  | succ fu ih =>
    intro zx2 zI4 hF
    rw [fl_X1_load_20] at hF
    refine pd_iload_n C dX1_load_20 rfl rfl ?_
    refine pd_iconst (v := 2) C dX1_load_21 (by decide) ?_
    refine pd_icmp_ge (tgt := 63) C dX1_load_22 (by decide) (fun zc1 => ?_) (fun zc1 => ?_)
    · have hF := pd_t zc1 hF
      refine pd_wk (ls' := [some (.ref 11), some (.ref a0), some (.int zx1), none]) (And.intro rfl (And.intro rfl (And.intro rfl True.intro))) ?_
      exact K _ hF
    · have hF := pd_f zc1 hF
      refine pd_aload_n C dX1_load_25 rfl rfl ?_
      refine gr_1_0 C wd_1_78 (pd_lt (by decide) hn) sh_11 (rf_11_0 _) dX1_load_26 ?_
      refine pd_iconst (v := 2) C dX1_load_29 (by decide) ?_
      refine pd_iload_n C dX1_load_30 rfl rfl ?_
      refine pd_imul C dX1_load_31 ?_
      refine pd_iload_n C dX1_load_32 rfl rfl ?_
      refine pd_iadd C dX1_load_33 ?_
      refine pd_aload_n C dX1_load_34 rfl rfl ?_
      refine pd_iload_n C dX1_load_35 rfl rfl ?_
      refine pd_iload_n C dX1_load_36 rfl rfl ?_
      obtain ⟨zr2, zh2, hF⟩ := pd_bd_some hF
      refine pd_callV C [.int zx1, .int zx2] [.int ((2 * zx1) + zx2), .ref 12] (em_X0_stateAfter (pd_C_st C) hn ha0 zh2) mw_X0_stateAfter wd_4_44 rfl (by decide) (pd_code_lt ha0) (pd_code_sh ha0) ⟨by decide, by decide, by decide, by decide⟩ rfl (Nat.le_of_ble_eq_true rfl) pd_oldL_same (fun _ _ => pd_old_same _) dX1_load_37 (stk' := [.int zr2, .int ((2 * zx1) + zx2), .ref 12]) rfl ?_
      obtain ⟨zg1, hF⟩ := pd_gd_some hF
      refine pd_iast C (pd_lt (by decide) hn) sh_12 zg1 dX1_load_40 ?_
      refine pd_memI (fun zI6 hzI6 => ?_)
      have hF := pd_let_at hF hzI6
      refine pd_aload_n C dX1_load_41 rfl rfl ?_
      refine gr_1_1 C wd_1_82 (pd_lt (by decide) hn) sh_11 (rf_11_1 _) dX1_load_42 ?_
      refine pd_iconst (v := 2) C dX1_load_45 (by decide) ?_
      refine pd_iload_n C dX1_load_46 rfl rfl ?_
      refine pd_imul C dX1_load_47 ?_
      refine pd_iload_n C dX1_load_48 rfl rfl ?_
      refine pd_iadd C dX1_load_49 ?_
      refine pd_aload_n C dX1_load_50 rfl rfl ?_
      refine pd_iload_n C dX1_load_51 rfl rfl ?_
      refine pd_iload_n C dX1_load_52 rfl rfl ?_
      obtain ⟨zr3, zh3, hF⟩ := pd_bd_some hF
      refine pd_callV C [.int zx1, .int zx2] [.int ((2 * zx1) + zx2), .ref 13] (em_X0_outsOf (pd_C_st C) hn ha0 zh3) mw_X0_outsOf wd_4_45 rfl (by decide) (pd_code_lt ha0) (pd_code_sh ha0) ⟨by decide, by decide, by decide, by decide⟩ rfl (Nat.le_of_ble_eq_true rfl) pd_oldL_same (fun _ _ => pd_old_same _) dX1_load_53 (stk' := [.int zr3, .int ((2 * zx1) + zx2), .ref 13]) rfl ?_
      obtain ⟨zg2, hF⟩ := pd_gd_some hF
      refine pd_iast C (pd_lt (by decide) hn) sh_13 zg2 dX1_load_56 ?_
      refine pd_memI (fun zI7 hzI7 => ?_)
      have hF := pd_let_at hF hzI7
      refine pd_iincG (zz := 1) C dX1_load_57 rfl (by decide) rfl (fun zv1 hzv1 => ?_)
      have hF := pd_let_at hF hzv1
      refine pd_lsE (ls' := [some (.ref 11), some (.ref a0), some (.int zx1), some (.int zv1)]) rfl ?_
      refine pd_goto (tgt := 20) C dX1_load_60 (by decide) ?_
      exact ih _ _ hF
def fl_X1_load_10 {O : Type} (a0 : Nat) (kont : pd_I → Option O) : Nat → Int32 → pd_I → Option O
  | 0, _, _ => none
  | fu + 1, zx1, zI2 => if (zI2 11 3) ≤ zx1 then kont zI2 else (fl_X1_load_20 a0 zx1 (fun zI5 => pd_let (zx1 + 1) fun zv2 => fl_X1_load_10 a0 kont fu zv2 zI5) pd_FU 0 zI2)
set_option maxRecDepth 100000 in
set_option maxHeartbeats 4000000 in
theorem el_X1_load_10 {cx : pd_X} (C : pd_C cx "PathDecoder$Lattice" cX1_load rm_X1_load) {a0 : Nat} {J : pd_J} {Z : pd_R} {n : Nat} (hn : 133 ≤ n) (ha0 : pd_isCode a0 n = true) {O : Type} {kont : pd_I → Option O} {out : O} (K : ∀ (zI3 : pd_I), kont zI3 = some out → pd_V cx 0 0 69 [none, none, none, none] [] zI3 J (pd_RF Z) n) :
    ∀ (fu : Nat) (zx1 : Int32) (zI2 : pd_I), fl_X1_load_10 a0 kont fu zx1 zI2 = some out → pd_V cx 0 0 10 [some (.ref 11), some (.ref a0), some (.int zx1), none] [] zI2 J (pd_RF Z) n := by
  intro fu
  induction fu with
  | zero => intro zx1 zI2 hF; rw [fl_X1_load_10] at hF; cases hF
  | succ fu ih =>
    intro zx1 zI2 hF
    rw [fl_X1_load_10] at hF
    refine pd_iload_n C dX1_load_10 rfl rfl ?_
    refine pd_aload_n C dX1_load_11 rfl rfl ?_
    refine gi_1_3 C wd_1_87 (pd_lt (by decide) hn) sh_11 dX1_load_12 ?_
    refine pd_icmp_ge (tgt := 69) C dX1_load_15 (by decide) (fun zc2 => ?_) (fun zc2 => ?_)
    · have hF := pd_t zc2 hF
      refine pd_wk (ls' := [none, none, none, none]) True.intro ?_
      exact K _ hF
    · have hF := pd_f zc2 hF
      refine pd_iconst (v := 0) C dX1_load_18 (by decide) ?_
      refine pd_istore_n (ls' := [some (.ref 11), some (.ref a0), some (.int zx1), some (.int 0)]) C dX1_load_19 rfl (Nat.le_of_ble_eq_true rfl) rfl rfl ?_
      refine el_X1_load_20 C hn ha0 (fun zI5 hF => ?_) pd_FU _ _ hF
      refine pd_iincG (zz := 1) C dX1_load_63 rfl (by decide) rfl (fun zv2 hzv2 => ?_)
      have hF := pd_let_at hF hzv2
      refine pd_lsE (ls' := [some (.ref 11), some (.ref a0), some (.int zv2), none]) rfl ?_
      refine pd_goto (tgt := 10) C dX1_load_66 (by decide) ?_
      exact ih _ _ hF
def fn_X1_load (I : pd_I) (a0 : Nat) : Option pd_I := pd_bd (fn_X0_states I a0) fun zr1 => pd_let (pd_ui I 11 3 zr1) fun zI1 => fl_X1_load_10 a0 (fun zI3 => some zI3) pd_FU 0 zI1
set_option maxRecDepth 100000 in
set_option maxHeartbeats 4000000 in
theorem em_X1_load {l : Launch} {D : va_G} {tc : Nat → ClassId} (hst : l.stackTraces = false) {I : pd_I} {J : pd_J} {Z : pd_R} {n : Nat} {a0 : Nat} (hn : 133 ≤ n) (ha0 : pd_isCode a0 n = true) {out : pd_I} (hF : fn_X1_load I a0 = some out) :
    pd_M l D tc yX1_load (.code yX1_load cX1_load 4 (Option.none : Option Jvm.ClassFile.FieldType)) rm_X1_load [.ref 11, .ref a0] I J (pd_RF Z) n (.ok (none)) out J (pd_RF Z) n := by
  refine pd_open (own := "PathDecoder$Lattice") (ls0 := [some (.ref 11), some (.ref a0), none, none]) (by decide) rfl (Nat.le_of_ble_eq_true rfl) rfl rfl hst (fun cx hl hD htc C hE htab hnm => ?_)
  subst hl hD htc
  unfold fn_X1_load at hF
  refine pd_aload_n C dX1_load_0 rfl rfl ?_
  refine pd_aload_n C dX1_load_1 rfl rfl ?_
  obtain ⟨zr1, zh1, hF⟩ := pd_bd_some hF
  refine pd_callV C [] [.ref 11] (em_X0_states (pd_C_st C) hn ha0 zh1) mw_X0_states wd_4_43 rfl (by decide) (pd_code_lt ha0) (pd_code_sh ha0) ⟨by decide, by decide, by decide, by decide⟩ rfl (Nat.le_of_ble_eq_true rfl) pd_oldL_same (fun _ _ => pd_old_same _) dX1_load_2 (stk' := [.int zr1, .ref 11]) rfl ?_
  refine pi_1_3 C wd_1_87 rfl rfl (pd_lt (by decide) hn) sh_11 dX1_load_5 ?_
  refine pd_memI (fun zI1 hzI1 => ?_)
  have hF := pd_let_at hF hzI1
  refine pd_iconst (v := 0) C dX1_load_8 (by decide) ?_
  refine pd_istore_n (ls' := [some (.ref 11), some (.ref a0), some (.int 0), none]) C dX1_load_9 rfl (Nat.le_of_ble_eq_true rfl) rfl rfl ?_
  refine el_X1_load_10 C hn ha0 (fun zI3 hF => ?_) pd_FU _ _ hF
  cases hF
  exact pd_vret C hE rfl ⟨by decide, by decide⟩ dX1_load_69

def fl_X1_clearStep_2 {O : Type} (p0 : Int32) (kont : pd_I → Option O) : Nat → Int32 → pd_I → Option O
  | 0, _, _ => none
  | fu + 1, zx1, zI1 => if 16 ≤ zx1 then kont zI1 else (pd_gd (pd_in ((p0 * 16) + zx1) 3296) (pd_let (pd_ui zI1 15 ((p0 * 16) + zx1).toNatClampNeg 0) fun zI3 => pd_let (zx1 + 1) fun zv1 => fl_X1_clearStep_2 p0 kont fu zv1 zI3))
set_option maxRecDepth 100000 in
set_option maxHeartbeats 4000000 in
theorem el_X1_clearStep_2 {cx : pd_X} (C : pd_C cx "PathDecoder$Lattice" cX1_clearStep rm_X1_clearStep) {p0 : Int32} {J : pd_J} {Z : pd_R} {n : Nat} (hn : 133 ≤ n)  {O : Type} {kont : pd_I → Option O} {out : O} (K : ∀ (zI2 : pd_I), kont zI2 = some out → pd_V cx 0 0 26 [none, none, none] [] zI2 J (pd_RF Z) n) :
    ∀ (fu : Nat) (zx1 : Int32) (zI1 : pd_I), fl_X1_clearStep_2 p0 kont fu zx1 zI1 = some out → pd_V cx 0 0 2 [some (.ref 11), some (.int p0), some (.int zx1)] [] zI1 J (pd_RF Z) n := by
  intro fu
  induction fu with
  | zero => intro zx1 zI1 hF; rw [fl_X1_clearStep_2] at hF; cases hF
  | succ fu ih =>
    intro zx1 zI1 hF
    rw [fl_X1_clearStep_2] at hF
    refine pd_iload_n C dX1_clearStep_2 rfl rfl ?_
    refine pd_bipush (v := 16) C dX1_clearStep_3 (by decide) ?_
    refine pd_icmp_ge (tgt := 26) C dX1_clearStep_5 (by decide) (fun zc1 => ?_) (fun zc1 => ?_)
    · have hF := pd_t zc1 hF
      refine pd_wk (ls' := [none, none, none]) True.intro ?_
      exact K _ hF
    · have hF := pd_f zc1 hF
      refine pd_aload_n C dX1_clearStep_8 rfl rfl ?_
      refine gr_1_4 C wd_1_91 (pd_lt (by decide) hn) sh_11 (rf_11_4 _) dX1_clearStep_9 ?_
      refine pd_iload_n C dX1_clearStep_12 rfl rfl ?_
      refine pd_bipush (v := 16) C dX1_clearStep_13 (by decide) ?_
      refine pd_imul C dX1_clearStep_15 ?_
      refine pd_iload_n C dX1_clearStep_16 rfl rfl ?_
      refine pd_iadd C dX1_clearStep_17 ?_
      refine pd_iconst (v := 0) C dX1_clearStep_18 (by decide) ?_
      obtain ⟨zg1, hF⟩ := pd_gd_some hF
      refine pd_iast C (pd_lt (by decide) hn) sh_15 zg1 dX1_clearStep_19 ?_
      refine pd_memI (fun zI3 hzI3 => ?_)
      have hF := pd_let_at hF hzI3
      refine pd_iincG (zz := 1) C dX1_clearStep_20 rfl (by decide) rfl (fun zv1 hzv1 => ?_)
      have hF := pd_let_at hF hzv1
      refine pd_lsE (ls' := [some (.ref 11), some (.int p0), some (.int zv1)]) rfl ?_
      refine pd_goto (tgt := 2) C dX1_clearStep_23 (by decide) ?_
      exact ih _ _ hF
def fn_X1_clearStep (I : pd_I) (p0 : Int32) : Option pd_I := fl_X1_clearStep_2 p0 (fun zI2 => some zI2) pd_FU 0 I
set_option maxRecDepth 100000 in
set_option maxHeartbeats 4000000 in
theorem em_X1_clearStep {l : Launch} {D : va_G} {tc : Nat → ClassId} (hst : l.stackTraces = false) {I : pd_I} {J : pd_J} {Z : pd_R} {n : Nat} {p0 : Int32} (hn : 133 ≤ n)  {out : pd_I} (hF : fn_X1_clearStep I p0 = some out) :
    pd_M l D tc yX1_clearStep (.code yX1_clearStep cX1_clearStep 3 (Option.none : Option Jvm.ClassFile.FieldType)) rm_X1_clearStep [.ref 11, .int p0] I J (pd_RF Z) n (.ok (none)) out J (pd_RF Z) n := by
  refine pd_open (own := "PathDecoder$Lattice") (ls0 := [some (.ref 11), some (.int p0), none]) (by decide) rfl (Nat.le_of_ble_eq_true rfl) rfl rfl hst (fun cx hl hD htc C hE htab hnm => ?_)
  subst hl hD htc
  unfold fn_X1_clearStep at hF
  refine pd_iconst (v := 0) C dX1_clearStep_0 (by decide) ?_
  refine pd_istore_n (ls' := [some (.ref 11), some (.int p0), some (.int 0)]) C dX1_clearStep_1 rfl (Nat.le_of_ble_eq_true rfl) rfl rfl ?_
  refine el_X1_clearStep_2 C hn (fun zI2 hF => ?_) pd_FU _ _ hF
  cases hF
  exact pd_vret C hE rfl ⟨by decide, by decide⟩ dX1_clearStep_26

def fl_X1_addSign_3 {O : Type} (p0 : Int32) (p1 : Int32) (p2 : Int32) (p3 : Int32) (kont : pd_I → Option O) : Nat → Int32 → pd_I → Option O
  | 0, _, _ => none
  | fu + 1, zx1, zI1 => if 16 ≤ zx1 then kont zI1 else (pd_gd (pd_in ((p0 * 16) + zx1) 3296) (pd_bd (if ((zx1 >>> (p1 &&& 31)) &&& 1) = 0 then some p2 else (some p3)) fun (zx2 : Int32) => pd_gd (pd_in ((p0 * 16) + zx1) 3296) (pd_let (pd_ui zI1 15 ((p0 * 16) + zx1).toNatClampNeg ((zI1 15 ((p0 * 16) + zx1).toNatClampNeg) + zx2)) fun zI3 => pd_let (zx1 + 1) fun zv1 => fl_X1_addSign_3 p0 p1 p2 p3 kont fu zv1 zI3)))
set_option maxRecDepth 100000 in
set_option maxHeartbeats 4000000 in
theorem el_X1_addSign_3 {cx : pd_X} (C : pd_C cx "PathDecoder$Lattice" cX1_addSign rm_X1_addSign) {p0 : Int32} {p1 : Int32} {p2 : Int32} {p3 : Int32} {J : pd_J} {Z : pd_R} {n : Nat} (hn : 133 ≤ n)  {O : Type} {kont : pd_I → Option O} {out : O} (K : ∀ (zI2 : pd_I), kont zI2 = some out → pd_V cx 0 0 46 [none, none, none, none, none, none] [] zI2 J (pd_RF Z) n) :
    ∀ (fu : Nat) (zx1 : Int32) (zI1 : pd_I), fl_X1_addSign_3 p0 p1 p2 p3 kont fu zx1 zI1 = some out → pd_V cx 0 0 3 [some (.ref 11), some (.int p0), some (.int p1), some (.int p2), some (.int p3), some (.int zx1)] [] zI1 J (pd_RF Z) n := by
  intro fu
  induction fu with
  | zero => intro zx1 zI1 hF; rw [fl_X1_addSign_3] at hF; cases hF
  | succ fu ih =>
    intro zx1 zI1 hF
    rw [fl_X1_addSign_3] at hF
    refine pd_iload C dX1_addSign_3 rfl ?_
    refine pd_bipush (v := 16) C dX1_addSign_5 (by decide) ?_
    refine pd_icmp_ge (tgt := 46) C dX1_addSign_7 (by decide) (fun zc2 => ?_) (fun zc2 => ?_)
    · have hF := pd_t zc2 hF
      refine pd_wk (ls' := [none, none, none, none, none, none]) True.intro ?_
      exact K _ hF
    · have hF := pd_f zc2 hF
      refine pd_aload_n C dX1_addSign_10 rfl rfl ?_
      refine gr_1_4 C wd_1_91 (pd_lt (by decide) hn) sh_11 (rf_11_4 _) dX1_addSign_11 ?_
      refine pd_iload_n C dX1_addSign_14 rfl rfl ?_
      refine pd_bipush (v := 16) C dX1_addSign_15 (by decide) ?_
      refine pd_imul C dX1_addSign_17 ?_
      refine pd_iload C dX1_addSign_18 rfl ?_
      refine pd_iadd C dX1_addSign_20 ?_
      refine pd_dup2 C dX1_addSign_21 rfl rfl ?_
      obtain ⟨zg1, hF⟩ := pd_gd_some hF
      refine pd_iald C (pd_lt (by decide) hn) sh_15 zg1 dX1_addSign_22 ?_
      refine pd_iload C dX1_addSign_23 rfl ?_
      refine pd_iload_n C dX1_addSign_25 rfl rfl ?_
      refine pd_ishr C dX1_addSign_26 ?_
      refine pd_iconst (v := 1) C dX1_addSign_27 (by decide) ?_
      refine pd_iand C dX1_addSign_28 ?_
      obtain ⟨zx2, hS, hF⟩ := pd_bd_some hF
      have hJ38 : pd_V cx 0 0 38 [some (.ref 11), some (.int p0), some (.int p1), some (.int p2), some (.int p3), some (.int zx1)] [.int zx2, .int (zI1 15 ((p0 * 16) + zx1).toNatClampNeg), .int ((p0 * 16) + zx1), .ref 15] zI1 J (pd_RF Z) n := by
        refine pd_iadd C dX1_addSign_38 ?_
        obtain ⟨zg2, hF⟩ := pd_gd_some hF
        refine pd_iast C (pd_lt (by decide) hn) sh_15 zg2 dX1_addSign_39 ?_
        refine pd_memI (fun zI3 hzI3 => ?_)
        have hF := pd_let_at hF hzI3
        refine pd_iincG (zz := 1) C dX1_addSign_40 rfl (by decide) rfl (fun zv1 hzv1 => ?_)
        have hF := pd_let_at hF hzv1
        refine pd_lsE (ls' := [some (.ref 11), some (.int p0), some (.int p1), some (.int p2), some (.int p3), some (.int zv1)]) rfl ?_
        refine pd_goto (tgt := 3) C dX1_addSign_43 (by decide) ?_
        exact ih _ _ hF
      replace hF := hS
      clear hS
      refine pd_if_ne (tgt := 36) C dX1_addSign_29 (by decide) (fun zc1 => ?_) (fun zc1 => ?_)
      · have hF := pd_f zc1 hF
        refine pd_iload C dX1_addSign_36 rfl ?_
        have hF := hF.symm
        cases hF
        exact hJ38
      · have hF := pd_t zc1 hF
        refine pd_iload_n C dX1_addSign_32 rfl rfl ?_
        refine pd_goto (tgt := 38) C dX1_addSign_33 (by decide) ?_
        have hF := hF.symm
        cases hF
        exact hJ38
def fn_X1_addSign (I : pd_I) (p0 : Int32) (p1 : Int32) (p2 : Int32) (p3 : Int32) : Option pd_I := fl_X1_addSign_3 p0 p1 p2 p3 (fun zI2 => some zI2) pd_FU 0 I
set_option maxRecDepth 100000 in
set_option maxHeartbeats 4000000 in
theorem em_X1_addSign {l : Launch} {D : va_G} {tc : Nat → ClassId} (hst : l.stackTraces = false) {I : pd_I} {J : pd_J} {Z : pd_R} {n : Nat} {p0 : Int32} {p1 : Int32} {p2 : Int32} {p3 : Int32} (hn : 133 ≤ n)  {out : pd_I} (hF : fn_X1_addSign I p0 p1 p2 p3 = some out) :
    pd_M l D tc yX1_addSign (.code yX1_addSign cX1_addSign 6 (Option.none : Option Jvm.ClassFile.FieldType)) rm_X1_addSign [.ref 11, .int p0, .int p1, .int p2, .int p3] I J (pd_RF Z) n (.ok (none)) out J (pd_RF Z) n := by
  refine pd_open (own := "PathDecoder$Lattice") (ls0 := [some (.ref 11), some (.int p0), some (.int p1), some (.int p2), some (.int p3), none]) (by decide) rfl (Nat.le_of_ble_eq_true rfl) rfl rfl hst (fun cx hl hD htc C hE htab hnm => ?_)
  subst hl hD htc
  unfold fn_X1_addSign at hF
  refine pd_iconst (v := 0) C dX1_addSign_0 (by decide) ?_
  refine pd_istore (ls' := [some (.ref 11), some (.int p0), some (.int p1), some (.int p2), some (.int p3), some (.int 0)]) C dX1_addSign_1 (Nat.le_of_ble_eq_true rfl) rfl rfl ?_
  refine el_X1_addSign_3 C hn (fun zI2 hF => ?_) pd_FU _ _ hF
  cases hF
  exact pd_vret C hE rfl ⟨by decide, by decide⟩ dX1_addSign_46

def fl_X11_prepare_43 {O : Type} (a0 : Nat) (zx1 : Int32) (kont : pd_I → Option O) : Nat → Int32 → pd_I → Option O
  | 0, _, _ => none
  | fu + 1, zx2, zI6 => if (zI6 a0 2) ≤ zx2 then kont zI6 else (pd_let ((zx1 * 7) + zx2) fun zv1 => pd_gd (pd_in zv1 1442) (pd_gd (pd_in zv1 1442) (pd_bd (fn_X1_addSign zI6 zx1 zx2 (zI6 9 zv1.toNatClampNeg) (zI6 10 zv1.toNatClampNeg)) fun zI8 => pd_let (zx2 + 1) fun zv2 => fl_X11_prepare_43 a0 zx1 kont fu zv2 zI8)))
set_option maxRecDepth 100000 in
set_option maxHeartbeats 4000000 in
theorem el_X11_prepare_43 {cx : pd_X} (C : pd_C cx "PathDecoder" cX11_prepare rm_X11_prepare) {a0 : Nat} {p2 : Int32} {zx1 : Int32} {J : pd_J} {Z : pd_R} {n : Nat} (hn : 133 ≤ n) (ha0 : pd_isCode a0 n = true) {O : Type} {kont : pd_I → Option O} {out : O} (K : ∀ (zI7 : pd_I), kont zI7 = some out → pd_V cx 0 0 99 [some (.ref 0), some (.ref a0), none, some (.int p2), some (.int zx1), none, none] [] zI7 J (pd_RF Z) n) :
    ∀ (fu : Nat) (zx2 : Int32) (zI6 : pd_I), fl_X11_prepare_43 a0 zx1 kont fu zx2 zI6 = some out → pd_V cx 0 0 43 [some (.ref 0), some (.ref a0), none, some (.int p2), some (.int zx1), some (.int zx2), none] [] zI6 J (pd_RF Z) n := by
  intro fu
  induction fu with
  | zero => intro zx2 zI6 hF; rw [fl_X11_prepare_43] at hF; cases hF
  | succ fu ih =>
    intro zx2 zI6 hF
    rw [fl_X11_prepare_43] at hF
    refine pd_iload C dX11_prepare_43 rfl ?_
    refine pd_aload_n C dX11_prepare_45 rfl rfl ?_
    refine gi_0_2 C wd_3_66 (pd_code_lt ha0) (pd_code_sh ha0) dX11_prepare_46 ?_
    refine pd_icmp_ge (tgt := 99) C dX11_prepare_49 (by decide) (fun zc1 => ?_) (fun zc1 => ?_)
    · have hF := pd_t zc1 hF
      refine pd_wk (ls' := [some (.ref 0), some (.ref a0), none, some (.int p2), some (.int zx1), none, none]) (And.intro rfl (And.intro rfl (And.intro rfl (And.intro rfl True.intro)))) ?_
      exact K _ hF
    · have hF := pd_f zc1 hF
      refine pd_iload C dX11_prepare_52 rfl ?_
      refine pd_bipush (v := 7) C dX11_prepare_54 (by decide) ?_
      refine pd_imul C dX11_prepare_56 ?_
      refine pd_iload C dX11_prepare_57 rfl ?_
      refine pd_iadd C dX11_prepare_59 ?_
      refine pd_topi (fun zv1 hzv1 => ?_)
      have hF := pd_let_at hF hzv1
      refine pd_istore (ls' := [some (.ref 0), some (.ref a0), none, some (.int p2), some (.int zx1), some (.int zx2), some (.int zv1)]) C dX11_prepare_60 (Nat.le_of_ble_eq_true rfl) rfl rfl ?_
      refine pd_aload_n C dX11_prepare_62 rfl rfl ?_
      refine gr_11_5 C wd_2_37 (pd_lt (by decide) hn) sh_0 (rf_0_5 _) dX11_prepare_63 ?_
      refine pd_iload C dX11_prepare_66 rfl ?_
      refine pd_iload C dX11_prepare_68 rfl ?_
      refine pd_aload_n C dX11_prepare_70 rfl rfl ?_
      refine gr_11_4 C wd_2_36 (pd_lt (by decide) hn) sh_0 (rf_0_4 _) dX11_prepare_71 ?_
      refine gr_3_2 C wd_1_59 (pd_lt (by decide) hn) sh_6 (rf_6_2 _) dX11_prepare_74 ?_
      refine pd_iload C dX11_prepare_77 rfl ?_
      obtain ⟨zg1, hF⟩ := pd_gd_some hF
      refine pd_iald C (pd_lt (by decide) hn) sh_9 zg1 dX11_prepare_79 ?_
      refine pd_aload_n C dX11_prepare_80 rfl rfl ?_
      refine gr_11_4 C wd_2_36 (pd_lt (by decide) hn) sh_0 (rf_0_4 _) dX11_prepare_81 ?_
      refine gr_3_3 C wd_1_62 (pd_lt (by decide) hn) sh_6 (rf_6_3 _) dX11_prepare_84 ?_
      refine pd_iload C dX11_prepare_87 rfl ?_
      obtain ⟨zg2, hF⟩ := pd_gd_some hF
      refine pd_iald C (pd_lt (by decide) hn) sh_10 zg2 dX11_prepare_89 ?_
      obtain ⟨zI8, zh5, hF⟩ := pd_bd_some hF
      refine pd_callV C [.int zx1, .int zx2, .int (zI6 9 zv1.toNatClampNeg), .int (zI6 10 zv1.toNatClampNeg)] [] (em_X1_addSign (pd_C_st C) hn  zh5) mw_X1_addSign wd_4_51 rfl (by decide) (pd_lt (by decide) hn) sh_11 ⟨by decide, by decide, by decide, by decide⟩ rfl (Nat.le_of_ble_eq_true rfl) pd_oldL_same (fun _ _ => pd_old_same _) dX11_prepare_90 (stk' := []) rfl ?_
      refine pd_iincG (zz := 1) C dX11_prepare_93 rfl (by decide) rfl (fun zv2 hzv2 => ?_)
      have hF := pd_let_at hF hzv2
      refine pd_lsE (ls' := [some (.ref 0), some (.ref a0), none, some (.int p2), some (.int zx1), some (.int zv2), some (.int zv1)]) rfl ?_
      refine pd_goto (tgt := 43) C dX11_prepare_96 (by decide) ?_
      refine pd_wk (ls' := [some (.ref 0), some (.ref a0), none, some (.int p2), some (.int zx1), some (.int zv2), none]) (And.intro rfl (And.intro rfl (And.intro rfl (And.intro rfl (And.intro rfl True.intro))))) ?_
      exact ih _ _ hF
def fl_X11_prepare_21 {O : Type} (a0 : Nat) (p2 : Int32) (kont : pd_I → Option O) : Nat → Int32 → pd_I → Option O
  | 0, _, _ => none
  | fu + 1, zx1, zI3 => pd_bd (fn_X0_steps zI3 a0 p2) fun zr1 => if zr1 ≤ zx1 then kont zI3 else (pd_bd (fn_X1_clearStep zI3 zx1) fun zI5 => fl_X11_prepare_43 a0 zx1 (fun zI7 => pd_let (zx1 + 1) fun zv3 => fl_X11_prepare_21 a0 p2 kont fu zv3 zI7) pd_FU 0 zI5)
set_option maxRecDepth 100000 in
set_option maxHeartbeats 4000000 in
theorem el_X11_prepare_21 {cx : pd_X} (C : pd_C cx "PathDecoder" cX11_prepare rm_X11_prepare) {a0 : Nat} {p2 : Int32} {J : pd_J} {Z : pd_R} {n : Nat} (hn : 133 ≤ n) (ha0 : pd_isCode a0 n = true) {O : Type} {kont : pd_I → Option O} {out : O} (K : ∀ (zI4 : pd_I), kont zI4 = some out → pd_V cx 0 0 105 [none, none, none, none, none, none, none] [] zI4 J (pd_RF Z) n) :
    ∀ (fu : Nat) (zx1 : Int32) (zI3 : pd_I), fl_X11_prepare_21 a0 p2 kont fu zx1 zI3 = some out → pd_V cx 0 0 21 [some (.ref 0), some (.ref a0), none, some (.int p2), some (.int zx1), none, none] [] zI3 J (pd_RF Z) n := by
  intro fu
  induction fu with
  | zero => intro zx1 zI3 hF; rw [fl_X11_prepare_21] at hF; cases hF
  | succ fu ih =>
    intro zx1 zI3 hF
    rw [fl_X11_prepare_21] at hF
    refine pd_iload C dX11_prepare_21 rfl ?_
    refine pd_aload_n C dX11_prepare_23 rfl rfl ?_
    refine pd_iload_n C dX11_prepare_24 rfl rfl ?_
    obtain ⟨zr1, zh3, hF⟩ := pd_bd_some hF
    refine pd_callV C [.int p2] [.int zx1] (em_X0_steps (pd_C_st C) hn ha0 zh3) mw_X0_steps wd_4_46 rfl (by decide) (pd_code_lt ha0) (pd_code_sh ha0) ⟨by decide, by decide, by decide, by decide⟩ rfl (Nat.le_of_ble_eq_true rfl) pd_oldL_same (fun _ _ => pd_old_same _) dX11_prepare_25 (stk' := [.int zr1, .int zx1]) rfl ?_
    refine pd_icmp_ge (tgt := 105) C dX11_prepare_28 (by decide) (fun zc2 => ?_) (fun zc2 => ?_)
    · have hF := pd_t zc2 hF
      refine pd_wk (ls' := [none, none, none, none, none, none, none]) True.intro ?_
      exact K _ hF
    · have hF := pd_f zc2 hF
      refine pd_aload_n C dX11_prepare_31 rfl rfl ?_
      refine gr_11_5 C wd_2_37 (pd_lt (by decide) hn) sh_0 (rf_0_5 _) dX11_prepare_32 ?_
      refine pd_iload C dX11_prepare_35 rfl ?_
      obtain ⟨zI5, zh4, hF⟩ := pd_bd_some hF
      refine pd_callV C [.int zx1] [] (em_X1_clearStep (pd_C_st C) hn  zh4) mw_X1_clearStep wd_4_47 rfl (by decide) (pd_lt (by decide) hn) sh_11 ⟨by decide, by decide, by decide, by decide⟩ rfl (Nat.le_of_ble_eq_true rfl) pd_oldL_same (fun _ _ => pd_old_same _) dX11_prepare_37 (stk' := []) rfl ?_
      refine pd_iconst (v := 0) C dX11_prepare_40 (by decide) ?_
      refine pd_istore (ls' := [some (.ref 0), some (.ref a0), none, some (.int p2), some (.int zx1), some (.int 0), none]) C dX11_prepare_41 (Nat.le_of_ble_eq_true rfl) rfl rfl ?_
      refine el_X11_prepare_43 C hn ha0 (fun zI7 hF => ?_) pd_FU _ _ hF
      refine pd_iincG (zz := 1) C dX11_prepare_99 rfl (by decide) rfl (fun zv3 hzv3 => ?_)
      have hF := pd_let_at hF hzv3
      refine pd_lsE (ls' := [some (.ref 0), some (.ref a0), none, some (.int p2), some (.int zv3), none, none]) rfl ?_
      refine pd_goto (tgt := 21) C dX11_prepare_102 (by decide) ?_
      exact ih _ _ hF
def fn_X11_prepare (I : pd_I) (a0 : Nat) (a1 : Nat) (p2 : Int32) : Option pd_I := pd_bd (fn_X3_read I a0 p2 a1) fun zI1 => pd_bd (fn_X1_load zI1 a0) fun zI2 => fl_X11_prepare_21 a0 p2 (fun zI4 => some zI4) pd_FU 0 zI2
set_option maxRecDepth 100000 in
set_option maxHeartbeats 4000000 in
theorem em_X11_prepare {l : Launch} {D : va_G} {tc : Nat → ClassId} (hst : l.stackTraces = false) {I : pd_I} {J : pd_J} {Z : pd_R} {n : Nat} {a0 : Nat} {a1 : Nat} {p2 : Int32} (hn : 133 ≤ n) (ha0 : pd_isCode a0 n = true) (ha1 : pd_isRow a1 = true) {out : pd_I} (hF : fn_X11_prepare I a0 a1 p2 = some out) :
    pd_M l D tc yX11_prepare (.code yX11_prepare cX11_prepare 7 (Option.none : Option Jvm.ClassFile.FieldType)) rm_X11_prepare [.ref 0, .ref a0, .ref a1, .int p2] I J (pd_RF Z) n (.ok (none)) out J (pd_RF Z) n := by
  refine pd_open (own := "PathDecoder") (ls0 := [some (.ref 0), some (.ref a0), some (.ref a1), some (.int p2), none, none, none]) (by decide) rfl (Nat.le_of_ble_eq_true rfl) rfl rfl hst (fun cx hl hD htc C hE htab hnm => ?_)
  subst hl hD htc
  unfold fn_X11_prepare at hF
  refine pd_aload_n C dX11_prepare_0 rfl rfl ?_
  refine gr_11_4 C wd_2_36 (pd_lt (by decide) hn) sh_0 (rf_0_4 _) dX11_prepare_1 ?_
  refine pd_aload_n C dX11_prepare_4 rfl rfl ?_
  refine pd_iload_n C dX11_prepare_5 rfl rfl ?_
  refine pd_aload_n C dX11_prepare_6 rfl rfl ?_
  obtain ⟨zI1, zh1, hF⟩ := pd_bd_some hF
  refine pd_callV C [.ref a0, .int p2, .ref a1] [] (em_X3_read (pd_C_st C) hn ha0 ha1 zh1) mw_X3_read wd_4_11 rfl (by decide) (pd_lt (by decide) hn) sh_6 ⟨by decide, by decide, by decide, by decide⟩ rfl (Nat.le_of_ble_eq_true rfl) pd_oldL_same (fun _ _ => pd_old_same _) dX11_prepare_7 (stk' := []) rfl ?_
  refine pd_aload_n C dX11_prepare_10 rfl rfl ?_
  refine gr_11_5 C wd_2_37 (pd_lt (by decide) hn) sh_0 (rf_0_5 _) dX11_prepare_11 ?_
  refine pd_aload_n C dX11_prepare_14 rfl rfl ?_
  obtain ⟨zI2, zh2, hF⟩ := pd_bd_some hF
  refine pd_callV C [.ref a0] [] (em_X1_load (pd_C_st C) hn ha0 zh2) mw_X1_load wd_4_39 rfl (by decide) (pd_lt (by decide) hn) sh_11 ⟨by decide, by decide, by decide, by decide⟩ rfl (Nat.le_of_ble_eq_true rfl) pd_oldL_same (fun _ _ => pd_old_same _) dX11_prepare_15 (stk' := []) rfl ?_
  refine pd_iconst (v := 0) C dX11_prepare_18 (by decide) ?_
  refine pd_istore (ls' := [some (.ref 0), some (.ref a0), some (.ref a1), some (.int p2), some (.int 0), none, none]) C dX11_prepare_19 (Nat.le_of_ble_eq_true rfl) rfl rfl ?_
  refine pd_wk (ls' := [some (.ref 0), some (.ref a0), none, some (.int p2), some (.int 0), none, none]) (And.intro rfl (And.intro rfl (And.intro rfl (And.intro rfl True.intro)))) ?_
  refine el_X11_prepare_21 C hn ha0 (fun zI4 hF => ?_) pd_FU _ _ hF
  cases hF
  exact pd_vret C hE rfl ⟨by decide, by decide⟩ dX11_prepare_105

def fn_X10_open (I : pd_I) (p0 : Int32) : Option pd_I := pd_let (pd_ui I 16 1 0) fun zI1 => pd_let (pd_ui zI1 16 2 p0) fun zI2 => some zI2
set_option maxRecDepth 100000 in
set_option maxHeartbeats 4000000 in
theorem em_X10_open {l : Launch} {D : va_G} {tc : Nat → ClassId} (hst : l.stackTraces = false) {I : pd_I} {J : pd_J} {Z : pd_R} {n : Nat} {p0 : Int32} (hn : 133 ≤ n)  {out : pd_I} (hF : fn_X10_open I p0 = some out) :
    pd_M l D tc yX10_open (.code yX10_open cX10_open 2 (Option.none : Option Jvm.ClassFile.FieldType)) rm_X10_open [.ref 16, .int p0] I J (pd_RF Z) n (.ok (none)) out J (pd_RF Z) n := by
  refine pd_open (own := "PathDecoder$Ways") (ls0 := [some (.ref 16), some (.int p0)]) (by decide) rfl (Nat.le_of_ble_eq_true rfl) rfl rfl hst (fun cx hl hD htc C hE htab hnm => ?_)
  subst hl hD htc
  unfold fn_X10_open at hF
  refine pd_aload_n C dX10_open_0 rfl rfl ?_
  refine pd_iconst (v := 0) C dX10_open_1 (by decide) ?_
  refine pi_10_1 C wd_1_136 rfl rfl (pd_lt (by decide) hn) sh_16 dX10_open_2 ?_
  refine pd_memI (fun zI1 hzI1 => ?_)
  have hF := pd_let_at hF hzI1
  refine pd_aload_n C dX10_open_5 rfl rfl ?_
  refine pd_iload_n C dX10_open_6 rfl rfl ?_
  refine pi_10_2 C wd_1_137 rfl rfl (pd_lt (by decide) hn) sh_16 dX10_open_7 ?_
  refine pd_memI (fun zI2 hzI2 => ?_)
  have hF := pd_let_at hF hzI2
  cases hF
  exact pd_vret C hE rfl ⟨by decide, by decide⟩ dX10_open_10

def fn_X0_beginnings (I : pd_I) (a : Nat) : Option Int32 := pd_bd (if (I a 0) = 4 then pd_bd (fn_X0_states I a) fun zr1 => some zr1 else (some 1)) fun (zx1 : Int32) => some zx1
set_option maxRecDepth 100000 in
set_option maxHeartbeats 4000000 in
theorem em_X0_beginnings {l : Launch} {D : va_G} {tc : Nat → ClassId} (hst : l.stackTraces = false) {I : pd_I} {J : pd_J} {Z : pd_R} {n : Nat} {a : Nat} (hn : 133 ≤ n) (ha : pd_isCode a n = true) {out : Int32} (hF : fn_X0_beginnings I a = some out) :
    pd_M l D tc yX0_beginnings (.code yX0_beginnings cX0_beginnings 1 (Option.some Jvm.ClassFile.FieldType.int)) rm_X0_beginnings [.ref a] I J (pd_RF Z) n (.ok (some (.int out))) I J (pd_RF Z) n := by
  refine pd_open (own := "PathDecoder$Code") (ls0 := [some (.ref a)]) (by decide) rfl (Nat.le_of_ble_eq_true rfl) rfl rfl hst (fun cx hl hD htc C hE htab hnm => ?_)
  subst hl hD htc
  unfold fn_X0_beginnings at hF
  refine pd_aload_n C dX0_beginnings_0 rfl rfl ?_
  refine gi_0_0 C wd_3_56 (pd_code_lt ha) (pd_code_sh ha) dX0_beginnings_1 ?_
  refine pd_iconst (v := 4) C dX0_beginnings_4 (by decide) ?_
  obtain ⟨zx1, hS, hF⟩ := pd_bd_some hF
  have hJ16 : pd_V cx 0 0 16 [none] [.int zx1] I J (pd_RF Z) n := by
    cases hF
    exact pd_iret C hE rfl rfl rfl ⟨by decide, by decide⟩ dX0_beginnings_16
  replace hF := hS
  clear hS
  refine pd_icmp_ne (tgt := 15) C dX0_beginnings_5 (by decide) (fun zc1 => ?_) (fun zc1 => ?_)
  · have hF := pd_f zc1 hF
    refine pd_iconst (v := 1) C dX0_beginnings_15 (by decide) ?_
    refine pd_wk (ls' := [none]) True.intro ?_
    have hF := hF.symm
    cases hF
    exact hJ16
  · have hF := pd_t zc1 hF
    refine pd_aload_n C dX0_beginnings_8 rfl rfl ?_
    obtain ⟨zr1, zh1, hF⟩ := pd_bd_some hF
    refine pd_callV C [] [] (em_X0_states (pd_C_st C) hn ha zh1) mw_X0_states wd_3_192 rfl (by decide) (pd_code_lt ha) (pd_code_sh ha) ⟨by decide, by decide, by decide, by decide⟩ rfl (Nat.le_of_ble_eq_true rfl) pd_oldL_same (fun _ _ => pd_old_same _) dX0_beginnings_9 (stk' := [.int zr1]) rfl ?_
    refine pd_goto (tgt := 16) C dX0_beginnings_12 (by decide) ?_
    refine pd_wk (ls' := [none]) True.intro ?_
    have hF := hF.symm
    cases hF
    exact hJ16

def fn_X1_tailEdge (I : pd_I) (p0 : Int32) : Option Int32 := pd_gd (pd_in (2 * p0) 128) (pd_bd (if ((I 12 (2 * p0).toNatClampNeg) &&& 1) = 0 then some (2 * p0) else (some ((2 * p0) + 1))) fun (zx1 : Int32) => some zx1)
set_option maxRecDepth 100000 in
set_option maxHeartbeats 4000000 in
theorem em_X1_tailEdge {l : Launch} {D : va_G} {tc : Nat → ClassId} (hst : l.stackTraces = false) {I : pd_I} {J : pd_J} {Z : pd_R} {n : Nat} {p0 : Int32} (hn : 133 ≤ n)  {out : Int32} (hF : fn_X1_tailEdge I p0 = some out) :
    pd_M l D tc yX1_tailEdge (.code yX1_tailEdge cX1_tailEdge 2 (Option.some Jvm.ClassFile.FieldType.int)) rm_X1_tailEdge [.ref 11, .int p0] I J (pd_RF Z) n (.ok (some (.int out))) I J (pd_RF Z) n := by
  refine pd_open (own := "PathDecoder$Lattice") (ls0 := [some (.ref 11), some (.int p0)]) (by decide) rfl (Nat.le_of_ble_eq_true rfl) rfl rfl hst (fun cx hl hD htc C hE htab hnm => ?_)
  subst hl hD htc
  unfold fn_X1_tailEdge at hF
  refine pd_aload_n C dX1_tailEdge_0 rfl rfl ?_
  refine gr_1_0 C wd_1_78 (pd_lt (by decide) hn) sh_11 (rf_11_0 _) dX1_tailEdge_1 ?_
  refine pd_iconst (v := 2) C dX1_tailEdge_4 (by decide) ?_
  refine pd_iload_n C dX1_tailEdge_5 rfl rfl ?_
  refine pd_imul C dX1_tailEdge_6 ?_
  obtain ⟨zg1, hF⟩ := pd_gd_some hF
  refine pd_iald C (pd_lt (by decide) hn) sh_12 zg1 dX1_tailEdge_7 ?_
  refine pd_iconst (v := 1) C dX1_tailEdge_8 (by decide) ?_
  refine pd_iand C dX1_tailEdge_9 ?_
  obtain ⟨zx1, hS, hF⟩ := pd_bd_some hF
  have hJ24 : pd_V cx 0 0 24 [none, none] [.int zx1] I J (pd_RF Z) n := by
    cases hF
    exact pd_iret C hE rfl rfl rfl ⟨by decide, by decide⟩ dX1_tailEdge_24
  replace hF := hS
  clear hS
  refine pd_if_ne (tgt := 19) C dX1_tailEdge_10 (by decide) (fun zc1 => ?_) (fun zc1 => ?_)
  · have hF := pd_f zc1 hF
    refine pd_iconst (v := 2) C dX1_tailEdge_19 (by decide) ?_
    refine pd_iload_n C dX1_tailEdge_20 rfl rfl ?_
    refine pd_imul C dX1_tailEdge_21 ?_
    refine pd_iconst (v := 1) C dX1_tailEdge_22 (by decide) ?_
    refine pd_iadd C dX1_tailEdge_23 ?_
    refine pd_wk (ls' := [none, none]) True.intro ?_
    have hF := hF.symm
    cases hF
    exact hJ24
  · have hF := pd_t zc1 hF
    refine pd_iconst (v := 2) C dX1_tailEdge_13 (by decide) ?_
    refine pd_iload_n C dX1_tailEdge_14 rfl rfl ?_
    refine pd_imul C dX1_tailEdge_15 ?_
    refine pd_goto (tgt := 24) C dX1_tailEdge_16 (by decide) ?_
    refine pd_wk (ls' := [none, none]) True.intro ?_
    have hF := hF.symm
    cases hF
    exact hJ24

def fn_X1_priceOf (I : pd_I) (p0 : Int32) (p1 : Int32) : Option Int32 := pd_gd (pd_in p1 128) (pd_gd (pd_in ((p0 * 16) + (I 13 p1.toNatClampNeg)) 3296) (some (I 15 ((p0 * 16) + (I 13 p1.toNatClampNeg)).toNatClampNeg)))
set_option maxRecDepth 100000 in
set_option maxHeartbeats 4000000 in
theorem em_X1_priceOf {l : Launch} {D : va_G} {tc : Nat → ClassId} (hst : l.stackTraces = false) {I : pd_I} {J : pd_J} {Z : pd_R} {n : Nat} {p0 : Int32} {p1 : Int32} (hn : 133 ≤ n)  {out : Int32} (hF : fn_X1_priceOf I p0 p1 = some out) :
    pd_M l D tc yX1_priceOf (.code yX1_priceOf cX1_priceOf 3 (Option.some Jvm.ClassFile.FieldType.int)) rm_X1_priceOf [.ref 11, .int p0, .int p1] I J (pd_RF Z) n (.ok (some (.int out))) I J (pd_RF Z) n := by
  refine pd_open (own := "PathDecoder$Lattice") (ls0 := [some (.ref 11), some (.int p0), some (.int p1)]) (by decide) rfl (Nat.le_of_ble_eq_true rfl) rfl rfl hst (fun cx hl hD htc C hE htab hnm => ?_)
  subst hl hD htc
  unfold fn_X1_priceOf at hF
  refine pd_aload_n C dX1_priceOf_0 rfl rfl ?_
  refine gr_1_4 C wd_1_91 (pd_lt (by decide) hn) sh_11 (rf_11_4 _) dX1_priceOf_1 ?_
  refine pd_iload_n C dX1_priceOf_4 rfl rfl ?_
  refine pd_bipush (v := 16) C dX1_priceOf_5 (by decide) ?_
  refine pd_imul C dX1_priceOf_7 ?_
  refine pd_aload_n C dX1_priceOf_8 rfl rfl ?_
  refine gr_1_1 C wd_1_82 (pd_lt (by decide) hn) sh_11 (rf_11_1 _) dX1_priceOf_9 ?_
  refine pd_iload_n C dX1_priceOf_12 rfl rfl ?_
  obtain ⟨zg1, hF⟩ := pd_gd_some hF
  refine pd_iald C (pd_lt (by decide) hn) sh_13 zg1 dX1_priceOf_13 ?_
  refine pd_iadd C dX1_priceOf_14 ?_
  obtain ⟨zg2, hF⟩ := pd_gd_some hF
  refine pd_iald C (pd_lt (by decide) hn) sh_15 zg2 dX1_priceOf_15 ?_
  cases hF
  exact pd_iret C hE rfl rfl rfl ⟨by decide, by decide⟩ dX1_priceOf_16

def fl_X1_tailPrice_9 {O : Type} (p2 : Int32) (I : pd_I) (kont : Int32 → Option O) : Nat → Int32 → Int32 → Int32 → Option O
  | 0, _, _, _ => none
  | fu + 1, zx1, zx2, zx3 => if p2 ≤ zx3 then kont zx1 else (pd_bd (fn_X1_tailEdge I zx2) fun zr1 => pd_bd (fn_X1_priceOf I zx3 zr1) fun zr2 => pd_let (zx1 + zr2) fun zv1 => pd_gd (pd_in zr1 128) (pd_let (I 12 zr1.toNatClampNeg) fun zv2 => pd_let (zx3 + 1) fun zv3 => fl_X1_tailPrice_9 p2 I kont fu zv1 zv2 zv3))
set_option maxRecDepth 100000 in
set_option maxHeartbeats 4000000 in
theorem el_X1_tailPrice_9 {cx : pd_X} (C : pd_C cx "PathDecoder$Lattice" cX1_tailPrice rm_X1_tailPrice) {p2 : Int32} {I : pd_I} {J : pd_J} {Z : pd_R} {n : Nat} (hn : 133 ≤ n)  {O : Type} {kont : Int32 → Option O} {out : O} (K : ∀ (zx4 : Int32), kont zx4 = some out → pd_V cx 0 0 51 [none, none, none, none, some (.int zx4), none, none, none] [] I J (pd_RF Z) n) :
    ∀ (fu : Nat) (zx1 : Int32) (zx2 : Int32) (zx3 : Int32), fl_X1_tailPrice_9 p2 I kont fu zx1 zx2 zx3 = some out → pd_V cx 0 0 9 [some (.ref 11), none, none, some (.int p2), some (.int zx1), some (.int zx2), some (.int zx3), none] [] I J (pd_RF Z) n := by
  intro fu
  induction fu with
  | zero => intro zx1 zx2 zx3 hF; rw [fl_X1_tailPrice_9] at hF; cases hF
  | succ fu ih =>
    intro zx1 zx2 zx3 hF
    rw [fl_X1_tailPrice_9] at hF
    refine pd_iload C dX1_tailPrice_9 rfl ?_
    refine pd_iload_n C dX1_tailPrice_11 rfl rfl ?_
    refine pd_icmp_ge (tgt := 51) C dX1_tailPrice_12 (by decide) (fun zc1 => ?_) (fun zc1 => ?_)
    · have hF := pd_t zc1 hF
      refine pd_wk (ls' := [none, none, none, none, some (.int zx1), none, none, none]) (And.intro rfl True.intro) ?_
      exact K _ hF
    · have hF := pd_f zc1 hF
      refine pd_aload_n C dX1_tailPrice_15 rfl rfl ?_
      refine pd_iload C dX1_tailPrice_16 rfl ?_
      obtain ⟨zr1, zh1, hF⟩ := pd_bd_some hF
      refine pd_callV C [.int zx2] [] (em_X1_tailEdge (pd_C_st C) hn  zh1) mw_X1_tailEdge wd_4_77 rfl (by decide) (pd_lt (by decide) hn) sh_11 ⟨by decide, by decide, by decide, by decide⟩ rfl (Nat.le_of_ble_eq_true rfl) pd_oldL_same (fun _ _ => pd_old_same _) dX1_tailPrice_18 (stk' := [.int zr1]) rfl ?_
      refine pd_istore (ls' := [some (.ref 11), none, none, some (.int p2), some (.int zx1), some (.int zx2), some (.int zx3), some (.int zr1)]) C dX1_tailPrice_21 (Nat.le_of_ble_eq_true rfl) rfl rfl ?_
      refine pd_iload C dX1_tailPrice_23 rfl ?_
      refine pd_aload_n C dX1_tailPrice_25 rfl rfl ?_
      refine pd_iload C dX1_tailPrice_26 rfl ?_
      refine pd_iload C dX1_tailPrice_28 rfl ?_
      obtain ⟨zr2, zh2, hF⟩ := pd_bd_some hF
      refine pd_callV C [.int zx3, .int zr1] [.int zx1] (em_X1_priceOf (pd_C_st C) hn  zh2) mw_X1_priceOf wd_4_81 rfl (by decide) (pd_lt (by decide) hn) sh_11 ⟨by decide, by decide, by decide, by decide⟩ rfl (Nat.le_of_ble_eq_true rfl) pd_oldL_same (fun _ _ => pd_old_same _) dX1_tailPrice_30 (stk' := [.int zr2, .int zx1]) rfl ?_
      refine pd_iadd C dX1_tailPrice_33 ?_
      refine pd_topi (fun zv1 hzv1 => ?_)
      have hF := pd_let_at hF hzv1
      refine pd_istore (ls' := [some (.ref 11), none, none, some (.int p2), some (.int zv1), some (.int zx2), some (.int zx3), some (.int zr1)]) C dX1_tailPrice_34 (Nat.le_of_ble_eq_true rfl) rfl rfl ?_
      refine pd_aload_n C dX1_tailPrice_36 rfl rfl ?_
      refine gr_1_0 C wd_1_78 (pd_lt (by decide) hn) sh_11 (rf_11_0 _) dX1_tailPrice_37 ?_
      refine pd_iload C dX1_tailPrice_40 rfl ?_
      obtain ⟨zg1, hF⟩ := pd_gd_some hF
      refine pd_iald C (pd_lt (by decide) hn) sh_12 zg1 dX1_tailPrice_42 ?_
      refine pd_topi (fun zv2 hzv2 => ?_)
      have hF := pd_let_at hF hzv2
      refine pd_istore (ls' := [some (.ref 11), none, none, some (.int p2), some (.int zv1), some (.int zv2), some (.int zx3), some (.int zr1)]) C dX1_tailPrice_43 (Nat.le_of_ble_eq_true rfl) rfl rfl ?_
      refine pd_iincG (zz := 1) C dX1_tailPrice_45 rfl (by decide) rfl (fun zv3 hzv3 => ?_)
      have hF := pd_let_at hF hzv3
      refine pd_lsE (ls' := [some (.ref 11), none, none, some (.int p2), some (.int zv1), some (.int zv2), some (.int zv3), some (.int zr1)]) rfl ?_
      refine pd_goto (tgt := 9) C dX1_tailPrice_48 (by decide) ?_
      refine pd_wk (ls' := [some (.ref 11), none, none, some (.int p2), some (.int zv1), some (.int zv2), some (.int zv3), none]) (And.intro rfl (And.intro rfl (And.intro rfl (And.intro rfl (And.intro rfl True.intro))))) ?_
      exact ih _ _ _ hF
def fn_X1_tailPrice (I : pd_I) (p0 : Int32) (p1 : Int32) (p2 : Int32) : Option Int32 := fl_X1_tailPrice_9 p2 I (fun zx4 => some zx4) pd_FU 0 p0 p1
set_option maxRecDepth 100000 in
set_option maxHeartbeats 4000000 in
theorem em_X1_tailPrice {l : Launch} {D : va_G} {tc : Nat → ClassId} (hst : l.stackTraces = false) {I : pd_I} {J : pd_J} {Z : pd_R} {n : Nat} {p0 : Int32} {p1 : Int32} {p2 : Int32} (hn : 133 ≤ n)  {out : Int32} (hF : fn_X1_tailPrice I p0 p1 p2 = some out) :
    pd_M l D tc yX1_tailPrice (.code yX1_tailPrice cX1_tailPrice 8 (Option.some Jvm.ClassFile.FieldType.int)) rm_X1_tailPrice [.ref 11, .int p0, .int p1, .int p2] I J (pd_RF Z) n (.ok (some (.int out))) I J (pd_RF Z) n := by
  refine pd_open (own := "PathDecoder$Lattice") (ls0 := [some (.ref 11), some (.int p0), some (.int p1), some (.int p2), none, none, none, none]) (by decide) rfl (Nat.le_of_ble_eq_true rfl) rfl rfl hst (fun cx hl hD htc C hE htab hnm => ?_)
  subst hl hD htc
  unfold fn_X1_tailPrice at hF
  refine pd_iconst (v := 0) C dX1_tailPrice_0 (by decide) ?_
  refine pd_istore (ls' := [some (.ref 11), some (.int p0), some (.int p1), some (.int p2), some (.int 0), none, none, none]) C dX1_tailPrice_1 (Nat.le_of_ble_eq_true rfl) rfl rfl ?_
  refine pd_iload_n C dX1_tailPrice_3 rfl rfl ?_
  refine pd_istore (ls' := [some (.ref 11), some (.int p0), some (.int p1), some (.int p2), some (.int 0), some (.int p0), none, none]) C dX1_tailPrice_4 (Nat.le_of_ble_eq_true rfl) rfl rfl ?_
  refine pd_iload_n C dX1_tailPrice_6 rfl rfl ?_
  refine pd_istore (ls' := [some (.ref 11), some (.int p0), some (.int p1), some (.int p2), some (.int 0), some (.int p0), some (.int p1), none]) C dX1_tailPrice_7 (Nat.le_of_ble_eq_true rfl) rfl rfl ?_
  refine pd_wk (ls' := [some (.ref 11), none, none, some (.int p2), some (.int 0), some (.int p0), some (.int p1), none]) (And.intro rfl (And.intro rfl (And.intro rfl (And.intro rfl (And.intro rfl True.intro))))) ?_
  refine el_X1_tailPrice_9 C hn (fun zx4 hF => ?_) pd_FU _ _ _ hF
  refine pd_iload C dX1_tailPrice_51 rfl ?_
  cases hF
  exact pd_iret C hE rfl rfl rfl ⟨by decide, by decide⟩ dX1_tailPrice_53

def fl_X1_setEnds_3 {O : Type} (a0 : Nat) (p1 : Int32) (p2 : Int32) (kont : pd_I → Option O) : Nat → Int32 → pd_I → Option O
  | 0, _, _ => none
  | fu + 1, zx1, zI1 => if (zI1 11 3) ≤ zx1 then kont zI1 else (pd_bd (if (zI1 a0 0) = 4 then pd_bd (if zx1 = p2 then some 0 else (some 536870912)) fun (zx2 : Int32) => pd_gd (pd_in zx1 64) (pd_let (pd_ui zI1 14 zx1.toNatClampNeg zx2) fun zI5 => some zI5) else (pd_bd (fn_X0_steps zI1 a0 p1) fun zr1 => pd_bd (fn_X1_tailPrice zI1 zx1 p1 zr1) fun zr2 => pd_gd (pd_in zx1 64) (pd_let (pd_ui zI1 14 zx1.toNatClampNeg zr2) fun zI4 => some zI4))) fun (zI3 : pd_I) => pd_let (zx1 + 1) fun zv1 => fl_X1_setEnds_3 a0 p1 p2 kont fu zv1 zI3)
set_option maxRecDepth 100000 in
set_option maxHeartbeats 4000000 in
theorem el_X1_setEnds_3 {cx : pd_X} (C : pd_C cx "PathDecoder$Lattice" cX1_setEnds rm_X1_setEnds) {a0 : Nat} {p1 : Int32} {p2 : Int32} {J : pd_J} {Z : pd_R} {n : Nat} (hn : 133 ≤ n) (ha0 : pd_isCode a0 n = true) {O : Type} {kont : pd_I → Option O} {out : O} (K : ∀ (zI2 : pd_I), kont zI2 = some out → pd_V cx 0 0 67 [none, none, none, none, none] [] zI2 J (pd_RF Z) n) :
    ∀ (fu : Nat) (zx1 : Int32) (zI1 : pd_I), fl_X1_setEnds_3 a0 p1 p2 kont fu zx1 zI1 = some out → pd_V cx 0 0 3 [some (.ref 11), some (.ref a0), some (.int p1), some (.int p2), some (.int zx1)] [] zI1 J (pd_RF Z) n := by
  intro fu
  induction fu with
  | zero => intro zx1 zI1 hF; rw [fl_X1_setEnds_3] at hF; cases hF
  | succ fu ih =>
    intro zx1 zI1 hF
    rw [fl_X1_setEnds_3] at hF
    refine pd_iload C dX1_setEnds_3 rfl ?_
    refine pd_aload_n C dX1_setEnds_5 rfl rfl ?_
    refine gi_1_3 C wd_1_87 (pd_lt (by decide) hn) sh_11 dX1_setEnds_6 ?_
    refine pd_icmp_ge (tgt := 67) C dX1_setEnds_9 (by decide) (fun zc3 => ?_) (fun zc3 => ?_)
    · have hF := pd_t zc3 hF
      refine pd_wk (ls' := [none, none, none, none, none]) True.intro ?_
      exact K _ hF
    · have hF := pd_f zc3 hF
      refine pd_aload_n C dX1_setEnds_12 rfl rfl ?_
      refine gi_0_0 C wd_3_58 (pd_code_lt ha0) (pd_code_sh ha0) dX1_setEnds_13 ?_
      refine pd_iconst (v := 4) C dX1_setEnds_16 (by decide) ?_
      obtain ⟨zI3, hS, hF⟩ := pd_bd_some hF
      have hJ61 : pd_V cx 0 0 61 [some (.ref 11), some (.ref a0), some (.int p1), some (.int p2), some (.int zx1)] [] zI3 J (pd_RF Z) n := by
        refine pd_iincG (zz := 1) C dX1_setEnds_61 rfl (by decide) rfl (fun zv1 hzv1 => ?_)
        have hF := pd_let_at hF hzv1
        refine pd_lsE (ls' := [some (.ref 11), some (.ref a0), some (.int p1), some (.int p2), some (.int zv1)]) rfl ?_
        refine pd_goto (tgt := 3) C dX1_setEnds_64 (by decide) ?_
        exact ih _ _ hF
      replace hF := hS
      clear hS
      refine pd_icmp_ne (tgt := 42) C dX1_setEnds_17 (by decide) (fun zc2 => ?_) (fun zc2 => ?_)
      · have hF := pd_f zc2 hF
        refine pd_aload_n C dX1_setEnds_42 rfl rfl ?_
        refine gr_1_2 C wd_1_84 (pd_lt (by decide) hn) sh_11 (rf_11_2 _) dX1_setEnds_43 ?_
        refine pd_iload C dX1_setEnds_46 rfl ?_
        refine pd_aload_n C dX1_setEnds_48 rfl rfl ?_
        refine pd_iload C dX1_setEnds_49 rfl ?_
        refine pd_iload_n C dX1_setEnds_51 rfl rfl ?_
        refine pd_aload_n C dX1_setEnds_52 rfl rfl ?_
        refine pd_iload_n C dX1_setEnds_53 rfl rfl ?_
        obtain ⟨zr1, zh1, hF⟩ := pd_bd_some hF
        refine pd_callV C [.int p1] [.int p1, .int zx1, .ref 11, .int zx1, .ref 14] (em_X0_steps (pd_C_st C) hn ha0 zh1) mw_X0_steps wd_4_72 rfl (by decide) (pd_code_lt ha0) (pd_code_sh ha0) ⟨by decide, by decide, by decide, by decide⟩ rfl (Nat.le_of_ble_eq_true rfl) pd_oldL_same (fun _ _ => pd_old_same _) dX1_setEnds_54 (stk' := [.int zr1, .int p1, .int zx1, .ref 11, .int zx1, .ref 14]) rfl ?_
        obtain ⟨zr2, zh2, hF⟩ := pd_bd_some hF
        refine pd_callV C [.int zx1, .int p1, .int zr1] [.int zx1, .ref 14] (em_X1_tailPrice (pd_C_st C) hn  zh2) mw_X1_tailPrice wd_4_73 rfl (by decide) (pd_lt (by decide) hn) sh_11 ⟨by decide, by decide, by decide, by decide⟩ rfl (Nat.le_of_ble_eq_true rfl) pd_oldL_same (fun _ _ => pd_old_same _) dX1_setEnds_57 (stk' := [.int zr2, .int zx1, .ref 14]) rfl ?_
        obtain ⟨zg1, hF⟩ := pd_gd_some hF
        refine pd_iast C (pd_lt (by decide) hn) sh_14 zg1 dX1_setEnds_60 ?_
        refine pd_memI (fun zI4 hzI4 => ?_)
        have hF := pd_let_at hF hzI4
        have hF := hF.symm
        cases hF
        exact hJ61
      · have hF := pd_t zc2 hF
        refine pd_aload_n C dX1_setEnds_20 rfl rfl ?_
        refine gr_1_2 C wd_1_84 (pd_lt (by decide) hn) sh_11 (rf_11_2 _) dX1_setEnds_21 ?_
        refine pd_iload C dX1_setEnds_24 rfl ?_
        refine pd_iload C dX1_setEnds_26 rfl ?_
        refine pd_iload_n C dX1_setEnds_28 rfl rfl ?_
        obtain ⟨zx2, hS, hF⟩ := pd_bd_some hF
        have hJ38 : pd_V cx 0 0 38 [some (.ref 11), some (.ref a0), some (.int p1), some (.int p2), some (.int zx1)] [.int zx2, .int zx1, .ref 14] zI1 J (pd_RF Z) n := by
          obtain ⟨zg2, hF⟩ := pd_gd_some hF
          refine pd_iast C (pd_lt (by decide) hn) sh_14 zg2 dX1_setEnds_38 ?_
          refine pd_memI (fun zI5 hzI5 => ?_)
          have hF := pd_let_at hF hzI5
          refine pd_goto (tgt := 61) C dX1_setEnds_39 (by decide) ?_
          have hF := hF.symm
          cases hF
          exact hJ61
        replace hF := hS
        clear hS
        refine pd_icmp_ne (tgt := 36) C dX1_setEnds_29 (by decide) (fun zc1 => ?_) (fun zc1 => ?_)
        · have hF := pd_f zc1 hF
          refine pd_ldc C wd_4_71 dX1_setEnds_36 ?_
          have hF := hF.symm
          cases hF
          exact hJ38
        · have hF := pd_t zc1 hF
          refine pd_iconst (v := 0) C dX1_setEnds_32 (by decide) ?_
          refine pd_goto (tgt := 38) C dX1_setEnds_33 (by decide) ?_
          have hF := hF.symm
          cases hF
          exact hJ38
def fn_X1_setEnds (I : pd_I) (a0 : Nat) (p1 : Int32) (p2 : Int32) : Option pd_I := fl_X1_setEnds_3 a0 p1 p2 (fun zI2 => some zI2) pd_FU 0 I
set_option maxRecDepth 100000 in
set_option maxHeartbeats 4000000 in
theorem em_X1_setEnds {l : Launch} {D : va_G} {tc : Nat → ClassId} (hst : l.stackTraces = false) {I : pd_I} {J : pd_J} {Z : pd_R} {n : Nat} {a0 : Nat} {p1 : Int32} {p2 : Int32} (hn : 133 ≤ n) (ha0 : pd_isCode a0 n = true) {out : pd_I} (hF : fn_X1_setEnds I a0 p1 p2 = some out) :
    pd_M l D tc yX1_setEnds (.code yX1_setEnds cX1_setEnds 5 (Option.none : Option Jvm.ClassFile.FieldType)) rm_X1_setEnds [.ref 11, .ref a0, .int p1, .int p2] I J (pd_RF Z) n (.ok (none)) out J (pd_RF Z) n := by
  refine pd_open (own := "PathDecoder$Lattice") (ls0 := [some (.ref 11), some (.ref a0), some (.int p1), some (.int p2), none]) (by decide) rfl (Nat.le_of_ble_eq_true rfl) rfl rfl hst (fun cx hl hD htc C hE htab hnm => ?_)
  subst hl hD htc
  unfold fn_X1_setEnds at hF
  refine pd_iconst (v := 0) C dX1_setEnds_0 (by decide) ?_
  refine pd_istore (ls' := [some (.ref 11), some (.ref a0), some (.int p1), some (.int p2), some (.int 0)]) C dX1_setEnds_1 (Nat.le_of_ble_eq_true rfl) rfl rfl ?_
  refine el_X1_setEnds_3 C hn ha0 (fun zI2 hF => ?_) pd_FU _ _ hF
  cases hF
  exact pd_vret C hE rfl ⟨by decide, by decide⟩ dX1_setEnds_67

def fl_X5_merge_65 {O : Type} (p0 : Int32) (p1 : Int32) (p2 : Int32) (zv1 : Int32) (zv2 : Int32) (zr1 : Int32) (zr2 : Int32) (Z : pd_R) (n : Nat) (kont : Int32 → pd_I → Option O) : Nat → Int32 → Int32 → Int32 → pd_I → Option O
  | 0, _, _, _, _ => none
  | fu + 1, zx1, zx2, zx3, zI1 => if p2 ≤ zx3 then kont zx3 zI1 else (pd_bd (Z 36 5) fun zq1 => pd_gd (pd_isArr zq1 64 n) (pd_gd (pd_in zv1 64) (pd_jn (fun (_ : Unit) => pd_bd (Z 36 5) fun zq2 => pd_gd (pd_isArr zq2 64 n) (pd_gd (pd_in zv1 64) (pd_bd (if (zI1 zq2 zv1.toNatClampNeg) ≤ zx1 then some 536870912 else (pd_bd (Z 36 3) fun zq6 => pd_gd (pd_isArr zq6 512 n) (pd_gd (pd_in ((zv1 * 8) + zx1) 512) (some ((zI1 zq6 ((zv1 * 8) + zx1).toNatClampNeg) + zr1))))) fun (zx5 : Int32) => pd_bd (Z 36 5) fun zq3 => pd_gd (pd_isArr zq3 64 n) (pd_gd (pd_in zv2 64) (pd_bd (if (zI1 zq3 zv2.toNatClampNeg) ≤ zx2 then some 536870912 else (pd_bd (Z 36 3) fun zq5 => pd_gd (pd_isArr zq5 512 n) (pd_gd (pd_in ((zv2 * 8) + zx2) 512) (some ((zI1 zq5 ((zv2 * 8) + zx2).toNatClampNeg) + zr2))))) fun (zx6 : Int32) => pd_bd (if zx6 < zx5 then some 0 else (some 1)) fun (zx7 : Int32) => pd_bd (Z 36 2) fun zq4 => pd_gd (pd_isArr zq4 512 n) (pd_bd (if zx7 = 0 then some zx6 else (some zx5)) fun (zx8 : Int32) => pd_gd (pd_in ((p1 * 8) + zx3) 512) (pd_let (pd_ui zI1 zq4 ((p1 * 8) + zx3).toNatClampNeg zx8) fun zI3 => pd_let ((((p0 * 64) + p1) * 8) + zx3) fun zv3 => pd_bd (if zx7 = 0 then some (8 + zx2) else (some zx1)) fun (zx9 : Int32) => pd_gd (pd_in zv3 102400) (pd_let (pd_ui zI3 41 zv3.toNatClampNeg (zx9.toInt8.toInt32.toInt8.toInt32)) fun zI4 => pd_bd (if zx7 = 0 then some 0 else (some 1)) fun (zx10 : Int32) => pd_let (zx1 + zx10) fun zv4 => pd_bd (if zx7 = 0 then some 1 else (some 0)) fun (zx11 : Int32) => pd_let (zx2 + zx11) fun zv5 => pd_let (zx3 + 1) fun zv6 => fl_X5_merge_65 p0 p1 p2 zv1 zv2 zr1 zr2 Z n kont fu zv4 zv5 zv6 zI4)))))))) fun zj1 => if zx1 < (zI1 zq1 zv1.toNatClampNeg) then zj1 () else (pd_bd (Z 36 5) fun zq7 => pd_gd (pd_isArr zq7 64 n) (pd_gd (pd_in zv2 64) (if (zI1 zq7 zv2.toNatClampNeg) ≤ zx2 then kont zx3 zI1 else (zj1 ())))))))
set_option maxRecDepth 100000 in
set_option maxHeartbeats 4000000 in
theorem el_X5_merge_65 {cx : pd_X} (C : pd_C cx "PathDecoder$Search" cX5_merge rm_X5_merge) {p0 : Int32} {p1 : Int32} {p2 : Int32} {zv1 : Int32} {zv2 : Int32} {zr1 : Int32} {zr2 : Int32} {J : pd_J} {Z : pd_R} {n : Nat} (hn : 133 ≤ n)  {O : Type} {kont : Int32 → pd_I → Option O} {out : O} (K : ∀ (zx4 : Int32) (zI2 : pd_I), kont zx4 zI2 = some out → pd_V cx 0 0 276 [some (.ref 36), none, some (.int p1), none, none, none, none, none, none, none, some (.int zx4), none, none, none, none] [] zI2 J (pd_RF Z) n) :
    ∀ (fu : Nat) (zx1 : Int32) (zx2 : Int32) (zx3 : Int32) (zI1 : pd_I), fl_X5_merge_65 p0 p1 p2 zv1 zv2 zr1 zr2 Z n kont fu zx1 zx2 zx3 zI1 = some out → pd_V cx 0 0 65 [some (.ref 36), some (.int p0), some (.int p1), some (.int p2), some (.int zv1), some (.int zv2), some (.int zr1), some (.int zr2), some (.int zx1), some (.int zx2), some (.int zx3), none, none, none, none] [] zI1 J (pd_RF Z) n := by
  intro fu
  induction fu with
  | zero => intro zx1 zx2 zx3 zI1 hF; rw [fl_X5_merge_65] at hF; cases hF
  | succ fu ih =>
    intro zx1 zx2 zx3 zI1 hF
    rw [fl_X5_merge_65] at hF
    refine pd_iload C dX5_merge_65 rfl ?_
    refine pd_iload_n C dX5_merge_67 rfl rfl ?_
    refine pd_icmp_ge (tgt := 276) C dX5_merge_68 (by decide) (fun zc10 => ?_) (fun zc10 => ?_)
    · have hF := pd_t zc10 hF
      refine pd_wk (ls' := [some (.ref 36), none, some (.int p1), none, none, none, none, none, none, none, some (.int zx3), none, none, none, none]) (And.intro rfl (And.intro rfl (And.intro rfl True.intro))) ?_
      exact K _ _ hF
    · have hF := pd_f zc10 hF
      refine pd_iload C dX5_merge_71 rfl ?_
      refine pd_aload_n C dX5_merge_73 rfl rfl ?_
      obtain ⟨zq1, hzq1, hF⟩ := pd_bd_some hF
      obtain ⟨zg3, hF⟩ := pd_gd_some hF
      refine gr_5_5 C wd_1_157 (pd_lt (by decide) hn) sh_36 ((pd_RF_dyn rfl).trans hzq1) dX5_merge_74 ?_
      refine pd_iload C dX5_merge_77 rfl ?_
      obtain ⟨zg4, hF⟩ := pd_gd_some hF
      refine pd_iald C (pd_arr_lt zg3) (pd_arr_sh zg3) zg4 dX5_merge_79 ?_
      refine pd_jn_use hF (fun j => ∀ (_u : Unit), j _u = some out → pd_V cx 0 0 95 [some (.ref 36), some (.int p0), some (.int p1), some (.int p2), some (.int zv1), some (.int zv2), some (.int zr1), some (.int zr2), some (.int zx1), some (.int zx2), some (.int zx3), none, none, none, none] [] zI1 J (pd_RF Z) n) (fun _u hF => ?_) (fun zj1 hzj1 hF => ?_)
      · refine pd_iload C dX5_merge_95 rfl ?_
        refine pd_aload_n C dX5_merge_97 rfl rfl ?_
        obtain ⟨zq2, hzq2, hF⟩ := pd_bd_some hF
        obtain ⟨zg5, hF⟩ := pd_gd_some hF
        refine gr_5_5 C wd_1_157 (pd_lt (by decide) hn) sh_36 ((pd_RF_dyn rfl).trans hzq2) dX5_merge_98 ?_
        refine pd_iload C dX5_merge_101 rfl ?_
        obtain ⟨zg6, hF⟩ := pd_gd_some hF
        refine pd_iald C (pd_arr_lt zg5) (pd_arr_sh zg5) zg6 dX5_merge_103 ?_
        obtain ⟨zx5, hS, hF⟩ := pd_bd_some hF
        have hJ128 : pd_V cx 0 0 128 [some (.ref 36), some (.int p0), some (.int p1), some (.int p2), some (.int zv1), some (.int zv2), some (.int zr1), some (.int zr2), some (.int zx1), some (.int zx2), some (.int zx3), none, none, none, none] [.int zx5] zI1 J (pd_RF Z) n := by
          refine pd_istore (ls' := [some (.ref 36), some (.int p0), some (.int p1), some (.int p2), some (.int zv1), some (.int zv2), some (.int zr1), some (.int zr2), some (.int zx1), some (.int zx2), some (.int zx3), some (.int zx5), none, none, none]) C dX5_merge_128 (Nat.le_of_ble_eq_true rfl) rfl rfl ?_
          refine pd_iload C dX5_merge_130 rfl ?_
          refine pd_aload_n C dX5_merge_132 rfl rfl ?_
          obtain ⟨zq3, hzq3, hF⟩ := pd_bd_some hF
          obtain ⟨zg7, hF⟩ := pd_gd_some hF
          refine gr_5_5 C wd_1_157 (pd_lt (by decide) hn) sh_36 ((pd_RF_dyn rfl).trans hzq3) dX5_merge_133 ?_
          refine pd_iload C dX5_merge_136 rfl ?_
          obtain ⟨zg8, hF⟩ := pd_gd_some hF
          refine pd_iald C (pd_arr_lt zg7) (pd_arr_sh zg7) zg8 dX5_merge_138 ?_
          obtain ⟨zx6, hS, hF⟩ := pd_bd_some hF
          have hJ163 : pd_V cx 0 0 163 [some (.ref 36), some (.int p0), some (.int p1), some (.int p2), some (.int zv1), some (.int zv2), some (.int zr1), some (.int zr2), some (.int zx1), some (.int zx2), some (.int zx3), some (.int zx5), none, none, none] [.int zx6] zI1 J (pd_RF Z) n := by
            refine pd_istore (ls' := [some (.ref 36), some (.int p0), some (.int p1), some (.int p2), some (.int zv1), some (.int zv2), some (.int zr1), some (.int zr2), some (.int zx1), some (.int zx2), some (.int zx3), some (.int zx5), some (.int zx6), none, none]) C dX5_merge_163 (Nat.le_of_ble_eq_true rfl) rfl rfl ?_
            refine pd_iload C dX5_merge_165 rfl ?_
            refine pd_iload C dX5_merge_167 rfl ?_
            obtain ⟨zx7, hS, hF⟩ := pd_bd_some hF
            have hJ177 : pd_V cx 0 0 177 [some (.ref 36), some (.int p0), some (.int p1), some (.int p2), some (.int zv1), some (.int zv2), some (.int zr1), some (.int zr2), some (.int zx1), some (.int zx2), some (.int zx3), some (.int zx5), some (.int zx6), none, none] [.int zx7] zI1 J (pd_RF Z) n := by
              refine pd_istore (ls' := [some (.ref 36), some (.int p0), some (.int p1), some (.int p2), some (.int zv1), some (.int zv2), some (.int zr1), some (.int zr2), some (.int zx1), some (.int zx2), some (.int zx3), some (.int zx5), some (.int zx6), some (.int zx7), none]) C dX5_merge_177 (Nat.le_of_ble_eq_true rfl) rfl rfl ?_
              refine pd_aload_n C dX5_merge_179 rfl rfl ?_
              obtain ⟨zq4, hzq4, hF⟩ := pd_bd_some hF
              obtain ⟨zg9, hF⟩ := pd_gd_some hF
              refine gr_5_2 C wd_1_154 (pd_lt (by decide) hn) sh_36 ((pd_RF_dyn rfl).trans hzq4) dX5_merge_180 ?_
              refine pd_iload_n C dX5_merge_183 rfl rfl ?_
              refine pd_bipush (v := 8) C dX5_merge_184 (by decide) ?_
              refine pd_imul C dX5_merge_186 ?_
              refine pd_iload C dX5_merge_187 rfl ?_
              refine pd_iadd C dX5_merge_189 ?_
              refine pd_iload C dX5_merge_190 rfl ?_
              obtain ⟨zx8, hS, hF⟩ := pd_bd_some hF
              have hJ202 : pd_V cx 0 0 202 [some (.ref 36), some (.int p0), some (.int p1), some (.int p2), some (.int zv1), some (.int zv2), some (.int zr1), some (.int zr2), some (.int zx1), some (.int zx2), some (.int zx3), none, none, some (.int zx7), none] [.int zx8, .int ((p1 * 8) + zx3), .ref zq4] zI1 J (pd_RF Z) n := by
                obtain ⟨zg10, hF⟩ := pd_gd_some hF
                refine pd_iast C (pd_arr_lt zg9) (pd_arr_sh zg9) zg10 dX5_merge_202 ?_
                refine pd_memI (fun zI3 hzI3 => ?_)
                have hF := pd_let_at hF hzI3
                refine pd_iload_n C dX5_merge_203 rfl rfl ?_
                refine pd_bipush (v := 64) C dX5_merge_204 (by decide) ?_
                refine pd_imul C dX5_merge_206 ?_
                refine pd_iload_n C dX5_merge_207 rfl rfl ?_
                refine pd_iadd C dX5_merge_208 ?_
                refine pd_bipush (v := 8) C dX5_merge_209 (by decide) ?_
                refine pd_imul C dX5_merge_211 ?_
                refine pd_iload C dX5_merge_212 rfl ?_
                refine pd_iadd C dX5_merge_214 ?_
                refine pd_topi (fun zv3 hzv3 => ?_)
                have hF := pd_let_at hF hzv3
                refine pd_istore (ls' := [some (.ref 36), some (.int p0), some (.int p1), some (.int p2), some (.int zv1), some (.int zv2), some (.int zr1), some (.int zr2), some (.int zx1), some (.int zx2), some (.int zx3), none, none, some (.int zx7), some (.int zv3)]) C dX5_merge_215 (Nat.le_of_ble_eq_true rfl) rfl rfl ?_
                refine pd_aload_n C dX5_merge_217 rfl rfl ?_
                refine gr_5_6 C wd_1_158 (pd_lt (by decide) hn) sh_36 (rf_36_6 _) dX5_merge_218 ?_
                refine pd_iload C dX5_merge_221 rfl ?_
                refine pd_iload C dX5_merge_223 rfl ?_
                obtain ⟨zx9, hS, hF⟩ := pd_bd_some hF
                have hJ238 : pd_V cx 0 0 238 [some (.ref 36), some (.int p0), some (.int p1), some (.int p2), some (.int zv1), some (.int zv2), some (.int zr1), some (.int zr2), some (.int zx1), some (.int zx2), some (.int zx3), none, none, some (.int zx7), none] [.int zx9, .int zv3, .ref 41] zI3 J (pd_RF Z) n := by
                  refine pd_i2b C dX5_merge_238 ?_
                  obtain ⟨zg11, hF⟩ := pd_gd_some hF
                  refine pd_bast C (pd_lt (by decide) hn) sh_41 zg11 dX5_merge_239 ?_
                  refine pd_memI (fun zI4 hzI4 => ?_)
                  have hF := pd_let_at hF hzI4
                  refine pd_iload C dX5_merge_240 rfl ?_
                  refine pd_iload C dX5_merge_242 rfl ?_
                  obtain ⟨zx10, hS, hF⟩ := pd_bd_some hF
                  have hJ252 : pd_V cx 0 0 252 [some (.ref 36), some (.int p0), some (.int p1), some (.int p2), some (.int zv1), some (.int zv2), some (.int zr1), some (.int zr2), none, some (.int zx2), some (.int zx3), none, none, some (.int zx7), none] [.int zx10, .int zx1] zI4 J (pd_RF Z) n := by
                    refine pd_iadd C dX5_merge_252 ?_
                    refine pd_topi (fun zv4 hzv4 => ?_)
                    have hF := pd_let_at hF hzv4
                    refine pd_istore (ls' := [some (.ref 36), some (.int p0), some (.int p1), some (.int p2), some (.int zv1), some (.int zv2), some (.int zr1), some (.int zr2), some (.int zv4), some (.int zx2), some (.int zx3), none, none, some (.int zx7), none]) C dX5_merge_253 (Nat.le_of_ble_eq_true rfl) rfl rfl ?_
                    refine pd_iload C dX5_merge_255 rfl ?_
                    refine pd_iload C dX5_merge_257 rfl ?_
                    obtain ⟨zx11, hS, hF⟩ := pd_bd_some hF
                    have hJ267 : pd_V cx 0 0 267 [some (.ref 36), some (.int p0), some (.int p1), some (.int p2), some (.int zv1), some (.int zv2), some (.int zr1), some (.int zr2), some (.int zv4), none, some (.int zx3), none, none, none, none] [.int zx11, .int zx2] zI4 J (pd_RF Z) n := by
                      refine pd_iadd C dX5_merge_267 ?_
                      refine pd_topi (fun zv5 hzv5 => ?_)
                      have hF := pd_let_at hF hzv5
                      refine pd_istore (ls' := [some (.ref 36), some (.int p0), some (.int p1), some (.int p2), some (.int zv1), some (.int zv2), some (.int zr1), some (.int zr2), some (.int zv4), some (.int zv5), some (.int zx3), none, none, none, none]) C dX5_merge_268 (Nat.le_of_ble_eq_true rfl) rfl rfl ?_
                      refine pd_iincG (zz := 1) C dX5_merge_270 rfl (by decide) rfl (fun zv6 hzv6 => ?_)
                      have hF := pd_let_at hF hzv6
                      refine pd_lsE (ls' := [some (.ref 36), some (.int p0), some (.int p1), some (.int p2), some (.int zv1), some (.int zv2), some (.int zr1), some (.int zr2), some (.int zv4), some (.int zv5), some (.int zv6), none, none, none, none]) rfl ?_
                      refine pd_goto (tgt := 65) C dX5_merge_273 (by decide) ?_
                      exact ih _ _ _ _ hF
                    replace hF := hS
                    clear hS
                    refine pd_if_eq (tgt := 266) C dX5_merge_259 (by decide) (fun zc1 => ?_) (fun zc1 => ?_)
                    · have hF := pd_t zc1 hF
                      refine pd_iconst (v := 1) C dX5_merge_266 (by decide) ?_
                      refine pd_wk (ls' := [some (.ref 36), some (.int p0), some (.int p1), some (.int p2), some (.int zv1), some (.int zv2), some (.int zr1), some (.int zr2), some (.int zv4), none, some (.int zx3), none, none, none, none]) (And.intro rfl (And.intro rfl (And.intro rfl (And.intro rfl (And.intro rfl (And.intro rfl (And.intro rfl (And.intro rfl (And.intro rfl (And.intro rfl True.intro)))))))))) ?_
                      have hF := hF.symm
                      cases hF
                      exact hJ267
                    · have hF := pd_f zc1 hF
                      refine pd_iconst (v := 0) C dX5_merge_262 (by decide) ?_
                      refine pd_goto (tgt := 267) C dX5_merge_263 (by decide) ?_
                      refine pd_wk (ls' := [some (.ref 36), some (.int p0), some (.int p1), some (.int p2), some (.int zv1), some (.int zv2), some (.int zr1), some (.int zr2), some (.int zv4), none, some (.int zx3), none, none, none, none]) (And.intro rfl (And.intro rfl (And.intro rfl (And.intro rfl (And.intro rfl (And.intro rfl (And.intro rfl (And.intro rfl (And.intro rfl (And.intro rfl True.intro)))))))))) ?_
                      have hF := hF.symm
                      cases hF
                      exact hJ267
                  replace hF := hS
                  clear hS
                  refine pd_if_eq (tgt := 251) C dX5_merge_244 (by decide) (fun zc2 => ?_) (fun zc2 => ?_)
                  · have hF := pd_t zc2 hF
                    refine pd_iconst (v := 0) C dX5_merge_251 (by decide) ?_
                    refine pd_wk (ls' := [some (.ref 36), some (.int p0), some (.int p1), some (.int p2), some (.int zv1), some (.int zv2), some (.int zr1), some (.int zr2), none, some (.int zx2), some (.int zx3), none, none, some (.int zx7), none]) (And.intro rfl (And.intro rfl (And.intro rfl (And.intro rfl (And.intro rfl (And.intro rfl (And.intro rfl (And.intro rfl (And.intro rfl (And.intro rfl (And.intro rfl True.intro))))))))))) ?_
                    have hF := hF.symm
                    cases hF
                    exact hJ252
                  · have hF := pd_f zc2 hF
                    refine pd_iconst (v := 1) C dX5_merge_247 (by decide) ?_
                    refine pd_goto (tgt := 252) C dX5_merge_248 (by decide) ?_
                    refine pd_wk (ls' := [some (.ref 36), some (.int p0), some (.int p1), some (.int p2), some (.int zv1), some (.int zv2), some (.int zr1), some (.int zr2), none, some (.int zx2), some (.int zx3), none, none, some (.int zx7), none]) (And.intro rfl (And.intro rfl (And.intro rfl (And.intro rfl (And.intro rfl (And.intro rfl (And.intro rfl (And.intro rfl (And.intro rfl (And.intro rfl (And.intro rfl True.intro))))))))))) ?_
                    have hF := hF.symm
                    cases hF
                    exact hJ252
                replace hF := hS
                clear hS
                refine pd_if_eq (tgt := 233) C dX5_merge_225 (by decide) (fun zc3 => ?_) (fun zc3 => ?_)
                · have hF := pd_t zc3 hF
                  refine pd_bipush (v := 8) C dX5_merge_233 (by decide) ?_
                  refine pd_iload C dX5_merge_235 rfl ?_
                  refine pd_iadd C dX5_merge_237 ?_
                  refine pd_wk (ls' := [some (.ref 36), some (.int p0), some (.int p1), some (.int p2), some (.int zv1), some (.int zv2), some (.int zr1), some (.int zr2), some (.int zx1), some (.int zx2), some (.int zx3), none, none, some (.int zx7), none]) (And.intro rfl (And.intro rfl (And.intro rfl (And.intro rfl (And.intro rfl (And.intro rfl (And.intro rfl (And.intro rfl (And.intro rfl (And.intro rfl (And.intro rfl (And.intro rfl True.intro)))))))))))) ?_
                  have hF := hF.symm
                  cases hF
                  exact hJ238
                · have hF := pd_f zc3 hF
                  refine pd_iload C dX5_merge_228 rfl ?_
                  refine pd_goto (tgt := 238) C dX5_merge_230 (by decide) ?_
                  refine pd_wk (ls' := [some (.ref 36), some (.int p0), some (.int p1), some (.int p2), some (.int zv1), some (.int zv2), some (.int zr1), some (.int zr2), some (.int zx1), some (.int zx2), some (.int zx3), none, none, some (.int zx7), none]) (And.intro rfl (And.intro rfl (And.intro rfl (And.intro rfl (And.intro rfl (And.intro rfl (And.intro rfl (And.intro rfl (And.intro rfl (And.intro rfl (And.intro rfl (And.intro rfl True.intro)))))))))))) ?_
                  have hF := hF.symm
                  cases hF
                  exact hJ238
              replace hF := hS
              clear hS
              refine pd_if_eq (tgt := 200) C dX5_merge_192 (by decide) (fun zc4 => ?_) (fun zc4 => ?_)
              · have hF := pd_t zc4 hF
                refine pd_iload C dX5_merge_200 rfl ?_
                refine pd_wk (ls' := [some (.ref 36), some (.int p0), some (.int p1), some (.int p2), some (.int zv1), some (.int zv2), some (.int zr1), some (.int zr2), some (.int zx1), some (.int zx2), some (.int zx3), none, none, some (.int zx7), none]) (And.intro rfl (And.intro rfl (And.intro rfl (And.intro rfl (And.intro rfl (And.intro rfl (And.intro rfl (And.intro rfl (And.intro rfl (And.intro rfl (And.intro rfl (And.intro rfl True.intro)))))))))))) ?_
                have hF := hF.symm
                cases hF
                exact hJ202
              · have hF := pd_f zc4 hF
                refine pd_iload C dX5_merge_195 rfl ?_
                refine pd_goto (tgt := 202) C dX5_merge_197 (by decide) ?_
                refine pd_wk (ls' := [some (.ref 36), some (.int p0), some (.int p1), some (.int p2), some (.int zv1), some (.int zv2), some (.int zr1), some (.int zr2), some (.int zx1), some (.int zx2), some (.int zx3), none, none, some (.int zx7), none]) (And.intro rfl (And.intro rfl (And.intro rfl (And.intro rfl (And.intro rfl (And.intro rfl (And.intro rfl (And.intro rfl (And.intro rfl (And.intro rfl (And.intro rfl (And.intro rfl True.intro)))))))))))) ?_
                have hF := hF.symm
                cases hF
                exact hJ202
            replace hF := hS
            clear hS
            refine pd_icmp_gt (tgt := 176) C dX5_merge_169 (by decide) (fun zc5 => ?_) (fun zc5 => ?_)
            · have hF := pd_t zc5 hF
              refine pd_iconst (v := 0) C dX5_merge_176 (by decide) ?_
              have hF := hF.symm
              cases hF
              exact hJ177
            · have hF := pd_f zc5 hF
              refine pd_iconst (v := 1) C dX5_merge_172 (by decide) ?_
              refine pd_goto (tgt := 177) C dX5_merge_173 (by decide) ?_
              have hF := hF.symm
              cases hF
              exact hJ177
          replace hF := hS
          clear hS
          refine pd_icmp_ge (tgt := 161) C dX5_merge_139 (by decide) (fun zc6 => ?_) (fun zc6 => ?_)
          · have hF := pd_t zc6 hF
            refine pd_ldc C wd_4_93 dX5_merge_161 ?_
            have hF := hF.symm
            cases hF
            exact hJ163
          · have hF := pd_f zc6 hF
            refine pd_aload_n C dX5_merge_142 rfl rfl ?_
            obtain ⟨zq5, hzq5, hF⟩ := pd_bd_some hF
            obtain ⟨zg12, hF⟩ := pd_gd_some hF
            refine gr_5_3 C wd_1_155 (pd_lt (by decide) hn) sh_36 ((pd_RF_dyn rfl).trans hzq5) dX5_merge_143 ?_
            refine pd_iload C dX5_merge_146 rfl ?_
            refine pd_bipush (v := 8) C dX5_merge_148 (by decide) ?_
            refine pd_imul C dX5_merge_150 ?_
            refine pd_iload C dX5_merge_151 rfl ?_
            refine pd_iadd C dX5_merge_153 ?_
            obtain ⟨zg13, hF⟩ := pd_gd_some hF
            refine pd_iald C (pd_arr_lt zg12) (pd_arr_sh zg12) zg13 dX5_merge_154 ?_
            refine pd_iload C dX5_merge_155 rfl ?_
            refine pd_iadd C dX5_merge_157 ?_
            refine pd_goto (tgt := 163) C dX5_merge_158 (by decide) ?_
            have hF := hF.symm
            cases hF
            exact hJ163
        replace hF := hS
        clear hS
        refine pd_icmp_ge (tgt := 126) C dX5_merge_104 (by decide) (fun zc7 => ?_) (fun zc7 => ?_)
        · have hF := pd_t zc7 hF
          refine pd_ldc C wd_4_93 dX5_merge_126 ?_
          have hF := hF.symm
          cases hF
          exact hJ128
        · have hF := pd_f zc7 hF
          refine pd_aload_n C dX5_merge_107 rfl rfl ?_
          obtain ⟨zq6, hzq6, hF⟩ := pd_bd_some hF
          obtain ⟨zg14, hF⟩ := pd_gd_some hF
          refine gr_5_3 C wd_1_155 (pd_lt (by decide) hn) sh_36 ((pd_RF_dyn rfl).trans hzq6) dX5_merge_108 ?_
          refine pd_iload C dX5_merge_111 rfl ?_
          refine pd_bipush (v := 8) C dX5_merge_113 (by decide) ?_
          refine pd_imul C dX5_merge_115 ?_
          refine pd_iload C dX5_merge_116 rfl ?_
          refine pd_iadd C dX5_merge_118 ?_
          obtain ⟨zg15, hF⟩ := pd_gd_some hF
          refine pd_iald C (pd_arr_lt zg14) (pd_arr_sh zg14) zg15 dX5_merge_119 ?_
          refine pd_iload C dX5_merge_120 rfl ?_
          refine pd_iadd C dX5_merge_122 ?_
          refine pd_goto (tgt := 128) C dX5_merge_123 (by decide) ?_
          have hF := hF.symm
          cases hF
          exact hJ128
      · refine pd_icmp_lt (tgt := 95) C dX5_merge_80 (by decide) (fun zc9 => ?_) (fun zc9 => ?_)
        · have hF := pd_t zc9 hF
          exact hzj1 _ hF
        · have hF := pd_f zc9 hF
          refine pd_iload C dX5_merge_83 rfl ?_
          refine pd_aload_n C dX5_merge_85 rfl rfl ?_
          obtain ⟨zq7, hzq7, hF⟩ := pd_bd_some hF
          obtain ⟨zg16, hF⟩ := pd_gd_some hF
          refine gr_5_5 C wd_1_157 (pd_lt (by decide) hn) sh_36 ((pd_RF_dyn rfl).trans hzq7) dX5_merge_86 ?_
          refine pd_iload C dX5_merge_89 rfl ?_
          obtain ⟨zg17, hF⟩ := pd_gd_some hF
          refine pd_iald C (pd_arr_lt zg16) (pd_arr_sh zg16) zg17 dX5_merge_91 ?_
          refine pd_icmp_ge (tgt := 276) C dX5_merge_92 (by decide) (fun zc8 => ?_) (fun zc8 => ?_)
          · have hF := pd_t zc8 hF
            refine pd_wk (ls' := [some (.ref 36), none, some (.int p1), none, none, none, none, none, none, none, some (.int zx3), none, none, none, none]) (And.intro rfl (And.intro rfl (And.intro rfl True.intro))) ?_
            exact K _ _ hF
          · have hF := pd_f zc8 hF
            exact hzj1 _ hF
def fn_X5_merge (I : pd_I) (Z : pd_R) (n : Nat) (p0 : Int32) (p1 : Int32) (p2 : Int32) : Option pd_I := pd_gd (pd_in (2 * p1) 128) (pd_let (I 12 (2 * p1).toNatClampNeg) fun zv1 => pd_gd (pd_in ((2 * p1) + 1) 128) (pd_let (I 12 ((2 * p1) + 1).toNatClampNeg) fun zv2 => pd_bd (fn_X1_priceOf I p0 (2 * p1)) fun zr1 => pd_bd (fn_X1_priceOf I p0 ((2 * p1) + 1)) fun zr2 => fl_X5_merge_65 p0 p1 p2 zv1 zv2 zr1 zr2 Z n (fun zx4 zI2 => pd_bd (Z 36 4) fun zq8 => pd_gd (pd_isArr zq8 64 n) (pd_gd (pd_in p1 64) (pd_let (pd_ui zI2 zq8 p1.toNatClampNeg zx4) fun zI5 => some zI5))) pd_FU 0 0 0 I))
set_option maxRecDepth 100000 in
set_option maxHeartbeats 4000000 in
theorem em_X5_merge {l : Launch} {D : va_G} {tc : Nat → ClassId} (hst : l.stackTraces = false) {I : pd_I} {J : pd_J} {Z : pd_R} {n : Nat} {p0 : Int32} {p1 : Int32} {p2 : Int32} (hn : 133 ≤ n)  {out : pd_I} (hF : fn_X5_merge I Z n p0 p1 p2 = some out) :
    pd_M l D tc yX5_merge (.code yX5_merge cX5_merge 15 (Option.none : Option Jvm.ClassFile.FieldType)) rm_X5_merge [.ref 36, .int p0, .int p1, .int p2] I J (pd_RF Z) n (.ok (none)) out J (pd_RF Z) n := by
  refine pd_open (own := "PathDecoder$Search") (ls0 := [some (.ref 36), some (.int p0), some (.int p1), some (.int p2), none, none, none, none, none, none, none, none, none, none, none]) (by decide) rfl (Nat.le_of_ble_eq_true rfl) rfl rfl hst (fun cx hl hD htc C hE htab hnm => ?_)
  subst hl hD htc
  unfold fn_X5_merge at hF
  refine pd_aload_n C dX5_merge_0 rfl rfl ?_
  refine gr_5_0 C wd_1_152 (pd_lt (by decide) hn) sh_36 (rf_36_0 _) dX5_merge_1 ?_
  refine gr_1_0 C wd_1_81 (pd_lt (by decide) hn) sh_11 (rf_11_0 _) dX5_merge_4 ?_
  refine pd_iconst (v := 2) C dX5_merge_7 (by decide) ?_
  refine pd_iload_n C dX5_merge_8 rfl rfl ?_
  refine pd_imul C dX5_merge_9 ?_
  obtain ⟨zg1, hF⟩ := pd_gd_some hF
  refine pd_iald C (pd_lt (by decide) hn) sh_12 zg1 dX5_merge_10 ?_
  refine pd_topi (fun zv1 hzv1 => ?_)
  have hF := pd_let_at hF hzv1
  refine pd_istore (ls' := [some (.ref 36), some (.int p0), some (.int p1), some (.int p2), some (.int zv1), none, none, none, none, none, none, none, none, none, none]) C dX5_merge_11 (Nat.le_of_ble_eq_true rfl) rfl rfl ?_
  refine pd_aload_n C dX5_merge_13 rfl rfl ?_
  refine gr_5_0 C wd_1_152 (pd_lt (by decide) hn) sh_36 (rf_36_0 _) dX5_merge_14 ?_
  refine gr_1_0 C wd_1_81 (pd_lt (by decide) hn) sh_11 (rf_11_0 _) dX5_merge_17 ?_
  refine pd_iconst (v := 2) C dX5_merge_20 (by decide) ?_
  refine pd_iload_n C dX5_merge_21 rfl rfl ?_
  refine pd_imul C dX5_merge_22 ?_
  refine pd_iconst (v := 1) C dX5_merge_23 (by decide) ?_
  refine pd_iadd C dX5_merge_24 ?_
  obtain ⟨zg2, hF⟩ := pd_gd_some hF
  refine pd_iald C (pd_lt (by decide) hn) sh_12 zg2 dX5_merge_25 ?_
  refine pd_topi (fun zv2 hzv2 => ?_)
  have hF := pd_let_at hF hzv2
  refine pd_istore (ls' := [some (.ref 36), some (.int p0), some (.int p1), some (.int p2), some (.int zv1), some (.int zv2), none, none, none, none, none, none, none, none, none]) C dX5_merge_26 (Nat.le_of_ble_eq_true rfl) rfl rfl ?_
  refine pd_aload_n C dX5_merge_28 rfl rfl ?_
  refine gr_5_0 C wd_1_152 (pd_lt (by decide) hn) sh_36 (rf_36_0 _) dX5_merge_29 ?_
  refine pd_iload_n C dX5_merge_32 rfl rfl ?_
  refine pd_iconst (v := 2) C dX5_merge_33 (by decide) ?_
  refine pd_iload_n C dX5_merge_34 rfl rfl ?_
  refine pd_imul C dX5_merge_35 ?_
  obtain ⟨zr1, zh1, hF⟩ := pd_bd_some hF
  refine pd_callV C [.int p0, .int (2 * p1)] [] (em_X1_priceOf (pd_C_st C) hn  zh1) mw_X1_priceOf wd_4_98 rfl (by decide) (pd_lt (by decide) hn) sh_11 ⟨by decide, by decide, by decide, by decide⟩ rfl (Nat.le_of_ble_eq_true rfl) pd_oldL_same (fun _ _ => pd_old_same _) dX5_merge_36 (stk' := [.int zr1]) rfl ?_
  refine pd_istore (ls' := [some (.ref 36), some (.int p0), some (.int p1), some (.int p2), some (.int zv1), some (.int zv2), some (.int zr1), none, none, none, none, none, none, none, none]) C dX5_merge_39 (Nat.le_of_ble_eq_true rfl) rfl rfl ?_
  refine pd_aload_n C dX5_merge_41 rfl rfl ?_
  refine gr_5_0 C wd_1_152 (pd_lt (by decide) hn) sh_36 (rf_36_0 _) dX5_merge_42 ?_
  refine pd_iload_n C dX5_merge_45 rfl rfl ?_
  refine pd_iconst (v := 2) C dX5_merge_46 (by decide) ?_
  refine pd_iload_n C dX5_merge_47 rfl rfl ?_
  refine pd_imul C dX5_merge_48 ?_
  refine pd_iconst (v := 1) C dX5_merge_49 (by decide) ?_
  refine pd_iadd C dX5_merge_50 ?_
  obtain ⟨zr2, zh2, hF⟩ := pd_bd_some hF
  refine pd_callV C [.int p0, .int ((2 * p1) + 1)] [] (em_X1_priceOf (pd_C_st C) hn  zh2) mw_X1_priceOf wd_4_98 rfl (by decide) (pd_lt (by decide) hn) sh_11 ⟨by decide, by decide, by decide, by decide⟩ rfl (Nat.le_of_ble_eq_true rfl) pd_oldL_same (fun _ _ => pd_old_same _) dX5_merge_51 (stk' := [.int zr2]) rfl ?_
  refine pd_istore (ls' := [some (.ref 36), some (.int p0), some (.int p1), some (.int p2), some (.int zv1), some (.int zv2), some (.int zr1), some (.int zr2), none, none, none, none, none, none, none]) C dX5_merge_54 (Nat.le_of_ble_eq_true rfl) rfl rfl ?_
  refine pd_iconst (v := 0) C dX5_merge_56 (by decide) ?_
  refine pd_istore (ls' := [some (.ref 36), some (.int p0), some (.int p1), some (.int p2), some (.int zv1), some (.int zv2), some (.int zr1), some (.int zr2), some (.int 0), none, none, none, none, none, none]) C dX5_merge_57 (Nat.le_of_ble_eq_true rfl) rfl rfl ?_
  refine pd_iconst (v := 0) C dX5_merge_59 (by decide) ?_
  refine pd_istore (ls' := [some (.ref 36), some (.int p0), some (.int p1), some (.int p2), some (.int zv1), some (.int zv2), some (.int zr1), some (.int zr2), some (.int 0), some (.int 0), none, none, none, none, none]) C dX5_merge_60 (Nat.le_of_ble_eq_true rfl) rfl rfl ?_
  refine pd_iconst (v := 0) C dX5_merge_62 (by decide) ?_
  refine pd_istore (ls' := [some (.ref 36), some (.int p0), some (.int p1), some (.int p2), some (.int zv1), some (.int zv2), some (.int zr1), some (.int zr2), some (.int 0), some (.int 0), some (.int 0), none, none, none, none]) C dX5_merge_63 (Nat.le_of_ble_eq_true rfl) rfl rfl ?_
  refine el_X5_merge_65 C hn (fun zx4 zI2 hF => ?_) pd_FU _ _ _ _ hF
  refine pd_aload_n C dX5_merge_276 rfl rfl ?_
  obtain ⟨zq8, hzq8, hF⟩ := pd_bd_some hF
  obtain ⟨zg18, hF⟩ := pd_gd_some hF
  refine gr_5_4 C wd_1_156 (pd_lt (by decide) hn) sh_36 ((pd_RF_dyn rfl).trans hzq8) dX5_merge_277 ?_
  refine pd_iload_n C dX5_merge_280 rfl rfl ?_
  refine pd_iload C dX5_merge_281 rfl ?_
  obtain ⟨zg19, hF⟩ := pd_gd_some hF
  refine pd_iast C (pd_arr_lt zg18) (pd_arr_sh zg18) zg19 dX5_merge_283 ?_
  refine pd_memI (fun zI5 hzI5 => ?_)
  have hF := pd_let_at hF hzI5
  cases hF
  exact pd_vret C hE rfl ⟨by decide, by decide⟩ dX5_merge_284

def fl_X5_comeBack_2 {O : Type} (Z : pd_R) (n : Nat) (kont : pd_I → Option O) : Nat → Int32 → pd_I → Option O
  | 0, _, _ => none
  | fu + 1, zx1, zI1 => if (zI1 11 3) ≤ zx1 then kont zI1 else (pd_bd (Z 36 5) fun zq1 => pd_gd (pd_isArr zq1 64 n) (pd_gd (pd_in zx1 64) (pd_bd (if 536870912 ≤ (zI1 14 zx1.toNatClampNeg) then some 0 else (some 1)) fun (zx2 : Int32) => pd_gd (pd_in zx1 64) (pd_let (pd_ui zI1 zq1 zx1.toNatClampNeg zx2) fun zI3 => pd_bd (Z 36 3) fun zq2 => pd_gd (pd_isArr zq2 512 n) (pd_gd (pd_in zx1 64) (pd_gd (pd_in (zx1 * 8) 512) (pd_let (pd_ui zI3 zq2 (zx1 * 8).toNatClampNeg (zI3 14 zx1.toNatClampNeg)) fun zI4 => pd_let (zx1 + 1) fun zv1 => fl_X5_comeBack_2 Z n kont fu zv1 zI4)))))))
set_option maxRecDepth 100000 in
set_option maxHeartbeats 4000000 in
theorem el_X5_comeBack_2 {cx : pd_X} (C : pd_C cx "PathDecoder$Search" cX5_comeBack rm_X5_comeBack) {p0 : Int32} {p1 : Int32} {J : pd_J} {Z : pd_R} {n : Nat} (hn : 133 ≤ n)  {O : Type} {kont : pd_I → Option O} {out : O} (K : ∀ (zI2 : pd_I), kont zI2 = some out → pd_V cx 0 0 62 [some (.ref 36), some (.int p0), some (.int p1), none, none, none] [] zI2 J (pd_RF Z) n) :
    ∀ (fu : Nat) (zx1 : Int32) (zI1 : pd_I), fl_X5_comeBack_2 Z n kont fu zx1 zI1 = some out → pd_V cx 0 0 2 [some (.ref 36), some (.int p0), some (.int p1), some (.int zx1), none, none] [] zI1 J (pd_RF Z) n := by
  intro fu
  induction fu with
  | zero => intro zx1 zI1 hF; rw [fl_X5_comeBack_2] at hF; cases hF
  | succ fu ih =>
    intro zx1 zI1 hF
    rw [fl_X5_comeBack_2] at hF
    refine pd_iload_n C dX5_comeBack_2 rfl rfl ?_
    refine pd_aload_n C dX5_comeBack_3 rfl rfl ?_
    refine gr_5_0 C wd_1_152 (pd_lt (by decide) hn) sh_36 (rf_36_0 _) dX5_comeBack_4 ?_
    refine gi_1_3 C wd_1_90 (pd_lt (by decide) hn) sh_11 dX5_comeBack_7 ?_
    refine pd_icmp_ge (tgt := 62) C dX5_comeBack_10 (by decide) (fun zc2 => ?_) (fun zc2 => ?_)
    · have hF := pd_t zc2 hF
      refine pd_wk (ls' := [some (.ref 36), some (.int p0), some (.int p1), none, none, none]) (And.intro rfl (And.intro rfl (And.intro rfl True.intro))) ?_
      exact K _ hF
    · have hF := pd_f zc2 hF
      refine pd_aload_n C dX5_comeBack_13 rfl rfl ?_
      obtain ⟨zq1, hzq1, hF⟩ := pd_bd_some hF
      obtain ⟨zg1, hF⟩ := pd_gd_some hF
      refine gr_5_5 C wd_1_157 (pd_lt (by decide) hn) sh_36 ((pd_RF_dyn rfl).trans hzq1) dX5_comeBack_14 ?_
      refine pd_iload_n C dX5_comeBack_17 rfl rfl ?_
      refine pd_aload_n C dX5_comeBack_18 rfl rfl ?_
      refine gr_5_0 C wd_1_152 (pd_lt (by decide) hn) sh_36 (rf_36_0 _) dX5_comeBack_19 ?_
      refine gr_1_2 C wd_1_86 (pd_lt (by decide) hn) sh_11 (rf_11_2 _) dX5_comeBack_22 ?_
      refine pd_iload_n C dX5_comeBack_25 rfl rfl ?_
      obtain ⟨zg2, hF⟩ := pd_gd_some hF
      refine pd_iald C (pd_lt (by decide) hn) sh_14 zg2 dX5_comeBack_26 ?_
      refine pd_ldc C wd_4_93 dX5_comeBack_27 ?_
      obtain ⟨zx2, hS, hF⟩ := pd_bd_some hF
      have hJ37 : pd_V cx 0 0 37 [some (.ref 36), some (.int p0), some (.int p1), some (.int zx1), none, none] [.int zx2, .int zx1, .ref zq1] zI1 J (pd_RF Z) n := by
        obtain ⟨zg3, hF⟩ := pd_gd_some hF
        refine pd_iast C (pd_arr_lt zg1) (pd_arr_sh zg1) zg3 dX5_comeBack_37 ?_
        refine pd_memI (fun zI3 hzI3 => ?_)
        have hF := pd_let_at hF hzI3
        refine pd_aload_n C dX5_comeBack_38 rfl rfl ?_
        obtain ⟨zq2, hzq2, hF⟩ := pd_bd_some hF
        obtain ⟨zg4, hF⟩ := pd_gd_some hF
        refine gr_5_3 C wd_1_155 (pd_lt (by decide) hn) sh_36 ((pd_RF_dyn rfl).trans hzq2) dX5_comeBack_39 ?_
        refine pd_iload_n C dX5_comeBack_42 rfl rfl ?_
        refine pd_bipush (v := 8) C dX5_comeBack_43 (by decide) ?_
        refine pd_imul C dX5_comeBack_45 ?_
        refine pd_aload_n C dX5_comeBack_46 rfl rfl ?_
        refine gr_5_0 C wd_1_152 (pd_lt (by decide) hn) sh_36 (rf_36_0 _) dX5_comeBack_47 ?_
        refine gr_1_2 C wd_1_86 (pd_lt (by decide) hn) sh_11 (rf_11_2 _) dX5_comeBack_50 ?_
        refine pd_iload_n C dX5_comeBack_53 rfl rfl ?_
        obtain ⟨zg5, hF⟩ := pd_gd_some hF
        refine pd_iald C (pd_lt (by decide) hn) sh_14 zg5 dX5_comeBack_54 ?_
        obtain ⟨zg6, hF⟩ := pd_gd_some hF
        refine pd_iast C (pd_arr_lt zg4) (pd_arr_sh zg4) zg6 dX5_comeBack_55 ?_
        refine pd_memI (fun zI4 hzI4 => ?_)
        have hF := pd_let_at hF hzI4
        refine pd_iincG (zz := 1) C dX5_comeBack_56 rfl (by decide) rfl (fun zv1 hzv1 => ?_)
        have hF := pd_let_at hF hzv1
        refine pd_lsE (ls' := [some (.ref 36), some (.int p0), some (.int p1), some (.int zv1), none, none]) rfl ?_
        refine pd_goto (tgt := 2) C dX5_comeBack_59 (by decide) ?_
        exact ih _ _ hF
      replace hF := hS
      clear hS
      refine pd_icmp_ge (tgt := 36) C dX5_comeBack_29 (by decide) (fun zc1 => ?_) (fun zc1 => ?_)
      · have hF := pd_t zc1 hF
        refine pd_iconst (v := 0) C dX5_comeBack_36 (by decide) ?_
        have hF := hF.symm
        cases hF
        exact hJ37
      · have hF := pd_f zc1 hF
        refine pd_iconst (v := 1) C dX5_comeBack_32 (by decide) ?_
        refine pd_goto (tgt := 37) C dX5_comeBack_33 (by decide) ?_
        have hF := hF.symm
        cases hF
        exact hJ37
def fl_X5_comeBack_73 {O : Type} (p1 : Int32) (zx3 : Int32) (zZ1 : pd_R) (n : Nat) (kont : pd_I → Option O) : Nat → Int32 → pd_I → Option O
  | 0, _, _ => none
  | fu + 1, zx4, zI7 => if (zI7 11 3) ≤ zx4 then kont zI7 else (pd_bd (fn_X5_merge zI7 zZ1 n zx3 zx4 p1) fun zI9 => pd_let (zx4 + 1) fun zv3 => fl_X5_comeBack_73 p1 zx3 zZ1 n kont fu zv3 zI9)
set_option maxRecDepth 100000 in
set_option maxHeartbeats 4000000 in
theorem el_X5_comeBack_73 {cx : pd_X} (C : pd_C cx "PathDecoder$Search" cX5_comeBack rm_X5_comeBack) {p1 : Int32} {zx3 : Int32} {J : pd_J} {zZ1 : pd_R} {n : Nat} (hn : 133 ≤ n)  {O : Type} {kont : pd_I → Option O} {out : O} (K : ∀ (zI8 : pd_I), kont zI8 = some out → pd_V cx 0 0 99 [some (.ref 36), none, some (.int p1), some (.int zx3), none, none] [] zI8 J (pd_RF zZ1) n) :
    ∀ (fu : Nat) (zx4 : Int32) (zI7 : pd_I), fl_X5_comeBack_73 p1 zx3 zZ1 n kont fu zx4 zI7 = some out → pd_V cx 0 0 73 [some (.ref 36), none, some (.int p1), some (.int zx3), some (.int zx4), none] [] zI7 J (pd_RF zZ1) n := by
  intro fu
  induction fu with
  | zero => intro zx4 zI7 hF; rw [fl_X5_comeBack_73] at hF; cases hF
  | succ fu ih =>
    intro zx4 zI7 hF
    rw [fl_X5_comeBack_73] at hF
    refine pd_iload C dX5_comeBack_73 rfl ?_
    refine pd_aload_n C dX5_comeBack_75 rfl rfl ?_
    refine gr_5_0 C wd_1_152 (pd_lt (by decide) hn) sh_36 (rf_36_0 _) dX5_comeBack_76 ?_
    refine gi_1_3 C wd_1_90 (pd_lt (by decide) hn) sh_11 dX5_comeBack_79 ?_
    refine pd_icmp_ge (tgt := 99) C dX5_comeBack_82 (by decide) (fun zc3 => ?_) (fun zc3 => ?_)
    · have hF := pd_t zc3 hF
      refine pd_wk (ls' := [some (.ref 36), none, some (.int p1), some (.int zx3), none, none]) (And.intro rfl (And.intro rfl (And.intro rfl True.intro))) ?_
      exact K _ hF
    · have hF := pd_f zc3 hF
      refine pd_aload_n C dX5_comeBack_85 rfl rfl ?_
      refine pd_iload_n C dX5_comeBack_86 rfl rfl ?_
      refine pd_iload C dX5_comeBack_87 rfl ?_
      refine pd_iload_n C dX5_comeBack_89 rfl rfl ?_
      obtain ⟨zI9, zh1, hF⟩ := pd_bd_some hF
      refine pd_callV C [.int zx3, .int zx4, .int p1] [] (em_X5_merge (pd_C_st C) hn  zh1) mw_X5_merge wd_4_94 rfl (by decide) (pd_lt (by decide) hn) sh_36 ⟨by decide, by decide, by decide, by decide⟩ rfl (Nat.le_of_ble_eq_true rfl) pd_oldL_same (fun _ _ => pd_old_same _) dX5_comeBack_90 (stk' := []) rfl ?_
      refine pd_iincG (zz := 1) C dX5_comeBack_93 rfl (by decide) rfl (fun zv3 hzv3 => ?_)
      have hF := pd_let_at hF hzv3
      refine pd_lsE (ls' := [some (.ref 36), none, some (.int p1), some (.int zx3), some (.int zv3), none]) rfl ?_
      refine pd_goto (tgt := 73) C dX5_comeBack_96 (by decide) ?_
      exact ih _ _ hF
def fl_X5_comeBack_66 {O : Type} (p1 : Int32) (n : Nat) (kont : pd_I → pd_R → Option O) : Nat → Int32 → pd_I → pd_R → Option O
  | 0, _, _, _ => none
  | fu + 1, zx3, zI5, zZ1 => if zx3 < 0 then kont zI5 zZ1 else (fl_X5_comeBack_73 p1 zx3 zZ1 n (fun zI8 => pd_bd (zZ1 36 2) fun zq3 => pd_gd (pd_isArr zq3 512 n) (pd_bd (zZ1 36 3) fun zq4 => pd_gd (pd_isArr zq4 512 n) (pd_let (pd_ur zZ1 36 2 (some zq4)) fun zZ3 => pd_let (pd_ur zZ3 36 3 (some zq3)) fun zZ4 => pd_bd (zZ4 36 4) fun zq5 => pd_gd (pd_isArr zq5 64 n) (pd_bd (zZ4 36 5) fun zq6 => pd_gd (pd_isArr zq6 64 n) (pd_let (pd_ur zZ4 36 4 (some zq6)) fun zZ5 => pd_let (pd_ur zZ5 36 5 (some zq5)) fun zZ6 => pd_let (zx3 + (-1)) fun zv4 => fl_X5_comeBack_66 p1 n kont fu zv4 zI8 zZ6))))) pd_FU 0 zI5)
set_option maxRecDepth 100000 in
set_option maxHeartbeats 4000000 in
theorem el_X5_comeBack_66 {cx : pd_X} (C : pd_C cx "PathDecoder$Search" cX5_comeBack rm_X5_comeBack) {p1 : Int32} {J : pd_J} {n : Nat} (hn : 133 ≤ n)  {O : Type} {kont : pd_I → pd_R → Option O} {out : O} (K : ∀ (zI6 : pd_I) (zZ2 : pd_R), kont zI6 zZ2 = some out → pd_V cx 0 0 145 [none, none, none, none, none, none] [] zI6 J (pd_RF zZ2) n) :
    ∀ (fu : Nat) (zx3 : Int32) (zI5 : pd_I) (zZ1 : pd_R), fl_X5_comeBack_66 p1 n kont fu zx3 zI5 zZ1 = some out → pd_V cx 0 0 66 [some (.ref 36), none, some (.int p1), some (.int zx3), none, none] [] zI5 J (pd_RF zZ1) n := by
  intro fu
  induction fu with
  | zero => intro zx3 zI5 zZ1 hF; rw [fl_X5_comeBack_66] at hF; cases hF
  | succ fu ih =>
    intro zx3 zI5 zZ1 hF
    rw [fl_X5_comeBack_66] at hF
    refine pd_iload_n C dX5_comeBack_66 rfl rfl ?_
    refine pd_if_lt (tgt := 145) C dX5_comeBack_67 (by decide) (fun zc4 => ?_) (fun zc4 => ?_)
    · have hF := pd_t zc4 hF
      refine pd_wk (ls' := [none, none, none, none, none, none]) True.intro ?_
      exact K _ _ hF
    · have hF := pd_f zc4 hF
      refine pd_iconst (v := 0) C dX5_comeBack_70 (by decide) ?_
      refine pd_istore (ls' := [some (.ref 36), none, some (.int p1), some (.int zx3), some (.int 0), none]) C dX5_comeBack_71 (Nat.le_of_ble_eq_true rfl) rfl rfl ?_
      refine el_X5_comeBack_73 C hn (fun zI8 hF => ?_) pd_FU _ _ hF
      refine pd_aload_n C dX5_comeBack_99 rfl rfl ?_
      obtain ⟨zq3, hzq3, hF⟩ := pd_bd_some hF
      obtain ⟨zg7, hF⟩ := pd_gd_some hF
      refine gr_5_2 C wd_1_154 (pd_lt (by decide) hn) sh_36 ((pd_RF_dyn rfl).trans hzq3) dX5_comeBack_100 ?_
      refine pd_astore (ls' := [some (.ref 36), none, some (.int p1), some (.int zx3), some (.ref zq3), none]) C dX5_comeBack_103 (Nat.le_of_ble_eq_true rfl) rfl rfl ?_
      refine pd_aload_n C dX5_comeBack_105 rfl rfl ?_
      refine pd_aload_n C dX5_comeBack_106 rfl rfl ?_
      obtain ⟨zq4, hzq4, hF⟩ := pd_bd_some hF
      obtain ⟨zg8, hF⟩ := pd_gd_some hF
      refine gr_5_3 C wd_1_155 (pd_lt (by decide) hn) sh_36 ((pd_RF_dyn rfl).trans hzq4) dX5_comeBack_107 ?_
      refine pr_5_2 C wd_1_154 (pd_lt (by decide) hn) sh_36 dX5_comeBack_110 ?_
      rw [pd_RF_ur rfl]
      refine pd_memZ (fun zZ3 hzZ3 => ?_)
      have hF := pd_let_at hF hzZ3
      refine pd_aload_n C dX5_comeBack_113 rfl rfl ?_
      refine pd_aload C dX5_comeBack_114 rfl ?_
      refine pr_5_3 C wd_1_155 (pd_lt (by decide) hn) sh_36 dX5_comeBack_116 ?_
      rw [pd_RF_ur rfl]
      refine pd_memZ (fun zZ4 hzZ4 => ?_)
      have hF := pd_let_at hF hzZ4
      refine pd_aload_n C dX5_comeBack_119 rfl rfl ?_
      obtain ⟨zq5, hzq5, hF⟩ := pd_bd_some hF
      obtain ⟨zg9, hF⟩ := pd_gd_some hF
      refine gr_5_4 C wd_1_156 (pd_lt (by decide) hn) sh_36 ((pd_RF_dyn rfl).trans hzq5) dX5_comeBack_120 ?_
      refine pd_astore (ls' := [some (.ref 36), none, some (.int p1), some (.int zx3), some (.ref zq3), some (.ref zq5)]) C dX5_comeBack_123 (Nat.le_of_ble_eq_true rfl) rfl rfl ?_
      refine pd_aload_n C dX5_comeBack_125 rfl rfl ?_
      refine pd_aload_n C dX5_comeBack_126 rfl rfl ?_
      obtain ⟨zq6, hzq6, hF⟩ := pd_bd_some hF
      obtain ⟨zg10, hF⟩ := pd_gd_some hF
      refine gr_5_5 C wd_1_157 (pd_lt (by decide) hn) sh_36 ((pd_RF_dyn rfl).trans hzq6) dX5_comeBack_127 ?_
      refine pr_5_4 C wd_1_156 (pd_lt (by decide) hn) sh_36 dX5_comeBack_130 ?_
      rw [pd_RF_ur rfl]
      refine pd_memZ (fun zZ5 hzZ5 => ?_)
      have hF := pd_let_at hF hzZ5
      refine pd_aload_n C dX5_comeBack_133 rfl rfl ?_
      refine pd_aload C dX5_comeBack_134 rfl ?_
      refine pr_5_5 C wd_1_157 (pd_lt (by decide) hn) sh_36 dX5_comeBack_136 ?_
      rw [pd_RF_ur rfl]
      refine pd_memZ (fun zZ6 hzZ6 => ?_)
      have hF := pd_let_at hF hzZ6
      refine pd_iincG (zz := (-1)) C dX5_comeBack_139 rfl (by decide) rfl (fun zv4 hzv4 => ?_)
      have hF := pd_let_at hF hzv4
      refine pd_lsE (ls' := [some (.ref 36), none, some (.int p1), some (.int zv4), some (.ref zq3), some (.ref zq5)]) rfl ?_
      refine pd_goto (tgt := 66) C dX5_comeBack_142 (by decide) ?_
      refine pd_wk (ls' := [some (.ref 36), none, some (.int p1), some (.int zv4), none, none]) (And.intro rfl (And.intro rfl (And.intro rfl True.intro))) ?_
      exact ih _ _ _ hF
def fn_X5_comeBack (I : pd_I) (Z : pd_R) (n : Nat) (p0 : Int32) (p1 : Int32) : Option (pd_I × pd_R) := fl_X5_comeBack_2 Z n (fun zI2 => pd_let (p0 - 1) fun zv2 => fl_X5_comeBack_66 p1 n (fun zI6 zZ2 => some (zI6, zZ2)) pd_FU zv2 zI2 Z) pd_FU 0 I
set_option maxRecDepth 100000 in
set_option maxHeartbeats 4000000 in
theorem em_X5_comeBack {l : Launch} {D : va_G} {tc : Nat → ClassId} (hst : l.stackTraces = false) {I : pd_I} {J : pd_J} {Z : pd_R} {n : Nat} {p0 : Int32} {p1 : Int32} (hn : 133 ≤ n)  {out : pd_I × pd_R} (hF : fn_X5_comeBack I Z n p0 p1 = some out) :
    pd_M l D tc yX5_comeBack (.code yX5_comeBack cX5_comeBack 6 (Option.none : Option Jvm.ClassFile.FieldType)) rm_X5_comeBack [.ref 36, .int p0, .int p1] I J (pd_RF Z) n (.ok (none)) out.1 J (pd_RF out.2) n := by
  refine pd_open (own := "PathDecoder$Search") (ls0 := [some (.ref 36), some (.int p0), some (.int p1), none, none, none]) (by decide) rfl (Nat.le_of_ble_eq_true rfl) rfl rfl hst (fun cx hl hD htc C hE htab hnm => ?_)
  subst hl hD htc
  unfold fn_X5_comeBack at hF
  refine pd_iconst (v := 0) C dX5_comeBack_0 (by decide) ?_
  refine pd_istore_n (ls' := [some (.ref 36), some (.int p0), some (.int p1), some (.int 0), none, none]) C dX5_comeBack_1 rfl (Nat.le_of_ble_eq_true rfl) rfl rfl ?_
  refine el_X5_comeBack_2 C hn (fun zI2 hF => ?_) pd_FU _ _ hF
  refine pd_iload_n C dX5_comeBack_62 rfl rfl ?_
  refine pd_iconst (v := 1) C dX5_comeBack_63 (by decide) ?_
  refine pd_isub C dX5_comeBack_64 ?_
  refine pd_topi (fun zv2 hzv2 => ?_)
  have hF := pd_let_at hF hzv2
  refine pd_istore_n (ls' := [some (.ref 36), some (.int p0), some (.int p1), some (.int zv2), none, none]) C dX5_comeBack_65 rfl (Nat.le_of_ble_eq_true rfl) rfl rfl ?_
  refine pd_wk (ls' := [some (.ref 36), none, some (.int p1), some (.int zv2), none, none]) (And.intro rfl (And.intro rfl (And.intro rfl True.intro))) ?_
  refine el_X5_comeBack_66 C hn (fun zI6 zZ2 hF => ?_) pd_FU _ _ _ hF
  cases hF
  exact pd_vret C hE rfl ⟨by decide, by decide⟩ dX5_comeBack_145

def fn_X10_offered (I : pd_I) (Z : pd_R) (n : Nat) : Option Nat := pd_gd (pd_in (I 16 1) 9) (pd_bd (Z 17 (I 16 1).toNatClampNeg) fun zq1 => pd_gd (pd_isWay zq1) (some zq1))
set_option maxRecDepth 100000 in
set_option maxHeartbeats 4000000 in
theorem em_X10_offered {l : Launch} {D : va_G} {tc : Nat → ClassId} (hst : l.stackTraces = false) {I : pd_I} {J : pd_J} {Z : pd_R} {n : Nat} (hn : 133 ≤ n)  {out : Nat} (hF : fn_X10_offered I Z n = some out) :
    pd_M l D tc yX10_offered (.code yX10_offered cX10_offered 1 (Option.some (Jvm.ClassFile.FieldType.object "PathDecoder$Way"))) rm_X10_offered [.ref 16] I J (pd_RF Z) n (.ok (some (.ref out))) I J (pd_RF Z) n := by
  refine pd_open (own := "PathDecoder$Ways") (ls0 := [some (.ref 16)]) (by decide) rfl (Nat.le_of_ble_eq_true rfl) rfl rfl hst (fun cx hl hD htc C hE htab hnm => ?_)
  subst hl hD htc
  unfold fn_X10_offered at hF
  refine pd_aload_n C dX10_offered_0 rfl rfl ?_
  refine gr_10_0 C wd_1_135 (pd_lt (by decide) hn) sh_16 (rf_16_0 _) dX10_offered_1 ?_
  refine pd_aload_n C dX10_offered_4 rfl rfl ?_
  refine gi_10_1 C wd_1_136 (pd_lt (by decide) hn) sh_16 dX10_offered_5 ?_
  obtain ⟨zg1, hF⟩ := pd_gd_some hF
  obtain ⟨zq1, hzq1, hF⟩ := pd_bd_some hF
  obtain ⟨zg2, hF⟩ := pd_gd_some hF
  refine pd_aald C (pd_lt (by decide) hn) sh_17 (by decide) zg1 ((pd_RF_dyn rfl).trans hzq1) dX10_offered_8 ?_
  cases hF
  exact pd_aret C hE rfl ⟨by decide, by decide⟩ dX10_offered_9

def fn_X9_begin (I : pd_I) (a : Nat) (p0 : Int32) (p1 : Int32) (p2 : Int32) : Option pd_I := pd_let (pd_ui I a 0 p0) fun zI1 => pd_let (pd_ui zI1 a 1 p1) fun zI2 => pd_let (pd_ui zI2 a 2 p2) fun zI3 => some zI3
set_option maxRecDepth 100000 in
set_option maxHeartbeats 4000000 in
theorem em_X9_begin {l : Launch} {D : va_G} {tc : Nat → ClassId} (hst : l.stackTraces = false) {I : pd_I} {J : pd_J} {Z : pd_R} {n : Nat} {a : Nat} {p0 : Int32} {p1 : Int32} {p2 : Int32} (hn : 133 ≤ n) (ha : pd_isWay a = true) {out : pd_I} (hF : fn_X9_begin I a p0 p1 p2 = some out) :
    pd_M l D tc yX9_begin (.code yX9_begin cX9_begin 4 (Option.none : Option Jvm.ClassFile.FieldType)) rm_X9_begin [.ref a, .int p0, .int p1, .int p2] I J (pd_RF Z) n (.ok (none)) out J (pd_RF Z) n := by
  refine pd_open (own := "PathDecoder$Way") (ls0 := [some (.ref a), some (.int p0), some (.int p1), some (.int p2)]) (by decide) rfl (Nat.le_of_ble_eq_true rfl) rfl rfl hst (fun cx hl hD htc C hE htab hnm => ?_)
  subst hl hD htc
  unfold fn_X9_begin at hF
  refine pd_aload_n C dX9_begin_0 rfl rfl ?_
  refine pd_iload_n C dX9_begin_1 rfl rfl ?_
  refine pi_9_0 C wd_1_116 rfl rfl (pd_way_lt ha hn) (pd_way_sh ha) dX9_begin_2 ?_
  refine pd_memI (fun zI1 hzI1 => ?_)
  have hF := pd_let_at hF hzI1
  refine pd_aload_n C dX9_begin_5 rfl rfl ?_
  refine pd_iload_n C dX9_begin_6 rfl rfl ?_
  refine pi_9_1 C wd_1_118 rfl rfl (pd_way_lt ha hn) (pd_way_sh ha) dX9_begin_7 ?_
  refine pd_memI (fun zI2 hzI2 => ?_)
  have hF := pd_let_at hF hzI2
  refine pd_aload_n C dX9_begin_10 rfl rfl ?_
  refine pd_iload_n C dX9_begin_11 rfl rfl ?_
  refine pi_9_2 C wd_1_120 rfl rfl (pd_way_lt ha hn) (pd_way_sh ha) dX9_begin_12 ?_
  refine pd_memI (fun zI3 hzI3 => ?_)
  have hF := pd_let_at hF hzI3
  cases hF
  exact pd_vret C hE rfl ⟨by decide, by decide⟩ dX9_begin_15

def fl_X5_follow_36 {O : Type} (p2 : Int32) (zq1 : Nat) (kont : pd_I → Option O) : Nat → Int32 → Int32 → Int32 → pd_I → Option O
  | 0, _, _, _, _ => none
  | fu + 1, zx1, zx2, zx3, zI2 => if p2 ≤ zx3 then kont zI2 else (pd_gd (pd_in ((((zx3 * 64) + zx1) * 8) + zx2) 102400) (pd_let (zI2 41 ((((zx3 * 64) + zx1) * 8) + zx2).toNatClampNeg) fun zv1 => pd_let (zv1 / 8) fun zv2 => pd_let (zv1 % 8) fun zv3 => pd_gd (pd_in zx3 200) (pd_let (pd_ui zI2 (zq1 + 1) zx3.toNatClampNeg (zv2.toInt8.toInt32.toInt8.toInt32)) fun zI4 => pd_gd (pd_in ((2 * zx1) + zv2) 128) (pd_let (zI4 12 ((2 * zx1) + zv2).toNatClampNeg) fun zv4 => pd_let (zx3 + 1) fun zv5 => fl_X5_follow_36 p2 zq1 kont fu zv4 zv3 zv5 zI4))))
set_option maxRecDepth 100000 in
set_option maxHeartbeats 4000000 in
theorem el_X5_follow_36 {cx : pd_X} (C : pd_C cx "PathDecoder$Search" cX5_follow rm_X5_follow) {p2 : Int32} {zq1 : Nat} {J : pd_J} {Z : pd_R} {n : Nat} (hn : 133 ≤ n) (zg1 : pd_isWay zq1 = true) {O : Type} {kont : pd_I → Option O} {out : O} (K : ∀ (zI3 : pd_I), kont zI3 = some out → pd_V cx 0 0 111 [none, none, none, none, none, none, none, none, none, none] [] zI3 J (pd_RF Z) n) :
    ∀ (fu : Nat) (zx1 : Int32) (zx2 : Int32) (zx3 : Int32) (zI2 : pd_I), fl_X5_follow_36 p2 zq1 kont fu zx1 zx2 zx3 zI2 = some out → pd_V cx 0 0 36 [some (.ref 36), none, none, some (.int p2), some (.ref zq1), some (.int zx1), some (.int zx2), some (.int zx3), none, none] [] zI2 J (pd_RF Z) n := by
  intro fu
  induction fu with
  | zero => intro zx1 zx2 zx3 zI2 hF; rw [fl_X5_follow_36] at hF; cases hF
  | succ fu ih =>
    intro zx1 zx2 zx3 zI2 hF
    rw [fl_X5_follow_36] at hF
    refine pd_iload C dX5_follow_36 rfl ?_
    refine pd_iload_n C dX5_follow_38 rfl rfl ?_
    refine pd_icmp_ge (tgt := 111) C dX5_follow_39 (by decide) (fun zc1 => ?_) (fun zc1 => ?_)
    · have hF := pd_t zc1 hF
      refine pd_wk (ls' := [none, none, none, none, none, none, none, none, none, none]) True.intro ?_
      exact K _ hF
    · have hF := pd_f zc1 hF
      refine pd_aload_n C dX5_follow_42 rfl rfl ?_
      refine gr_5_6 C wd_1_158 (pd_lt (by decide) hn) sh_36 (rf_36_6 _) dX5_follow_43 ?_
      refine pd_iload C dX5_follow_46 rfl ?_
      refine pd_bipush (v := 64) C dX5_follow_48 (by decide) ?_
      refine pd_imul C dX5_follow_50 ?_
      refine pd_iload C dX5_follow_51 rfl ?_
      refine pd_iadd C dX5_follow_53 ?_
      refine pd_bipush (v := 8) C dX5_follow_54 (by decide) ?_
      refine pd_imul C dX5_follow_56 ?_
      refine pd_iload C dX5_follow_57 rfl ?_
      refine pd_iadd C dX5_follow_59 ?_
      obtain ⟨zg4, hF⟩ := pd_gd_some hF
      refine pd_bald C (pd_lt (by decide) hn) sh_41 zg4 dX5_follow_60 ?_
      refine pd_topi (fun zv1 hzv1 => ?_)
      have hF := pd_let_at hF hzv1
      refine pd_istore (ls' := [some (.ref 36), none, none, some (.int p2), some (.ref zq1), some (.int zx1), some (.int zx2), some (.int zx3), some (.int zv1), none]) C dX5_follow_61 (Nat.le_of_ble_eq_true rfl) rfl rfl ?_
      refine pd_iload C dX5_follow_63 rfl ?_
      refine pd_bipush (v := 8) C dX5_follow_65 (by decide) ?_
      refine pd_idiv C dX5_follow_67 (by decide) ?_
      refine pd_topi (fun zv2 hzv2 => ?_)
      have hF := pd_let_at hF hzv2
      refine pd_istore (ls' := [some (.ref 36), none, none, some (.int p2), some (.ref zq1), some (.int zx1), some (.int zx2), some (.int zx3), some (.int zv1), some (.int zv2)]) C dX5_follow_68 (Nat.le_of_ble_eq_true rfl) rfl rfl ?_
      refine pd_iload C dX5_follow_70 rfl ?_
      refine pd_bipush (v := 8) C dX5_follow_72 (by decide) ?_
      refine pd_irem C dX5_follow_74 (by decide) ?_
      refine pd_topi (fun zv3 hzv3 => ?_)
      have hF := pd_let_at hF hzv3
      refine pd_istore (ls' := [some (.ref 36), none, none, some (.int p2), some (.ref zq1), some (.int zx1), some (.int zv3), some (.int zx3), some (.int zv1), some (.int zv2)]) C dX5_follow_75 (Nat.le_of_ble_eq_true rfl) rfl rfl ?_
      refine pd_aload C dX5_follow_77 rfl ?_
      refine gr_9_3 C wd_1_123 (pd_way_lt zg1 hn) (pd_way_sh zg1) (pd_way_rf zg1) dX5_follow_79 ?_
      refine pd_iload C dX5_follow_82 rfl ?_
      refine pd_iload C dX5_follow_84 rfl ?_
      refine pd_i2b C dX5_follow_86 ?_
      obtain ⟨zg5, hF⟩ := pd_gd_some hF
      refine pd_bast C (pd_way_lt1 zg1 hn) (pd_way_sh1 zg1) zg5 dX5_follow_87 ?_
      refine pd_memI (fun zI4 hzI4 => ?_)
      have hF := pd_let_at hF hzI4
      refine pd_aload_n C dX5_follow_88 rfl rfl ?_
      refine gr_5_0 C wd_1_152 (pd_lt (by decide) hn) sh_36 (rf_36_0 _) dX5_follow_89 ?_
      refine gr_1_0 C wd_1_81 (pd_lt (by decide) hn) sh_11 (rf_11_0 _) dX5_follow_92 ?_
      refine pd_iconst (v := 2) C dX5_follow_95 (by decide) ?_
      refine pd_iload C dX5_follow_96 rfl ?_
      refine pd_imul C dX5_follow_98 ?_
      refine pd_iload C dX5_follow_99 rfl ?_
      refine pd_iadd C dX5_follow_101 ?_
      obtain ⟨zg6, hF⟩ := pd_gd_some hF
      refine pd_iald C (pd_lt (by decide) hn) sh_12 zg6 dX5_follow_102 ?_
      refine pd_topi (fun zv4 hzv4 => ?_)
      have hF := pd_let_at hF hzv4
      refine pd_istore (ls' := [some (.ref 36), none, none, some (.int p2), some (.ref zq1), some (.int zv4), some (.int zv3), some (.int zx3), some (.int zv1), some (.int zv2)]) C dX5_follow_103 (Nat.le_of_ble_eq_true rfl) rfl rfl ?_
      refine pd_iincG (zz := 1) C dX5_follow_105 rfl (by decide) rfl (fun zv5 hzv5 => ?_)
      have hF := pd_let_at hF hzv5
      refine pd_lsE (ls' := [some (.ref 36), none, none, some (.int p2), some (.ref zq1), some (.int zv4), some (.int zv3), some (.int zv5), some (.int zv1), some (.int zv2)]) rfl ?_
      refine pd_goto (tgt := 36) C dX5_follow_108 (by decide) ?_
      refine pd_wk (ls' := [some (.ref 36), none, none, some (.int p2), some (.ref zq1), some (.int zv4), some (.int zv3), some (.int zv5), none, none]) (And.intro rfl (And.intro rfl (And.intro rfl (And.intro rfl (And.intro rfl (And.intro rfl True.intro)))))) ?_
      exact ih _ _ _ _ hF
def fn_X5_follow (I : pd_I) (Z : pd_R) (n : Nat) (p0 : Int32) (p1 : Int32) (p2 : Int32) : Option pd_I := pd_bd (fn_X10_offered I Z n) fun zq1 => pd_gd (pd_isWay zq1) (pd_bd (Z 36 3) fun zq2 => pd_gd (pd_isArr zq2 512 n) (pd_gd (pd_in ((p0 * 8) + p1) 512) (pd_bd (fn_X9_begin I zq1 (I zq2 ((p0 * 8) + p1).toNatClampNeg) p0 p2) fun zI1 => fl_X5_follow_36 p2 zq1 (fun zI3 => some zI3) pd_FU p0 p1 0 zI1)))
set_option maxRecDepth 100000 in
set_option maxHeartbeats 4000000 in
theorem em_X5_follow {l : Launch} {D : va_G} {tc : Nat → ClassId} (hst : l.stackTraces = false) {I : pd_I} {J : pd_J} {Z : pd_R} {n : Nat} {p0 : Int32} {p1 : Int32} {p2 : Int32} (hn : 133 ≤ n)  {out : pd_I} (hF : fn_X5_follow I Z n p0 p1 p2 = some out) :
    pd_M l D tc yX5_follow (.code yX5_follow cX5_follow 10 (Option.none : Option Jvm.ClassFile.FieldType)) rm_X5_follow [.ref 36, .int p0, .int p1, .int p2] I J (pd_RF Z) n (.ok (none)) out J (pd_RF Z) n := by
  refine pd_open (own := "PathDecoder$Search") (ls0 := [some (.ref 36), some (.int p0), some (.int p1), some (.int p2), none, none, none, none, none, none]) (by decide) rfl (Nat.le_of_ble_eq_true rfl) rfl rfl hst (fun cx hl hD htc C hE htab hnm => ?_)
  subst hl hD htc
  unfold fn_X5_follow at hF
  refine pd_aload_n C dX5_follow_0 rfl rfl ?_
  refine gr_5_1 C wd_1_153 (pd_lt (by decide) hn) sh_36 (rf_36_1 _) dX5_follow_1 ?_
  obtain ⟨zq1, zh1, hF⟩ := pd_bd_some hF
  obtain ⟨zg1, hF⟩ := pd_gd_some hF
  refine pd_callV C [] [] (em_X10_offered (pd_C_st C) hn  zh1) mw_X10_offered wd_4_103 rfl (by decide) (pd_lt (by decide) hn) sh_16 ⟨by decide, by decide, by decide, by decide⟩ rfl (Nat.le_of_ble_eq_true rfl) pd_oldL_same (fun _ _ => pd_old_same _) dX5_follow_4 (stk' := [.ref zq1]) rfl ?_
  refine pd_astore (ls' := [some (.ref 36), some (.int p0), some (.int p1), some (.int p2), some (.ref zq1), none, none, none, none, none]) C dX5_follow_7 (Nat.le_of_ble_eq_true rfl) rfl rfl ?_
  refine pd_aload C dX5_follow_9 rfl ?_
  refine pd_aload_n C dX5_follow_11 rfl rfl ?_
  obtain ⟨zq2, hzq2, hF⟩ := pd_bd_some hF
  obtain ⟨zg2, hF⟩ := pd_gd_some hF
  refine gr_5_3 C wd_1_155 (pd_lt (by decide) hn) sh_36 ((pd_RF_dyn rfl).trans hzq2) dX5_follow_12 ?_
  refine pd_iload_n C dX5_follow_15 rfl rfl ?_
  refine pd_bipush (v := 8) C dX5_follow_16 (by decide) ?_
  refine pd_imul C dX5_follow_18 ?_
  refine pd_iload_n C dX5_follow_19 rfl rfl ?_
  refine pd_iadd C dX5_follow_20 ?_
  obtain ⟨zg3, hF⟩ := pd_gd_some hF
  refine pd_iald C (pd_arr_lt zg2) (pd_arr_sh zg2) zg3 dX5_follow_21 ?_
  refine pd_iload_n C dX5_follow_22 rfl rfl ?_
  refine pd_iload_n C dX5_follow_23 rfl rfl ?_
  obtain ⟨zI1, zh2, hF⟩ := pd_bd_some hF
  refine pd_callV C [.int (I zq2 ((p0 * 8) + p1).toNatClampNeg), .int p0, .int p2] [] (em_X9_begin (pd_C_st C) hn zg1 zh2) mw_X9_begin wd_4_107 rfl (by decide) (pd_way_lt zg1 hn) (pd_way_sh zg1) ⟨by decide, by decide, by decide, by decide⟩ rfl (Nat.le_of_ble_eq_true rfl) pd_oldL_same (fun _ _ => pd_old_same _) dX5_follow_24 (stk' := []) rfl ?_
  refine pd_iload_n C dX5_follow_27 rfl rfl ?_
  refine pd_istore (ls' := [some (.ref 36), some (.int p0), some (.int p1), some (.int p2), some (.ref zq1), some (.int p0), none, none, none, none]) C dX5_follow_28 (Nat.le_of_ble_eq_true rfl) rfl rfl ?_
  refine pd_iload_n C dX5_follow_30 rfl rfl ?_
  refine pd_istore (ls' := [some (.ref 36), some (.int p0), some (.int p1), some (.int p2), some (.ref zq1), some (.int p0), some (.int p1), none, none, none]) C dX5_follow_31 (Nat.le_of_ble_eq_true rfl) rfl rfl ?_
  refine pd_iconst (v := 0) C dX5_follow_33 (by decide) ?_
  refine pd_istore (ls' := [some (.ref 36), some (.int p0), some (.int p1), some (.int p2), some (.ref zq1), some (.int p0), some (.int p1), some (.int 0), none, none]) C dX5_follow_34 (Nat.le_of_ble_eq_true rfl) rfl rfl ?_
  refine pd_wk (ls' := [some (.ref 36), none, none, some (.int p2), some (.ref zq1), some (.int p0), some (.int p1), some (.int 0), none, none]) (And.intro rfl (And.intro rfl (And.intro rfl (And.intro rfl (And.intro rfl (And.intro rfl True.intro)))))) ?_
  refine el_X5_follow_36 C hn zg1 (fun zI3 hF => ?_) pd_FU _ _ _ _ hF
  cases hF
  exact pd_vret C hE rfl ⟨by decide, by decide⟩ dX5_follow_111

def fl_X9_isAheadOf_30 (a : Nat) (a0 : Nat) (I : pd_I) (kont : Unit → Option Int32) : Nat → Int32 → Option Int32
  | 0, _ => none
  | fu + 1, zx1 => if (I a 2) ≤ zx1 then kont () else (pd_gd (pd_in zx1 200) (pd_gd (pd_in zx1 200) (if (I (a + 1) zx1.toNatClampNeg) = (I (a0 + 1) zx1.toNatClampNeg) then pd_let (zx1 + 1) fun zv1 => fl_X9_isAheadOf_30 a a0 I kont fu zv1 else (pd_gd (pd_in zx1 200) (pd_gd (pd_in zx1 200) (pd_bd (if (I (a0 + 1) zx1.toNatClampNeg) ≤ (I (a + 1) zx1.toNatClampNeg) then some 0 else (some 1)) fun (zx2 : Int32) => pd_gd (pd_bo zx2) (some zx2)))))))
set_option maxRecDepth 100000 in
set_option maxHeartbeats 4000000 in
theorem el_X9_isAheadOf_30 {cx : pd_X} (C : pd_C cx "PathDecoder$Way" cX9_isAheadOf rm_X9_isAheadOf) {a : Nat} {a0 : Nat} {I : pd_I} {J : pd_J} {Z : pd_R} {n : Nat} (hn : 133 ≤ n) (ha : pd_isWay a = true) (ha0 : pd_isWay a0 = true) {kont : Unit → Option Int32} {out : Int32} (hE : pd_E cx (Option.some Jvm.ClassFile.FieldType.boolean) rm_X9_isAheadOf (.ok (some (.int out))) I J (pd_RF Z) n) (K : ∀ (_u : Unit), kont _u = some out → pd_V cx 0 0 80 [some (.ref a), some (.ref a0), none] [] I J (pd_RF Z) n) :
    ∀ (fu : Nat) (zx1 : Int32), fl_X9_isAheadOf_30 a a0 I kont fu zx1 = some out → pd_V cx 0 0 30 [some (.ref a), some (.ref a0), some (.int zx1)] [] I J (pd_RF Z) n := by
  intro fu
  induction fu with
  | zero => intro zx1 hF; rw [fl_X9_isAheadOf_30] at hF; cases hF
  | succ fu ih =>
    intro zx1 hF
    rw [fl_X9_isAheadOf_30] at hF
    refine pd_iload_n C dX9_isAheadOf_30 rfl rfl ?_
    refine pd_aload_n C dX9_isAheadOf_31 rfl rfl ?_
    refine gi_9_2 C wd_1_120 (pd_way_lt ha hn) (pd_way_sh ha) dX9_isAheadOf_32 ?_
    refine pd_icmp_ge (tgt := 80) C dX9_isAheadOf_35 (by decide) (fun zc3 => ?_) (fun zc3 => ?_)
    · have hF := pd_t zc3 hF
      refine pd_wk (ls' := [some (.ref a), some (.ref a0), none]) (And.intro rfl (And.intro rfl True.intro)) ?_
      exact K _ hF
    · have hF := pd_f zc3 hF
      refine pd_aload_n C dX9_isAheadOf_38 rfl rfl ?_
      refine gr_9_3 C wd_1_122 (pd_way_lt ha hn) (pd_way_sh ha) (pd_way_rf ha) dX9_isAheadOf_39 ?_
      refine pd_iload_n C dX9_isAheadOf_42 rfl rfl ?_
      obtain ⟨zg1, hF⟩ := pd_gd_some hF
      refine pd_bald C (pd_way_lt1 ha hn) (pd_way_sh1 ha) zg1 dX9_isAheadOf_43 ?_
      refine pd_aload_n C dX9_isAheadOf_44 rfl rfl ?_
      refine gr_9_3 C wd_1_122 (pd_way_lt ha0 hn) (pd_way_sh ha0) (pd_way_rf ha0) dX9_isAheadOf_45 ?_
      refine pd_iload_n C dX9_isAheadOf_48 rfl rfl ?_
      obtain ⟨zg2, hF⟩ := pd_gd_some hF
      refine pd_bald C (pd_way_lt1 ha0 hn) (pd_way_sh1 ha0) zg2 dX9_isAheadOf_49 ?_
      refine pd_icmp_eq (tgt := 74) C dX9_isAheadOf_50 (by decide) (fun zc2 => ?_) (fun zc2 => ?_)
      · have hF := pd_t zc2 hF
        refine pd_iincG (zz := 1) C dX9_isAheadOf_74 rfl (by decide) rfl (fun zv1 hzv1 => ?_)
        have hF := pd_let_at hF hzv1
        refine pd_lsE (ls' := [some (.ref a), some (.ref a0), some (.int zv1)]) rfl ?_
        refine pd_goto (tgt := 30) C dX9_isAheadOf_77 (by decide) ?_
        exact ih _ hF
      · have hF := pd_f zc2 hF
        refine pd_aload_n C dX9_isAheadOf_53 rfl rfl ?_
        refine gr_9_3 C wd_1_122 (pd_way_lt ha hn) (pd_way_sh ha) (pd_way_rf ha) dX9_isAheadOf_54 ?_
        refine pd_iload_n C dX9_isAheadOf_57 rfl rfl ?_
        obtain ⟨zg3, hF⟩ := pd_gd_some hF
        refine pd_bald C (pd_way_lt1 ha hn) (pd_way_sh1 ha) zg3 dX9_isAheadOf_58 ?_
        refine pd_aload_n C dX9_isAheadOf_59 rfl rfl ?_
        refine gr_9_3 C wd_1_122 (pd_way_lt ha0 hn) (pd_way_sh ha0) (pd_way_rf ha0) dX9_isAheadOf_60 ?_
        refine pd_iload_n C dX9_isAheadOf_63 rfl rfl ?_
        obtain ⟨zg4, hF⟩ := pd_gd_some hF
        refine pd_bald C (pd_way_lt1 ha0 hn) (pd_way_sh1 ha0) zg4 dX9_isAheadOf_64 ?_
        obtain ⟨zx2, hS, hF⟩ := pd_bd_some hF
        have hJ73 : pd_V cx 0 0 73 [none, none, none] [.int zx2] I J (pd_RF Z) n := by
          obtain ⟨zg5, hF⟩ := pd_gd_some hF
          cases hF
          exact pd_iret C hE rfl rfl (pd_bo_nar zg5) ⟨by decide, by decide⟩ dX9_isAheadOf_73
        replace hF := hS
        clear hS
        refine pd_icmp_ge (tgt := 72) C dX9_isAheadOf_65 (by decide) (fun zc1 => ?_) (fun zc1 => ?_)
        · have hF := pd_t zc1 hF
          refine pd_iconst (v := 0) C dX9_isAheadOf_72 (by decide) ?_
          refine pd_wk (ls' := [none, none, none]) True.intro ?_
          have hF := hF.symm
          cases hF
          exact hJ73
        · have hF := pd_f zc1 hF
          refine pd_iconst (v := 1) C dX9_isAheadOf_68 (by decide) ?_
          refine pd_goto (tgt := 73) C dX9_isAheadOf_69 (by decide) ?_
          refine pd_wk (ls' := [none, none, none]) True.intro ?_
          have hF := hF.symm
          cases hF
          exact hJ73
def fn_X9_isAheadOf (I : pd_I) (a : Nat) (a0 : Nat) : Option Int32 := if (I a 0) = (I a0 0) then fl_X9_isAheadOf_30 a a0 I (fun _ => pd_bd (if (I a0 1) ≤ (I a 1) then some 0 else (some 1)) fun (zx3 : Int32) => pd_gd (pd_bo zx3) (some zx3)) pd_FU 0 else (pd_bd (if (I a0 0) ≤ (I a 0) then some 0 else (some 1)) fun (zx4 : Int32) => pd_gd (pd_bo zx4) (some zx4))
set_option maxRecDepth 100000 in
set_option maxHeartbeats 4000000 in
theorem em_X9_isAheadOf {l : Launch} {D : va_G} {tc : Nat → ClassId} (hst : l.stackTraces = false) {I : pd_I} {J : pd_J} {Z : pd_R} {n : Nat} {a : Nat} {a0 : Nat} (hn : 133 ≤ n) (ha : pd_isWay a = true) (ha0 : pd_isWay a0 = true) {out : Int32} (hF : fn_X9_isAheadOf I a a0 = some out) :
    pd_M l D tc yX9_isAheadOf (.code yX9_isAheadOf cX9_isAheadOf 3 (Option.some Jvm.ClassFile.FieldType.boolean)) rm_X9_isAheadOf [.ref a, .ref a0] I J (pd_RF Z) n (.ok (some (.int out))) I J (pd_RF Z) n := by
  refine pd_open (own := "PathDecoder$Way") (ls0 := [some (.ref a), some (.ref a0), none]) (by decide) rfl (Nat.le_of_ble_eq_true rfl) rfl rfl hst (fun cx hl hD htc C hE htab hnm => ?_)
  subst hl hD htc
  unfold fn_X9_isAheadOf at hF
  refine pd_aload_n C dX9_isAheadOf_0 rfl rfl ?_
  refine gi_9_0 C wd_1_116 (pd_way_lt ha hn) (pd_way_sh ha) dX9_isAheadOf_1 ?_
  refine pd_aload_n C dX9_isAheadOf_4 rfl rfl ?_
  refine gi_9_0 C wd_1_116 (pd_way_lt ha0 hn) (pd_way_sh ha0) dX9_isAheadOf_5 ?_
  refine pd_icmp_eq (tgt := 28) C dX9_isAheadOf_8 (by decide) (fun zc6 => ?_) (fun zc6 => ?_)
  · have hF := pd_t zc6 hF
    refine pd_iconst (v := 0) C dX9_isAheadOf_28 (by decide) ?_
    refine pd_istore_n (ls' := [some (.ref a), some (.ref a0), some (.int 0)]) C dX9_isAheadOf_29 rfl (Nat.le_of_ble_eq_true rfl) rfl rfl ?_
    refine el_X9_isAheadOf_30 C hn ha ha0 hE (fun _ hF => ?_) pd_FU _ hF
    refine pd_aload_n C dX9_isAheadOf_80 rfl rfl ?_
    refine gi_9_1 C wd_1_118 (pd_way_lt ha hn) (pd_way_sh ha) dX9_isAheadOf_81 ?_
    refine pd_aload_n C dX9_isAheadOf_84 rfl rfl ?_
    refine gi_9_1 C wd_1_118 (pd_way_lt ha0 hn) (pd_way_sh ha0) dX9_isAheadOf_85 ?_
    obtain ⟨zx3, hS, hF⟩ := pd_bd_some hF
    have hJ96 : pd_V cx 0 0 96 [none, none, none] [.int zx3] I J (pd_RF Z) n := by
      obtain ⟨zg6, hF⟩ := pd_gd_some hF
      cases hF
      exact pd_iret C hE rfl rfl (pd_bo_nar zg6) ⟨by decide, by decide⟩ dX9_isAheadOf_96
    replace hF := hS
    clear hS
    refine pd_icmp_ge (tgt := 95) C dX9_isAheadOf_88 (by decide) (fun zc4 => ?_) (fun zc4 => ?_)
    · have hF := pd_t zc4 hF
      refine pd_iconst (v := 0) C dX9_isAheadOf_95 (by decide) ?_
      refine pd_wk (ls' := [none, none, none]) True.intro ?_
      have hF := hF.symm
      cases hF
      exact hJ96
    · have hF := pd_f zc4 hF
      refine pd_iconst (v := 1) C dX9_isAheadOf_91 (by decide) ?_
      refine pd_goto (tgt := 96) C dX9_isAheadOf_92 (by decide) ?_
      refine pd_wk (ls' := [none, none, none]) True.intro ?_
      have hF := hF.symm
      cases hF
      exact hJ96
  · have hF := pd_f zc6 hF
    refine pd_aload_n C dX9_isAheadOf_11 rfl rfl ?_
    refine gi_9_0 C wd_1_116 (pd_way_lt ha hn) (pd_way_sh ha) dX9_isAheadOf_12 ?_
    refine pd_aload_n C dX9_isAheadOf_15 rfl rfl ?_
    refine gi_9_0 C wd_1_116 (pd_way_lt ha0 hn) (pd_way_sh ha0) dX9_isAheadOf_16 ?_
    obtain ⟨zx4, hS, hF⟩ := pd_bd_some hF
    have hJ27 : pd_V cx 0 0 27 [none, none, none] [.int zx4] I J (pd_RF Z) n := by
      obtain ⟨zg7, hF⟩ := pd_gd_some hF
      cases hF
      exact pd_iret C hE rfl rfl (pd_bo_nar zg7) ⟨by decide, by decide⟩ dX9_isAheadOf_27
    replace hF := hS
    clear hS
    refine pd_icmp_ge (tgt := 26) C dX9_isAheadOf_19 (by decide) (fun zc5 => ?_) (fun zc5 => ?_)
    · have hF := pd_t zc5 hF
      refine pd_iconst (v := 0) C dX9_isAheadOf_26 (by decide) ?_
      refine pd_wk (ls' := [none, none, none]) True.intro ?_
      have hF := hF.symm
      cases hF
      exact hJ27
    · have hF := pd_f zc5 hF
      refine pd_iconst (v := 1) C dX9_isAheadOf_22 (by decide) ?_
      refine pd_goto (tgt := 27) C dX9_isAheadOf_23 (by decide) ?_
      refine pd_wk (ls' := [none, none, none]) True.intro ?_
      have hF := hF.symm
      cases hF
      exact hJ27

def fn_X10_wouldKeepOffered (I : pd_I) (Z : pd_R) (n : Nat) : Option Int32 := pd_bd (if (I 16 1) < (I 16 2) then some 1 else (pd_jn (fun (_ : Unit) => some 0) fun zj1 => if (I 16 1) ≤ 0 then zj1 () else (pd_gd (pd_in (I 16 1) 9) (pd_bd (Z 17 (I 16 1).toNatClampNeg) fun zq1 => pd_gd (pd_isWay zq1) (pd_gd (pd_in ((I 16 1) - 1) 9) (pd_bd (Z 17 ((I 16 1) - 1).toNatClampNeg) fun zq2 => pd_gd (pd_isWay zq2) (pd_bd (fn_X9_isAheadOf I zq1 zq2) fun zr1 => if zr1 = 0 then zj1 () else (some 1)))))))) fun (zx1 : Int32) => pd_gd (pd_bo zx1) (some zx1)
set_option maxRecDepth 100000 in
set_option maxHeartbeats 4000000 in
theorem em_X10_wouldKeepOffered {l : Launch} {D : va_G} {tc : Nat → ClassId} (hst : l.stackTraces = false) {I : pd_I} {J : pd_J} {Z : pd_R} {n : Nat} (hn : 133 ≤ n)  {out : Int32} (hF : fn_X10_wouldKeepOffered I Z n = some out) :
    pd_M l D tc yX10_wouldKeepOffered (.code yX10_wouldKeepOffered cX10_wouldKeepOffered 1 (Option.some Jvm.ClassFile.FieldType.boolean)) rm_X10_wouldKeepOffered [.ref 16] I J (pd_RF Z) n (.ok (some (.int out))) I J (pd_RF Z) n := by
  refine pd_open (own := "PathDecoder$Ways") (ls0 := [some (.ref 16)]) (by decide) rfl (Nat.le_of_ble_eq_true rfl) rfl rfl hst (fun cx hl hD htc C hE htab hnm => ?_)
  subst hl hD htc
  unfold fn_X10_wouldKeepOffered at hF
  refine pd_aload_n C dX10_wouldKeepOffered_0 rfl rfl ?_
  refine gi_10_1 C wd_1_136 (pd_lt (by decide) hn) sh_16 dX10_wouldKeepOffered_1 ?_
  refine pd_aload_n C dX10_wouldKeepOffered_4 rfl rfl ?_
  refine gi_10_2 C wd_1_137 (pd_lt (by decide) hn) sh_16 dX10_wouldKeepOffered_5 ?_
  obtain ⟨zx1, hS, hF⟩ := pd_bd_some hF
  have hJ49 : pd_V cx 0 0 49 [none] [.int zx1] I J (pd_RF Z) n := by
    obtain ⟨zg1, hF⟩ := pd_gd_some hF
    cases hF
    exact pd_iret C hE rfl rfl (pd_bo_nar zg1) ⟨by decide, by decide⟩ dX10_wouldKeepOffered_49
  replace hF := hS
  clear hS
  refine pd_icmp_lt (tgt := 44) C dX10_wouldKeepOffered_8 (by decide) (fun zc3 => ?_) (fun zc3 => ?_)
  · have hF := pd_t zc3 hF
    refine pd_iconst (v := 1) C dX10_wouldKeepOffered_44 (by decide) ?_
    refine pd_goto (tgt := 49) C dX10_wouldKeepOffered_45 (by decide) ?_
    refine pd_wk (ls' := [none]) True.intro ?_
    have hF := hF.symm
    cases hF
    exact hJ49
  · have hF := pd_f zc3 hF
    refine pd_aload_n C dX10_wouldKeepOffered_11 rfl rfl ?_
    refine gi_10_1 C wd_1_136 (pd_lt (by decide) hn) sh_16 dX10_wouldKeepOffered_12 ?_
    refine pd_jn_use hF (fun j => ∀ (_u : Unit), j _u = some zx1 → pd_V cx 0 0 48 [none] [] I J (pd_RF Z) n) (fun _u hF => ?_) (fun zj1 hzj1 hF => ?_)
    · refine pd_iconst (v := 0) C dX10_wouldKeepOffered_48 (by decide) ?_
      have hF := hF.symm
      cases hF
      exact hJ49
    · refine pd_if_le (tgt := 48) C dX10_wouldKeepOffered_15 (by decide) (fun zc2 => ?_) (fun zc2 => ?_)
      · have hF := pd_t zc2 hF
        refine pd_wk (ls' := [none]) True.intro ?_
        exact hzj1 _ hF
      · have hF := pd_f zc2 hF
        refine pd_aload_n C dX10_wouldKeepOffered_18 rfl rfl ?_
        refine gr_10_0 C wd_1_135 (pd_lt (by decide) hn) sh_16 (rf_16_0 _) dX10_wouldKeepOffered_19 ?_
        refine pd_aload_n C dX10_wouldKeepOffered_22 rfl rfl ?_
        refine gi_10_1 C wd_1_136 (pd_lt (by decide) hn) sh_16 dX10_wouldKeepOffered_23 ?_
        obtain ⟨zg2, hF⟩ := pd_gd_some hF
        obtain ⟨zq1, hzq1, hF⟩ := pd_bd_some hF
        obtain ⟨zg3, hF⟩ := pd_gd_some hF
        refine pd_aald C (pd_lt (by decide) hn) sh_17 (by decide) zg2 ((pd_RF_dyn rfl).trans hzq1) dX10_wouldKeepOffered_26 ?_
        refine pd_aload_n C dX10_wouldKeepOffered_27 rfl rfl ?_
        refine gr_10_0 C wd_1_135 (pd_lt (by decide) hn) sh_16 (rf_16_0 _) dX10_wouldKeepOffered_28 ?_
        refine pd_aload_n C dX10_wouldKeepOffered_31 rfl rfl ?_
        refine gi_10_1 C wd_1_136 (pd_lt (by decide) hn) sh_16 dX10_wouldKeepOffered_32 ?_
        refine pd_iconst (v := 1) C dX10_wouldKeepOffered_35 (by decide) ?_
        refine pd_isub C dX10_wouldKeepOffered_36 ?_
        obtain ⟨zg4, hF⟩ := pd_gd_some hF
        obtain ⟨zq2, hzq2, hF⟩ := pd_bd_some hF
        obtain ⟨zg5, hF⟩ := pd_gd_some hF
        refine pd_aald C (pd_lt (by decide) hn) sh_17 (by decide) zg4 ((pd_RF_dyn rfl).trans hzq2) dX10_wouldKeepOffered_37 ?_
        obtain ⟨zr1, zh1, hF⟩ := pd_bd_some hF
        refine pd_callV C [.ref zq2] [] (em_X9_isAheadOf (pd_C_st C) hn zg3 zg5 zh1) mw_X9_isAheadOf wd_4_115 rfl (by decide) (pd_way_lt zg3 hn) (pd_way_sh zg3) ⟨by decide, by decide, by decide, by decide⟩ rfl (Nat.le_of_ble_eq_true rfl) pd_oldL_same (fun _ _ => pd_old_same _) dX10_wouldKeepOffered_38 (stk' := [.int zr1]) rfl ?_
        refine pd_if_eq (tgt := 48) C dX10_wouldKeepOffered_41 (by decide) (fun zc1 => ?_) (fun zc1 => ?_)
        · have hF := pd_t zc1 hF
          refine pd_wk (ls' := [none]) True.intro ?_
          exact hzj1 _ hF
        · have hF := pd_f zc1 hF
          refine pd_iconst (v := 1) C dX10_wouldKeepOffered_44 (by decide) ?_
          refine pd_goto (tgt := 49) C dX10_wouldKeepOffered_45 (by decide) ?_
          refine pd_wk (ls' := [none]) True.intro ?_
          have hF := hF.symm
          cases hF
          exact hJ49

