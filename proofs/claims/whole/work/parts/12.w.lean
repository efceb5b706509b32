def fl_X2_ringBeginning_16 {O : Type} (a0 : Nat) (p1 : Int32) (I : pd_I) (kont : Int32 → Option O) : Nat → Int32 → Int32 → Option O
  | 0, _, _ => none
  | fu + 1, zx2, zx3 => if p1 ≤ zx3 then kont zx2 else (pd_gd (pd_in zx3 200) (pd_bd (fn_X0_stateAfter I a0 zx2 (I 4 zx3.toNatClampNeg)) fun zr2 => pd_let (zx3 + 1) fun zv1 => fl_X2_ringBeginning_16 a0 p1 I kont fu zr2 zv1))
set_option maxRecDepth 100000 in
set_option maxHeartbeats 4000000 in
theorem el_X2_ringBeginning_16 {cx : pd_X} (C : pd_C cx "PathDecoder$Message" cX2_ringBeginning rm_X2_ringBeginning) {a0 : Nat} {p1 : Int32} {zx1 : Int32} {I : pd_I} {J : pd_J} {Z : pd_R} {n : Nat} (hn : 133 ≤ n) (ha0 : pd_isCode a0 n = true) {O : Type} {kont : Int32 → Option O} {out : O} (K : ∀ (zx4 : Int32), kont zx4 = some out → pd_V cx 0 0 43 [some (.ref 3), some (.ref a0), some (.int p1), some (.int zx1), some (.int zx4), none] [] I J (pd_RF Z) n) :
    ∀ (fu : Nat) (zx2 : Int32) (zx3 : Int32), fl_X2_ringBeginning_16 a0 p1 I kont fu zx2 zx3 = some out → pd_V cx 0 0 16 [some (.ref 3), some (.ref a0), some (.int p1), some (.int zx1), some (.int zx2), some (.int zx3)] [] I J (pd_RF Z) n := by
  intro fu
  induction fu with
  | zero => intro zx2 zx3 hF; rw [fl_X2_ringBeginning_16] at hF; cases hF
  | succ fu ih =>
    intro zx2 zx3 hF
    rw [fl_X2_ringBeginning_16] at hF
    refine pd_iload C dX2_ringBeginning_16 rfl ?_
    refine pd_iload_n C dX2_ringBeginning_18 rfl rfl ?_
    refine pd_icmp_ge (tgt := 43) C dX2_ringBeginning_19 (by decide) (fun zc1 => ?_) (fun zc1 => ?_)
    · have hF := pd_t zc1 hF
      refine pd_wk (ls' := [some (.ref 3), some (.ref a0), some (.int p1), some (.int zx1), some (.int zx2), none]) (And.intro rfl (And.intro rfl (And.intro rfl (And.intro rfl (And.intro rfl True.intro))))) ?_
      exact K _ hF
    · have hF := pd_f zc1 hF
      refine pd_aload_n C dX2_ringBeginning_22 rfl rfl ?_
      refine pd_iload C dX2_ringBeginning_23 rfl ?_
      refine pd_aload_n C dX2_ringBeginning_25 rfl rfl ?_
      refine gr_2_0 C wd_1_40 (pd_lt (by decide) hn) sh_3 (rf_3_0 _) dX2_ringBeginning_26 ?_
      refine pd_iload C dX2_ringBeginning_29 rfl ?_
      obtain ⟨zg1, hF⟩ := pd_gd_some hF
      refine pd_iald C (pd_lt (by decide) hn) sh_4 zg1 dX2_ringBeginning_31 ?_
      obtain ⟨zr2, zh2, hF⟩ := pd_bd_some hF
      refine pd_callV C [.int zx2, .int (I 4 zx3.toNatClampNeg)] [] (em_X0_stateAfter (pd_C_st C) hn ha0 zh2) mw_X0_stateAfter wd_3_175 rfl (by decide) (pd_code_lt ha0) (pd_code_sh ha0) ⟨by decide, by decide, by decide, by decide⟩ rfl (Nat.le_of_ble_eq_true rfl) pd_oldL_same (fun _ _ => pd_old_same _) dX2_ringBeginning_32 (stk' := [.int zr2]) rfl ?_
      refine pd_istore (ls' := [some (.ref 3), some (.ref a0), some (.int p1), some (.int zx1), some (.int zr2), some (.int zx3)]) C dX2_ringBeginning_35 (Nat.le_of_ble_eq_true rfl) rfl rfl ?_
      refine pd_iincG (zz := 1) C dX2_ringBeginning_37 rfl (by decide) rfl (fun zv1 hzv1 => ?_)
      have hF := pd_let_at hF hzv1
      refine pd_lsE (ls' := [some (.ref 3), some (.ref a0), some (.int p1), some (.int zx1), some (.int zr2), some (.int zv1)]) rfl ?_
      refine pd_goto (tgt := 16) C dX2_ringBeginning_40 (by decide) ?_
      exact ih _ _ hF
def fl_X2_ringBeginning_2 (a0 : Nat) (p1 : Int32) (I : pd_I) (kont : Unit → Option Int32) : Nat → Int32 → Option Int32
  | 0, _ => none
  | fu + 1, zx1 => pd_bd (fn_X0_states I a0) fun zr1 => if zr1 ≤ zx1 then kont () else (fl_X2_ringBeginning_16 a0 p1 I (fun zx4 => if zx4 = zx1 then some zx1 else (pd_let (zx1 + 1) fun zv2 => fl_X2_ringBeginning_2 a0 p1 I kont fu zv2)) pd_FU zx1 0)
set_option maxRecDepth 100000 in
set_option maxHeartbeats 4000000 in
theorem el_X2_ringBeginning_2 {cx : pd_X} (C : pd_C cx "PathDecoder$Message" cX2_ringBeginning rm_X2_ringBeginning) {a0 : Nat} {p1 : Int32} {I : pd_I} {J : pd_J} {Z : pd_R} {n : Nat} (hn : 133 ≤ n) (ha0 : pd_isCode a0 n = true) {kont : Unit → Option Int32} {out : Int32} (hE : pd_E cx (Option.some Jvm.ClassFile.FieldType.int) rm_X2_ringBeginning (.ok (some (.int out))) I J (pd_RF Z) n) (K : ∀ (_u : Unit), kont _u = some out → pd_V cx 0 0 57 [none, none, none, none, none, none] [] I J (pd_RF Z) n) :
    ∀ (fu : Nat) (zx1 : Int32), fl_X2_ringBeginning_2 a0 p1 I kont fu zx1 = some out → pd_V cx 0 0 2 [some (.ref 3), some (.ref a0), some (.int p1), some (.int zx1), none, none] [] I J (pd_RF Z) n := by
  intro fu
  induction fu with
  | zero => intro zx1 hF; rw [fl_X2_ringBeginning_2] at hF; cases hF
  | succ fu ih =>
    intro zx1 hF
    rw [fl_X2_ringBeginning_2] at hF
    refine pd_iload_n C dX2_ringBeginning_2 rfl rfl ?_
    refine pd_aload_n C dX2_ringBeginning_3 rfl rfl ?_
    obtain ⟨zr1, zh1, hF⟩ := pd_bd_some hF
    refine pd_callV C [] [.int zx1] (em_X0_states (pd_C_st C) hn ha0 zh1) mw_X0_states wd_3_171 rfl (by decide) (pd_code_lt ha0) (pd_code_sh ha0) ⟨by decide, by decide, by decide, by decide⟩ rfl (Nat.le_of_ble_eq_true rfl) pd_oldL_same (fun _ _ => pd_old_same _) dX2_ringBeginning_4 (stk' := [.int zr1, .int zx1]) rfl ?_
    refine pd_icmp_ge (tgt := 57) C dX2_ringBeginning_7 (by decide) (fun zc3 => ?_) (fun zc3 => ?_)
    · have hF := pd_t zc3 hF
      refine pd_wk (ls' := [none, none, none, none, none, none]) True.intro ?_
      exact K _ hF
    · have hF := pd_f zc3 hF
      refine pd_iload_n C dX2_ringBeginning_10 rfl rfl ?_
      refine pd_istore (ls' := [some (.ref 3), some (.ref a0), some (.int p1), some (.int zx1), some (.int zx1), none]) C dX2_ringBeginning_11 (Nat.le_of_ble_eq_true rfl) rfl rfl ?_
      refine pd_iconst (v := 0) C dX2_ringBeginning_13 (by decide) ?_
      refine pd_istore (ls' := [some (.ref 3), some (.ref a0), some (.int p1), some (.int zx1), some (.int zx1), some (.int 0)]) C dX2_ringBeginning_14 (Nat.le_of_ble_eq_true rfl) rfl rfl ?_
      refine el_X2_ringBeginning_16 C hn ha0 (fun zx4 hF => ?_) pd_FU _ _ hF
      refine pd_iload C dX2_ringBeginning_43 rfl ?_
      refine pd_iload_n C dX2_ringBeginning_45 rfl rfl ?_
      refine pd_icmp_ne (tgt := 51) C dX2_ringBeginning_46 (by decide) (fun zc2 => ?_) (fun zc2 => ?_)
      · have hF := pd_f zc2 hF
        refine pd_iincG (zz := 1) C dX2_ringBeginning_51 rfl (by decide) rfl (fun zv2 hzv2 => ?_)
        have hF := pd_let_at hF hzv2
        refine pd_lsE (ls' := [some (.ref 3), some (.ref a0), some (.int p1), some (.int zv2), some (.int zx4), none]) rfl ?_
        refine pd_goto (tgt := 2) C dX2_ringBeginning_54 (by decide) ?_
        refine pd_wk (ls' := [some (.ref 3), some (.ref a0), some (.int p1), some (.int zv2), none, none]) (And.intro rfl (And.intro rfl (And.intro rfl (And.intro rfl True.intro)))) ?_
        exact ih _ hF
      · have hF := pd_t zc2 hF
        refine pd_iload_n C dX2_ringBeginning_49 rfl rfl ?_
        cases hF
        exact pd_iret C hE rfl rfl rfl ⟨by decide, by decide⟩ dX2_ringBeginning_50
def fn_X2_ringBeginning (I : pd_I) (a0 : Nat) (p1 : Int32) : Option Int32 := fl_X2_ringBeginning_2 a0 p1 I (fun _ => some (-1)) pd_FU 0
set_option maxRecDepth 100000 in
set_option maxHeartbeats 4000000 in
theorem em_X2_ringBeginning {l : Launch} {D : va_G} {tc : Nat → ClassId} (hst : l.stackTraces = false) {I : pd_I} {J : pd_J} {Z : pd_R} {n : Nat} {a0 : Nat} {p1 : Int32} (hn : 133 ≤ n) (ha0 : pd_isCode a0 n = true) {out : Int32} (hF : fn_X2_ringBeginning I a0 p1 = some out) :
    pd_M l D tc yX2_ringBeginning (.code yX2_ringBeginning cX2_ringBeginning 6 (Option.some Jvm.ClassFile.FieldType.int)) rm_X2_ringBeginning [.ref 3, .ref a0, .int p1] I J (pd_RF Z) n (.ok (some (.int out))) I J (pd_RF Z) n := by
  refine pd_open (own := "PathDecoder$Message") (ls0 := [some (.ref 3), some (.ref a0), some (.int p1), none, none, none]) (by decide) rfl (Nat.le_of_ble_eq_true rfl) rfl rfl hst (fun cx hl hD htc C hE htab hnm => ?_)
  subst hl hD htc
  unfold fn_X2_ringBeginning at hF
  refine pd_iconst (v := 0) C dX2_ringBeginning_0 (by decide) ?_
  refine pd_istore_n (ls' := [some (.ref 3), some (.ref a0), some (.int p1), some (.int 0), none, none]) C dX2_ringBeginning_1 rfl (Nat.le_of_ble_eq_true rfl) rfl rfl ?_
  refine el_X2_ringBeginning_2 C hn ha0 hE (fun _ hF => ?_) pd_FU _ hF
  refine pd_iconst (v := (-1)) C dX2_ringBeginning_57 (by decide) ?_
  cases hF
  exact pd_iret C hE rfl rfl rfl ⟨by decide, by decide⟩ dX2_ringBeginning_58

def fl_X0_ordersAll_2 (a : Nat) (p0 : Int32) (I : pd_I) (kont : Unit → Option Int32) : Nat → Int32 → Option Int32
  | 0, _ => none
  | fu + 1, zx1 => if p0 < zx1 then kont () else (pd_gd (decide (¬ zx1 = 0)) (pd_bd (if (p0 % zx1) = 0 then pd_gd (decide (¬ zx1 = 0)) (if ((I a 6) % zx1) = 0 then some true else (some false)) else (some false)) fun zc1 => if zc1 = true then some 0 else (pd_let (zx1 + 1) fun zv1 => fl_X0_ordersAll_2 a p0 I kont fu zv1)))
set_option maxRecDepth 100000 in
set_option maxHeartbeats 4000000 in
theorem el_X0_ordersAll_2 {cx : pd_X} (C : pd_C cx "PathDecoder$Code" cX0_ordersAll rm_X0_ordersAll) {a : Nat} {p0 : Int32} {I : pd_I} {J : pd_J} {Z : pd_R} {n : Nat} (hn : 133 ≤ n) (ha : pd_isCode a n = true) {kont : Unit → Option Int32} {out : Int32} (hE : pd_E cx (Option.some Jvm.ClassFile.FieldType.boolean) rm_X0_ordersAll (.ok (some (.int out))) I J (pd_RF Z) n) (K : ∀ (_u : Unit), kont _u = some out → pd_V cx 0 0 30 [none, none, none] [] I J (pd_RF Z) n) :
    ∀ (fu : Nat) (zx1 : Int32), fl_X0_ordersAll_2 a p0 I kont fu zx1 = some out → pd_V cx 0 0 2 [some (.ref a), some (.int p0), some (.int zx1)] [] I J (pd_RF Z) n := by
  intro fu
  induction fu with
  | zero => intro zx1 hF; rw [fl_X0_ordersAll_2] at hF; cases hF
  | succ fu ih =>
    intro zx1 hF
    rw [fl_X0_ordersAll_2] at hF
    refine pd_iload_n C dX0_ordersAll_2 rfl rfl ?_
    refine pd_iload_n C dX0_ordersAll_3 rfl rfl ?_
    refine pd_icmp_gt (tgt := 30) C dX0_ordersAll_4 (by decide) (fun zc4 => ?_) (fun zc4 => ?_)
    · have hF := pd_t zc4 hF
      refine pd_wk (ls' := [none, none, none]) True.intro ?_
      exact K _ hF
    · have hF := pd_f zc4 hF
      refine pd_iload_n C dX0_ordersAll_7 rfl rfl ?_
      refine pd_iload_n C dX0_ordersAll_8 rfl rfl ?_
      obtain ⟨zg1, hF⟩ := pd_gd_some hF
      refine pd_irem C dX0_ordersAll_9 (of_decide_eq_true zg1) ?_
      obtain ⟨zc1, hS, hF⟩ := pd_bd_some hF
      have hTzc1 : zc1 = true → pd_V cx 0 0 22 [some (.ref a), some (.int p0), some (.int zx1)] [] I J (pd_RF Z) n := by
        intro hc
        have hF := pd_t hc hF
        refine pd_iconst (v := 0) C dX0_ordersAll_22 (by decide) ?_
        cases hF
        exact pd_iret C hE rfl rfl (pd_bo_nar (by decide)) ⟨by decide, by decide⟩ dX0_ordersAll_23
      have hEzc1 : zc1 = false → pd_V cx 0 0 24 [some (.ref a), some (.int p0), some (.int zx1)] [] I J (pd_RF Z) n := by
        intro hc
        have hF := pd_bf hc hF
        refine pd_iincG (zz := 1) C dX0_ordersAll_24 rfl (by decide) rfl (fun zv1 hzv1 => ?_)
        have hF := pd_let_at hF hzv1
        refine pd_lsE (ls' := [some (.ref a), some (.int p0), some (.int zv1)]) rfl ?_
        refine pd_goto (tgt := 2) C dX0_ordersAll_27 (by decide) ?_
        exact ih _ hF
      replace hF := hS
      clear hS
      refine pd_if_ne (tgt := 24) C dX0_ordersAll_10 (by decide) (fun zc3 => ?_) (fun zc3 => ?_)
      · have hF := pd_f zc3 hF
        cases hF
        exact hEzc1 rfl
      · have hF := pd_t zc3 hF
        refine pd_aload_n C dX0_ordersAll_13 rfl rfl ?_
        refine gi_0_6 C wd_3_73 (pd_code_lt ha) (pd_code_sh ha) dX0_ordersAll_14 ?_
        refine pd_iload_n C dX0_ordersAll_17 rfl rfl ?_
        obtain ⟨zg2, hF⟩ := pd_gd_some hF
        refine pd_irem C dX0_ordersAll_18 (of_decide_eq_true zg2) ?_
        refine pd_if_ne (tgt := 24) C dX0_ordersAll_19 (by decide) (fun zc2 => ?_) (fun zc2 => ?_)
        · have hF := pd_f zc2 hF
          cases hF
          exact hEzc1 rfl
        · have hF := pd_t zc2 hF
          cases hF
          exact hTzc1 rfl
def fn_X0_ordersAll (I : pd_I) (a : Nat) (p0 : Int32) : Option Int32 := fl_X0_ordersAll_2 a p0 I (fun _ => some 1) pd_FU 2
set_option maxRecDepth 100000 in
set_option maxHeartbeats 4000000 in
theorem em_X0_ordersAll {l : Launch} {D : va_G} {tc : Nat → ClassId} (hst : l.stackTraces = false) {I : pd_I} {J : pd_J} {Z : pd_R} {n : Nat} {a : Nat} {p0 : Int32} (hn : 133 ≤ n) (ha : pd_isCode a n = true) {out : Int32} (hF : fn_X0_ordersAll I a p0 = some out) :
    pd_M l D tc yX0_ordersAll (.code yX0_ordersAll cX0_ordersAll 3 (Option.some Jvm.ClassFile.FieldType.boolean)) rm_X0_ordersAll [.ref a, .int p0] I J (pd_RF Z) n (.ok (some (.int out))) I J (pd_RF Z) n := by
  refine pd_open (own := "PathDecoder$Code") (ls0 := [some (.ref a), some (.int p0), none]) (by decide) rfl (Nat.le_of_ble_eq_true rfl) rfl rfl hst (fun cx hl hD htc C hE htab hnm => ?_)
  subst hl hD htc
  unfold fn_X0_ordersAll at hF
  refine pd_iconst (v := 2) C dX0_ordersAll_0 (by decide) ?_
  refine pd_istore_n (ls' := [some (.ref a), some (.int p0), some (.int 2)]) C dX0_ordersAll_1 rfl (Nat.le_of_ble_eq_true rfl) rfl rfl ?_
  refine el_X0_ordersAll_2 C hn ha hE (fun _ hF => ?_) pd_FU _ hF
  refine pd_iconst (v := 1) C dX0_ordersAll_30 (by decide) ?_
  cases hF
  exact pd_iret C hE rfl rfl (pd_bo_nar (by decide)) ⟨by decide, by decide⟩ dX0_ordersAll_31

def fn_X0_steps (I : pd_I) (a : Nat) (p0 : Int32) : Option Int32 := pd_bd (if (I a 0) = 3 then some (p0 + (I a 1)) else (some p0)) fun (zx1 : Int32) => some zx1
set_option maxRecDepth 100000 in
set_option maxHeartbeats 4000000 in
theorem em_X0_steps {l : Launch} {D : va_G} {tc : Nat → ClassId} (hst : l.stackTraces = false) {I : pd_I} {J : pd_J} {Z : pd_R} {n : Nat} {a : Nat} {p0 : Int32} (hn : 133 ≤ n) (ha : pd_isCode a n = true) {out : Int32} (hF : fn_X0_steps I a p0 = some out) :
    pd_M l D tc yX0_steps (.code yX0_steps cX0_steps 2 (Option.some Jvm.ClassFile.FieldType.int)) rm_X0_steps [.ref a, .int p0] I J (pd_RF Z) n (.ok (some (.int out))) I J (pd_RF Z) n := by
  refine pd_open (own := "PathDecoder$Code") (ls0 := [some (.ref a), some (.int p0)]) (by decide) rfl (Nat.le_of_ble_eq_true rfl) rfl rfl hst (fun cx hl hD htc C hE htab hnm => ?_)
  subst hl hD htc
  unfold fn_X0_steps at hF
  refine pd_aload_n C dX0_steps_0 rfl rfl ?_
  refine gi_0_0 C wd_3_56 (pd_code_lt ha) (pd_code_sh ha) dX0_steps_1 ?_
  refine pd_iconst (v := 3) C dX0_steps_4 (by decide) ?_
  obtain ⟨zx1, hS, hF⟩ := pd_bd_some hF
  have hJ18 : pd_V cx 0 0 18 [none, none] [.int zx1] I J (pd_RF Z) n := by
    cases hF
    exact pd_iret C hE rfl rfl rfl ⟨by decide, by decide⟩ dX0_steps_18
  replace hF := hS
  clear hS
  refine pd_icmp_ne (tgt := 17) C dX0_steps_5 (by decide) (fun zc1 => ?_) (fun zc1 => ?_)
  · have hF := pd_f zc1 hF
    refine pd_iload_n C dX0_steps_17 rfl rfl ?_
    refine pd_wk (ls' := [none, none]) True.intro ?_
    have hF := hF.symm
    cases hF
    exact hJ18
  · have hF := pd_t zc1 hF
    refine pd_iload_n C dX0_steps_8 rfl rfl ?_
    refine pd_aload_n C dX0_steps_9 rfl rfl ?_
    refine gi_0_1 C wd_3_61 (pd_code_lt ha) (pd_code_sh ha) dX0_steps_10 ?_
    refine pd_iadd C dX0_steps_13 ?_
    refine pd_goto (tgt := 18) C dX0_steps_14 (by decide) ?_
    refine pd_wk (ls' := [none, none]) True.intro ?_
    have hF := hF.symm
    cases hF
    exact hJ18

def fl_X0_outsOf_39 {O : Type} (a : Nat) (zv1 : Int32) (I : pd_I) (kont : Int32 → Option O) : Nat → Int32 → Int32 → Option O
  | 0, _, _ => none
  | fu + 1, zx2, zx3 => if (I a 2) ≤ zx3 then kont zx2 else (pd_gd (pd_in zx3 4) (pd_bd (fn_X11_parity (zv1 &&& (I (a + 1) zx3.toNatClampNeg))) fun zr3 => pd_let (zx2 ||| (zr3 <<< (zx3 &&& 31))) fun zv2 => pd_let (zx3 + 1) fun zv3 => fl_X0_outsOf_39 a zv1 I kont fu zv2 zv3))
set_option maxRecDepth 100000 in
set_option maxHeartbeats 4000000 in
theorem el_X0_outsOf_39 {cx : pd_X} (C : pd_C cx "PathDecoder$Code" cX0_outsOf rm_X0_outsOf) {a : Nat} {zv1 : Int32} {I : pd_I} {J : pd_J} {Z : pd_R} {n : Nat} (hn : 133 ≤ n) (ha : pd_isCode a n = true) {O : Type} {kont : Int32 → Option O} {out : O} (K : ∀ (zx4 : Int32), kont zx4 = some out → pd_V cx 0 0 74 [none, none, none, none, some (.int zx4), none] [] I J (pd_RF Z) n) :
    ∀ (fu : Nat) (zx2 : Int32) (zx3 : Int32), fl_X0_outsOf_39 a zv1 I kont fu zx2 zx3 = some out → pd_V cx 0 0 39 [some (.ref a), none, none, some (.int zv1), some (.int zx2), some (.int zx3)] [] I J (pd_RF Z) n := by
  intro fu
  induction fu with
  | zero => intro zx2 zx3 hF; rw [fl_X0_outsOf_39] at hF; cases hF
  | succ fu ih =>
    intro zx2 zx3 hF
    rw [fl_X0_outsOf_39] at hF
    refine pd_iload C dX0_outsOf_39 rfl ?_
    refine pd_aload_n C dX0_outsOf_41 rfl rfl ?_
    refine gi_0_2 C wd_3_63 (pd_code_lt ha) (pd_code_sh ha) dX0_outsOf_42 ?_
    refine pd_icmp_ge (tgt := 74) C dX0_outsOf_45 (by decide) (fun zc1 => ?_) (fun zc1 => ?_)
    · have hF := pd_t zc1 hF
      refine pd_wk (ls' := [none, none, none, none, some (.int zx2), none]) (And.intro rfl True.intro) ?_
      exact K _ hF
    · have hF := pd_f zc1 hF
      refine pd_iload C dX0_outsOf_48 rfl ?_
      refine pd_iload_n C dX0_outsOf_50 rfl rfl ?_
      refine pd_aload_n C dX0_outsOf_51 rfl rfl ?_
      refine gr_0_3 C wd_3_67 (pd_code_lt ha) (pd_code_sh ha) (pd_code_rf3 ha) dX0_outsOf_52 ?_
      refine pd_iload C dX0_outsOf_55 rfl ?_
      obtain ⟨zg1, hF⟩ := pd_gd_some hF
      refine pd_iald C (pd_code_lt1 ha) (pd_code_sh1 ha) zg1 dX0_outsOf_57 ?_
      refine pd_iand C dX0_outsOf_58 ?_
      obtain ⟨zr3, zh3, hF⟩ := pd_bd_some hF
      refine pd_callM C [.int (zv1 &&& (I (a + 1) zx3.toNatClampNeg))] [.int zx2] (em_X11_parity (pd_C_st C) hn  zh3) mw_X11_parity (List.mem_of_getElem? (i := 5) rfl) ⟨by decide, by decide, by decide, by decide⟩ rfl (Nat.le_of_ble_eq_true rfl) pd_oldL_same (fun _ _ => pd_old_same _) dX0_outsOf_59 (stk' := [.int zr3, .int zx2]) rfl ?_
      refine pd_iload C dX0_outsOf_62 rfl ?_
      refine pd_ishl C dX0_outsOf_64 ?_
      refine pd_ior C dX0_outsOf_65 ?_
      refine pd_topi (fun zv2 hzv2 => ?_)
      have hF := pd_let_at hF hzv2
      refine pd_istore (ls' := [some (.ref a), none, none, some (.int zv1), some (.int zv2), some (.int zx3)]) C dX0_outsOf_66 (Nat.le_of_ble_eq_true rfl) rfl rfl ?_
      refine pd_iincG (zz := 1) C dX0_outsOf_68 rfl (by decide) rfl (fun zv3 hzv3 => ?_)
      have hF := pd_let_at hF hzv3
      refine pd_lsE (ls' := [some (.ref a), none, none, some (.int zv1), some (.int zv2), some (.int zv3)]) rfl ?_
      refine pd_goto (tgt := 39) C dX0_outsOf_71 (by decide) ?_
      exact ih _ _ hF
def fn_X0_outsOf (I : pd_I) (a : Nat) (p0 : Int32) (p1 : Int32) : Option Int32 := pd_bd (fn_X0_fedBack I a p0) fun zr1 => pd_let ((p0 <<< (1 &&& 31)) ||| (p1 ^^^ zr1)) fun zv1 => pd_bd (fn_X0_isFed I a) fun zr2 => pd_bd (if zr2 = 0 then pd_gd (pd_in 0 4) (pd_bd (fn_X11_parity (zv1 &&& (I (a + 1) (0 : Int32).toNatClampNeg))) fun zr4 => some zr4) else (some p1)) fun (zx1 : Int32) => fl_X0_outsOf_39 a zv1 I (fun zx4 => some zx4) pd_FU zx1 1
set_option maxRecDepth 100000 in
set_option maxHeartbeats 4000000 in
theorem em_X0_outsOf {l : Launch} {D : va_G} {tc : Nat → ClassId} (hst : l.stackTraces = false) {I : pd_I} {J : pd_J} {Z : pd_R} {n : Nat} {a : Nat} {p0 : Int32} {p1 : Int32} (hn : 133 ≤ n) (ha : pd_isCode a n = true) {out : Int32} (hF : fn_X0_outsOf I a p0 p1 = some out) :
    pd_M l D tc yX0_outsOf (.code yX0_outsOf cX0_outsOf 6 (Option.some Jvm.ClassFile.FieldType.int)) rm_X0_outsOf [.ref a, .int p0, .int p1] I J (pd_RF Z) n (.ok (some (.int out))) I J (pd_RF Z) n := by
  refine pd_open (own := "PathDecoder$Code") (ls0 := [some (.ref a), some (.int p0), some (.int p1), none, none, none]) (by decide) rfl (Nat.le_of_ble_eq_true rfl) rfl rfl hst (fun cx hl hD htc C hE htab hnm => ?_)
  subst hl hD htc
  unfold fn_X0_outsOf at hF
  refine pd_iload_n C dX0_outsOf_0 rfl rfl ?_
  refine pd_iconst (v := 1) C dX0_outsOf_1 (by decide) ?_
  refine pd_ishl C dX0_outsOf_2 ?_
  refine pd_iload_n C dX0_outsOf_3 rfl rfl ?_
  refine pd_aload_n C dX0_outsOf_4 rfl rfl ?_
  refine pd_iload_n C dX0_outsOf_5 rfl rfl ?_
  obtain ⟨zr1, zh1, hF⟩ := pd_bd_some hF
  refine pd_callV C [.int p0] [.int p1, .int (p0 <<< (1 &&& 31))] (em_X0_fedBack (pd_C_st C) hn ha zh1) mw_X0_fedBack wd_3_179 rfl (by decide) (pd_code_lt ha) (pd_code_sh ha) ⟨by decide, by decide, by decide, by decide⟩ rfl (Nat.le_of_ble_eq_true rfl) pd_oldL_same (fun _ _ => pd_old_same _) dX0_outsOf_6 (stk' := [.int zr1, .int p1, .int (p0 <<< (1 &&& 31))]) rfl ?_
  refine pd_ixor C dX0_outsOf_9 ?_
  refine pd_ior C dX0_outsOf_10 ?_
  refine pd_topi (fun zv1 hzv1 => ?_)
  have hF := pd_let_at hF hzv1
  refine pd_istore_n (ls' := [some (.ref a), some (.int p0), some (.int p1), some (.int zv1), none, none]) C dX0_outsOf_11 rfl (Nat.le_of_ble_eq_true rfl) rfl rfl ?_
  refine pd_aload_n C dX0_outsOf_12 rfl rfl ?_
  obtain ⟨zr2, zh2, hF⟩ := pd_bd_some hF
  refine pd_callV C [] [] (em_X0_isFed (pd_C_st C) hn ha zh2) mw_X0_isFed wd_3_210 rfl (by decide) (pd_code_lt ha) (pd_code_sh ha) ⟨by decide, by decide, by decide, by decide⟩ rfl (Nat.le_of_ble_eq_true rfl) pd_oldL_same (fun _ _ => pd_old_same _) dX0_outsOf_13 (stk' := [.int zr2]) rfl ?_
  obtain ⟨zx1, hS, hF⟩ := pd_bd_some hF
  have hJ34 : pd_V cx 0 0 34 [some (.ref a), none, none, some (.int zv1), none, none] [.int zx1] I J (pd_RF Z) n := by
    refine pd_istore (ls' := [some (.ref a), none, none, some (.int zv1), some (.int zx1), none]) C dX0_outsOf_34 (Nat.le_of_ble_eq_true rfl) rfl rfl ?_
    refine pd_iconst (v := 1) C dX0_outsOf_36 (by decide) ?_
    refine pd_istore (ls' := [some (.ref a), none, none, some (.int zv1), some (.int zx1), some (.int 1)]) C dX0_outsOf_37 (Nat.le_of_ble_eq_true rfl) rfl rfl ?_
    refine el_X0_outsOf_39 C hn ha (fun zx4 hF => ?_) pd_FU _ _ hF
    refine pd_iload C dX0_outsOf_74 rfl ?_
    cases hF
    exact pd_iret C hE rfl rfl rfl ⟨by decide, by decide⟩ dX0_outsOf_76
  replace hF := hS
  clear hS
  refine pd_if_eq (tgt := 23) C dX0_outsOf_16 (by decide) (fun zc2 => ?_) (fun zc2 => ?_)
  · have hF := pd_t zc2 hF
    refine pd_iload_n C dX0_outsOf_23 rfl rfl ?_
    refine pd_aload_n C dX0_outsOf_24 rfl rfl ?_
    refine gr_0_3 C wd_3_67 (pd_code_lt ha) (pd_code_sh ha) (pd_code_rf3 ha) dX0_outsOf_25 ?_
    refine pd_iconst (v := 0) C dX0_outsOf_28 (by decide) ?_
    obtain ⟨zg2, hF⟩ := pd_gd_some hF
    refine pd_iald C (pd_code_lt1 ha) (pd_code_sh1 ha) zg2 dX0_outsOf_29 ?_
    refine pd_iand C dX0_outsOf_30 ?_
    obtain ⟨zr4, zh4, hF⟩ := pd_bd_some hF
    refine pd_callM C [.int (zv1 &&& (I (a + 1) (0 : Int32).toNatClampNeg))] [] (em_X11_parity (pd_C_st C) hn  zh4) mw_X11_parity (List.mem_of_getElem? (i := 5) rfl) ⟨by decide, by decide, by decide, by decide⟩ rfl (Nat.le_of_ble_eq_true rfl) pd_oldL_same (fun _ _ => pd_old_same _) dX0_outsOf_31 (stk' := [.int zr4]) rfl ?_
    refine pd_wk (ls' := [some (.ref a), none, none, some (.int zv1), none, none]) (And.intro rfl (And.intro rfl True.intro)) ?_
    have hF := hF.symm
    cases hF
    exact hJ34
  · have hF := pd_f zc2 hF
    refine pd_iload_n C dX0_outsOf_19 rfl rfl ?_
    refine pd_goto (tgt := 34) C dX0_outsOf_20 (by decide) ?_
    refine pd_wk (ls' := [some (.ref a), none, none, some (.int zv1), none, none]) (And.intro rfl (And.intro rfl True.intro)) ?_
    have hF := hF.symm
    cases hF
    exact hJ34

def fl_X2_encodeFirst_53 {O : Type} (a0 : Nat) (zx2 : Int32) (zr2 : Int32) (kont : pd_I → Option O) : Nat → Int32 → pd_I → Option O
  | 0, _, _ => none
  | fu + 1, zx4, zI3 => if (zI3 a0 2) ≤ zx4 then kont zI3 else (pd_gd (pd_in ((zx2 * 7) + zx4) 1442) (pd_let (pd_ui zI3 5 ((zx2 * 7) + zx4).toNatClampNeg ((zr2 >>> (zx4 &&& 31)) &&& 1)) fun zI5 => pd_let (zx4 + 1) fun zv1 => fl_X2_encodeFirst_53 a0 zx2 zr2 kont fu zv1 zI5))
set_option maxRecDepth 100000 in
set_option maxHeartbeats 4000000 in
theorem el_X2_encodeFirst_53 {cx : pd_X} (C : pd_C cx "PathDecoder$Message" cX2_encodeFirst rm_X2_encodeFirst) {a0 : Nat} {p1 : Int32} {zx1 : Int32} {zx2 : Int32} {zx3 : Int32} {zr2 : Int32} {J : pd_J} {Z : pd_R} {n : Nat} (hn : 133 ≤ n) (ha0 : pd_isCode a0 n = true) {O : Type} {kont : pd_I → Option O} {out : O} (K : ∀ (zI4 : pd_I), kont zI4 = some out → pd_V cx 0 0 88 [some (.ref 3), some (.ref a0), some (.int p1), none, some (.int zx1), some (.int zx2), some (.int zx3), none, none] [] zI4 J (pd_RF Z) n) :
    ∀ (fu : Nat) (zx4 : Int32) (zI3 : pd_I), fl_X2_encodeFirst_53 a0 zx2 zr2 kont fu zx4 zI3 = some out → pd_V cx 0 0 53 [some (.ref 3), some (.ref a0), some (.int p1), none, some (.int zx1), some (.int zx2), some (.int zx3), some (.int zr2), some (.int zx4)] [] zI3 J (pd_RF Z) n := by
  intro fu
  induction fu with
  | zero => intro zx4 zI3 hF; rw [fl_X2_encodeFirst_53] at hF; cases hF
  | succ fu ih =>
    intro zx4 zI3 hF
    rw [fl_X2_encodeFirst_53] at hF
    refine pd_iload C dX2_encodeFirst_53 rfl ?_
    refine pd_aload_n C dX2_encodeFirst_55 rfl rfl ?_
    refine gi_0_2 C wd_3_64 (pd_code_lt ha0) (pd_code_sh ha0) dX2_encodeFirst_56 ?_
    refine pd_icmp_ge (tgt := 88) C dX2_encodeFirst_59 (by decide) (fun zc1 => ?_) (fun zc1 => ?_)
    · have hF := pd_t zc1 hF
      refine pd_wk (ls' := [some (.ref 3), some (.ref a0), some (.int p1), none, some (.int zx1), some (.int zx2), some (.int zx3), none, none]) (And.intro rfl (And.intro rfl (And.intro rfl (And.intro rfl (And.intro rfl (And.intro rfl True.intro)))))) ?_
      exact K _ hF
    · have hF := pd_f zc1 hF
      refine pd_aload_n C dX2_encodeFirst_62 rfl rfl ?_
      refine gr_2_1 C wd_1_41 (pd_lt (by decide) hn) sh_3 (rf_3_1 _) dX2_encodeFirst_63 ?_
      refine pd_iload C dX2_encodeFirst_66 rfl ?_
      refine pd_bipush (v := 7) C dX2_encodeFirst_68 (by decide) ?_
      refine pd_imul C dX2_encodeFirst_70 ?_
      refine pd_iload C dX2_encodeFirst_71 rfl ?_
      refine pd_iadd C dX2_encodeFirst_73 ?_
      refine pd_iload C dX2_encodeFirst_74 rfl ?_
      refine pd_iload C dX2_encodeFirst_76 rfl ?_
      refine pd_ishr C dX2_encodeFirst_78 ?_
      refine pd_iconst (v := 1) C dX2_encodeFirst_79 (by decide) ?_
      refine pd_iand C dX2_encodeFirst_80 ?_
      obtain ⟨zg1, hF⟩ := pd_gd_some hF
      refine pd_iast C (pd_lt (by decide) hn) sh_5 zg1 dX2_encodeFirst_81 ?_
      refine pd_memI (fun zI5 hzI5 => ?_)
      have hF := pd_let_at hF hzI5
      refine pd_iincG (zz := 1) C dX2_encodeFirst_82 rfl (by decide) rfl (fun zv1 hzv1 => ?_)
      have hF := pd_let_at hF hzv1
      refine pd_lsE (ls' := [some (.ref 3), some (.ref a0), some (.int p1), none, some (.int zx1), some (.int zx2), some (.int zx3), some (.int zr2), some (.int zv1)]) rfl ?_
      refine pd_goto (tgt := 53) C dX2_encodeFirst_85 (by decide) ?_
      exact ih _ _ hF
def fl_X2_encodeFirst_6 {O : Type} (a0 : Nat) (p1 : Int32) (kont : pd_I → Option O) : Nat → Int32 → Int32 → pd_I → Option O
  | 0, _, _, _ => none
  | fu + 1, zx1, zx2, zI1 => pd_bd (fn_X0_steps zI1 a0 p1) fun zr1 => if zr1 ≤ zx2 then kont zI1 else (pd_bd (if p1 ≤ zx2 then pd_bd (fn_X0_fedBack zI1 a0 zx1) fun zr4 => some zr4 else (pd_gd (pd_in zx2 200) (some (zI1 4 zx2.toNatClampNeg)))) fun (zx3 : Int32) => pd_bd (fn_X0_outsOf zI1 a0 zx1 zx3) fun zr2 => fl_X2_encodeFirst_53 a0 zx2 zr2 (fun zI4 => pd_bd (fn_X0_stateAfter zI4 a0 zx1 zx3) fun zr3 => pd_let (zx2 + 1) fun zv2 => fl_X2_encodeFirst_6 a0 p1 kont fu zr3 zv2 zI4) pd_FU 0 zI1)
set_option maxRecDepth 100000 in
set_option maxHeartbeats 4000000 in
theorem el_X2_encodeFirst_6 {cx : pd_X} (C : pd_C cx "PathDecoder$Message" cX2_encodeFirst rm_X2_encodeFirst) {a0 : Nat} {p1 : Int32} {J : pd_J} {Z : pd_R} {n : Nat} (hn : 133 ≤ n) (ha0 : pd_isCode a0 n = true) {O : Type} {kont : pd_I → Option O} {out : O} (K : ∀ (zI2 : pd_I), kont zI2 = some out → pd_V cx 0 0 104 [none, none, none, none, none, none, none, none, none] [] zI2 J (pd_RF Z) n) :
    ∀ (fu : Nat) (zx1 : Int32) (zx2 : Int32) (zI1 : pd_I), fl_X2_encodeFirst_6 a0 p1 kont fu zx1 zx2 zI1 = some out → pd_V cx 0 0 6 [some (.ref 3), some (.ref a0), some (.int p1), none, some (.int zx1), some (.int zx2), none, none, none] [] zI1 J (pd_RF Z) n := by
  intro fu
  induction fu with
  | zero => intro zx1 zx2 zI1 hF; rw [fl_X2_encodeFirst_6] at hF; cases hF
  | succ fu ih =>
    intro zx1 zx2 zI1 hF
    rw [fl_X2_encodeFirst_6] at hF
    refine pd_iload C dX2_encodeFirst_6 rfl ?_
    refine pd_aload_n C dX2_encodeFirst_8 rfl rfl ?_
    refine pd_iload_n C dX2_encodeFirst_9 rfl rfl ?_
    obtain ⟨zr1, zh1, hF⟩ := pd_bd_some hF
    refine pd_callV C [.int p1] [.int zx2] (em_X0_steps (pd_C_st C) hn ha0 zh1) mw_X0_steps wd_3_201 rfl (by decide) (pd_code_lt ha0) (pd_code_sh ha0) ⟨by decide, by decide, by decide, by decide⟩ rfl (Nat.le_of_ble_eq_true rfl) pd_oldL_same (fun _ _ => pd_old_same _) dX2_encodeFirst_10 (stk' := [.int zr1, .int zx2]) rfl ?_
    refine pd_icmp_ge (tgt := 104) C dX2_encodeFirst_13 (by decide) (fun zc3 => ?_) (fun zc3 => ?_)
    · have hF := pd_t zc3 hF
      refine pd_wk (ls' := [none, none, none, none, none, none, none, none, none]) True.intro ?_
      exact K _ hF
    · have hF := pd_f zc3 hF
      refine pd_iload C dX2_encodeFirst_16 rfl ?_
      refine pd_iload_n C dX2_encodeFirst_18 rfl rfl ?_
      obtain ⟨zx3, hS, hF⟩ := pd_bd_some hF
      have hJ38 : pd_V cx 0 0 38 [some (.ref 3), some (.ref a0), some (.int p1), none, some (.int zx1), some (.int zx2), none, none, none] [.int zx3] zI1 J (pd_RF Z) n := by
        refine pd_istore (ls' := [some (.ref 3), some (.ref a0), some (.int p1), none, some (.int zx1), some (.int zx2), some (.int zx3), none, none]) C dX2_encodeFirst_38 (Nat.le_of_ble_eq_true rfl) rfl rfl ?_
        refine pd_aload_n C dX2_encodeFirst_40 rfl rfl ?_
        refine pd_iload C dX2_encodeFirst_41 rfl ?_
        refine pd_iload C dX2_encodeFirst_43 rfl ?_
        obtain ⟨zr2, zh2, hF⟩ := pd_bd_some hF
        refine pd_callV C [.int zx1, .int zx3] [] (em_X0_outsOf (pd_C_st C) hn ha0 zh2) mw_X0_outsOf wd_3_206 rfl (by decide) (pd_code_lt ha0) (pd_code_sh ha0) ⟨by decide, by decide, by decide, by decide⟩ rfl (Nat.le_of_ble_eq_true rfl) pd_oldL_same (fun _ _ => pd_old_same _) dX2_encodeFirst_45 (stk' := [.int zr2]) rfl ?_
        refine pd_istore (ls' := [some (.ref 3), some (.ref a0), some (.int p1), none, some (.int zx1), some (.int zx2), some (.int zx3), some (.int zr2), none]) C dX2_encodeFirst_48 (Nat.le_of_ble_eq_true rfl) rfl rfl ?_
        refine pd_iconst (v := 0) C dX2_encodeFirst_50 (by decide) ?_
        refine pd_istore (ls' := [some (.ref 3), some (.ref a0), some (.int p1), none, some (.int zx1), some (.int zx2), some (.int zx3), some (.int zr2), some (.int 0)]) C dX2_encodeFirst_51 (Nat.le_of_ble_eq_true rfl) rfl rfl ?_
        refine el_X2_encodeFirst_53 C hn ha0 (fun zI4 hF => ?_) pd_FU _ _ hF
        refine pd_aload_n C dX2_encodeFirst_88 rfl rfl ?_
        refine pd_iload C dX2_encodeFirst_89 rfl ?_
        refine pd_iload C dX2_encodeFirst_91 rfl ?_
        obtain ⟨zr3, zh3, hF⟩ := pd_bd_some hF
        refine pd_callV C [.int zx1, .int zx3] [] (em_X0_stateAfter (pd_C_st C) hn ha0 zh3) mw_X0_stateAfter wd_3_175 rfl (by decide) (pd_code_lt ha0) (pd_code_sh ha0) ⟨by decide, by decide, by decide, by decide⟩ rfl (Nat.le_of_ble_eq_true rfl) pd_oldL_same (fun _ _ => pd_old_same _) dX2_encodeFirst_93 (stk' := [.int zr3]) rfl ?_
        refine pd_istore (ls' := [some (.ref 3), some (.ref a0), some (.int p1), none, some (.int zr3), some (.int zx2), some (.int zx3), none, none]) C dX2_encodeFirst_96 (Nat.le_of_ble_eq_true rfl) rfl rfl ?_
        refine pd_iincG (zz := 1) C dX2_encodeFirst_98 rfl (by decide) rfl (fun zv2 hzv2 => ?_)
        have hF := pd_let_at hF hzv2
        refine pd_lsE (ls' := [some (.ref 3), some (.ref a0), some (.int p1), none, some (.int zr3), some (.int zv2), some (.int zx3), none, none]) rfl ?_
        refine pd_goto (tgt := 6) C dX2_encodeFirst_101 (by decide) ?_
        refine pd_wk (ls' := [some (.ref 3), some (.ref a0), some (.int p1), none, some (.int zr3), some (.int zv2), none, none, none]) (And.intro rfl (And.intro rfl (And.intro rfl (And.intro rfl (And.intro rfl True.intro))))) ?_
        exact ih _ _ _ hF
      replace hF := hS
      clear hS
      refine pd_icmp_ge (tgt := 32) C dX2_encodeFirst_19 (by decide) (fun zc2 => ?_) (fun zc2 => ?_)
      · have hF := pd_t zc2 hF
        refine pd_aload_n C dX2_encodeFirst_32 rfl rfl ?_
        refine pd_iload C dX2_encodeFirst_33 rfl ?_
        obtain ⟨zr4, zh4, hF⟩ := pd_bd_some hF
        refine pd_callV C [.int zx1] [] (em_X0_fedBack (pd_C_st C) hn ha0 zh4) mw_X0_fedBack wd_3_205 rfl (by decide) (pd_code_lt ha0) (pd_code_sh ha0) ⟨by decide, by decide, by decide, by decide⟩ rfl (Nat.le_of_ble_eq_true rfl) pd_oldL_same (fun _ _ => pd_old_same _) dX2_encodeFirst_35 (stk' := [.int zr4]) rfl ?_
        have hF := hF.symm
        cases hF
        exact hJ38
      · have hF := pd_f zc2 hF
        refine pd_aload_n C dX2_encodeFirst_22 rfl rfl ?_
        refine gr_2_0 C wd_1_40 (pd_lt (by decide) hn) sh_3 (rf_3_0 _) dX2_encodeFirst_23 ?_
        refine pd_iload C dX2_encodeFirst_26 rfl ?_
        obtain ⟨zg2, hF⟩ := pd_gd_some hF
        refine pd_iald C (pd_lt (by decide) hn) sh_4 zg2 dX2_encodeFirst_28 ?_
        refine pd_goto (tgt := 38) C dX2_encodeFirst_29 (by decide) ?_
        have hF := hF.symm
        cases hF
        exact hJ38
def fn_X2_encodeFirst (I : pd_I) (a0 : Nat) (p1 : Int32) (p2 : Int32) : Option pd_I := fl_X2_encodeFirst_6 a0 p1 (fun zI2 => some zI2) pd_FU p2 0 I
set_option maxRecDepth 100000 in
set_option maxHeartbeats 4000000 in
theorem em_X2_encodeFirst {l : Launch} {D : va_G} {tc : Nat → ClassId} (hst : l.stackTraces = false) {I : pd_I} {J : pd_J} {Z : pd_R} {n : Nat} {a0 : Nat} {p1 : Int32} {p2 : Int32} (hn : 133 ≤ n) (ha0 : pd_isCode a0 n = true) {out : pd_I} (hF : fn_X2_encodeFirst I a0 p1 p2 = some out) :
    pd_M l D tc yX2_encodeFirst (.code yX2_encodeFirst cX2_encodeFirst 9 (Option.none : Option Jvm.ClassFile.FieldType)) rm_X2_encodeFirst [.ref 3, .ref a0, .int p1, .int p2] I J (pd_RF Z) n (.ok (none)) out J (pd_RF Z) n := by
  refine pd_open (own := "PathDecoder$Message") (ls0 := [some (.ref 3), some (.ref a0), some (.int p1), some (.int p2), none, none, none, none, none]) (by decide) rfl (Nat.le_of_ble_eq_true rfl) rfl rfl hst (fun cx hl hD htc C hE htab hnm => ?_)
  subst hl hD htc
  unfold fn_X2_encodeFirst at hF
  refine pd_iload_n C dX2_encodeFirst_0 rfl rfl ?_
  refine pd_istore (ls' := [some (.ref 3), some (.ref a0), some (.int p1), some (.int p2), some (.int p2), none, none, none, none]) C dX2_encodeFirst_1 (Nat.le_of_ble_eq_true rfl) rfl rfl ?_
  refine pd_iconst (v := 0) C dX2_encodeFirst_3 (by decide) ?_
  refine pd_istore (ls' := [some (.ref 3), some (.ref a0), some (.int p1), some (.int p2), some (.int p2), some (.int 0), none, none, none]) C dX2_encodeFirst_4 (Nat.le_of_ble_eq_true rfl) rfl rfl ?_
  refine pd_wk (ls' := [some (.ref 3), some (.ref a0), some (.int p1), none, some (.int p2), some (.int 0), none, none, none]) (And.intro rfl (And.intro rfl (And.intro rfl (And.intro rfl (And.intro rfl True.intro))))) ?_
  refine el_X2_encodeFirst_6 C hn ha0 (fun zI2 hF => ?_) pd_FU _ _ _ hF
  cases hF
  exact pd_vret C hE rfl ⟨by decide, by decide⟩ dX2_encodeFirst_104

def fn_X0_orderOf (I : pd_I) (a : Nat) (p0 : Int32) (p1 : Int32) : Option Int32 := pd_gd (decide (¬ p1 = 0)) (some ((p0 * (I a 6)) % p1))
set_option maxRecDepth 100000 in
set_option maxHeartbeats 4000000 in
theorem em_X0_orderOf {l : Launch} {D : va_G} {tc : Nat → ClassId} (hst : l.stackTraces = false) {I : pd_I} {J : pd_J} {Z : pd_R} {n : Nat} {a : Nat} {p0 : Int32} {p1 : Int32} (hn : 133 ≤ n) (ha : pd_isCode a n = true) {out : Int32} (hF : fn_X0_orderOf I a p0 p1 = some out) :
    pd_M l D tc yX0_orderOf (.code yX0_orderOf cX0_orderOf 3 (Option.some Jvm.ClassFile.FieldType.int)) rm_X0_orderOf [.ref a, .int p0, .int p1] I J (pd_RF Z) n (.ok (some (.int out))) I J (pd_RF Z) n := by
  refine pd_open (own := "PathDecoder$Code") (ls0 := [some (.ref a), some (.int p0), some (.int p1)]) (by decide) rfl (Nat.le_of_ble_eq_true rfl) rfl rfl hst (fun cx hl hD htc C hE htab hnm => ?_)
  subst hl hD htc
  unfold fn_X0_orderOf at hF
  refine pd_iload_n C dX0_orderOf_0 rfl rfl ?_
  refine pd_aload_n C dX0_orderOf_1 rfl rfl ?_
  refine gi_0_6 C wd_3_73 (pd_code_lt ha) (pd_code_sh ha) dX0_orderOf_2 ?_
  refine pd_imul C dX0_orderOf_5 ?_
  refine pd_iload_n C dX0_orderOf_6 rfl rfl ?_
  obtain ⟨zg1, hF⟩ := pd_gd_some hF
  refine pd_irem C dX0_orderOf_7 (of_decide_eq_true zg1) ?_
  cases hF
  exact pd_iret C hE rfl rfl rfl ⟨by decide, by decide⟩ dX0_orderOf_8

def fl_X2_encodeSecond_37 {O : Type} (a0 : Nat) (zx2 : Int32) (zr2 : Int32) (kont : pd_I → Option O) : Nat → Int32 → pd_I → Option O
  | 0, _, _ => none
  | fu + 1, zx3, zI3 => if (zI3 a0 2) ≤ zx3 then kont zI3 else (pd_gd (pd_in ((((zx2 * 7) + (zI3 a0 2)) - 1) + zx3) 1442) (pd_let (pd_ui zI3 5 ((((zx2 * 7) + (zI3 a0 2)) - 1) + zx3).toNatClampNeg ((zr2 >>> (zx3 &&& 31)) &&& 1)) fun zI5 => pd_let (zx3 + 1) fun zv2 => fl_X2_encodeSecond_37 a0 zx2 zr2 kont fu zv2 zI5))
set_option maxRecDepth 100000 in
set_option maxHeartbeats 4000000 in
theorem el_X2_encodeSecond_37 {cx : pd_X} (C : pd_C cx "PathDecoder$Message" cX2_encodeSecond rm_X2_encodeSecond) {a0 : Nat} {p1 : Int32} {zx1 : Int32} {zx2 : Int32} {zv1 : Int32} {zr2 : Int32} {J : pd_J} {Z : pd_R} {n : Nat} (hn : 133 ≤ n) (ha0 : pd_isCode a0 n = true) {O : Type} {kont : pd_I → Option O} {out : O} (K : ∀ (zI4 : pd_I), kont zI4 = some out → pd_V cx 0 0 79 [some (.ref 3), some (.ref a0), some (.int p1), some (.int zx1), some (.int zx2), some (.int zv1), none, none] [] zI4 J (pd_RF Z) n) :
    ∀ (fu : Nat) (zx3 : Int32) (zI3 : pd_I), fl_X2_encodeSecond_37 a0 zx2 zr2 kont fu zx3 zI3 = some out → pd_V cx 0 0 37 [some (.ref 3), some (.ref a0), some (.int p1), some (.int zx1), some (.int zx2), some (.int zv1), some (.int zr2), some (.int zx3)] [] zI3 J (pd_RF Z) n := by
  intro fu
  induction fu with
  | zero => intro zx3 zI3 hF; rw [fl_X2_encodeSecond_37] at hF; cases hF
  | succ fu ih =>
    intro zx3 zI3 hF
    rw [fl_X2_encodeSecond_37] at hF
    refine pd_iload C dX2_encodeSecond_37 rfl ?_
    refine pd_aload_n C dX2_encodeSecond_39 rfl rfl ?_
    refine gi_0_2 C wd_3_64 (pd_code_lt ha0) (pd_code_sh ha0) dX2_encodeSecond_40 ?_
    refine pd_icmp_ge (tgt := 79) C dX2_encodeSecond_43 (by decide) (fun zc1 => ?_) (fun zc1 => ?_)
    · have hF := pd_t zc1 hF
      refine pd_wk (ls' := [some (.ref 3), some (.ref a0), some (.int p1), some (.int zx1), some (.int zx2), some (.int zv1), none, none]) (And.intro rfl (And.intro rfl (And.intro rfl (And.intro rfl (And.intro rfl (And.intro rfl True.intro)))))) ?_
      exact K _ hF
    · have hF := pd_f zc1 hF
      refine pd_aload_n C dX2_encodeSecond_46 rfl rfl ?_
      refine gr_2_1 C wd_1_41 (pd_lt (by decide) hn) sh_3 (rf_3_1 _) dX2_encodeSecond_47 ?_
      refine pd_iload C dX2_encodeSecond_50 rfl ?_
      refine pd_bipush (v := 7) C dX2_encodeSecond_52 (by decide) ?_
      refine pd_imul C dX2_encodeSecond_54 ?_
      refine pd_aload_n C dX2_encodeSecond_55 rfl rfl ?_
      refine gi_0_2 C wd_3_64 (pd_code_lt ha0) (pd_code_sh ha0) dX2_encodeSecond_56 ?_
      refine pd_iadd C dX2_encodeSecond_59 ?_
      refine pd_iconst (v := 1) C dX2_encodeSecond_60 (by decide) ?_
      refine pd_isub C dX2_encodeSecond_61 ?_
      refine pd_iload C dX2_encodeSecond_62 rfl ?_
      refine pd_iadd C dX2_encodeSecond_64 ?_
      refine pd_iload C dX2_encodeSecond_65 rfl ?_
      refine pd_iload C dX2_encodeSecond_67 rfl ?_
      refine pd_ishr C dX2_encodeSecond_69 ?_
      refine pd_iconst (v := 1) C dX2_encodeSecond_70 (by decide) ?_
      refine pd_iand C dX2_encodeSecond_71 ?_
      obtain ⟨zg2, hF⟩ := pd_gd_some hF
      refine pd_iast C (pd_lt (by decide) hn) sh_5 zg2 dX2_encodeSecond_72 ?_
      refine pd_memI (fun zI5 hzI5 => ?_)
      have hF := pd_let_at hF hzI5
      refine pd_iincG (zz := 1) C dX2_encodeSecond_73 rfl (by decide) rfl (fun zv2 hzv2 => ?_)
      have hF := pd_let_at hF hzv2
      refine pd_lsE (ls' := [some (.ref 3), some (.ref a0), some (.int p1), some (.int zx1), some (.int zx2), some (.int zv1), some (.int zr2), some (.int zv2)]) rfl ?_
      refine pd_goto (tgt := 37) C dX2_encodeSecond_76 (by decide) ?_
      exact ih _ _ hF
def fl_X2_encodeSecond_5 {O : Type} (a0 : Nat) (p1 : Int32) (kont : pd_I → Option O) : Nat → Int32 → Int32 → pd_I → Option O
  | 0, _, _, _ => none
  | fu + 1, zx1, zx2, zI1 => if p1 ≤ zx2 then kont zI1 else (pd_bd (fn_X0_orderOf zI1 a0 zx2 p1) fun zr1 => pd_gd (pd_in zr1 200) (pd_let (zI1 4 zr1.toNatClampNeg) fun zv1 => pd_bd (fn_X0_outsOf zI1 a0 zx1 zv1) fun zr2 => fl_X2_encodeSecond_37 a0 zx2 zr2 (fun zI4 => pd_bd (fn_X0_stateAfter zI4 a0 zx1 zv1) fun zr3 => pd_let (zx2 + 1) fun zv3 => fl_X2_encodeSecond_5 a0 p1 kont fu zr3 zv3 zI4) pd_FU 1 zI1))
set_option maxRecDepth 100000 in
set_option maxHeartbeats 4000000 in
theorem el_X2_encodeSecond_5 {cx : pd_X} (C : pd_C cx "PathDecoder$Message" cX2_encodeSecond rm_X2_encodeSecond) {a0 : Nat} {p1 : Int32} {J : pd_J} {Z : pd_R} {n : Nat} (hn : 133 ≤ n) (ha0 : pd_isCode a0 n = true) {O : Type} {kont : pd_I → Option O} {out : O} (K : ∀ (zI2 : pd_I), kont zI2 = some out → pd_V cx 0 0 93 [none, none, none, none, none, none, none, none] [] zI2 J (pd_RF Z) n) :
    ∀ (fu : Nat) (zx1 : Int32) (zx2 : Int32) (zI1 : pd_I), fl_X2_encodeSecond_5 a0 p1 kont fu zx1 zx2 zI1 = some out → pd_V cx 0 0 5 [some (.ref 3), some (.ref a0), some (.int p1), some (.int zx1), some (.int zx2), none, none, none] [] zI1 J (pd_RF Z) n := by
  intro fu
  induction fu with
  | zero => intro zx1 zx2 zI1 hF; rw [fl_X2_encodeSecond_5] at hF; cases hF
  | succ fu ih =>
    intro zx1 zx2 zI1 hF
    rw [fl_X2_encodeSecond_5] at hF
    refine pd_iload C dX2_encodeSecond_5 rfl ?_
    refine pd_iload_n C dX2_encodeSecond_7 rfl rfl ?_
    refine pd_icmp_ge (tgt := 93) C dX2_encodeSecond_8 (by decide) (fun zc2 => ?_) (fun zc2 => ?_)
    · have hF := pd_t zc2 hF
      refine pd_wk (ls' := [none, none, none, none, none, none, none, none]) True.intro ?_
      exact K _ hF
    · have hF := pd_f zc2 hF
      refine pd_aload_n C dX2_encodeSecond_11 rfl rfl ?_
      refine gr_2_0 C wd_1_40 (pd_lt (by decide) hn) sh_3 (rf_3_0 _) dX2_encodeSecond_12 ?_
      refine pd_aload_n C dX2_encodeSecond_15 rfl rfl ?_
      refine pd_iload C dX2_encodeSecond_16 rfl ?_
      refine pd_iload_n C dX2_encodeSecond_18 rfl rfl ?_
      obtain ⟨zr1, zh1, hF⟩ := pd_bd_some hF
      refine pd_callV C [.int zx2, .int p1] [.ref 4] (em_X0_orderOf (pd_C_st C) hn ha0 zh1) mw_X0_orderOf wd_3_215 rfl (by decide) (pd_code_lt ha0) (pd_code_sh ha0) ⟨by decide, by decide, by decide, by decide⟩ rfl (Nat.le_of_ble_eq_true rfl) pd_oldL_same (fun _ _ => pd_old_same _) dX2_encodeSecond_19 (stk' := [.int zr1, .ref 4]) rfl ?_
      obtain ⟨zg1, hF⟩ := pd_gd_some hF
      refine pd_iald C (pd_lt (by decide) hn) sh_4 zg1 dX2_encodeSecond_22 ?_
      refine pd_topi (fun zv1 hzv1 => ?_)
      have hF := pd_let_at hF hzv1
      refine pd_istore (ls' := [some (.ref 3), some (.ref a0), some (.int p1), some (.int zx1), some (.int zx2), some (.int zv1), none, none]) C dX2_encodeSecond_23 (Nat.le_of_ble_eq_true rfl) rfl rfl ?_
      refine pd_aload_n C dX2_encodeSecond_25 rfl rfl ?_
      refine pd_iload_n C dX2_encodeSecond_26 rfl rfl ?_
      refine pd_iload C dX2_encodeSecond_27 rfl ?_
      obtain ⟨zr2, zh2, hF⟩ := pd_bd_some hF
      refine pd_callV C [.int zx1, .int zv1] [] (em_X0_outsOf (pd_C_st C) hn ha0 zh2) mw_X0_outsOf wd_3_206 rfl (by decide) (pd_code_lt ha0) (pd_code_sh ha0) ⟨by decide, by decide, by decide, by decide⟩ rfl (Nat.le_of_ble_eq_true rfl) pd_oldL_same (fun _ _ => pd_old_same _) dX2_encodeSecond_29 (stk' := [.int zr2]) rfl ?_
      refine pd_istore (ls' := [some (.ref 3), some (.ref a0), some (.int p1), some (.int zx1), some (.int zx2), some (.int zv1), some (.int zr2), none]) C dX2_encodeSecond_32 (Nat.le_of_ble_eq_true rfl) rfl rfl ?_
      refine pd_iconst (v := 1) C dX2_encodeSecond_34 (by decide) ?_
      refine pd_istore (ls' := [some (.ref 3), some (.ref a0), some (.int p1), some (.int zx1), some (.int zx2), some (.int zv1), some (.int zr2), some (.int 1)]) C dX2_encodeSecond_35 (Nat.le_of_ble_eq_true rfl) rfl rfl ?_
      refine el_X2_encodeSecond_37 C hn ha0 (fun zI4 hF => ?_) pd_FU _ _ hF
      refine pd_aload_n C dX2_encodeSecond_79 rfl rfl ?_
      refine pd_iload_n C dX2_encodeSecond_80 rfl rfl ?_
      refine pd_iload C dX2_encodeSecond_81 rfl ?_
      obtain ⟨zr3, zh3, hF⟩ := pd_bd_some hF
      refine pd_callV C [.int zx1, .int zv1] [] (em_X0_stateAfter (pd_C_st C) hn ha0 zh3) mw_X0_stateAfter wd_3_175 rfl (by decide) (pd_code_lt ha0) (pd_code_sh ha0) ⟨by decide, by decide, by decide, by decide⟩ rfl (Nat.le_of_ble_eq_true rfl) pd_oldL_same (fun _ _ => pd_old_same _) dX2_encodeSecond_83 (stk' := [.int zr3]) rfl ?_
      refine pd_istore_n (ls' := [some (.ref 3), some (.ref a0), some (.int p1), some (.int zr3), some (.int zx2), some (.int zv1), none, none]) C dX2_encodeSecond_86 rfl (Nat.le_of_ble_eq_true rfl) rfl rfl ?_
      refine pd_iincG (zz := 1) C dX2_encodeSecond_87 rfl (by decide) rfl (fun zv3 hzv3 => ?_)
      have hF := pd_let_at hF hzv3
      refine pd_lsE (ls' := [some (.ref 3), some (.ref a0), some (.int p1), some (.int zr3), some (.int zv3), some (.int zv1), none, none]) rfl ?_
      refine pd_goto (tgt := 5) C dX2_encodeSecond_90 (by decide) ?_
      refine pd_wk (ls' := [some (.ref 3), some (.ref a0), some (.int p1), some (.int zr3), some (.int zv3), none, none, none]) (And.intro rfl (And.intro rfl (And.intro rfl (And.intro rfl (And.intro rfl True.intro))))) ?_
      exact ih _ _ _ hF
def fn_X2_encodeSecond (I : pd_I) (a0 : Nat) (p1 : Int32) : Option pd_I := fl_X2_encodeSecond_5 a0 p1 (fun zI2 => some zI2) pd_FU 0 0 I
set_option maxRecDepth 100000 in
set_option maxHeartbeats 4000000 in
theorem em_X2_encodeSecond {l : Launch} {D : va_G} {tc : Nat → ClassId} (hst : l.stackTraces = false) {I : pd_I} {J : pd_J} {Z : pd_R} {n : Nat} {a0 : Nat} {p1 : Int32} (hn : 133 ≤ n) (ha0 : pd_isCode a0 n = true) {out : pd_I} (hF : fn_X2_encodeSecond I a0 p1 = some out) :
    pd_M l D tc yX2_encodeSecond (.code yX2_encodeSecond cX2_encodeSecond 8 (Option.none : Option Jvm.ClassFile.FieldType)) rm_X2_encodeSecond [.ref 3, .ref a0, .int p1] I J (pd_RF Z) n (.ok (none)) out J (pd_RF Z) n := by
  refine pd_open (own := "PathDecoder$Message") (ls0 := [some (.ref 3), some (.ref a0), some (.int p1), none, none, none, none, none]) (by decide) rfl (Nat.le_of_ble_eq_true rfl) rfl rfl hst (fun cx hl hD htc C hE htab hnm => ?_)
  subst hl hD htc
  unfold fn_X2_encodeSecond at hF
  refine pd_iconst (v := 0) C dX2_encodeSecond_0 (by decide) ?_
  refine pd_istore_n (ls' := [some (.ref 3), some (.ref a0), some (.int p1), some (.int 0), none, none, none, none]) C dX2_encodeSecond_1 rfl (Nat.le_of_ble_eq_true rfl) rfl rfl ?_
  refine pd_iconst (v := 0) C dX2_encodeSecond_2 (by decide) ?_
  refine pd_istore (ls' := [some (.ref 3), some (.ref a0), some (.int p1), some (.int 0), some (.int 0), none, none, none]) C dX2_encodeSecond_3 (Nat.le_of_ble_eq_true rfl) rfl rfl ?_
  refine el_X2_encodeSecond_5 C hn ha0 (fun zI2 hF => ?_) pd_FU _ _ _ hF
  cases hF
  exact pd_vret C hE rfl ⟨by decide, by decide⟩ dX2_encodeSecond_93

def fl_X2_encode_3 {O : Type} (a1 : Nat) (p2 : Int32) (kont : pd_I → Option O) : Nat → Int32 → pd_I → Option O
  | 0, _, _ => none
  | fu + 1, zx1, zI1 => if p2 ≤ zx1 then kont zI1 else (pd_bd (fn_X4_bitAt zI1 a1 zx1) fun zr1 => pd_gd (pd_in zx1 200) (pd_let (pd_ui zI1 4 zx1.toNatClampNeg zr1) fun zI3 => pd_let (zx1 + 1) fun zv1 => fl_X2_encode_3 a1 p2 kont fu zv1 zI3))
set_option maxRecDepth 100000 in
set_option maxHeartbeats 4000000 in
theorem el_X2_encode_3 {cx : pd_X} (C : pd_C cx "PathDecoder$Message" cX2_encode rm_X2_encode) {a0 : Nat} {a1 : Nat} {p2 : Int32} {J : pd_J} {Z : pd_R} {n : Nat} (hn : 133 ≤ n) (ha0 : pd_isCode a0 n = true) (ha1 : pd_isRow a1 = true) {O : Type} {kont : pd_I → Option O} {out : O} (K : ∀ (zI2 : pd_I), kont zI2 = some out → pd_V cx 0 0 28 [some (.ref 3), some (.ref a0), none, some (.int p2), none] [] zI2 J (pd_RF Z) n) :
    ∀ (fu : Nat) (zx1 : Int32) (zI1 : pd_I), fl_X2_encode_3 a1 p2 kont fu zx1 zI1 = some out → pd_V cx 0 0 3 [some (.ref 3), some (.ref a0), some (.ref a1), some (.int p2), some (.int zx1)] [] zI1 J (pd_RF Z) n := by
  intro fu
  induction fu with
  | zero => intro zx1 zI1 hF; rw [fl_X2_encode_3] at hF; cases hF
  | succ fu ih =>
    intro zx1 zI1 hF
    rw [fl_X2_encode_3] at hF
    refine pd_iload C dX2_encode_3 rfl ?_
    refine pd_iload_n C dX2_encode_5 rfl rfl ?_
    refine pd_icmp_ge (tgt := 28) C dX2_encode_6 (by decide) (fun zc1 => ?_) (fun zc1 => ?_)
    · have hF := pd_t zc1 hF
      refine pd_wk (ls' := [some (.ref 3), some (.ref a0), none, some (.int p2), none]) (And.intro rfl (And.intro rfl (And.intro rfl True.intro))) ?_
      exact K _ hF
    · have hF := pd_f zc1 hF
      refine pd_aload_n C dX2_encode_9 rfl rfl ?_
      refine gr_2_0 C wd_1_40 (pd_lt (by decide) hn) sh_3 (rf_3_0 _) dX2_encode_10 ?_
      refine pd_iload C dX2_encode_13 rfl ?_
      refine pd_aload_n C dX2_encode_15 rfl rfl ?_
      refine pd_iload C dX2_encode_16 rfl ?_
      obtain ⟨zr1, zh1, hF⟩ := pd_bd_some hF
      refine pd_callV C [.int zx1] [.int zx1, .ref 4] (em_X4_bitAt (pd_C_st C) hn ha1 zh1) mw_X4_bitAt wd_3_162 rfl (by decide) (pd_row_lt ha1 hn) (pd_row_sh ha1) ⟨by decide, by decide, by decide, by decide⟩ rfl (Nat.le_of_ble_eq_true rfl) pd_oldL_same (fun _ _ => pd_old_same _) dX2_encode_18 (stk' := [.int zr1, .int zx1, .ref 4]) rfl ?_
      obtain ⟨zg1, hF⟩ := pd_gd_some hF
      refine pd_iast C (pd_lt (by decide) hn) sh_4 zg1 dX2_encode_21 ?_
      refine pd_memI (fun zI3 hzI3 => ?_)
      have hF := pd_let_at hF hzI3
      refine pd_iincG (zz := 1) C dX2_encode_22 rfl (by decide) rfl (fun zv1 hzv1 => ?_)
      have hF := pd_let_at hF hzv1
      refine pd_lsE (ls' := [some (.ref 3), some (.ref a0), some (.ref a1), some (.int p2), some (.int zv1)]) rfl ?_
      refine pd_goto (tgt := 3) C dX2_encode_25 (by decide) ?_
      exact ih _ _ hF
def fn_X2_encode (I : pd_I) (a0 : Nat) (a1 : Nat) (p2 : Int32) : Option (Int32 × pd_I) := fl_X2_encode_3 a1 p2 (fun zI2 => pd_bd (if (zI2 a0 0) = 4 then pd_bd (fn_X2_ringBeginning zI2 a0 p2) fun zr3 => some zr3 else (some 0)) fun (zx2 : Int32) => pd_bd (if zx2 = (-1) then some false else (if (zI2 a0 0) = 5 then pd_bd (fn_X0_ordersAll zI2 a0 p2) fun zr2 => if zr2 = 0 then some false else (some true) else (some true))) fun zc2 => if zc2 = true then pd_bd (fn_X2_encodeFirst zI2 a0 p2 zx2) fun zI4 => pd_bd (if (zI4 a0 0) = 5 then pd_bd (fn_X2_encodeSecond zI4 a0 p2) fun zI6 => some zI6 else (some zI4)) fun (zI5 : pd_I) => some (1, zI5) else (some (0, zI2))) pd_FU 0 I
set_option maxRecDepth 100000 in
set_option maxHeartbeats 4000000 in
theorem em_X2_encode {l : Launch} {D : va_G} {tc : Nat → ClassId} (hst : l.stackTraces = false) {I : pd_I} {J : pd_J} {Z : pd_R} {n : Nat} {a0 : Nat} {a1 : Nat} {p2 : Int32} (hn : 133 ≤ n) (ha0 : pd_isCode a0 n = true) (ha1 : pd_isRow a1 = true) {out : Int32 × pd_I} (hF : fn_X2_encode I a0 a1 p2 = some out) :
    pd_M l D tc yX2_encode (.code yX2_encode cX2_encode 5 (Option.some Jvm.ClassFile.FieldType.boolean)) rm_X2_encode [.ref 3, .ref a0, .ref a1, .int p2] I J (pd_RF Z) n (.ok (some (.int out.1))) out.2 J (pd_RF Z) n := by
  refine pd_open (own := "PathDecoder$Message") (ls0 := [some (.ref 3), some (.ref a0), some (.ref a1), some (.int p2), none]) (by decide) rfl (Nat.le_of_ble_eq_true rfl) rfl rfl hst (fun cx hl hD htc C hE htab hnm => ?_)
  subst hl hD htc
  unfold fn_X2_encode at hF
  refine pd_iconst (v := 0) C dX2_encode_0 (by decide) ?_
  refine pd_istore (ls' := [some (.ref 3), some (.ref a0), some (.ref a1), some (.int p2), some (.int 0)]) C dX2_encode_1 (Nat.le_of_ble_eq_true rfl) rfl rfl ?_
  refine el_X2_encode_3 C hn ha0 ha1 (fun zI2 hF => ?_) pd_FU _ _ hF
  refine pd_aload_n C dX2_encode_28 rfl rfl ?_
  refine gi_0_0 C wd_3_57 (pd_code_lt ha0) (pd_code_sh ha0) dX2_encode_29 ?_
  refine pd_iconst (v := 4) C dX2_encode_32 (by decide) ?_
  obtain ⟨zx2, hS, hF⟩ := pd_bd_some hF
  have hJ46 : pd_V cx 0 0 46 [some (.ref 3), some (.ref a0), none, some (.int p2), none] [.int zx2] zI2 J (pd_RF Z) n := by
    refine pd_istore (ls' := [some (.ref 3), some (.ref a0), none, some (.int p2), some (.int zx2)]) C dX2_encode_46 (Nat.le_of_ble_eq_true rfl) rfl rfl ?_
    refine pd_iload C dX2_encode_48 rfl ?_
    refine pd_iconst (v := (-1)) C dX2_encode_50 (by decide) ?_
    obtain ⟨zc2, hS, hF⟩ := pd_bd_some hF
    have hTzc2 : zc2 = true → pd_V cx 0 0 72 [some (.ref 3), some (.ref a0), none, some (.int p2), some (.int zx2)] [] zI2 J (pd_RF Z) n := by
      intro hc
      have hF := pd_t hc hF
      refine pd_aload_n C dX2_encode_72 rfl rfl ?_
      refine pd_aload_n C dX2_encode_73 rfl rfl ?_
      refine pd_iload_n C dX2_encode_74 rfl rfl ?_
      refine pd_iload C dX2_encode_75 rfl ?_
      obtain ⟨zI4, zh2, hF⟩ := pd_bd_some hF
      refine pd_callV C [.ref a0, .int p2, .int zx2] [] (em_X2_encodeFirst (pd_C_st C) hn ha0 zh2) mw_X2_encodeFirst wd_3_197 rfl (by decide) (pd_lt (by decide) hn) sh_3 ⟨by decide, by decide, by decide, by decide⟩ rfl (Nat.le_of_ble_eq_true rfl) pd_oldL_same (fun _ _ => pd_old_same _) dX2_encode_77 (stk' := []) rfl ?_
      refine pd_aload_n C dX2_encode_80 rfl rfl ?_
      refine gi_0_0 C wd_3_57 (pd_code_lt ha0) (pd_code_sh ha0) dX2_encode_81 ?_
      refine pd_iconst (v := 5) C dX2_encode_84 (by decide) ?_
      obtain ⟨zI5, hS, hF⟩ := pd_bd_some hF
      have hJ94 : pd_V cx 0 0 94 [none, none, none, none, none] [] zI5 J (pd_RF Z) n := by
        refine pd_iconst (v := 1) C dX2_encode_94 (by decide) ?_
        cases hF
        exact pd_iret C hE rfl rfl (pd_bo_nar (by decide)) ⟨by decide, by decide⟩ dX2_encode_95
      replace hF := hS
      clear hS
      refine pd_icmp_ne (tgt := 94) C dX2_encode_85 (by decide) (fun zc3 => ?_) (fun zc3 => ?_)
      · have hF := pd_f zc3 hF
        refine pd_wk (ls' := [none, none, none, none, none]) True.intro ?_
        have hF := hF.symm
        cases hF
        exact hJ94
      · have hF := pd_t zc3 hF
        refine pd_aload_n C dX2_encode_88 rfl rfl ?_
        refine pd_aload_n C dX2_encode_89 rfl rfl ?_
        refine pd_iload_n C dX2_encode_90 rfl rfl ?_
        obtain ⟨zI6, zh3, hF⟩ := pd_bd_some hF
        refine pd_callV C [.ref a0, .int p2] [] (em_X2_encodeSecond (pd_C_st C) hn ha0 zh3) mw_X2_encodeSecond wd_3_211 rfl (by decide) (pd_lt (by decide) hn) sh_3 ⟨by decide, by decide, by decide, by decide⟩ rfl (Nat.le_of_ble_eq_true rfl) pd_oldL_same (fun _ _ => pd_old_same _) dX2_encode_91 (stk' := []) rfl ?_
        refine pd_wk (ls' := [none, none, none, none, none]) True.intro ?_
        have hF := hF.symm
        cases hF
        exact hJ94
    have hEzc2 : zc2 = false → pd_V cx 0 0 70 [some (.ref 3), some (.ref a0), none, some (.int p2), some (.int zx2)] [] zI2 J (pd_RF Z) n := by
      intro hc
      have hF := pd_bf hc hF
      refine pd_iconst (v := 0) C dX2_encode_70 (by decide) ?_
      cases hF
      exact pd_iret C hE rfl rfl (pd_bo_nar (by decide)) ⟨by decide, by decide⟩ dX2_encode_71
    replace hF := hS
    clear hS
    refine pd_icmp_eq (tgt := 70) C dX2_encode_51 (by decide) (fun zc6 => ?_) (fun zc6 => ?_)
    · have hF := pd_t zc6 hF
      cases hF
      exact hEzc2 rfl
    · have hF := pd_f zc6 hF
      refine pd_aload_n C dX2_encode_54 rfl rfl ?_
      refine gi_0_0 C wd_3_57 (pd_code_lt ha0) (pd_code_sh ha0) dX2_encode_55 ?_
      refine pd_iconst (v := 5) C dX2_encode_58 (by decide) ?_
      refine pd_icmp_ne (tgt := 72) C dX2_encode_59 (by decide) (fun zc5 => ?_) (fun zc5 => ?_)
      · have hF := pd_f zc5 hF
        cases hF
        exact hTzc2 rfl
      · have hF := pd_t zc5 hF
        refine pd_aload_n C dX2_encode_62 rfl rfl ?_
        refine pd_iload_n C dX2_encode_63 rfl rfl ?_
        obtain ⟨zr2, zh4, hF⟩ := pd_bd_some hF
        refine pd_callV C [.int p2] [] (em_X0_ordersAll (pd_C_st C) hn ha0 zh4) mw_X0_ordersAll wd_3_193 rfl (by decide) (pd_code_lt ha0) (pd_code_sh ha0) ⟨by decide, by decide, by decide, by decide⟩ rfl (Nat.le_of_ble_eq_true rfl) pd_oldL_same (fun _ _ => pd_old_same _) dX2_encode_64 (stk' := [.int zr2]) rfl ?_
        refine pd_if_ne (tgt := 72) C dX2_encode_67 (by decide) (fun zc4 => ?_) (fun zc4 => ?_)
        · have hF := pd_f zc4 hF
          cases hF
          exact hTzc2 rfl
        · have hF := pd_t zc4 hF
          cases hF
          exact hEzc2 rfl
  replace hF := hS
  clear hS
  refine pd_icmp_ne (tgt := 45) C dX2_encode_33 (by decide) (fun zc7 => ?_) (fun zc7 => ?_)
  · have hF := pd_f zc7 hF
    refine pd_iconst (v := 0) C dX2_encode_45 (by decide) ?_
    have hF := hF.symm
    cases hF
    exact hJ46
  · have hF := pd_t zc7 hF
    refine pd_aload_n C dX2_encode_36 rfl rfl ?_
    refine pd_aload_n C dX2_encode_37 rfl rfl ?_
    refine pd_iload_n C dX2_encode_38 rfl rfl ?_
    obtain ⟨zr3, zh5, hF⟩ := pd_bd_some hF
    refine pd_callV C [.ref a0, .int p2] [] (em_X2_ringBeginning (pd_C_st C) hn ha0 zh5) mw_X2_ringBeginning wd_3_167 rfl (by decide) (pd_lt (by decide) hn) sh_3 ⟨by decide, by decide, by decide, by decide⟩ rfl (Nat.le_of_ble_eq_true rfl) pd_oldL_same (fun _ _ => pd_old_same _) dX2_encode_39 (stk' := [.int zr3]) rfl ?_
    refine pd_goto (tgt := 46) C dX2_encode_42 (by decide) ?_
    have hF := hF.symm
    cases hF
    exact hJ46

def fn_X0_isSent (I : pd_I) (a : Nat) (p0 : Int32) (p1 : Int32) : Option Int32 := pd_bd (fn_X0_isCut I a) fun zr1 => pd_bd (pd_bd (if zr1 = 0 then some false else (pd_gd (decide (¬ (I a 5) = 0)) (pd_gd (pd_in (p0 % (I a 5)) 8) (if (((I (a + 2) (p0 % (I a 5)).toNatClampNeg) >>> (p1 &&& 31)) &&& 1) = 1 then some false else (some true))))) fun zc1 => if zc1 = true then some 0 else (some 1)) fun (zx1 : Int32) => pd_gd (pd_bo zx1) (some zx1)
set_option maxRecDepth 100000 in
set_option maxHeartbeats 4000000 in
theorem em_X0_isSent {l : Launch} {D : va_G} {tc : Nat → ClassId} (hst : l.stackTraces = false) {I : pd_I} {J : pd_J} {Z : pd_R} {n : Nat} {a : Nat} {p0 : Int32} {p1 : Int32} (hn : 133 ≤ n) (ha : pd_isCode a n = true) {out : Int32} (hF : fn_X0_isSent I a p0 p1 = some out) :
    pd_M l D tc yX0_isSent (.code yX0_isSent cX0_isSent 3 (Option.some Jvm.ClassFile.FieldType.boolean)) rm_X0_isSent [.ref a, .int p0, .int p1] I J (pd_RF Z) n (.ok (some (.int out))) I J (pd_RF Z) n := by
  refine pd_open (own := "PathDecoder$Code") (ls0 := [some (.ref a), some (.int p0), some (.int p1)]) (by decide) rfl (Nat.le_of_ble_eq_true rfl) rfl rfl hst (fun cx hl hD htc C hE htab hnm => ?_)
  subst hl hD htc
  unfold fn_X0_isSent at hF
  refine pd_aload_n C dX0_isSent_0 rfl rfl ?_
  obtain ⟨zr1, zh1, hF⟩ := pd_bd_some hF
  refine pd_callV C [] [] (em_X0_isCut (pd_C_st C) hn ha zh1) mw_X0_isCut wd_3_229 rfl (by decide) (pd_code_lt ha) (pd_code_sh ha) ⟨by decide, by decide, by decide, by decide⟩ rfl (Nat.le_of_ble_eq_true rfl) pd_oldL_same (fun _ _ => pd_old_same _) dX0_isSent_1 (stk' := [.int zr1]) rfl ?_
  obtain ⟨zx1, hS, hF⟩ := pd_bd_some hF
  have hJ31 : pd_V cx 0 0 31 [none, none, none] [.int zx1] I J (pd_RF Z) n := by
    obtain ⟨zg1, hF⟩ := pd_gd_some hF
    cases hF
    exact pd_iret C hE rfl rfl (pd_bo_nar zg1) ⟨by decide, by decide⟩ dX0_isSent_31
  replace hF := hS
  clear hS
  obtain ⟨zc1, hS, hF⟩ := pd_bd_some hF
  have hTzc1 : zc1 = true → pd_V cx 0 0 30 [some (.ref a), some (.int p0), some (.int p1)] [] I J (pd_RF Z) n := by
    intro hc
    have hF := pd_t hc hF
    refine pd_iconst (v := 0) C dX0_isSent_30 (by decide) ?_
    refine pd_wk (ls' := [none, none, none]) True.intro ?_
    have hF := hF.symm
    cases hF
    exact hJ31
  have hEzc1 : zc1 = false → pd_V cx 0 0 26 [some (.ref a), some (.int p0), some (.int p1)] [] I J (pd_RF Z) n := by
    intro hc
    have hF := pd_bf hc hF
    refine pd_iconst (v := 1) C dX0_isSent_26 (by decide) ?_
    refine pd_goto (tgt := 31) C dX0_isSent_27 (by decide) ?_
    refine pd_wk (ls' := [none, none, none]) True.intro ?_
    have hF := hF.symm
    cases hF
    exact hJ31
  replace hF := hS
  clear hS
  refine pd_if_eq (tgt := 26) C dX0_isSent_4 (by decide) (fun zc3 => ?_) (fun zc3 => ?_)
  · have hF := pd_t zc3 hF
    cases hF
    exact hEzc1 rfl
  · have hF := pd_f zc3 hF
    refine pd_aload_n C dX0_isSent_7 rfl rfl ?_
    refine gr_0_7 C wd_3_75 (pd_code_lt ha) (pd_code_sh ha) (pd_code_rf7 ha) dX0_isSent_8 ?_
    refine pd_iload_n C dX0_isSent_11 rfl rfl ?_
    refine pd_aload_n C dX0_isSent_12 rfl rfl ?_
    refine gi_0_5 C wd_3_71 (pd_code_lt ha) (pd_code_sh ha) dX0_isSent_13 ?_
    obtain ⟨zg2, hF⟩ := pd_gd_some hF
    refine pd_irem C dX0_isSent_16 (of_decide_eq_true zg2) ?_
    obtain ⟨zg3, hF⟩ := pd_gd_some hF
    refine pd_iald C (pd_code_lt2 ha) (pd_code_sh2 ha) zg3 dX0_isSent_17 ?_
    refine pd_iload_n C dX0_isSent_18 rfl rfl ?_
    refine pd_ishr C dX0_isSent_19 ?_
    refine pd_iconst (v := 1) C dX0_isSent_20 (by decide) ?_
    refine pd_iand C dX0_isSent_21 ?_
    refine pd_iconst (v := 1) C dX0_isSent_22 (by decide) ?_
    refine pd_icmp_ne (tgt := 30) C dX0_isSent_23 (by decide) (fun zc2 => ?_) (fun zc2 => ?_)
    · have hF := pd_f zc2 hF
      cases hF
      exact hTzc1 rfl
    · have hF := pd_t zc2 hF
      cases hF
      exact hEzc1 rfl

def fl_X0_sentBy_16 {O : Type} (a : Nat) (zx2 : Int32) (I : pd_I) (kont : Int32 → Option O) : Nat → Int32 → Int32 → Option O
  | 0, _, _ => none
  | fu + 1, zx4, zx5 => pd_bd (fn_X0_width I a) fun zr2 => if zr2 ≤ zx5 then kont zx4 else (pd_bd (fn_X0_isSent I a zx2 zx5) fun zr3 => pd_bd (if zr3 = 0 then some 0 else (some 1)) fun (zx7 : Int32) => pd_let (zx4 + zx7) fun zv1 => pd_let (zx5 + 1) fun zv2 => fl_X0_sentBy_16 a zx2 I kont fu zv1 zv2)
set_option maxRecDepth 100000 in
set_option maxHeartbeats 4000000 in
theorem el_X0_sentBy_16 {cx : pd_X} (C : pd_C cx "PathDecoder$Code" cX0_sentBy rm_X0_sentBy) {a : Nat} {p0 : Int32} {zx2 : Int32} {I : pd_I} {J : pd_J} {Z : pd_R} {n : Nat} (hn : 133 ≤ n) (ha : pd_isCode a n = true) {O : Type} {kont : Int32 → Option O} {out : O} (K : ∀ (zx6 : Int32), kont zx6 = some out → pd_V cx 0 0 49 [some (.ref a), some (.int p0), some (.int zx6), some (.int zx2), none] [] I J (pd_RF Z) n) :
    ∀ (fu : Nat) (zx4 : Int32) (zx5 : Int32), fl_X0_sentBy_16 a zx2 I kont fu zx4 zx5 = some out → pd_V cx 0 0 16 [some (.ref a), some (.int p0), some (.int zx4), some (.int zx2), some (.int zx5)] [] I J (pd_RF Z) n := by
  intro fu
  induction fu with
  | zero => intro zx4 zx5 hF; rw [fl_X0_sentBy_16] at hF; cases hF
  | succ fu ih =>
    intro zx4 zx5 hF
    rw [fl_X0_sentBy_16] at hF
    refine pd_iload C dX0_sentBy_16 rfl ?_
    refine pd_aload_n C dX0_sentBy_18 rfl rfl ?_
    obtain ⟨zr2, zh2, hF⟩ := pd_bd_some hF
    refine pd_callV C [] [.int zx5] (em_X0_width (pd_C_st C) hn ha zh2) mw_X0_width wd_3_224 rfl (by decide) (pd_code_lt ha) (pd_code_sh ha) ⟨by decide, by decide, by decide, by decide⟩ rfl (Nat.le_of_ble_eq_true rfl) pd_oldL_same (fun _ _ => pd_old_same _) dX0_sentBy_19 (stk' := [.int zr2, .int zx5]) rfl ?_
    refine pd_icmp_ge (tgt := 49) C dX0_sentBy_22 (by decide) (fun zc2 => ?_) (fun zc2 => ?_)
    · have hF := pd_t zc2 hF
      refine pd_wk (ls' := [some (.ref a), some (.int p0), some (.int zx4), some (.int zx2), none]) (And.intro rfl (And.intro rfl (And.intro rfl (And.intro rfl True.intro)))) ?_
      exact K _ hF
    · have hF := pd_f zc2 hF
      refine pd_iload_n C dX0_sentBy_25 rfl rfl ?_
      refine pd_aload_n C dX0_sentBy_26 rfl rfl ?_
      refine pd_iload_n C dX0_sentBy_27 rfl rfl ?_
      refine pd_iload C dX0_sentBy_28 rfl ?_
      obtain ⟨zr3, zh3, hF⟩ := pd_bd_some hF
      refine pd_callV C [.int zx2, .int zx5] [.int zx4] (em_X0_isSent (pd_C_st C) hn ha zh3) mw_X0_isSent wd_3_225 rfl (by decide) (pd_code_lt ha) (pd_code_sh ha) ⟨by decide, by decide, by decide, by decide⟩ rfl (Nat.le_of_ble_eq_true rfl) pd_oldL_same (fun _ _ => pd_old_same _) dX0_sentBy_30 (stk' := [.int zr3, .int zx4]) rfl ?_
      obtain ⟨zx7, hS, hF⟩ := pd_bd_some hF
      have hJ41 : pd_V cx 0 0 41 [some (.ref a), some (.int p0), none, some (.int zx2), some (.int zx5)] [.int zx7, .int zx4] I J (pd_RF Z) n := by
        refine pd_iadd C dX0_sentBy_41 ?_
        refine pd_topi (fun zv1 hzv1 => ?_)
        have hF := pd_let_at hF hzv1
        refine pd_istore_n (ls' := [some (.ref a), some (.int p0), some (.int zv1), some (.int zx2), some (.int zx5)]) C dX0_sentBy_42 rfl (Nat.le_of_ble_eq_true rfl) rfl rfl ?_
        refine pd_iincG (zz := 1) C dX0_sentBy_43 rfl (by decide) rfl (fun zv2 hzv2 => ?_)
        have hF := pd_let_at hF hzv2
        refine pd_lsE (ls' := [some (.ref a), some (.int p0), some (.int zv1), some (.int zx2), some (.int zv2)]) rfl ?_
        refine pd_goto (tgt := 16) C dX0_sentBy_46 (by decide) ?_
        exact ih _ _ hF
      replace hF := hS
      clear hS
      refine pd_if_eq (tgt := 40) C dX0_sentBy_33 (by decide) (fun zc1 => ?_) (fun zc1 => ?_)
      · have hF := pd_t zc1 hF
        refine pd_iconst (v := 0) C dX0_sentBy_40 (by decide) ?_
        refine pd_wk (ls' := [some (.ref a), some (.int p0), none, some (.int zx2), some (.int zx5)]) (And.intro rfl (And.intro rfl (And.intro rfl (And.intro rfl True.intro)))) ?_
        have hF := hF.symm
        cases hF
        exact hJ41
      · have hF := pd_f zc1 hF
        refine pd_iconst (v := 1) C dX0_sentBy_36 (by decide) ?_
        refine pd_goto (tgt := 41) C dX0_sentBy_37 (by decide) ?_
        refine pd_wk (ls' := [some (.ref a), some (.int p0), none, some (.int zx2), some (.int zx5)]) (And.intro rfl (And.intro rfl (And.intro rfl (And.intro rfl True.intro)))) ?_
        have hF := hF.symm
        cases hF
        exact hJ41
def fl_X0_sentBy_4 {O : Type} (a : Nat) (p0 : Int32) (I : pd_I) (kont : Int32 → Option O) : Nat → Int32 → Int32 → Option O
  | 0, _, _ => none
  | fu + 1, zx1, zx2 => pd_bd (fn_X0_steps I a p0) fun zr1 => if zr1 ≤ zx2 then kont zx1 else (fl_X0_sentBy_16 a zx2 I (fun zx6 => pd_let (zx2 + 1) fun zv3 => fl_X0_sentBy_4 a p0 I kont fu zx6 zv3) pd_FU zx1 0)
set_option maxRecDepth 100000 in
set_option maxHeartbeats 4000000 in
theorem el_X0_sentBy_4 {cx : pd_X} (C : pd_C cx "PathDecoder$Code" cX0_sentBy rm_X0_sentBy) {a : Nat} {p0 : Int32} {I : pd_I} {J : pd_J} {Z : pd_R} {n : Nat} (hn : 133 ≤ n) (ha : pd_isCode a n = true) {O : Type} {kont : Int32 → Option O} {out : O} (K : ∀ (zx3 : Int32), kont zx3 = some out → pd_V cx 0 0 55 [none, none, some (.int zx3), none, none] [] I J (pd_RF Z) n) :
    ∀ (fu : Nat) (zx1 : Int32) (zx2 : Int32), fl_X0_sentBy_4 a p0 I kont fu zx1 zx2 = some out → pd_V cx 0 0 4 [some (.ref a), some (.int p0), some (.int zx1), some (.int zx2), none] [] I J (pd_RF Z) n := by
  intro fu
  induction fu with
  | zero => intro zx1 zx2 hF; rw [fl_X0_sentBy_4] at hF; cases hF
  | succ fu ih =>
    intro zx1 zx2 hF
    rw [fl_X0_sentBy_4] at hF
    refine pd_iload_n C dX0_sentBy_4 rfl rfl ?_
    refine pd_aload_n C dX0_sentBy_5 rfl rfl ?_
    refine pd_iload_n C dX0_sentBy_6 rfl rfl ?_
    obtain ⟨zr1, zh1, hF⟩ := pd_bd_some hF
    refine pd_callV C [.int p0] [.int zx2] (em_X0_steps (pd_C_st C) hn ha zh1) mw_X0_steps wd_3_223 rfl (by decide) (pd_code_lt ha) (pd_code_sh ha) ⟨by decide, by decide, by decide, by decide⟩ rfl (Nat.le_of_ble_eq_true rfl) pd_oldL_same (fun _ _ => pd_old_same _) dX0_sentBy_7 (stk' := [.int zr1, .int zx2]) rfl ?_
    refine pd_icmp_ge (tgt := 55) C dX0_sentBy_10 (by decide) (fun zc3 => ?_) (fun zc3 => ?_)
    · have hF := pd_t zc3 hF
      refine pd_wk (ls' := [none, none, some (.int zx1), none, none]) (And.intro rfl True.intro) ?_
      exact K _ hF
    · have hF := pd_f zc3 hF
      refine pd_iconst (v := 0) C dX0_sentBy_13 (by decide) ?_
      refine pd_istore (ls' := [some (.ref a), some (.int p0), some (.int zx1), some (.int zx2), some (.int 0)]) C dX0_sentBy_14 (Nat.le_of_ble_eq_true rfl) rfl rfl ?_
      refine el_X0_sentBy_16 C hn ha (fun zx6 hF => ?_) pd_FU _ _ hF
      refine pd_iincG (zz := 1) C dX0_sentBy_49 rfl (by decide) rfl (fun zv3 hzv3 => ?_)
      have hF := pd_let_at hF hzv3
      refine pd_lsE (ls' := [some (.ref a), some (.int p0), some (.int zx6), some (.int zv3), none]) rfl ?_
      refine pd_goto (tgt := 4) C dX0_sentBy_52 (by decide) ?_
      exact ih _ _ hF
def fn_X0_sentBy (I : pd_I) (a : Nat) (p0 : Int32) : Option Int32 := fl_X0_sentBy_4 a p0 I (fun zx3 => some zx3) pd_FU 0 0
set_option maxRecDepth 100000 in
set_option maxHeartbeats 4000000 in
theorem em_X0_sentBy {l : Launch} {D : va_G} {tc : Nat → ClassId} (hst : l.stackTraces = false) {I : pd_I} {J : pd_J} {Z : pd_R} {n : Nat} {a : Nat} {p0 : Int32} (hn : 133 ≤ n) (ha : pd_isCode a n = true) {out : Int32} (hF : fn_X0_sentBy I a p0 = some out) :
    pd_M l D tc yX0_sentBy (.code yX0_sentBy cX0_sentBy 5 (Option.some Jvm.ClassFile.FieldType.int)) rm_X0_sentBy [.ref a, .int p0] I J (pd_RF Z) n (.ok (some (.int out))) I J (pd_RF Z) n := by
  refine pd_open (own := "PathDecoder$Code") (ls0 := [some (.ref a), some (.int p0), none, none, none]) (by decide) rfl (Nat.le_of_ble_eq_true rfl) rfl rfl hst (fun cx hl hD htc C hE htab hnm => ?_)
  subst hl hD htc
  unfold fn_X0_sentBy at hF
  refine pd_iconst (v := 0) C dX0_sentBy_0 (by decide) ?_
  refine pd_istore_n (ls' := [some (.ref a), some (.int p0), some (.int 0), none, none]) C dX0_sentBy_1 rfl (Nat.le_of_ble_eq_true rfl) rfl rfl ?_
  refine pd_iconst (v := 0) C dX0_sentBy_2 (by decide) ?_
  refine pd_istore_n (ls' := [some (.ref a), some (.int p0), some (.int 0), some (.int 0), none]) C dX0_sentBy_3 rfl (Nat.le_of_ble_eq_true rfl) rfl rfl ?_
  refine el_X0_sentBy_4 C hn ha (fun zx3 hF => ?_) pd_FU _ _ hF
  refine pd_iload_n C dX0_sentBy_55 rfl rfl ?_
  cases hF
  exact pd_iret C hE rfl rfl rfl ⟨by decide, by decide⟩ dX0_sentBy_56

def fl_X2_write_19 {O : Type} (a0 : Nat) (a2 : Nat) (zx2 : Int32) (kont : Int32 → pd_I → Option O) : Nat → Int32 → Int32 → pd_I → Option O
  | 0, _, _, _ => none
  | fu + 1, zx3, zx4, zI3 => pd_bd (fn_X0_width zI3 a0) fun zr2 => if zr2 ≤ zx4 then kont zx3 zI3 else (pd_bd (fn_X0_isSent zI3 a0 zx2 zx4) fun zr3 => pd_bd2 (if zr3 = 0 then some (zx3, zI3) else (pd_gd (pd_in ((zx2 * 7) + zx4) 1442) (pd_bd (if (zI3 5 ((zx2 * 7) + zx4).toNatClampNeg) = 0 then some 16 else (some (-16))) fun (zx7 : Int32) => pd_bd (fn_X4_change zI3 a2 zx3 zx7) fun zI6 => pd_let (zx3 + 1) fun zv2 => some (zv2, zI6)))) fun (zx6 : Int32) (zI5 : pd_I) => pd_let (zx4 + 1) fun zv1 => fl_X2_write_19 a0 a2 zx2 kont fu zx6 zv1 zI5)
set_option maxRecDepth 100000 in
set_option maxHeartbeats 4000000 in
theorem el_X2_write_19 {cx : pd_X} (C : pd_C cx "PathDecoder$Message" cX2_write rm_X2_write) {a0 : Nat} {p1 : Int32} {a2 : Nat} {zx2 : Int32} {J : pd_J} {Z : pd_R} {n : Nat} (hn : 133 ≤ n) (ha0 : pd_isCode a0 n = true) (ha2 : pd_isRow a2 = true) {O : Type} {kont : Int32 → pd_I → Option O} {out : O} (K : ∀ (zx5 : Int32) (zI4 : pd_I), kont zx5 zI4 = some out → pd_V cx 0 0 77 [some (.ref 3), some (.ref a0), some (.int p1), some (.ref a2), some (.int zx5), some (.int zx2), none] [] zI4 J (pd_RF Z) n) :
    ∀ (fu : Nat) (zx3 : Int32) (zx4 : Int32) (zI3 : pd_I), fl_X2_write_19 a0 a2 zx2 kont fu zx3 zx4 zI3 = some out → pd_V cx 0 0 19 [some (.ref 3), some (.ref a0), some (.int p1), some (.ref a2), some (.int zx3), some (.int zx2), some (.int zx4)] [] zI3 J (pd_RF Z) n := by
  intro fu
  induction fu with
  | zero => intro zx3 zx4 zI3 hF; rw [fl_X2_write_19] at hF; cases hF
  | succ fu ih =>
    intro zx3 zx4 zI3 hF
    rw [fl_X2_write_19] at hF
    refine pd_iload C dX2_write_19 rfl ?_
    refine pd_aload_n C dX2_write_21 rfl rfl ?_
    obtain ⟨zr2, zh2, hF⟩ := pd_bd_some hF
    refine pd_callV C [] [.int zx4] (em_X0_width (pd_C_st C) hn ha0 zh2) mw_X0_width wd_3_234 rfl (by decide) (pd_code_lt ha0) (pd_code_sh ha0) ⟨by decide, by decide, by decide, by decide⟩ rfl (Nat.le_of_ble_eq_true rfl) pd_oldL_same (fun _ _ => pd_old_same _) dX2_write_22 (stk' := [.int zr2, .int zx4]) rfl ?_
    refine pd_icmp_ge (tgt := 77) C dX2_write_25 (by decide) (fun zc3 => ?_) (fun zc3 => ?_)
    · have hF := pd_t zc3 hF
      refine pd_wk (ls' := [some (.ref 3), some (.ref a0), some (.int p1), some (.ref a2), some (.int zx3), some (.int zx2), none]) (And.intro rfl (And.intro rfl (And.intro rfl (And.intro rfl (And.intro rfl (And.intro rfl True.intro)))))) ?_
      exact K _ _ hF
    · have hF := pd_f zc3 hF
      refine pd_aload_n C dX2_write_28 rfl rfl ?_
      refine pd_iload C dX2_write_29 rfl ?_
      refine pd_iload C dX2_write_31 rfl ?_
      obtain ⟨zr3, zh3, hF⟩ := pd_bd_some hF
      refine pd_callV C [.int zx2, .int zx4] [] (em_X0_isSent (pd_C_st C) hn ha0 zh3) mw_X0_isSent wd_3_235 rfl (by decide) (pd_code_lt ha0) (pd_code_sh ha0) ⟨by decide, by decide, by decide, by decide⟩ rfl (Nat.le_of_ble_eq_true rfl) pd_oldL_same (fun _ _ => pd_old_same _) dX2_write_33 (stk' := [.int zr3]) rfl ?_
      obtain ⟨zx6, zI5, hS, hF⟩ := pd_bd2_some hF
      have hJ71 : pd_V cx 0 0 71 [some (.ref 3), some (.ref a0), some (.int p1), some (.ref a2), some (.int zx6), some (.int zx2), some (.int zx4)] [] zI5 J (pd_RF Z) n := by
        refine pd_iincG (zz := 1) C dX2_write_71 rfl (by decide) rfl (fun zv1 hzv1 => ?_)
        have hF := pd_let_at hF hzv1
        refine pd_lsE (ls' := [some (.ref 3), some (.ref a0), some (.int p1), some (.ref a2), some (.int zx6), some (.int zx2), some (.int zv1)]) rfl ?_
        refine pd_goto (tgt := 19) C dX2_write_74 (by decide) ?_
        exact ih _ _ _ hF
      replace hF := hS
      clear hS
      refine pd_if_eq (tgt := 71) C dX2_write_36 (by decide) (fun zc2 => ?_) (fun zc2 => ?_)
      · have hF := pd_t zc2 hF
        have hF := hF.symm
        cases hF
        exact hJ71
      · have hF := pd_f zc2 hF
        refine pd_aload_n C dX2_write_39 rfl rfl ?_
        refine pd_iload C dX2_write_40 rfl ?_
        refine pd_aload_n C dX2_write_42 rfl rfl ?_
        refine gr_2_1 C wd_1_41 (pd_lt (by decide) hn) sh_3 (rf_3_1 _) dX2_write_43 ?_
        refine pd_iload C dX2_write_46 rfl ?_
        refine pd_bipush (v := 7) C dX2_write_48 (by decide) ?_
        refine pd_imul C dX2_write_50 ?_
        refine pd_iload C dX2_write_51 rfl ?_
        refine pd_iadd C dX2_write_53 ?_
        obtain ⟨zg1, hF⟩ := pd_gd_some hF
        refine pd_iald C (pd_lt (by decide) hn) sh_5 zg1 dX2_write_54 ?_
        obtain ⟨zx7, hS, hF⟩ := pd_bd_some hF
        have hJ65 : pd_V cx 0 0 65 [some (.ref 3), some (.ref a0), some (.int p1), some (.ref a2), some (.int zx3), some (.int zx2), some (.int zx4)] [.int zx7, .int zx3, .ref a2] zI3 J (pd_RF Z) n := by
          obtain ⟨zI6, zh4, hF⟩ := pd_bd_some hF
          refine pd_callV C [.int zx3, .int zx7] [] (em_X4_change (pd_C_st C) hn ha2 zh4) mw_X4_change wd_3_236 rfl (by decide) (pd_row_lt ha2 hn) (pd_row_sh ha2) ⟨by decide, by decide, by decide, by decide⟩ rfl (Nat.le_of_ble_eq_true rfl) pd_oldL_same (fun _ _ => pd_old_same _) dX2_write_65 (stk' := []) rfl ?_
          refine pd_iincG (zz := 1) C dX2_write_68 rfl (by decide) rfl (fun zv2 hzv2 => ?_)
          have hF := pd_let_at hF hzv2
          refine pd_lsE (ls' := [some (.ref 3), some (.ref a0), some (.int p1), some (.ref a2), some (.int zv2), some (.int zx2), some (.int zx4)]) rfl ?_
          have hF := hF.symm
          cases hF
          exact hJ71
        replace hF := hS
        clear hS
        refine pd_if_ne (tgt := 63) C dX2_write_55 (by decide) (fun zc1 => ?_) (fun zc1 => ?_)
        · have hF := pd_f zc1 hF
          refine pd_bipush (v := (-16)) C dX2_write_63 (by decide) ?_
          have hF := hF.symm
          cases hF
          exact hJ65
        · have hF := pd_t zc1 hF
          refine pd_bipush (v := 16) C dX2_write_58 (by decide) ?_
          refine pd_goto (tgt := 65) C dX2_write_60 (by decide) ?_
          have hF := hF.symm
          cases hF
          exact hJ65
def fl_X2_write_6 {O : Type} (a0 : Nat) (p1 : Int32) (a2 : Nat) (kont : pd_I → Option O) : Nat → Int32 → Int32 → pd_I → Option O
  | 0, _, _, _ => none
  | fu + 1, zx1, zx2, zI1 => pd_bd (fn_X0_steps zI1 a0 p1) fun zr1 => if zr1 ≤ zx2 then kont zI1 else (fl_X2_write_19 a0 a2 zx2 (fun zx5 zI4 => pd_let (zx2 + 1) fun zv3 => fl_X2_write_6 a0 p1 a2 kont fu zx5 zv3 zI4) pd_FU zx1 0 zI1)
set_option maxRecDepth 100000 in
set_option maxHeartbeats 4000000 in
theorem el_X2_write_6 {cx : pd_X} (C : pd_C cx "PathDecoder$Message" cX2_write rm_X2_write) {a0 : Nat} {p1 : Int32} {a2 : Nat} {J : pd_J} {Z : pd_R} {n : Nat} (hn : 133 ≤ n) (ha0 : pd_isCode a0 n = true) (ha2 : pd_isRow a2 = true) {O : Type} {kont : pd_I → Option O} {out : O} (K : ∀ (zI2 : pd_I), kont zI2 = some out → pd_V cx 0 0 83 [none, none, none, none, none, none, none] [] zI2 J (pd_RF Z) n) :
    ∀ (fu : Nat) (zx1 : Int32) (zx2 : Int32) (zI1 : pd_I), fl_X2_write_6 a0 p1 a2 kont fu zx1 zx2 zI1 = some out → pd_V cx 0 0 6 [some (.ref 3), some (.ref a0), some (.int p1), some (.ref a2), some (.int zx1), some (.int zx2), none] [] zI1 J (pd_RF Z) n := by
  intro fu
  induction fu with
  | zero => intro zx1 zx2 zI1 hF; rw [fl_X2_write_6] at hF; cases hF
  | succ fu ih =>
    intro zx1 zx2 zI1 hF
    rw [fl_X2_write_6] at hF
    refine pd_iload C dX2_write_6 rfl ?_
    refine pd_aload_n C dX2_write_8 rfl rfl ?_
    refine pd_iload_n C dX2_write_9 rfl rfl ?_
    obtain ⟨zr1, zh1, hF⟩ := pd_bd_some hF
    refine pd_callV C [.int p1] [.int zx2] (em_X0_steps (pd_C_st C) hn ha0 zh1) mw_X0_steps wd_3_201 rfl (by decide) (pd_code_lt ha0) (pd_code_sh ha0) ⟨by decide, by decide, by decide, by decide⟩ rfl (Nat.le_of_ble_eq_true rfl) pd_oldL_same (fun _ _ => pd_old_same _) dX2_write_10 (stk' := [.int zr1, .int zx2]) rfl ?_
    refine pd_icmp_ge (tgt := 83) C dX2_write_13 (by decide) (fun zc4 => ?_) (fun zc4 => ?_)
    · have hF := pd_t zc4 hF
      refine pd_wk (ls' := [none, none, none, none, none, none, none]) True.intro ?_
      exact K _ hF
    · have hF := pd_f zc4 hF
      refine pd_iconst (v := 0) C dX2_write_16 (by decide) ?_
      refine pd_istore (ls' := [some (.ref 3), some (.ref a0), some (.int p1), some (.ref a2), some (.int zx1), some (.int zx2), some (.int 0)]) C dX2_write_17 (Nat.le_of_ble_eq_true rfl) rfl rfl ?_
      refine el_X2_write_19 C hn ha0 ha2 (fun zx5 zI4 hF => ?_) pd_FU _ _ _ hF
      refine pd_iincG (zz := 1) C dX2_write_77 rfl (by decide) rfl (fun zv3 hzv3 => ?_)
      have hF := pd_let_at hF hzv3
      refine pd_lsE (ls' := [some (.ref 3), some (.ref a0), some (.int p1), some (.ref a2), some (.int zx5), some (.int zv3), none]) rfl ?_
      refine pd_goto (tgt := 6) C dX2_write_80 (by decide) ?_
      exact ih _ _ _ hF
def fn_X2_write (I : pd_I) (a0 : Nat) (p1 : Int32) (a2 : Nat) : Option pd_I := fl_X2_write_6 a0 p1 a2 (fun zI2 => some zI2) pd_FU 0 0 I
set_option maxRecDepth 100000 in
set_option maxHeartbeats 4000000 in
theorem em_X2_write {l : Launch} {D : va_G} {tc : Nat → ClassId} (hst : l.stackTraces = false) {I : pd_I} {J : pd_J} {Z : pd_R} {n : Nat} {a0 : Nat} {p1 : Int32} {a2 : Nat} (hn : 133 ≤ n) (ha0 : pd_isCode a0 n = true) (ha2 : pd_isRow a2 = true) {out : pd_I} (hF : fn_X2_write I a0 p1 a2 = some out) :
    pd_M l D tc yX2_write (.code yX2_write cX2_write 7 (Option.none : Option Jvm.ClassFile.FieldType)) rm_X2_write [.ref 3, .ref a0, .int p1, .ref a2] I J (pd_RF Z) n (.ok (none)) out J (pd_RF Z) n := by
  refine pd_open (own := "PathDecoder$Message") (ls0 := [some (.ref 3), some (.ref a0), some (.int p1), some (.ref a2), none, none, none]) (by decide) rfl (Nat.le_of_ble_eq_true rfl) rfl rfl hst (fun cx hl hD htc C hE htab hnm => ?_)
  subst hl hD htc
  unfold fn_X2_write at hF
  refine pd_iconst (v := 0) C dX2_write_0 (by decide) ?_
  refine pd_istore (ls' := [some (.ref 3), some (.ref a0), some (.int p1), some (.ref a2), some (.int 0), none, none]) C dX2_write_1 (Nat.le_of_ble_eq_true rfl) rfl rfl ?_
  refine pd_iconst (v := 0) C dX2_write_3 (by decide) ?_
  refine pd_istore (ls' := [some (.ref 3), some (.ref a0), some (.int p1), some (.ref a2), some (.int 0), some (.int 0), none]) C dX2_write_4 (Nat.le_of_ble_eq_true rfl) rfl rfl ?_
  refine el_X2_write_6 C hn ha0 ha2 (fun zI2 hF => ?_) pd_FU _ _ _ hF
  cases hF
  exact pd_vret C hE rfl ⟨by decide, by decide⟩ dX2_write_83

def fn_X11_send (I : pd_I) (Z : pd_R) (n : Nat) (p0 : Int32) (p1 : Int32) (p2 : Int32) (p3 : Int32) : Option (Except String (Int32 × pd_I)) := pd_bx (fn_X11_codeOf I Z n p0) fun zq1 => pd_gd (pd_isCode zq1 n) (pd_bx (fn_X11_rowOf Z n p1) fun zq2 => pd_gd (pd_isRow zq2) (pd_bx (fn_X11_rowOf Z n p3) fun zq3 => pd_gd (pd_isRow zq3) (pd_bx (fn_X11_demandBitCount p2) fun _ => pd_bd2 (fn_X2_encode I zq1 zq2 p2) fun zr1 zI1 => if zr1 = 0 then some (.ok ((-1), zI1)) else (pd_bd (fn_X0_sentBy zI1 zq1 p2) fun zr2 => if zr2 ≤ 600 then pd_bd (fn_X4_begin zI1 zq3 zr2) fun zI2 => pd_bd (fn_X2_write zI2 zq1 p2 zq3) fun zI3 => some (.ok (zr2, zI3)) else (some (.ok ((-2), zI1)))))))
set_option maxRecDepth 100000 in
set_option maxHeartbeats 4000000 in
theorem em_X11_send {l : Launch} {D : va_G} {tc : Nat → ClassId} (hst : l.stackTraces = false) {I : pd_I} {J : pd_J} {Z : pd_R} {n : Nat} {p0 : Int32} {p1 : Int32} {p2 : Int32} {p3 : Int32} (hn : 133 ≤ n)  {out : Except String (Int32 × pd_I)} (hF : fn_X11_send I Z n p0 p1 p2 p3 = some out) :
    pd_M l D tc yX11_send (.code yX11_send cX11_send 9 (Option.some Jvm.ClassFile.FieldType.int)) rm_X11_send [.ref 0, .int p0, .int p1, .int p2, .int p3] I J (pd_RF Z) n (pd_oo (fun (p : Int32 × pd_I) => some (.int p.1)) out) (pd_os (fun (p : Int32 × pd_I) => p.2) I out) J (pd_RF Z) n := by
  refine pd_open (own := "PathDecoder") (ls0 := [some (.ref 0), some (.int p0), some (.int p1), some (.int p2), some (.int p3), none, none, none, none]) (by decide) rfl (Nat.le_of_ble_eq_true rfl) rfl rfl hst (fun cx hl hD htc C hE htab hnm => ?_)
  subst hl hD htc
  unfold fn_X11_send at hF
  refine pd_aload_n C dX11_send_0 rfl rfl ?_
  refine pd_iload_n C dX11_send_1 rfl rfl ?_
  rcases pd_bx_some hF with ⟨e9, zh1, he9⟩ | ⟨zq1, zh1, hF⟩
  · subst he9
    exact pd_callVX C [.int p0] [] (em_X11_codeOf (pd_C_st C) hn  zh1) mw_X11_codeOf wd_3_100 rfl (by decide) (pd_lt (by decide) hn) sh_0 ⟨by decide, by decide, by decide, by decide⟩ rfl (Nat.le_of_ble_eq_true rfl) dX11_send_2 (pd_prop C hE rfl htab ⟨by decide, by decide⟩)
  obtain ⟨zg1, hF⟩ := pd_gd_some hF
  refine pd_callV C [.int p0] [] (em_X11_codeOf (pd_C_st C) hn  zh1) mw_X11_codeOf wd_3_100 rfl (by decide) (pd_lt (by decide) hn) sh_0 ⟨by decide, by decide, by decide, by decide⟩ rfl (Nat.le_of_ble_eq_true rfl) pd_oldL_same (fun _ _ => pd_old_same _) dX11_send_2 (stk' := [.ref zq1]) rfl ?_
  refine pd_astore (ls' := [some (.ref 0), some (.int p0), some (.int p1), some (.int p2), some (.int p3), some (.ref zq1), none, none, none]) C dX11_send_5 (Nat.le_of_ble_eq_true rfl) rfl rfl ?_
  refine pd_aload_n C dX11_send_7 rfl rfl ?_
  refine pd_iload_n C dX11_send_8 rfl rfl ?_
  rcases pd_bx_some hF with ⟨e9, zh2, he9⟩ | ⟨zq2, zh2, hF⟩
  · subst he9
    exact pd_callVX C [.int p1] [] (em_X11_rowOf (pd_C_st C) hn  zh2) mw_X11_rowOf wd_2_88 rfl (by decide) (pd_lt (by decide) hn) sh_0 ⟨by decide, by decide, by decide, by decide⟩ rfl (Nat.le_of_ble_eq_true rfl) dX11_send_9 (pd_prop C hE rfl htab ⟨by decide, by decide⟩)
  obtain ⟨zg2, hF⟩ := pd_gd_some hF
  refine pd_callV C [.int p1] [] (em_X11_rowOf (pd_C_st C) hn  zh2) mw_X11_rowOf wd_2_88 rfl (by decide) (pd_lt (by decide) hn) sh_0 ⟨by decide, by decide, by decide, by decide⟩ rfl (Nat.le_of_ble_eq_true rfl) pd_oldL_same (fun _ _ => pd_old_same _) dX11_send_9 (stk' := [.ref zq2]) rfl ?_
  refine pd_astore (ls' := [some (.ref 0), some (.int p0), some (.int p1), some (.int p2), some (.int p3), some (.ref zq1), some (.ref zq2), none, none]) C dX11_send_12 (Nat.le_of_ble_eq_true rfl) rfl rfl ?_
  refine pd_aload_n C dX11_send_14 rfl rfl ?_
  refine pd_iload C dX11_send_15 rfl ?_
  rcases pd_bx_some hF with ⟨e9, zh3, he9⟩ | ⟨zq3, zh3, hF⟩
  · subst he9
    exact pd_callVX C [.int p3] [] (em_X11_rowOf (pd_C_st C) hn  zh3) mw_X11_rowOf wd_2_88 rfl (by decide) (pd_lt (by decide) hn) sh_0 ⟨by decide, by decide, by decide, by decide⟩ rfl (Nat.le_of_ble_eq_true rfl) dX11_send_17 (pd_prop C hE rfl htab ⟨by decide, by decide⟩)
  obtain ⟨zg3, hF⟩ := pd_gd_some hF
  refine pd_callV C [.int p3] [] (em_X11_rowOf (pd_C_st C) hn  zh3) mw_X11_rowOf wd_2_88 rfl (by decide) (pd_lt (by decide) hn) sh_0 ⟨by decide, by decide, by decide, by decide⟩ rfl (Nat.le_of_ble_eq_true rfl) pd_oldL_same (fun _ _ => pd_old_same _) dX11_send_17 (stk' := [.ref zq3]) rfl ?_
  refine pd_astore (ls' := [some (.ref 0), some (.int p0), some (.int p1), some (.int p2), some (.int p3), some (.ref zq1), some (.ref zq2), some (.ref zq3), none]) C dX11_send_20 (Nat.le_of_ble_eq_true rfl) rfl rfl ?_
  refine pd_iload_n C dX11_send_22 rfl rfl ?_
  rcases pd_bx_some hF with ⟨e9, zh4, he9⟩ | ⟨_, zh4, hF⟩
  · subst he9
    exact pd_callSX C [.int p2] [] (em_X11_demandBitCount (pd_C_st C) hn  zh4) mw_X11_demandBitCount wd_3_154 ⟨by decide, by decide, by decide, by decide⟩ rfl (Nat.le_of_ble_eq_true rfl) dX11_send_23 (pd_prop C hE rfl htab ⟨by decide, by decide⟩)
  refine pd_callS C [.int p2] [] (em_X11_demandBitCount (pd_C_st C) hn  zh4) mw_X11_demandBitCount wd_3_154 ⟨by decide, by decide, by decide, by decide⟩ rfl (Nat.le_of_ble_eq_true rfl) pd_oldL_same (fun _ _ => pd_old_same _) dX11_send_23 (stk' := []) rfl ?_
  refine pd_aload_n C dX11_send_26 rfl rfl ?_
  refine gr_11_3 C wd_2_35 (pd_lt (by decide) hn) sh_0 (rf_0_3 _) dX11_send_27 ?_
  refine pd_aload C dX11_send_30 rfl ?_
  refine pd_aload C dX11_send_32 rfl ?_
  refine pd_iload_n C dX11_send_34 rfl rfl ?_
  obtain ⟨zr1, zI1, zh5, hF⟩ := pd_bd2_some hF
  refine pd_callV C [.ref zq1, .ref zq2, .int p2] [] (em_X2_encode (pd_C_st C) hn zg1 zg2 zh5) mw_X2_encode wd_3_158 rfl (by decide) (pd_lt (by decide) hn) sh_3 ⟨by decide, by decide, by decide, by decide⟩ rfl (Nat.le_of_ble_eq_true rfl) pd_oldL_same (fun _ _ => pd_old_same _) dX11_send_35 (stk' := [.int zr1]) rfl ?_
  refine pd_if_ne (tgt := 43) C dX11_send_38 (by decide) (fun zc2 => ?_) (fun zc2 => ?_)
  · have hF := pd_f zc2 hF
    refine pd_aload C dX11_send_43 rfl ?_
    refine pd_iload_n C dX11_send_45 rfl rfl ?_
    obtain ⟨zr2, zh6, hF⟩ := pd_bd_some hF
    refine pd_callV C [.int p2] [] (em_X0_sentBy (pd_C_st C) hn zg1 zh6) mw_X0_sentBy wd_3_219 rfl (by decide) (pd_code_lt zg1) (pd_code_sh zg1) ⟨by decide, by decide, by decide, by decide⟩ rfl (Nat.le_of_ble_eq_true rfl) pd_oldL_same (fun _ _ => pd_old_same _) dX11_send_46 (stk' := [.int zr2]) rfl ?_
    refine pd_istore (ls' := [some (.ref 0), some (.int p0), some (.int p1), some (.int p2), some (.int p3), some (.ref zq1), some (.ref zq2), some (.ref zq3), some (.int zr2)]) C dX11_send_49 (Nat.le_of_ble_eq_true rfl) rfl rfl ?_
    refine pd_iload C dX11_send_51 rfl ?_
    refine pd_sipush (v := 600) C dX11_send_53 (by decide) ?_
    refine pd_icmp_le (tgt := 62) C dX11_send_56 (by decide) (fun zc1 => ?_) (fun zc1 => ?_)
    · have hF := pd_t zc1 hF
      refine pd_aload C dX11_send_62 rfl ?_
      refine pd_iload C dX11_send_64 rfl ?_
      obtain ⟨zI2, zh7, hF⟩ := pd_bd_some hF
      refine pd_callV C [.int zr2] [] (em_X4_begin (pd_C_st C) hn zg3 zh7) mw_X4_begin wd_2_179 rfl (by decide) (pd_row_lt zg3 hn) (pd_row_sh zg3) ⟨by decide, by decide, by decide, by decide⟩ rfl (Nat.le_of_ble_eq_true rfl) pd_oldL_same (fun _ _ => pd_old_same _) dX11_send_66 (stk' := []) rfl ?_
      refine pd_aload_n C dX11_send_69 rfl rfl ?_
      refine gr_11_3 C wd_2_35 (pd_lt (by decide) hn) sh_0 (rf_0_3 _) dX11_send_70 ?_
      refine pd_aload C dX11_send_73 rfl ?_
      refine pd_iload_n C dX11_send_75 rfl rfl ?_
      refine pd_aload C dX11_send_76 rfl ?_
      obtain ⟨zI3, zh8, hF⟩ := pd_bd_some hF
      refine pd_callV C [.ref zq1, .int p2, .ref zq3] [] (em_X2_write (pd_C_st C) hn zg1 zg3 zh8) mw_X2_write wd_3_230 rfl (by decide) (pd_lt (by decide) hn) sh_3 ⟨by decide, by decide, by decide, by decide⟩ rfl (Nat.le_of_ble_eq_true rfl) pd_oldL_same (fun _ _ => pd_old_same _) dX11_send_78 (stk' := []) rfl ?_
      refine pd_iload C dX11_send_81 rfl ?_
      cases hF
      exact pd_iret C hE rfl rfl rfl ⟨by decide, by decide⟩ dX11_send_83
    · have hF := pd_f zc1 hF
      refine pd_bipush (v := (-2)) C dX11_send_59 (by decide) ?_
      cases hF
      exact pd_iret C hE rfl rfl rfl ⟨by decide, by decide⟩ dX11_send_61
  · have hF := pd_t zc2 hF
    refine pd_iconst (v := (-1)) C dX11_send_41 (by decide) ?_
    cases hF
    exact pd_iret C hE rfl rfl rfl ⟨by decide, by decide⟩ dX11_send_42

def fn_X11_length (I : pd_I) (Z : pd_R) (n : Nat) (p0 : Int32) (p1 : Int32) : Option (Except String (Int32)) := pd_bx (fn_X11_codeOf I Z n p0) fun zq1 => pd_gd (pd_isCode zq1 n) (pd_bx (fn_X11_demandBitCount p1) fun _ => pd_bd (fn_X0_sentBy I zq1 p1) fun zr1 => some (.ok zr1))
set_option maxRecDepth 100000 in
set_option maxHeartbeats 4000000 in
theorem em_X11_length {l : Launch} {D : va_G} {tc : Nat → ClassId} (hst : l.stackTraces = false) {I : pd_I} {J : pd_J} {Z : pd_R} {n : Nat} {p0 : Int32} {p1 : Int32} (hn : 133 ≤ n)  {out : Except String (Int32)} (hF : fn_X11_length I Z n p0 p1 = some out) :
    pd_M l D tc yX11_length (.code yX11_length cX11_length 4 (Option.some Jvm.ClassFile.FieldType.int)) rm_X11_length [.ref 0, .int p0, .int p1] I J (pd_RF Z) n (pd_oo (fun (p : Int32) => some (.int p)) out) I J (pd_RF Z) n := by
  refine pd_open (own := "PathDecoder") (ls0 := [some (.ref 0), some (.int p0), some (.int p1), none]) (by decide) rfl (Nat.le_of_ble_eq_true rfl) rfl rfl hst (fun cx hl hD htc C hE htab hnm => ?_)
  subst hl hD htc
  unfold fn_X11_length at hF
  refine pd_aload_n C dX11_length_0 rfl rfl ?_
  refine pd_iload_n C dX11_length_1 rfl rfl ?_
  rcases pd_bx_some hF with ⟨e9, zh1, he9⟩ | ⟨zq1, zh1, hF⟩
  · subst he9
    exact pd_callVX C [.int p0] [] (em_X11_codeOf (pd_C_st C) hn  zh1) mw_X11_codeOf wd_3_100 rfl (by decide) (pd_lt (by decide) hn) sh_0 ⟨by decide, by decide, by decide, by decide⟩ rfl (Nat.le_of_ble_eq_true rfl) dX11_length_2 (pd_prop C hE rfl htab ⟨by decide, by decide⟩)
  obtain ⟨zg1, hF⟩ := pd_gd_some hF
  refine pd_callV C [.int p0] [] (em_X11_codeOf (pd_C_st C) hn  zh1) mw_X11_codeOf wd_3_100 rfl (by decide) (pd_lt (by decide) hn) sh_0 ⟨by decide, by decide, by decide, by decide⟩ rfl (Nat.le_of_ble_eq_true rfl) pd_oldL_same (fun _ _ => pd_old_same _) dX11_length_2 (stk' := [.ref zq1]) rfl ?_
  refine pd_astore_n (ls' := [some (.ref 0), some (.int p0), some (.int p1), some (.ref zq1)]) C dX11_length_5 rfl (Nat.le_of_ble_eq_true rfl) rfl rfl ?_
  refine pd_iload_n C dX11_length_6 rfl rfl ?_
  rcases pd_bx_some hF with ⟨e9, zh2, he9⟩ | ⟨_, zh2, hF⟩
  · subst he9
    exact pd_callSX C [.int p1] [] (em_X11_demandBitCount (pd_C_st C) hn  zh2) mw_X11_demandBitCount wd_3_154 ⟨by decide, by decide, by decide, by decide⟩ rfl (Nat.le_of_ble_eq_true rfl) dX11_length_7 (pd_prop C hE rfl htab ⟨by decide, by decide⟩)
  refine pd_callS C [.int p1] [] (em_X11_demandBitCount (pd_C_st C) hn  zh2) mw_X11_demandBitCount wd_3_154 ⟨by decide, by decide, by decide, by decide⟩ rfl (Nat.le_of_ble_eq_true rfl) pd_oldL_same (fun _ _ => pd_old_same _) dX11_length_7 (stk' := []) rfl ?_
  refine pd_aload_n C dX11_length_10 rfl rfl ?_
  refine pd_iload_n C dX11_length_11 rfl rfl ?_
  obtain ⟨zr1, zh3, hF⟩ := pd_bd_some hF
  refine pd_callV C [.int p1] [] (em_X0_sentBy (pd_C_st C) hn zg1 zh3) mw_X0_sentBy wd_3_219 rfl (by decide) (pd_code_lt zg1) (pd_code_sh zg1) ⟨by decide, by decide, by decide, by decide⟩ rfl (Nat.le_of_ble_eq_true rfl) pd_oldL_same (fun _ _ => pd_old_same _) dX11_length_12 (stk' := [.int zr1]) rfl ?_
  cases hF
  exact pd_iret C hE rfl rfl rfl ⟨by decide, by decide⟩ dX11_length_15

def fl_X3_read_19 {O : Type} (a0 : Nat) (a2 : Nat) (zx2 : Int32) (kont : Int32 → pd_I → Option O) : Nat → Int32 → Int32 → pd_I → Option O
  | 0, _, _, _ => none
  | fu + 1, zx3, zx4, zI3 => pd_bd (fn_X0_width zI3 a0) fun zr2 => if zr2 ≤ zx4 then kont zx3 zI3 else (pd_let ((zx2 * 7) + zx4) fun zv1 => pd_bd (fn_X0_isSent zI3 a0 zx2 zx4) fun zr3 => pd_bd (pd_bd (if zr3 = 0 then some false else (pd_bd (fn_X4_has zI3 a2 zx3) fun zr5 => if zr5 = 0 then some false else (some true))) fun zc4 => if zc4 = true then some 1 else (some 0)) fun (zx6 : Int32) => pd_bd (fn_X4_numberAt zI3 a2 zx3) fun zr4 => pd_let (zr4 - (-32)) fun zv2 => pd_bd (if zx6 = 0 then some 0 else (pd_gd (pd_in zv2 64) (some (zI3 7 zv2.toNatClampNeg)))) fun (zx7 : Int32) => pd_gd (pd_in zv1 1442) (pd_let (pd_ui zI3 9 zv1.toNatClampNeg zx7) fun zI5 => pd_bd (if zx6 = 0 then some 0 else (pd_gd (pd_in zv2 64) (some (zI5 8 zv2.toNatClampNeg)))) fun (zx8 : Int32) => pd_gd (pd_in zv1 1442) (pd_let (pd_ui zI5 10 zv1.toNatClampNeg zx8) fun zI6 => pd_bd (if zr3 = 0 then some 0 else (some 1)) fun (zx9 : Int32) => pd_let (zx3 + zx9) fun zv3 => pd_let (zx4 + 1) fun zv4 => fl_X3_read_19 a0 a2 zx2 kont fu zv3 zv4 zI6)))
set_option maxRecDepth 100000 in
set_option maxHeartbeats 4000000 in
theorem el_X3_read_19 {cx : pd_X} (C : pd_C cx "PathDecoder$Received" cX3_read rm_X3_read) {a0 : Nat} {p1 : Int32} {a2 : Nat} {zx2 : Int32} {J : pd_J} {Z : pd_R} {n : Nat} (hn : 133 ≤ n) (ha0 : pd_isCode a0 n = true) (ha2 : pd_isRow a2 = true) {O : Type} {kont : Int32 → pd_I → Option O} {out : O} (K : ∀ (zx5 : Int32) (zI4 : pd_I), kont zx5 zI4 = some out → pd_V cx 0 0 147 [some (.ref 6), some (.ref a0), some (.int p1), some (.ref a2), some (.int zx5), some (.int zx2), none, none, none, none, none] [] zI4 J (pd_RF Z) n) :
    ∀ (fu : Nat) (zx3 : Int32) (zx4 : Int32) (zI3 : pd_I), fl_X3_read_19 a0 a2 zx2 kont fu zx3 zx4 zI3 = some out → pd_V cx 0 0 19 [some (.ref 6), some (.ref a0), some (.int p1), some (.ref a2), some (.int zx3), some (.int zx2), some (.int zx4), none, none, none, none] [] zI3 J (pd_RF Z) n := by
  intro fu
  induction fu with
  | zero => intro zx3 zx4 zI3 hF; rw [fl_X3_read_19] at hF; cases hF
  | succ fu ih =>
    intro zx3 zx4 zI3 hF
    rw [fl_X3_read_19] at hF
    refine pd_iload C dX3_read_19 rfl ?_
    refine pd_aload_n C dX3_read_21 rfl rfl ?_
    obtain ⟨zr2, zh2, hF⟩ := pd_bd_some hF
    refine pd_callV C [] [.int zx4] (em_X0_width (pd_C_st C) hn ha0 zh2) mw_X0_width wd_4_16 rfl (by decide) (pd_code_lt ha0) (pd_code_sh ha0) ⟨by decide, by decide, by decide, by decide⟩ rfl (Nat.le_of_ble_eq_true rfl) pd_oldL_same (fun _ _ => pd_old_same _) dX3_read_22 (stk' := [.int zr2, .int zx4]) rfl ?_
    refine pd_icmp_ge (tgt := 147) C dX3_read_25 (by decide) (fun zc7 => ?_) (fun zc7 => ?_)
    · have hF := pd_t zc7 hF
      refine pd_wk (ls' := [some (.ref 6), some (.ref a0), some (.int p1), some (.ref a2), some (.int zx3), some (.int zx2), none, none, none, none, none]) (And.intro rfl (And.intro rfl (And.intro rfl (And.intro rfl (And.intro rfl (And.intro rfl True.intro)))))) ?_
      exact K _ _ hF
    · have hF := pd_f zc7 hF
      refine pd_iload C dX3_read_28 rfl ?_
      refine pd_bipush (v := 7) C dX3_read_30 (by decide) ?_
      refine pd_imul C dX3_read_32 ?_
      refine pd_iload C dX3_read_33 rfl ?_
      refine pd_iadd C dX3_read_35 ?_
      refine pd_topi (fun zv1 hzv1 => ?_)
      have hF := pd_let_at hF hzv1
      refine pd_istore (ls' := [some (.ref 6), some (.ref a0), some (.int p1), some (.ref a2), some (.int zx3), some (.int zx2), some (.int zx4), some (.int zv1), none, none, none]) C dX3_read_36 (Nat.le_of_ble_eq_true rfl) rfl rfl ?_
      refine pd_aload_n C dX3_read_38 rfl rfl ?_
      refine pd_iload C dX3_read_39 rfl ?_
      refine pd_iload C dX3_read_41 rfl ?_
      obtain ⟨zr3, zh3, hF⟩ := pd_bd_some hF
      refine pd_callV C [.int zx2, .int zx4] [] (em_X0_isSent (pd_C_st C) hn ha0 zh3) mw_X0_isSent wd_4_17 rfl (by decide) (pd_code_lt ha0) (pd_code_sh ha0) ⟨by decide, by decide, by decide, by decide⟩ rfl (Nat.le_of_ble_eq_true rfl) pd_oldL_same (fun _ _ => pd_old_same _) dX3_read_43 (stk' := [.int zr3]) rfl ?_
      refine pd_istore (ls' := [some (.ref 6), some (.ref a0), some (.int p1), some (.ref a2), some (.int zx3), some (.int zx2), some (.int zx4), some (.int zv1), some (.int zr3), none, none]) C dX3_read_46 (Nat.le_of_ble_eq_true rfl) rfl rfl ?_
      refine pd_iload C dX3_read_48 rfl ?_
      obtain ⟨zx6, hS, hF⟩ := pd_bd_some hF
      have hJ67 : pd_V cx 0 0 67 [some (.ref 6), some (.ref a0), some (.int p1), some (.ref a2), some (.int zx3), some (.int zx2), some (.int zx4), some (.int zv1), some (.int zr3), none, none] [.int zx6] zI3 J (pd_RF Z) n := by
        refine pd_istore (ls' := [some (.ref 6), some (.ref a0), some (.int p1), some (.ref a2), some (.int zx3), some (.int zx2), some (.int zx4), some (.int zv1), some (.int zr3), some (.int zx6), none]) C dX3_read_67 (Nat.le_of_ble_eq_true rfl) rfl rfl ?_
        refine pd_aload_n C dX3_read_69 rfl rfl ?_
        refine pd_iload C dX3_read_70 rfl ?_
        obtain ⟨zr4, zh4, hF⟩ := pd_bd_some hF
        refine pd_callV C [.int zx3] [] (em_X4_numberAt (pd_C_st C) hn ha2 zh4) mw_X4_numberAt wd_4_19 rfl (by decide) (pd_row_lt ha2 hn) (pd_row_sh ha2) ⟨by decide, by decide, by decide, by decide⟩ rfl (Nat.le_of_ble_eq_true rfl) pd_oldL_same (fun _ _ => pd_old_same _) dX3_read_72 (stk' := [.int zr4]) rfl ?_
        refine pd_bipush (v := (-32)) C dX3_read_75 (by decide) ?_
        refine pd_isub C dX3_read_77 ?_
        refine pd_topi (fun zv2 hzv2 => ?_)
        have hF := pd_let_at hF hzv2
        refine pd_istore (ls' := [some (.ref 6), some (.ref a0), some (.int p1), some (.ref a2), some (.int zx3), some (.int zx2), some (.int zx4), some (.int zv1), some (.int zr3), some (.int zx6), some (.int zv2)]) C dX3_read_78 (Nat.le_of_ble_eq_true rfl) rfl rfl ?_
        refine pd_aload_n C dX3_read_80 rfl rfl ?_
        refine gr_3_2 C wd_1_57 (pd_lt (by decide) hn) sh_6 (rf_6_2 _) dX3_read_81 ?_
        refine pd_iload C dX3_read_84 rfl ?_
        refine pd_iload C dX3_read_86 rfl ?_
        obtain ⟨zx7, hS, hF⟩ := pd_bd_some hF
        have hJ102 : pd_V cx 0 0 102 [some (.ref 6), some (.ref a0), some (.int p1), some (.ref a2), some (.int zx3), some (.int zx2), some (.int zx4), some (.int zv1), some (.int zr3), some (.int zx6), some (.int zv2)] [.int zx7, .int zv1, .ref 9] zI3 J (pd_RF Z) n := by
          obtain ⟨zg1, hF⟩ := pd_gd_some hF
          refine pd_iast C (pd_lt (by decide) hn) sh_9 zg1 dX3_read_102 ?_
          refine pd_memI (fun zI5 hzI5 => ?_)
          have hF := pd_let_at hF hzI5
          refine pd_aload_n C dX3_read_103 rfl rfl ?_
          refine gr_3_3 C wd_1_60 (pd_lt (by decide) hn) sh_6 (rf_6_3 _) dX3_read_104 ?_
          refine pd_iload C dX3_read_107 rfl ?_
          refine pd_iload C dX3_read_109 rfl ?_
          obtain ⟨zx8, hS, hF⟩ := pd_bd_some hF
          have hJ125 : pd_V cx 0 0 125 [some (.ref 6), some (.ref a0), some (.int p1), some (.ref a2), some (.int zx3), some (.int zx2), some (.int zx4), none, some (.int zr3), none, none] [.int zx8, .int zv1, .ref 10] zI5 J (pd_RF Z) n := by
            obtain ⟨zg2, hF⟩ := pd_gd_some hF
            refine pd_iast C (pd_lt (by decide) hn) sh_10 zg2 dX3_read_125 ?_
            refine pd_memI (fun zI6 hzI6 => ?_)
            have hF := pd_let_at hF hzI6
            refine pd_iload C dX3_read_126 rfl ?_
            refine pd_iload C dX3_read_128 rfl ?_
            obtain ⟨zx9, hS, hF⟩ := pd_bd_some hF
            have hJ138 : pd_V cx 0 0 138 [some (.ref 6), some (.ref a0), some (.int p1), some (.ref a2), none, some (.int zx2), some (.int zx4), none, none, none, none] [.int zx9, .int zx3] zI6 J (pd_RF Z) n := by
              refine pd_iadd C dX3_read_138 ?_
              refine pd_topi (fun zv3 hzv3 => ?_)
              have hF := pd_let_at hF hzv3
              refine pd_istore (ls' := [some (.ref 6), some (.ref a0), some (.int p1), some (.ref a2), some (.int zv3), some (.int zx2), some (.int zx4), none, none, none, none]) C dX3_read_139 (Nat.le_of_ble_eq_true rfl) rfl rfl ?_
              refine pd_iincG (zz := 1) C dX3_read_141 rfl (by decide) rfl (fun zv4 hzv4 => ?_)
              have hF := pd_let_at hF hzv4
              refine pd_lsE (ls' := [some (.ref 6), some (.ref a0), some (.int p1), some (.ref a2), some (.int zv3), some (.int zx2), some (.int zv4), none, none, none, none]) rfl ?_
              refine pd_goto (tgt := 19) C dX3_read_144 (by decide) ?_
              exact ih _ _ _ hF
            replace hF := hS
            clear hS
            refine pd_if_eq (tgt := 137) C dX3_read_130 (by decide) (fun zc1 => ?_) (fun zc1 => ?_)
            · have hF := pd_t zc1 hF
              refine pd_iconst (v := 0) C dX3_read_137 (by decide) ?_
              refine pd_wk (ls' := [some (.ref 6), some (.ref a0), some (.int p1), some (.ref a2), none, some (.int zx2), some (.int zx4), none, none, none, none]) (And.intro rfl (And.intro rfl (And.intro rfl (And.intro rfl (And.intro rfl (And.intro rfl True.intro)))))) ?_
              have hF := hF.symm
              cases hF
              exact hJ138
            · have hF := pd_f zc1 hF
              refine pd_iconst (v := 1) C dX3_read_133 (by decide) ?_
              refine pd_goto (tgt := 138) C dX3_read_134 (by decide) ?_
              refine pd_wk (ls' := [some (.ref 6), some (.ref a0), some (.int p1), some (.ref a2), none, some (.int zx2), some (.int zx4), none, none, none, none]) (And.intro rfl (And.intro rfl (And.intro rfl (And.intro rfl (And.intro rfl (And.intro rfl True.intro)))))) ?_
              have hF := hF.symm
              cases hF
              exact hJ138
          replace hF := hS
          clear hS
          refine pd_if_eq (tgt := 124) C dX3_read_111 (by decide) (fun zc2 => ?_) (fun zc2 => ?_)
          · have hF := pd_t zc2 hF
            refine pd_iconst (v := 0) C dX3_read_124 (by decide) ?_
            refine pd_wk (ls' := [some (.ref 6), some (.ref a0), some (.int p1), some (.ref a2), some (.int zx3), some (.int zx2), some (.int zx4), none, some (.int zr3), none, none]) (And.intro rfl (And.intro rfl (And.intro rfl (And.intro rfl (And.intro rfl (And.intro rfl (And.intro rfl (And.intro rfl True.intro)))))))) ?_
            have hF := hF.symm
            cases hF
            exact hJ125
          · have hF := pd_f zc2 hF
            refine pd_aload_n C dX3_read_114 rfl rfl ?_
            refine gr_3_1 C wd_1_56 (pd_lt (by decide) hn) sh_6 (rf_6_1 _) dX3_read_115 ?_
            refine pd_iload C dX3_read_118 rfl ?_
            obtain ⟨zg3, hF⟩ := pd_gd_some hF
            refine pd_iald C (pd_lt (by decide) hn) sh_8 zg3 dX3_read_120 ?_
            refine pd_goto (tgt := 125) C dX3_read_121 (by decide) ?_
            refine pd_wk (ls' := [some (.ref 6), some (.ref a0), some (.int p1), some (.ref a2), some (.int zx3), some (.int zx2), some (.int zx4), none, some (.int zr3), none, none]) (And.intro rfl (And.intro rfl (And.intro rfl (And.intro rfl (And.intro rfl (And.intro rfl (And.intro rfl (And.intro rfl True.intro)))))))) ?_
            have hF := hF.symm
            cases hF
            exact hJ125
        replace hF := hS
        clear hS
        refine pd_if_eq (tgt := 101) C dX3_read_88 (by decide) (fun zc3 => ?_) (fun zc3 => ?_)
        · have hF := pd_t zc3 hF
          refine pd_iconst (v := 0) C dX3_read_101 (by decide) ?_
          have hF := hF.symm
          cases hF
          exact hJ102
        · have hF := pd_f zc3 hF
          refine pd_aload_n C dX3_read_91 rfl rfl ?_
          refine gr_3_0 C wd_1_55 (pd_lt (by decide) hn) sh_6 (rf_6_0 _) dX3_read_92 ?_
          refine pd_iload C dX3_read_95 rfl ?_
          obtain ⟨zg4, hF⟩ := pd_gd_some hF
          refine pd_iald C (pd_lt (by decide) hn) sh_7 zg4 dX3_read_97 ?_
          refine pd_goto (tgt := 102) C dX3_read_98 (by decide) ?_
          have hF := hF.symm
          cases hF
          exact hJ102
      replace hF := hS
      clear hS
      obtain ⟨zc4, hS, hF⟩ := pd_bd_some hF
      have hTzc4 : zc4 = true → pd_V cx 0 0 62 [some (.ref 6), some (.ref a0), some (.int p1), some (.ref a2), some (.int zx3), some (.int zx2), some (.int zx4), some (.int zv1), some (.int zr3), none, none] [] zI3 J (pd_RF Z) n := by
        intro hc
        have hF := pd_t hc hF
        refine pd_iconst (v := 1) C dX3_read_62 (by decide) ?_
        refine pd_goto (tgt := 67) C dX3_read_63 (by decide) ?_
        have hF := hF.symm
        cases hF
        exact hJ67
      have hEzc4 : zc4 = false → pd_V cx 0 0 66 [some (.ref 6), some (.ref a0), some (.int p1), some (.ref a2), some (.int zx3), some (.int zx2), some (.int zx4), some (.int zv1), some (.int zr3), none, none] [] zI3 J (pd_RF Z) n := by
        intro hc
        have hF := pd_bf hc hF
        refine pd_iconst (v := 0) C dX3_read_66 (by decide) ?_
        have hF := hF.symm
        cases hF
        exact hJ67
      replace hF := hS
      clear hS
      refine pd_if_eq (tgt := 66) C dX3_read_50 (by decide) (fun zc6 => ?_) (fun zc6 => ?_)
      · have hF := pd_t zc6 hF
        cases hF
        exact hEzc4 rfl
      · have hF := pd_f zc6 hF
        refine pd_aload_n C dX3_read_53 rfl rfl ?_
        refine pd_iload C dX3_read_54 rfl ?_
        obtain ⟨zr5, zh5, hF⟩ := pd_bd_some hF
        refine pd_callV C [.int zx3] [] (em_X4_has (pd_C_st C) hn ha2 zh5) mw_X4_has wd_4_18 rfl (by decide) (pd_row_lt ha2 hn) (pd_row_sh ha2) ⟨by decide, by decide, by decide, by decide⟩ rfl (Nat.le_of_ble_eq_true rfl) pd_oldL_same (fun _ _ => pd_old_same _) dX3_read_56 (stk' := [.int zr5]) rfl ?_
        refine pd_if_eq (tgt := 66) C dX3_read_59 (by decide) (fun zc5 => ?_) (fun zc5 => ?_)
        · have hF := pd_t zc5 hF
          cases hF
          exact hEzc4 rfl
        · have hF := pd_f zc5 hF
          cases hF
          exact hTzc4 rfl
def fl_X3_read_6 {O : Type} (a0 : Nat) (p1 : Int32) (a2 : Nat) (kont : pd_I → Option O) : Nat → Int32 → Int32 → pd_I → Option O
  | 0, _, _, _ => none
  | fu + 1, zx1, zx2, zI1 => pd_bd (fn_X0_steps zI1 a0 p1) fun zr1 => if zr1 ≤ zx2 then kont zI1 else (fl_X3_read_19 a0 a2 zx2 (fun zx5 zI4 => pd_let (zx2 + 1) fun zv5 => fl_X3_read_6 a0 p1 a2 kont fu zx5 zv5 zI4) pd_FU zx1 0 zI1)
set_option maxRecDepth 100000 in
set_option maxHeartbeats 4000000 in
theorem el_X3_read_6 {cx : pd_X} (C : pd_C cx "PathDecoder$Received" cX3_read rm_X3_read) {a0 : Nat} {p1 : Int32} {a2 : Nat} {J : pd_J} {Z : pd_R} {n : Nat} (hn : 133 ≤ n) (ha0 : pd_isCode a0 n = true) (ha2 : pd_isRow a2 = true) {O : Type} {kont : pd_I → Option O} {out : O} (K : ∀ (zI2 : pd_I), kont zI2 = some out → pd_V cx 0 0 153 [none, none, none, none, none, none, none, none, none, none, none] [] zI2 J (pd_RF Z) n) :
    ∀ (fu : Nat) (zx1 : Int32) (zx2 : Int32) (zI1 : pd_I), fl_X3_read_6 a0 p1 a2 kont fu zx1 zx2 zI1 = some out → pd_V cx 0 0 6 [some (.ref 6), some (.ref a0), some (.int p1), some (.ref a2), some (.int zx1), some (.int zx2), none, none, none, none, none] [] zI1 J (pd_RF Z) n := by
  intro fu
  induction fu with
  | zero => intro zx1 zx2 zI1 hF; rw [fl_X3_read_6] at hF; cases hF
  | succ fu ih =>
    intro zx1 zx2 zI1 hF
    rw [fl_X3_read_6] at hF
    refine pd_iload C dX3_read_6 rfl ?_
    refine pd_aload_n C dX3_read_8 rfl rfl ?_
    refine pd_iload_n C dX3_read_9 rfl rfl ?_
    obtain ⟨zr1, zh1, hF⟩ := pd_bd_some hF
    refine pd_callV C [.int p1] [.int zx2] (em_X0_steps (pd_C_st C) hn ha0 zh1) mw_X0_steps wd_4_15 rfl (by decide) (pd_code_lt ha0) (pd_code_sh ha0) ⟨by decide, by decide, by decide, by decide⟩ rfl (Nat.le_of_ble_eq_true rfl) pd_oldL_same (fun _ _ => pd_old_same _) dX3_read_10 (stk' := [.int zr1, .int zx2]) rfl ?_
    refine pd_icmp_ge (tgt := 153) C dX3_read_13 (by decide) (fun zc8 => ?_) (fun zc8 => ?_)
    · have hF := pd_t zc8 hF
      refine pd_wk (ls' := [none, none, none, none, none, none, none, none, none, none, none]) True.intro ?_
      exact K _ hF
    · have hF := pd_f zc8 hF
      refine pd_iconst (v := 0) C dX3_read_16 (by decide) ?_
      refine pd_istore (ls' := [some (.ref 6), some (.ref a0), some (.int p1), some (.ref a2), some (.int zx1), some (.int zx2), some (.int 0), none, none, none, none]) C dX3_read_17 (Nat.le_of_ble_eq_true rfl) rfl rfl ?_
      refine el_X3_read_19 C hn ha0 ha2 (fun zx5 zI4 hF => ?_) pd_FU _ _ _ hF
      refine pd_iincG (zz := 1) C dX3_read_147 rfl (by decide) rfl (fun zv5 hzv5 => ?_)
      have hF := pd_let_at hF hzv5
      refine pd_lsE (ls' := [some (.ref 6), some (.ref a0), some (.int p1), some (.ref a2), some (.int zx5), some (.int zv5), none, none, none, none, none]) rfl ?_
      refine pd_goto (tgt := 6) C dX3_read_150 (by decide) ?_
      exact ih _ _ _ hF
def fn_X3_read (I : pd_I) (a0 : Nat) (p1 : Int32) (a2 : Nat) : Option pd_I := fl_X3_read_6 a0 p1 a2 (fun zI2 => some zI2) pd_FU 0 0 I
set_option maxRecDepth 100000 in
set_option maxHeartbeats 4000000 in
theorem em_X3_read {l : Launch} {D : va_G} {tc : Nat → ClassId} (hst : l.stackTraces = false) {I : pd_I} {J : pd_J} {Z : pd_R} {n : Nat} {a0 : Nat} {p1 : Int32} {a2 : Nat} (hn : 133 ≤ n) (ha0 : pd_isCode a0 n = true) (ha2 : pd_isRow a2 = true) {out : pd_I} (hF : fn_X3_read I a0 p1 a2 = some out) :
    pd_M l D tc yX3_read (.code yX3_read cX3_read 11 (Option.none : Option Jvm.ClassFile.FieldType)) rm_X3_read [.ref 6, .ref a0, .int p1, .ref a2] I J (pd_RF Z) n (.ok (none)) out J (pd_RF Z) n := by
  refine pd_open (own := "PathDecoder$Received") (ls0 := [some (.ref 6), some (.ref a0), some (.int p1), some (.ref a2), none, none, none, none, none, none, none]) (by decide) rfl (Nat.le_of_ble_eq_true rfl) rfl rfl hst (fun cx hl hD htc C hE htab hnm => ?_)
  subst hl hD htc
  unfold fn_X3_read at hF
  refine pd_iconst (v := 0) C dX3_read_0 (by decide) ?_
  refine pd_istore (ls' := [some (.ref 6), some (.ref a0), some (.int p1), some (.ref a2), some (.int 0), none, none, none, none, none, none]) C dX3_read_1 (Nat.le_of_ble_eq_true rfl) rfl rfl ?_
  refine pd_iconst (v := 0) C dX3_read_3 (by decide) ?_
  refine pd_istore (ls' := [some (.ref 6), some (.ref a0), some (.int p1), some (.ref a2), some (.int 0), some (.int 0), none, none, none, none, none]) C dX3_read_4 (Nat.le_of_ble_eq_true rfl) rfl rfl ?_
  refine el_X3_read_6 C hn ha0 ha2 (fun zI2 hF => ?_) pd_FU _ _ _ hF
  cases hF
  exact pd_vret C hE rfl ⟨by decide, by decide⟩ dX3_read_153

def fl_X3_costOf_19 {O : Type} (a1 : Nat) (zx2 : Int32) (I : pd_I) (kont : Int32 → Option O) : Nat → Int32 → Int32 → Option O
  | 0, _, _ => none
  | fu + 1, zx4, zx5 => pd_bd (fn_X0_width I a1) fun zr2 => if zr2 ≤ zx5 then kont zx4 else (pd_let ((zx2 * 7) + zx5) fun zv1 => pd_gd (pd_in zv1 1442) (pd_bd (if (I 5 zv1.toNatClampNeg) = 0 then pd_gd (pd_in zv1 1442) (some (I 9 zv1.toNatClampNeg)) else (pd_gd (pd_in zv1 1442) (some (I 10 zv1.toNatClampNeg)))) fun (zx7 : Int32) => pd_let (zx4 + zx7) fun zv2 => pd_let (zx5 + 1) fun zv3 => fl_X3_costOf_19 a1 zx2 I kont fu zv2 zv3))
set_option maxRecDepth 100000 in
set_option maxHeartbeats 4000000 in
theorem el_X3_costOf_19 {cx : pd_X} (C : pd_C cx "PathDecoder$Received" cX3_costOf rm_X3_costOf) {a1 : Nat} {p2 : Int32} {zx2 : Int32} {I : pd_I} {J : pd_J} {Z : pd_R} {n : Nat} (hn : 133 ≤ n) (ha1 : pd_isCode a1 n = true) {O : Type} {kont : Int32 → Option O} {out : O} (K : ∀ (zx6 : Int32), kont zx6 = some out → pd_V cx 0 0 76 [some (.ref 6), some (.ref 3), some (.ref a1), some (.int p2), some (.int zx6), some (.int zx2), none, none] [] I J (pd_RF Z) n) :
    ∀ (fu : Nat) (zx4 : Int32) (zx5 : Int32), fl_X3_costOf_19 a1 zx2 I kont fu zx4 zx5 = some out → pd_V cx 0 0 19 [some (.ref 6), some (.ref 3), some (.ref a1), some (.int p2), some (.int zx4), some (.int zx2), some (.int zx5), none] [] I J (pd_RF Z) n := by
  intro fu
  induction fu with
  | zero => intro zx4 zx5 hF; rw [fl_X3_costOf_19] at hF; cases hF
  | succ fu ih =>
    intro zx4 zx5 hF
    rw [fl_X3_costOf_19] at hF
    refine pd_iload C dX3_costOf_19 rfl ?_
    refine pd_aload_n C dX3_costOf_21 rfl rfl ?_
    obtain ⟨zr2, zh2, hF⟩ := pd_bd_some hF
    refine pd_callV C [] [.int zx5] (em_X0_width (pd_C_st C) hn ha1 zh2) mw_X0_width wd_4_16 rfl (by decide) (pd_code_lt ha1) (pd_code_sh ha1) ⟨by decide, by decide, by decide, by decide⟩ rfl (Nat.le_of_ble_eq_true rfl) pd_oldL_same (fun _ _ => pd_old_same _) dX3_costOf_22 (stk' := [.int zr2, .int zx5]) rfl ?_
    refine pd_icmp_ge (tgt := 76) C dX3_costOf_25 (by decide) (fun zc2 => ?_) (fun zc2 => ?_)
    · have hF := pd_t zc2 hF
      refine pd_wk (ls' := [some (.ref 6), some (.ref 3), some (.ref a1), some (.int p2), some (.int zx4), some (.int zx2), none, none]) (And.intro rfl (And.intro rfl (And.intro rfl (And.intro rfl (And.intro rfl (And.intro rfl True.intro)))))) ?_
      exact K _ hF
    · have hF := pd_f zc2 hF
      refine pd_iload C dX3_costOf_28 rfl ?_
      refine pd_bipush (v := 7) C dX3_costOf_30 (by decide) ?_
      refine pd_imul C dX3_costOf_32 ?_
      refine pd_iload C dX3_costOf_33 rfl ?_
      refine pd_iadd C dX3_costOf_35 ?_
      refine pd_topi (fun zv1 hzv1 => ?_)
      have hF := pd_let_at hF hzv1
      refine pd_istore (ls' := [some (.ref 6), some (.ref 3), some (.ref a1), some (.int p2), some (.int zx4), some (.int zx2), some (.int zx5), some (.int zv1)]) C dX3_costOf_36 (Nat.le_of_ble_eq_true rfl) rfl rfl ?_
      refine pd_iload C dX3_costOf_38 rfl ?_
      refine pd_aload_n C dX3_costOf_40 rfl rfl ?_
      refine gr_2_1 C wd_1_42 (pd_lt (by decide) hn) sh_3 (rf_3_1 _) dX3_costOf_41 ?_
      refine pd_iload C dX3_costOf_44 rfl ?_
      obtain ⟨zg1, hF⟩ := pd_gd_some hF
      refine pd_iald C (pd_lt (by decide) hn) sh_5 zg1 dX3_costOf_46 ?_
      obtain ⟨zx7, hS, hF⟩ := pd_bd_some hF
      have hJ67 : pd_V cx 0 0 67 [some (.ref 6), some (.ref 3), some (.ref a1), some (.int p2), none, some (.int zx2), some (.int zx5), none] [.int zx7, .int zx4] I J (pd_RF Z) n := by
        refine pd_iadd C dX3_costOf_67 ?_
        refine pd_topi (fun zv2 hzv2 => ?_)
        have hF := pd_let_at hF hzv2
        refine pd_istore (ls' := [some (.ref 6), some (.ref 3), some (.ref a1), some (.int p2), some (.int zv2), some (.int zx2), some (.int zx5), none]) C dX3_costOf_68 (Nat.le_of_ble_eq_true rfl) rfl rfl ?_
        refine pd_iincG (zz := 1) C dX3_costOf_70 rfl (by decide) rfl (fun zv3 hzv3 => ?_)
        have hF := pd_let_at hF hzv3
        refine pd_lsE (ls' := [some (.ref 6), some (.ref 3), some (.ref a1), some (.int p2), some (.int zv2), some (.int zx2), some (.int zv3), none]) rfl ?_
        refine pd_goto (tgt := 19) C dX3_costOf_73 (by decide) ?_
        exact ih _ _ hF
      replace hF := hS
      clear hS
      refine pd_if_ne (tgt := 60) C dX3_costOf_47 (by decide) (fun zc1 => ?_) (fun zc1 => ?_)
      · have hF := pd_f zc1 hF
        refine pd_aload_n C dX3_costOf_60 rfl rfl ?_
        refine gr_3_3 C wd_1_60 (pd_lt (by decide) hn) sh_6 (rf_6_3 _) dX3_costOf_61 ?_
        refine pd_iload C dX3_costOf_64 rfl ?_
        obtain ⟨zg2, hF⟩ := pd_gd_some hF
        refine pd_iald C (pd_lt (by decide) hn) sh_10 zg2 dX3_costOf_66 ?_
        refine pd_wk (ls' := [some (.ref 6), some (.ref 3), some (.ref a1), some (.int p2), none, some (.int zx2), some (.int zx5), none]) (And.intro rfl (And.intro rfl (And.intro rfl (And.intro rfl (And.intro rfl (And.intro rfl True.intro)))))) ?_
        have hF := hF.symm
        cases hF
        exact hJ67
      · have hF := pd_t zc1 hF
        refine pd_aload_n C dX3_costOf_50 rfl rfl ?_
        refine gr_3_2 C wd_1_57 (pd_lt (by decide) hn) sh_6 (rf_6_2 _) dX3_costOf_51 ?_
        refine pd_iload C dX3_costOf_54 rfl ?_
        obtain ⟨zg3, hF⟩ := pd_gd_some hF
        refine pd_iald C (pd_lt (by decide) hn) sh_9 zg3 dX3_costOf_56 ?_
        refine pd_goto (tgt := 67) C dX3_costOf_57 (by decide) ?_
        refine pd_wk (ls' := [some (.ref 6), some (.ref 3), some (.ref a1), some (.int p2), none, some (.int zx2), some (.int zx5), none]) (And.intro rfl (And.intro rfl (And.intro rfl (And.intro rfl (And.intro rfl (And.intro rfl True.intro)))))) ?_
        have hF := hF.symm
        cases hF
        exact hJ67
def fl_X3_costOf_6 {O : Type} (a1 : Nat) (p2 : Int32) (I : pd_I) (kont : Int32 → Option O) : Nat → Int32 → Int32 → Option O
  | 0, _, _ => none
  | fu + 1, zx1, zx2 => pd_bd (fn_X0_steps I a1 p2) fun zr1 => if zr1 ≤ zx2 then kont zx1 else (fl_X3_costOf_19 a1 zx2 I (fun zx6 => pd_let (zx2 + 1) fun zv4 => fl_X3_costOf_6 a1 p2 I kont fu zx6 zv4) pd_FU zx1 0)
set_option maxRecDepth 100000 in
set_option maxHeartbeats 4000000 in
theorem el_X3_costOf_6 {cx : pd_X} (C : pd_C cx "PathDecoder$Received" cX3_costOf rm_X3_costOf) {a1 : Nat} {p2 : Int32} {I : pd_I} {J : pd_J} {Z : pd_R} {n : Nat} (hn : 133 ≤ n) (ha1 : pd_isCode a1 n = true) {O : Type} {kont : Int32 → Option O} {out : O} (K : ∀ (zx3 : Int32), kont zx3 = some out → pd_V cx 0 0 82 [none, none, none, none, some (.int zx3), none, none, none] [] I J (pd_RF Z) n) :
    ∀ (fu : Nat) (zx1 : Int32) (zx2 : Int32), fl_X3_costOf_6 a1 p2 I kont fu zx1 zx2 = some out → pd_V cx 0 0 6 [some (.ref 6), some (.ref 3), some (.ref a1), some (.int p2), some (.int zx1), some (.int zx2), none, none] [] I J (pd_RF Z) n := by
  intro fu
  induction fu with
  | zero => intro zx1 zx2 hF; rw [fl_X3_costOf_6] at hF; cases hF
  | succ fu ih =>
    intro zx1 zx2 hF
    rw [fl_X3_costOf_6] at hF
    refine pd_iload C dX3_costOf_6 rfl ?_
    refine pd_aload_n C dX3_costOf_8 rfl rfl ?_
    refine pd_iload_n C dX3_costOf_9 rfl rfl ?_
    obtain ⟨zr1, zh1, hF⟩ := pd_bd_some hF
    refine pd_callV C [.int p2] [.int zx2] (em_X0_steps (pd_C_st C) hn ha1 zh1) mw_X0_steps wd_4_15 rfl (by decide) (pd_code_lt ha1) (pd_code_sh ha1) ⟨by decide, by decide, by decide, by decide⟩ rfl (Nat.le_of_ble_eq_true rfl) pd_oldL_same (fun _ _ => pd_old_same _) dX3_costOf_10 (stk' := [.int zr1, .int zx2]) rfl ?_
    refine pd_icmp_ge (tgt := 82) C dX3_costOf_13 (by decide) (fun zc3 => ?_) (fun zc3 => ?_)
    · have hF := pd_t zc3 hF
      refine pd_wk (ls' := [none, none, none, none, some (.int zx1), none, none, none]) (And.intro rfl True.intro) ?_
      exact K _ hF
    · have hF := pd_f zc3 hF
      refine pd_iconst (v := 0) C dX3_costOf_16 (by decide) ?_
      refine pd_istore (ls' := [some (.ref 6), some (.ref 3), some (.ref a1), some (.int p2), some (.int zx1), some (.int zx2), some (.int 0), none]) C dX3_costOf_17 (Nat.le_of_ble_eq_true rfl) rfl rfl ?_
      refine el_X3_costOf_19 C hn ha1 (fun zx6 hF => ?_) pd_FU _ _ hF
      refine pd_iincG (zz := 1) C dX3_costOf_76 rfl (by decide) rfl (fun zv4 hzv4 => ?_)
      have hF := pd_let_at hF hzv4
      refine pd_lsE (ls' := [some (.ref 6), some (.ref 3), some (.ref a1), some (.int p2), some (.int zx6), some (.int zv4), none, none]) rfl ?_
      refine pd_goto (tgt := 6) C dX3_costOf_79 (by decide) ?_
      exact ih _ _ hF
def fn_X3_costOf (I : pd_I) (a1 : Nat) (p2 : Int32) : Option Int32 := fl_X3_costOf_6 a1 p2 I (fun zx3 => some zx3) pd_FU 0 0
set_option maxRecDepth 100000 in
set_option maxHeartbeats 4000000 in
theorem em_X3_costOf {l : Launch} {D : va_G} {tc : Nat → ClassId} (hst : l.stackTraces = false) {I : pd_I} {J : pd_J} {Z : pd_R} {n : Nat} {a1 : Nat} {p2 : Int32} (hn : 133 ≤ n) (ha1 : pd_isCode a1 n = true) {out : Int32} (hF : fn_X3_costOf I a1 p2 = some out) :
    pd_M l D tc yX3_costOf (.code yX3_costOf cX3_costOf 8 (Option.some Jvm.ClassFile.FieldType.int)) rm_X3_costOf [.ref 6, .ref 3, .ref a1, .int p2] I J (pd_RF Z) n (.ok (some (.int out))) I J (pd_RF Z) n := by
  refine pd_open (own := "PathDecoder$Received") (ls0 := [some (.ref 6), some (.ref 3), some (.ref a1), some (.int p2), none, none, none, none]) (by decide) rfl (Nat.le_of_ble_eq_true rfl) rfl rfl hst (fun cx hl hD htc C hE htab hnm => ?_)
  subst hl hD htc
  unfold fn_X3_costOf at hF
  refine pd_iconst (v := 0) C dX3_costOf_0 (by decide) ?_
  refine pd_istore (ls' := [some (.ref 6), some (.ref 3), some (.ref a1), some (.int p2), some (.int 0), none, none, none]) C dX3_costOf_1 (Nat.le_of_ble_eq_true rfl) rfl rfl ?_
  refine pd_iconst (v := 0) C dX3_costOf_3 (by decide) ?_
  refine pd_istore (ls' := [some (.ref 6), some (.ref 3), some (.ref a1), some (.int p2), some (.int 0), some (.int 0), none, none]) C dX3_costOf_4 (Nat.le_of_ble_eq_true rfl) rfl rfl ?_
  refine el_X3_costOf_6 C hn ha1 (fun zx3 hF => ?_) pd_FU _ _ hF
  refine pd_iload C dX3_costOf_82 rfl ?_
  cases hF
  exact pd_iret C hE rfl rfl rfl ⟨by decide, by decide⟩ dX3_costOf_84

def fn_X11_cost (I : pd_I) (Z : pd_R) (n : Nat) (p0 : Int32) (p1 : Int32) (p2 : Int32) (p3 : Int32) : Option (Except String (Int32 × pd_I)) := pd_bx (fn_X11_codeOf I Z n p0) fun zq1 => pd_gd (pd_isCode zq1 n) (pd_bx (fn_X11_rowOf Z n p1) fun zq2 => pd_gd (pd_isRow zq2) (pd_bx (fn_X11_rowOf Z n p3) fun zq3 => pd_gd (pd_isRow zq3) (pd_bx (fn_X11_demandBitCount p2) fun _ => pd_bd2 (fn_X2_encode I zq1 zq2 p2) fun zr1 zI1 => if zr1 = 0 then some (.ok ((-1), zI1)) else (pd_bd (fn_X3_read zI1 zq1 p2 zq3) fun zI2 => pd_bd (fn_X3_costOf zI2 zq1 p2) fun zr2 => some (.ok (zr2, zI2))))))
set_option maxRecDepth 100000 in
set_option maxHeartbeats 4000000 in
theorem em_X11_cost {l : Launch} {D : va_G} {tc : Nat → ClassId} (hst : l.stackTraces = false) {I : pd_I} {J : pd_J} {Z : pd_R} {n : Nat} {p0 : Int32} {p1 : Int32} {p2 : Int32} {p3 : Int32} (hn : 133 ≤ n)  {out : Except String (Int32 × pd_I)} (hF : fn_X11_cost I Z n p0 p1 p2 p3 = some out) :
    pd_M l D tc yX11_cost (.code yX11_cost cX11_cost 8 (Option.some Jvm.ClassFile.FieldType.int)) rm_X11_cost [.ref 0, .int p0, .int p1, .int p2, .int p3] I J (pd_RF Z) n (pd_oo (fun (p : Int32 × pd_I) => some (.int p.1)) out) (pd_os (fun (p : Int32 × pd_I) => p.2) I out) J (pd_RF Z) n := by
  refine pd_open (own := "PathDecoder") (ls0 := [some (.ref 0), some (.int p0), some (.int p1), some (.int p2), some (.int p3), none, none, none]) (by decide) rfl (Nat.le_of_ble_eq_true rfl) rfl rfl hst (fun cx hl hD htc C hE htab hnm => ?_)
  subst hl hD htc
  unfold fn_X11_cost at hF
  refine pd_aload_n C dX11_cost_0 rfl rfl ?_
  refine pd_iload_n C dX11_cost_1 rfl rfl ?_
  rcases pd_bx_some hF with ⟨e9, zh1, he9⟩ | ⟨zq1, zh1, hF⟩
  · subst he9
    exact pd_callVX C [.int p0] [] (em_X11_codeOf (pd_C_st C) hn  zh1) mw_X11_codeOf wd_3_100 rfl (by decide) (pd_lt (by decide) hn) sh_0 ⟨by decide, by decide, by decide, by decide⟩ rfl (Nat.le_of_ble_eq_true rfl) dX11_cost_2 (pd_prop C hE rfl htab ⟨by decide, by decide⟩)
  obtain ⟨zg1, hF⟩ := pd_gd_some hF
  refine pd_callV C [.int p0] [] (em_X11_codeOf (pd_C_st C) hn  zh1) mw_X11_codeOf wd_3_100 rfl (by decide) (pd_lt (by decide) hn) sh_0 ⟨by decide, by decide, by decide, by decide⟩ rfl (Nat.le_of_ble_eq_true rfl) pd_oldL_same (fun _ _ => pd_old_same _) dX11_cost_2 (stk' := [.ref zq1]) rfl ?_
  refine pd_astore (ls' := [some (.ref 0), some (.int p0), some (.int p1), some (.int p2), some (.int p3), some (.ref zq1), none, none]) C dX11_cost_5 (Nat.le_of_ble_eq_true rfl) rfl rfl ?_
  refine pd_aload_n C dX11_cost_7 rfl rfl ?_
  refine pd_iload_n C dX11_cost_8 rfl rfl ?_
  rcases pd_bx_some hF with ⟨e9, zh2, he9⟩ | ⟨zq2, zh2, hF⟩
  · subst he9
    exact pd_callVX C [.int p1] [] (em_X11_rowOf (pd_C_st C) hn  zh2) mw_X11_rowOf wd_2_88 rfl (by decide) (pd_lt (by decide) hn) sh_0 ⟨by decide, by decide, by decide, by decide⟩ rfl (Nat.le_of_ble_eq_true rfl) dX11_cost_9 (pd_prop C hE rfl htab ⟨by decide, by decide⟩)
  obtain ⟨zg2, hF⟩ := pd_gd_some hF
  refine pd_callV C [.int p1] [] (em_X11_rowOf (pd_C_st C) hn  zh2) mw_X11_rowOf wd_2_88 rfl (by decide) (pd_lt (by decide) hn) sh_0 ⟨by decide, by decide, by decide, by decide⟩ rfl (Nat.le_of_ble_eq_true rfl) pd_oldL_same (fun _ _ => pd_old_same _) dX11_cost_9 (stk' := [.ref zq2]) rfl ?_
  refine pd_astore (ls' := [some (.ref 0), some (.int p0), some (.int p1), some (.int p2), some (.int p3), some (.ref zq1), some (.ref zq2), none]) C dX11_cost_12 (Nat.le_of_ble_eq_true rfl) rfl rfl ?_
  refine pd_aload_n C dX11_cost_14 rfl rfl ?_
  refine pd_iload C dX11_cost_15 rfl ?_
  rcases pd_bx_some hF with ⟨e9, zh3, he9⟩ | ⟨zq3, zh3, hF⟩
  · subst he9
    exact pd_callVX C [.int p3] [] (em_X11_rowOf (pd_C_st C) hn  zh3) mw_X11_rowOf wd_2_88 rfl (by decide) (pd_lt (by decide) hn) sh_0 ⟨by decide, by decide, by decide, by decide⟩ rfl (Nat.le_of_ble_eq_true rfl) dX11_cost_17 (pd_prop C hE rfl htab ⟨by decide, by decide⟩)
  obtain ⟨zg3, hF⟩ := pd_gd_some hF
  refine pd_callV C [.int p3] [] (em_X11_rowOf (pd_C_st C) hn  zh3) mw_X11_rowOf wd_2_88 rfl (by decide) (pd_lt (by decide) hn) sh_0 ⟨by decide, by decide, by decide, by decide⟩ rfl (Nat.le_of_ble_eq_true rfl) pd_oldL_same (fun _ _ => pd_old_same _) dX11_cost_17 (stk' := [.ref zq3]) rfl ?_
  refine pd_astore (ls' := [some (.ref 0), some (.int p0), some (.int p1), some (.int p2), some (.int p3), some (.ref zq1), some (.ref zq2), some (.ref zq3)]) C dX11_cost_20 (Nat.le_of_ble_eq_true rfl) rfl rfl ?_
  refine pd_iload_n C dX11_cost_22 rfl rfl ?_
  rcases pd_bx_some hF with ⟨e9, zh4, he9⟩ | ⟨_, zh4, hF⟩
  · subst he9
    exact pd_callSX C [.int p2] [] (em_X11_demandBitCount (pd_C_st C) hn  zh4) mw_X11_demandBitCount wd_3_154 ⟨by decide, by decide, by decide, by decide⟩ rfl (Nat.le_of_ble_eq_true rfl) dX11_cost_23 (pd_prop C hE rfl htab ⟨by decide, by decide⟩)
  refine pd_callS C [.int p2] [] (em_X11_demandBitCount (pd_C_st C) hn  zh4) mw_X11_demandBitCount wd_3_154 ⟨by decide, by decide, by decide, by decide⟩ rfl (Nat.le_of_ble_eq_true rfl) pd_oldL_same (fun _ _ => pd_old_same _) dX11_cost_23 (stk' := []) rfl ?_
  refine pd_aload_n C dX11_cost_26 rfl rfl ?_
  refine gr_11_3 C wd_2_35 (pd_lt (by decide) hn) sh_0 (rf_0_3 _) dX11_cost_27 ?_
  refine pd_aload C dX11_cost_30 rfl ?_
  refine pd_aload C dX11_cost_32 rfl ?_
  refine pd_iload_n C dX11_cost_34 rfl rfl ?_
  obtain ⟨zr1, zI1, zh5, hF⟩ := pd_bd2_some hF
  refine pd_callV C [.ref zq1, .ref zq2, .int p2] [] (em_X2_encode (pd_C_st C) hn zg1 zg2 zh5) mw_X2_encode wd_3_158 rfl (by decide) (pd_lt (by decide) hn) sh_3 ⟨by decide, by decide, by decide, by decide⟩ rfl (Nat.le_of_ble_eq_true rfl) pd_oldL_same (fun _ _ => pd_old_same _) dX11_cost_35 (stk' := [.int zr1]) rfl ?_
  refine pd_if_ne (tgt := 43) C dX11_cost_38 (by decide) (fun zc1 => ?_) (fun zc1 => ?_)
  · have hF := pd_f zc1 hF
    refine pd_aload_n C dX11_cost_43 rfl rfl ?_
    refine gr_11_4 C wd_2_36 (pd_lt (by decide) hn) sh_0 (rf_0_4 _) dX11_cost_44 ?_
    refine pd_aload C dX11_cost_47 rfl ?_
    refine pd_iload_n C dX11_cost_49 rfl rfl ?_
    refine pd_aload C dX11_cost_50 rfl ?_
    obtain ⟨zI2, zh6, hF⟩ := pd_bd_some hF
    refine pd_callV C [.ref zq1, .int p2, .ref zq3] [] (em_X3_read (pd_C_st C) hn zg1 zg3 zh6) mw_X3_read wd_4_11 rfl (by decide) (pd_lt (by decide) hn) sh_6 ⟨by decide, by decide, by decide, by decide⟩ rfl (Nat.le_of_ble_eq_true rfl) pd_oldL_same (fun _ _ => pd_old_same _) dX11_cost_52 (stk' := []) rfl ?_
    refine pd_aload_n C dX11_cost_55 rfl rfl ?_
    refine gr_11_4 C wd_2_36 (pd_lt (by decide) hn) sh_0 (rf_0_4 _) dX11_cost_56 ?_
    refine pd_aload_n C dX11_cost_59 rfl rfl ?_
    refine gr_11_3 C wd_2_35 (pd_lt (by decide) hn) sh_0 (rf_0_3 _) dX11_cost_60 ?_
    refine pd_aload C dX11_cost_63 rfl ?_
    refine pd_iload_n C dX11_cost_65 rfl rfl ?_
    obtain ⟨zr2, zh7, hF⟩ := pd_bd_some hF
    refine pd_callV C [.ref 3, .ref zq1, .int p2] [] (em_X3_costOf (pd_C_st C) hn zg1 zh7) mw_X3_costOf wd_4_20 rfl (by decide) (pd_lt (by decide) hn) sh_6 ⟨by decide, by decide, by decide, by decide⟩ rfl (Nat.le_of_ble_eq_true rfl) pd_oldL_same (fun _ _ => pd_old_same _) dX11_cost_66 (stk' := [.int zr2]) rfl ?_
    cases hF
    exact pd_iret C hE rfl rfl rfl ⟨by decide, by decide⟩ dX11_cost_69
  · have hF := pd_t zc1 hF
    refine pd_iconst (v := (-1)) C dX11_cost_41 (by decide) ?_
    cases hF
    exact pd_iret C hE rfl rfl rfl ⟨by decide, by decide⟩ dX11_cost_42

