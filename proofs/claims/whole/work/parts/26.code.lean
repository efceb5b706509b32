theorem pd_code_F {Z : pd_R} {n c : Nat} (hn : 133 ≤ n) (h3 : (n - 133) % 3 = 0) : ∀ b, b < n + 3 → pd_ur (fc_X0_init n (pd_zf (pd_RF Z) n)) 2 c (some n) b = pd_RF (pd_ur Z 2 c (some n)) b := by
  intro b hb
  funext j
  have e0 : ¬ n = 2 := by omega
  have e00 : ¬ n = 0 := by omega
  have e1 : ¬ n = 1 := by omega
  have hdy : ∀ x k, 133 ≤ x → pd_dy x k = false := fun x k hx => by
    have a1 : ¬ x = 2 := by omega
    have a2 : ¬ x = 17 := by omega
    have a3 : ¬ x = 36 := by omega
    have a4 : ¬ x = 43 := by omega
    simp [pd_dy, a1, a2, a3, a4]
  by_cases h2 : b = 2
  · subst h2
    have a1 : ¬ (2 : Nat) = n := by omega
    have a2 : ¬ (2 : Nat) = n + 1 := by omega
    have a3 : ¬ (2 : Nat) = n + 1 + 1 := by omega
    by_cases hj : j = c <;> simp [pd_ur, fc_X0_init, pd_zf, va_up, pd_RF, pd_dy, a1, a2, a3, hj, e00]
  · by_cases hb0 : b = n
    · subst hb0
      have a2 : ¬ b = b + 1 := by omega
      have a3 : ¬ b = b + 1 + 1 := by omega
      have l1 : ¬ b < 133 := by omega
      by_cases j3 : j = 3
      · subst j3; simp [pd_ur, fc_X0_init, pd_zf, va_up, pd_RF, pd_R0, hdy b _ hn, h2, a3, l1, h3]
      · by_cases j7 : j = 7
        · subst j7; simp [pd_ur, fc_X0_init, pd_zf, va_up, pd_RF, pd_R0, hdy b _ hn, h2, a3, l1, h3]
        · simp [pd_ur, fc_X0_init, pd_zf, va_up, pd_RF, pd_R0, hdy b _ hn, h2, a3, l1, h3, j3, j7]
    · by_cases hb1 : b = n + 1
      · subst hb1
        have l1 : ¬ n + 1 < 133 := by omega
        have m1 : ¬ (n - 132) % 3 = 0 := by omega
        simp [pd_ur, fc_X0_init, pd_zf, va_up, pd_RF, pd_R0, hdy (n + 1) _ (by omega), h2, l1, m1]
      · by_cases hb2 : b = n + 1 + 1
        · subst hb2
          have l1 : ¬ n + 1 + 1 < 133 := by omega
          have m1 : ¬ (n - 131) % 3 = 0 := by omega
          simp [pd_ur, fc_X0_init, pd_zf, va_up, pd_RF, pd_R0, hdy (n + 1 + 1) _ (by omega), h2, l1, m1, hb0]
        · have z : b ≠ 2 := h2
          simp [pd_ur, fc_X0_init, pd_zf, pd_RF, h2, hb0, hb1, hb2]
abbrev rm_X11_code : Room := { frames := 6, cells := 6, slots := 38, locals := 90 }
theorem mw_X11_code : pd_mv yX11_code cX11_code 4 (Option.some Jvm.ClassFile.FieldType.int) 3 := ⟨wd_3_45, wd_3_46, wd_1_1, wd_3_47, (by decide +kernel)⟩
abbrev rm_L_code : Room := { frames := 7, cells := 6, slots := 38, locals := 113 }
theorem mw_L_code : pd_mw yL_code cL_code 6 (Option.some Jvm.ClassFile.FieldType.int) [(0, 12, 15, 15)] 5 := ⟨wd_3_42, wd_1_0, wd_3_43, (by decide +kernel)⟩
def fn_X11_code (I : pd_I) (J : pd_J) (Z : pd_R) (n : Nat) (p0 : Int32) (p1 : Int32) (p2 : Int32) : Option (Except String (Int32 × pd_I × pd_J × pd_R × Nat)) := pd_jn (fun (_ : Unit) => some (.error "java/lang/IllegalArgumentException")) fun zj1 => if p0 < 0 then zj1 () else (if p0 ≤ 5 then pd_jn (fun (_ : Unit) => some (.error "java/lang/IllegalArgumentException")) fun zj2 => if p1 < 1 then zj2 () else (if p1 ≤ 6 then pd_jn (fun (_ : Unit) => some (.error "java/lang/IllegalArgumentException")) fun zj3 => if p2 < 2 then zj3 () else (if p2 ≤ 4 then if (I 0 2) < 12 then pd_gd (pd_in (I 0 2) 12) (pd_let (ic_X0_init n p0 p1 p2 (pd_zi I n)) fun zI1 => pd_let (jc_X0_init n (pd_zj J n)) fun zJ1 => pd_let (pd_ur Z 2 (I 0 2).toNatClampNeg (some n)) fun zZ1 => pd_let (n + 3) fun zn1 => pd_let (pd_ui zI1 0 2 ((zI1 0 2) + 1)) fun zI2 => some (.ok (((zI2 0 2) - 1), zI2, zJ1, zZ1, zn1))) else (some (.ok ((-1), I, J, Z, n))) else (zj3 ())) else (zj2 ())) else (zj1 ()))
theorem em_X11_code {l : Launch} {D : va_G} {tc : Nat → ClassId} (hst : l.stackTraces = false) {I : pd_I} {J : pd_J} {Z : pd_R} {n : Nat} {p0 : Int32} {p1 : Int32} {p2 : Int32} (hn : 133 ≤ n) (hfr : pd_fr (pd_RF Z) n) (hn3 : (n - 133) % 3 = 0) {out : Except String (Int32 × pd_I × pd_J × pd_R × Nat)} (hF : fn_X11_code I J Z n p0 p1 p2 = some out) :
    pd_M l D tc yX11_code (.code yX11_code cX11_code 4 (Option.some Jvm.ClassFile.FieldType.int)) rm_X11_code [.ref 0, .int p0, .int p1, .int p2] I J (pd_RF Z) n (pd_oo (fun (p : Int32 × pd_I × pd_J × pd_R × Nat) => some (.int p.1)) out) (pd_os (fun (p : Int32 × pd_I × pd_J × pd_R × Nat) => p.2.1) I out) (pd_os (fun (p : Int32 × pd_I × pd_J × pd_R × Nat) => p.2.2.1) J out) (pd_RF (pd_os (fun (p : Int32 × pd_I × pd_J × pd_R × Nat) => p.2.2.2.1) Z out)) (pd_os (fun (p : Int32 × pd_I × pd_J × pd_R × Nat) => p.2.2.2.2) n out) := by
  refine pd_open (own := "PathDecoder") (ls0 := [some (.ref 0), some (.int p0), some (.int p1), some (.int p2)]) (by decide) rfl (Nat.le_of_ble_eq_true rfl) rfl rfl hst (fun cx hl hD htc C hE htab hnm => ?_)
  subst hl hD htc
  unfold fn_X11_code at hF
  refine pd_iload_n C dX11_code_0 rfl rfl ?_
  refine pd_jn_use hF (fun j => ∀ (_u : Unit), j _u = some out → pd_V cx 0 0 9 [none, none, none, none] [] I J (pd_RF Z) n) (fun _u hF => ?_) (fun zj1 hzj1 hF => ?_)
  · cases hF
    exact pd_throw (ik := 103) C hE rfl htab pd_tw1 wd_2_159 wd_1_17 (List.mem_of_getElem? (i := 6) rfl) dX11_code_9 dX11_code_12 dX11_code_13 dX11_code_15 dX11_code_18 ⟨by decide, Nat.le_of_ble_eq_true rfl, by decide, by decide⟩
  · refine pd_if_lt (tgt := 9) C dX11_code_1 (by decide) (fun zc7 => ?_) (fun zc7 => ?_)
    · have hF := pd_t zc7 hF
      refine pd_wk (ls' := [none, none, none, none]) True.intro ?_
      exact hzj1 _ hF
    · have hF := pd_f zc7 hF
      refine pd_iload_n C dX11_code_4 rfl rfl ?_
      refine pd_iconst (v := 5) C dX11_code_5 (by decide) ?_
      refine pd_icmp_le (tgt := 19) C dX11_code_6 (by decide) (fun zc6 => ?_) (fun zc6 => ?_)
      · have hF := pd_t zc6 hF
        refine pd_iload_n C dX11_code_19 rfl rfl ?_
        refine pd_iconst (v := 1) C dX11_code_20 (by decide) ?_
        refine pd_jn_use hF (fun j => ∀ (_u : Unit), j _u = some out → pd_V cx 0 0 30 [none, none, none, none] [] I J (pd_RF Z) n) (fun _u hF => ?_) (fun zj2 hzj2 hF => ?_)
        · cases hF
          exact pd_throw (ik := 103) C hE rfl htab pd_tw1 wd_2_159 wd_1_17 (List.mem_of_getElem? (i := 7) rfl) dX11_code_30 dX11_code_33 dX11_code_34 dX11_code_36 dX11_code_39 ⟨by decide, Nat.le_of_ble_eq_true rfl, by decide, by decide⟩
        · refine pd_icmp_lt (tgt := 30) C dX11_code_21 (by decide) (fun zc5 => ?_) (fun zc5 => ?_)
          · have hF := pd_t zc5 hF
            refine pd_wk (ls' := [none, none, none, none]) True.intro ?_
            exact hzj2 _ hF
          · have hF := pd_f zc5 hF
            refine pd_iload_n C dX11_code_24 rfl rfl ?_
            refine pd_bipush (v := 6) C dX11_code_25 (by decide) ?_
            refine pd_icmp_le (tgt := 40) C dX11_code_27 (by decide) (fun zc4 => ?_) (fun zc4 => ?_)
            · have hF := pd_t zc4 hF
              refine pd_iload_n C dX11_code_40 rfl rfl ?_
              refine pd_iconst (v := 2) C dX11_code_41 (by decide) ?_
              refine pd_jn_use hF (fun j => ∀ (_u : Unit), j _u = some out → pd_V cx 0 0 50 [none, none, none, none] [] I J (pd_RF Z) n) (fun _u hF => ?_) (fun zj3 hzj3 hF => ?_)
              · cases hF
                exact pd_throw (ik := 103) C hE rfl htab pd_tw1 wd_2_159 wd_1_17 (List.mem_of_getElem? (i := 8) rfl) dX11_code_50 dX11_code_53 dX11_code_54 dX11_code_56 dX11_code_59 ⟨by decide, Nat.le_of_ble_eq_true rfl, by decide, by decide⟩
              · refine pd_icmp_lt (tgt := 50) C dX11_code_42 (by decide) (fun zc3 => ?_) (fun zc3 => ?_)
                · have hF := pd_t zc3 hF
                  refine pd_wk (ls' := [none, none, none, none]) True.intro ?_
                  exact hzj3 _ hF
                · have hF := pd_f zc3 hF
                  refine pd_iload_n C dX11_code_45 rfl rfl ?_
                  refine pd_iconst (v := 4) C dX11_code_46 (by decide) ?_
                  refine pd_icmp_le (tgt := 60) C dX11_code_47 (by decide) (fun zc2 => ?_) (fun zc2 => ?_)
                  · have hF := pd_t zc2 hF
                    refine pd_aload_n C dX11_code_60 rfl rfl ?_
                    refine gi_11_2 C wd_2_34 (pd_lt (by decide) hn) sh_0 dX11_code_61 ?_
                    refine pd_bipush (v := 12) C dX11_code_64 (by decide) ?_
                    refine pd_icmp_lt (tgt := 71) C dX11_code_66 (by decide) (fun zc1 => ?_) (fun zc1 => ?_)
                    · have hF := pd_t zc1 hF
                      refine pd_aload_n C dX11_code_71 rfl rfl ?_
                      refine gr_11_1 C wd_2_33 (pd_lt (by decide) hn) sh_0 (rf_0_1 _) dX11_code_72 ?_
                      refine pd_aload_n C dX11_code_75 rfl rfl ?_
                      refine gi_11_2 C wd_2_34 (pd_lt (by decide) hn) sh_0 dX11_code_76 ?_
                      have hcd : pd_isCode n (n + 3) = true := decide_eq_true ⟨hn, hn3, by omega⟩
                      refine pd_newO (t := 0) (N := 8) (T := TX0) (ty0 := tyX0) C rfl fw_0 tyX0_ok (by decide) (by decide) wd_1_32 wd_3_51 wd_1_20 (pd_code_sh hcd) (pd_fr_hF hfr) (pd_oLr (by omega) (pd_oLi (pd_oLi (pd_oLi pd_oL0)))) (pd_oSi (pd_oSr (by omega) pd_oS0)) ⟨by decide, by decide⟩ dX11_code_79 ?_
                      refine pd_dup C dX11_code_82 rfl ?_
                      refine pd_iload_n C dX11_code_83 rfl rfl ?_
                      refine pd_iload_n C dX11_code_84 rfl rfl ?_
                      refine pd_iload_n C dX11_code_85 rfl rfl ?_
                      refine pd_callI C [.int p0, .int p1, .int p2] [.ref n, .int (I 0 2), .ref 2] (I' := ic_X0_init n p0 p1 p2 (pd_zi I n)) (J' := jc_X0_init n (pd_zj J n)) (F' := fc_X0_init n (pd_zf (pd_RF Z) n)) (n' := n + 3) (ec_X0_init (pd_C_st C) hcd (pd_fr_z hfr)) mi_X0_init wd_3_52 ⟨by decide, by decide, by decide, by decide⟩ rfl (Nat.le_of_ble_eq_true rfl) (pd_oLr (by omega) (pd_oLi (pd_oLi (pd_oLi pd_oL0)))) (pd_oSr (by omega) (pd_oSi (pd_oSr (by omega) pd_oS0))) dX11_code_86 (stk' := [.ref n, .int (I 0 2), .ref 2]) rfl ?_
                      obtain ⟨zg1, hF⟩ := pd_gd_some hF
                      refine pd_aast C (by omega) sh_2 (by omega) (pd_code_sh hcd) rfl zg1 dX11_code_89 ?_
                      refine pd_FE (pd_code_F hn hn3) ?_
                      refine pd_memI (fun zI1 hzI1 => ?_)
                      have hF := pd_let_at hF hzI1
                      refine pd_memJ (fun zJ1 hzJ1 => ?_)
                      have hF := pd_let_at hF hzJ1
                      refine pd_memZ (fun zZ1 hzZ1 => ?_)
                      have hF := pd_let_at hF hzZ1
                      refine pd_memn (fun zn1 hzn1 => ?_)
                      have hF := pd_let_at hF hzn1
                      have hn : 133 ≤ zn1 := by omega
                      refine pd_aload_n C dX11_code_90 rfl rfl ?_
                      refine pd_dup C dX11_code_91 rfl ?_
                      refine gi_11_2 C wd_2_34 (pd_lt (by decide) hn) sh_0 dX11_code_92 ?_
                      refine pd_iconst (v := 1) C dX11_code_95 (by decide) ?_
                      refine pd_iadd C dX11_code_96 ?_
                      refine pi_11_2 C wd_2_34 rfl rfl (pd_lt (by decide) hn) sh_0 dX11_code_97 ?_
                      refine pd_memI (fun zI2 hzI2 => ?_)
                      have hF := pd_let_at hF hzI2
                      refine pd_aload_n C dX11_code_100 rfl rfl ?_
                      refine gi_11_2 C wd_2_34 (pd_lt (by decide) hn) sh_0 dX11_code_101 ?_
                      refine pd_iconst (v := 1) C dX11_code_104 (by decide) ?_
                      refine pd_isub C dX11_code_105 ?_
                      cases hF
                      exact pd_iret C hE rfl rfl rfl ⟨by decide, by decide⟩ dX11_code_106
                    · have hF := pd_f zc1 hF
                      refine pd_iconst (v := (-1)) C dX11_code_69 (by decide) ?_
                      cases hF
                      exact pd_iret C hE rfl rfl rfl ⟨by decide, by decide⟩ dX11_code_70
                  · have hF := pd_f zc2 hF
                    refine pd_wk (ls' := [none, none, none, none]) True.intro ?_
                    exact hzj3 _ hF
            · have hF := pd_f zc4 hF
              refine pd_wk (ls' := [none, none, none, none]) True.intro ?_
              exact hzj2 _ hF
      · have hF := pd_f zc6 hF
        refine pd_wk (ls' := [none, none, none, none]) True.intro ?_
        exact hzj1 _ hF
def fn_L_code (I : pd_I) (J : pd_J) (Z : pd_R) (n : Nat) (p1 : Int32) (p2 : Int32) (p3 : Int32) : Option (Int32 × pd_I × pd_J × pd_R × Nat) := pd_bc5 (fn_X11_code I J Z n p1 p2 p3) (fun ze => if ze = "java/lang/IllegalArgumentException" then some (1, I, J, Z, n) else (none)) fun zr1 zI1 zJ1 zZ1 zn1 => pd_gd (decide (133 ≤ zn1)) (pd_gd (pd_in 0 1) (pd_let (pd_uj zJ1 132 (0 : Int32).toNatClampNeg zr1.toInt64) fun zJ2 => some (0, zI1, zJ2, zZ1, zn1)))
theorem em_L_code {l : Launch} {D : va_G} {tc : Nat → ClassId} (hst : l.stackTraces = false) {I : pd_I} {J : pd_J} {Z : pd_R} {n : Nat} {p1 : Int32} {p2 : Int32} {p3 : Int32} (hn : 133 ≤ n) (hfr : pd_fr (pd_RF Z) n) (hn3 : (n - 133) % 3 = 0) {out : Int32 × pd_I × pd_J × pd_R × Nat} (hF : fn_L_code I J Z n p1 p2 p3 = some out) :
    pd_M l D tc yL_code (.codeWith yL_code cL_code 6 (Option.some Jvm.ClassFile.FieldType.int) [(0, 12, 15, 15)]) rm_L_code [.ref 0, .int p1, .int p2, .int p3, .ref 132] I J (pd_RF Z) n (.ok (some (.int out.1))) out.2.1 out.2.2.1 (pd_RF out.2.2.2.1) out.2.2.2.2 := by
  refine pd_openH (own := "PathDecoderLaw") (ls0 := [some (.ref 0), some (.int p1), some (.int p2), some (.int p3), some (.ref 132), none]) (by decide) rfl (Nat.le_of_ble_eq_true rfl) rfl rfl hst (fun cx hl hD htc C hE htab => ?_)
  subst hl hD htc
  unfold fn_L_code at hF
  refine pd_aload C dL_code_0 rfl ?_
  refine pd_iconst (v := 0) C dL_code_2 (by decide) ?_
  refine pd_aload_n C dL_code_3 rfl rfl ?_
  refine pd_iload_n C dL_code_4 rfl rfl ?_
  refine pd_iload_n C dL_code_5 rfl rfl ?_
  refine pd_iload_n C dL_code_6 rfl rfl ?_
  rcases pd_bc5_some hF with ⟨e9, zh1, hF⟩ | ⟨zr1, zI1, zJ1, zZ1, zn1, zh1, hF⟩
  · have hF := hF
    by_cases he0 : e9 = "java/lang/IllegalArgumentException"
    · subst he0
      have hF := pd_t rfl hF
      refine pd_callVX C [.int p1, .int p2, .int p3] [.int 0, .ref 132] (em_X11_code (pd_C_st C) hn hfr hn3 zh1) mw_X11_code wd_3_44 rfl (by decide) (pd_lt (by decide) hn) sh_0 ⟨by decide, by decide, by decide, by decide⟩ rfl (Nat.le_of_ble_eq_true rfl) dL_code_7 ?_
      refine pd_catch0 (hh := [(0, 12, 15, 15)]) (pre := []) (x := (0, 12, 15, 15)) (suf := []) (i := 5) (ls' := [some (.ref 0), some (.int p1), some (.int p2), some (.int p3), some (.ref 132), none]) C htab rfl (fun z hz => absurd hz List.not_mem_nil) (by decide) (by decide) wd_2_83 (by decide) (Or.inl ⟨dL_code_15, rfl⟩) (Nat.le_of_ble_eq_true rfl) rfl rfl ?_
      refine pd_iconst (v := 1) C dL_code_17 (by decide) ?_
      cases hF
      exact pd_iret C hE rfl rfl rfl ⟨by decide, by decide⟩ dL_code_18
    have hF := pd_f he0 hF
    cases hF
  obtain ⟨zg1, hF⟩ := pd_gd_some hF
  have hn := of_decide_eq_true zg1
  refine pd_callV C [.int p1, .int p2, .int p3] [.int 0, .ref 132] (em_X11_code (pd_C_st C) (by assumption) hfr hn3 zh1) mw_X11_code wd_3_44 rfl (by decide) (by omega) sh_0 ⟨by decide, by decide, by decide, by decide⟩ rfl (Nat.le_of_ble_eq_true rfl) (pd_oLr (by omega) (pd_oLi (pd_oLi (pd_oLi (pd_oLr (by omega) (pd_oLn pd_oL0)))))) (pd_oSi (pd_oSr (by omega) pd_oS0)) dL_code_7 (stk' := [.int zr1, .int 0, .ref 132]) rfl ?_
  refine pd_i2l C dL_code_10 ?_
  obtain ⟨zg2, hF⟩ := pd_gd_some hF
  refine pd_last C (pd_lt (by decide) hn) sh_132 zg2 dL_code_11 ?_
  refine pd_memJ (fun zJ2 hzJ2 => ?_)
  have hF := pd_let_at hF hzJ2
  refine pd_goto (tgt := 19) C dL_code_12 (by decide) ?_
  refine pd_iconst (v := 0) C dL_code_19 (by decide) ?_
  cases hF
  exact pd_iret C hE rfl rfl rfl ⟨by decide, by decide⟩ dL_code_20
