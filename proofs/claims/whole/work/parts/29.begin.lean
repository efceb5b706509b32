/-! from the law's entry to its loop -/
set_option maxHeartbeats 1000000 in
set_option maxRecDepth 100000 in
theorem eb_begin {cx : pd_X} (C : pd_C cx "PathDecoderLaw" cL_law room_1) {I Iz Im : pd_I} {J : pd_J}
    (h1 : lf_X3_init (ic_X3_init (pd_zi (ic_X2_init (pd_zi (pd_ui (pd_zi (pd_zi (pd_zi I 0) 1) 2) 0 2 0) 3)) 6)) = some Iz) (h2 : lf_X12_init (ic_X12_init (pd_zi (ic_X11_init Iz) 92)) = some Im)
    (K : pd_V cx 133 578908 23 [some (.ref 999999), some (.ref 0), some (.ref 92), some (.ref 132), some (.int 0), none, none, none] [] (pd_zi Im 132) (pd_zj (jc_X12_init (pd_zj (jc_X11_init (pd_zj J 0)) 92)) 132) (pd_RF pd_Fb) 133) :
    pd_V cx 0 0 0 [some (.ref 999999), none, none, none, none, none, none, none] [] I J pd_F0 0 := by
  refine pd_newO (t := 11) (N := 14) (T := TX11) (ty0 := tyX11) C rfl fw_11 tyX11_ok (by decide) (by decide) wd_1_22 wd_1_23 wd_1_1 sh_0 (pd_fr_hF pd_fr_0) (pd_oLb (by decide) (pd_oLn (pd_oLn (pd_oLn (pd_oLn (pd_oLn (pd_oLn (pd_oLn pd_oL0)))))))) pd_oS0 ⟨by decide, by decide⟩ dL_law_0 ?_
  refine pd_nE (n' := 1) rfl ?_
  refine pd_dup C dL_law_3 rfl ?_
  refine pd_callI C [] [.ref 0] (n' := 92) (ec_X11_init (pd_C_st C) pd_fr_b1 h1) mi_X11_init wd_1_24 ⟨by decide, by decide, by decide, by decide⟩ rfl (Nat.le_of_ble_eq_true rfl) (pd_oLb (by decide) (pd_oLn (pd_oLn (pd_oLn (pd_oLn (pd_oLn (pd_oLn (pd_oLn pd_oL0)))))))) (pd_oSr (by decide) pd_oS0) dL_law_4 (stk' := [.ref 0]) rfl ?_
  refine pd_astore_n (ls' := [some (.ref 999999), some (.ref 0), none, none, none, none, none, none]) C dL_law_7 rfl (Nat.le_of_ble_eq_true rfl) rfl rfl ?_
  refine pd_newO (t := 12) (N := 44) (T := TX12) (ty0 := tyX12) C rfl fw_12 tyX12_ok (by decide) (by decide) wd_5_118 wd_5_119 wd_1_12 sh_92 (pd_fr_hF pd_fr_b2) (pd_oLb (by decide) (pd_oLr (by decide) (pd_oLn (pd_oLn (pd_oLn (pd_oLn (pd_oLn (pd_oLn pd_oL0)))))))) pd_oS0 ⟨by decide, by decide⟩ dL_law_8 ?_
  refine pd_nE (n' := 93) rfl ?_
  refine pd_dup C dL_law_11 rfl ?_
  refine pd_callI C [] [.ref 92] (n' := 132) (ec_X12_init (pd_C_st C) pd_fr_b3 h2) mi_X12_init wd_5_120 ⟨by decide, by decide, by decide, by decide⟩ rfl (Nat.le_of_ble_eq_true rfl) (pd_oLb (by decide) (pd_oLr (by decide) (pd_oLn (pd_oLn (pd_oLn (pd_oLn (pd_oLn (pd_oLn pd_oL0)))))))) (pd_oSr (by decide) pd_oS0) dL_law_12 (stk' := [.ref 92]) rfl ?_
  refine pd_astore_n (ls' := [some (.ref 999999), some (.ref 0), some (.ref 92), none, none, none, none, none]) C dL_law_15 rfl (Nat.le_of_ble_eq_true rfl) rfl rfl ?_
  refine pd_iconst (v := 1) C dL_law_16 (by decide) ?_
  refine pd_newAJ (N := 1) C wd_2_18 sh_132 (by decide) (by decide) (by decide) (pd_fr_hF pd_fr_b4) (pd_oLb (by decide) (pd_oLr (by decide) (pd_oLr (by decide) (pd_oLn (pd_oLn (pd_oLn (pd_oLn (pd_oLn pd_oL0)))))))) pd_oS0 ⟨by decide, by decide⟩ dL_law_17 ?_
  refine pd_nE (n' := 133) rfl ?_
  refine pd_astore_n (ls' := [some (.ref 999999), some (.ref 0), some (.ref 92), some (.ref 132), none, none, none, none]) C dL_law_19 rfl (Nat.le_of_ble_eq_true rfl) rfl rfl ?_
  refine pd_iconst (v := 0) C dL_law_20 (by decide) ?_
  refine pd_istore (ls' := [some (.ref 999999), some (.ref 0), some (.ref 92), some (.ref 132), some (.int 0), none, none, none]) C dL_law_21 (Nat.le_of_ble_eq_true rfl) rfl rfl ?_
  refine pd_FE pd_Fb_RF ?_
  exact pd_widen (by decide) (by decide) K
