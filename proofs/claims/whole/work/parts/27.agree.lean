/-! the references after the two constructors and the law's long[1] -/
def pd_F0 : pd_R := fun _ _ => none
/-- the references when the law's loop begins -/
def pd_Fb : pd_R := pd_zf (fc_X12_init (pd_zf (fc_X11_init (pd_zf pd_F0 0)) 92)) 132
def pd_bnd (F : pd_R) : Prop := ∀ b j, 48 ≤ j → F b j = none
theorem pd_bnd_z {F : pd_R} {n : Nat} (h : pd_bnd F) : pd_bnd (pd_zf F n) := by
  intro b j hj
  by_cases hb : b = n
  · simp [pd_zf, hb]
  · simp only [pd_zf, if_neg hb]; exact h b j hj
theorem pd_bnd_u {F : pd_R} {a k : Nat} {x : Option Nat} (hk : k < 48) (h : pd_bnd F) : pd_bnd (pd_ur F a k x) := by
  intro b j hj
  by_cases hb : b = a
  · have hne : ¬ j = k := by omega
    simp only [pd_ur, if_pos hb, va_up, if_neg hne]; exact h b j hj
  · simp only [pd_ur, if_neg hb]; exact h b j hj
theorem pd_bnd_0 : pd_bnd pd_F0 := fun _ _ _ => rfl
set_option maxRecDepth 100000 in
theorem pd_bnd_b : pd_bnd pd_Fb := by
  unfold pd_Fb fc_X12_init fc_X11_init fc_X10_init fc_X9_init fc_X8_init fc_X7_init fc_X6_init fc_X5_init fc_X4_init fc_X3_init fc_X2_init fc_X1_init
  repeat (first | exact pd_bnd_0 | refine pd_bnd_z ?_ | refine pd_bnd_u (by decide) ?_)
set_option maxRecDepth 100000 in
theorem pd_Fb_fin : ((List.range 133).all fun b => (List.range 48).all fun j => pd_dy b j || decide (pd_Fb b j = pd_R0 b j)) = true := by decide +kernel
set_option maxRecDepth 100000 in
theorem pd_R0_bnd : ((List.range 133).all fun b => decide ((pd_r0L.getD b []).length ≤ 48)) = true := by decide +kernel
theorem pd_Fb_RF : ∀ b, b < 133 → pd_Fb b = pd_RF pd_Fb b := by
  intro b hb
  funext j
  unfold pd_RF
  split
  · rfl
  · rename_i hd
    by_cases hj : j < 48
    · have h1 := List.all_eq_true.mp (List.all_eq_true.mp pd_Fb_fin b (List.mem_range.mpr hb)) j (List.mem_range.mpr hj)
      simp only [Bool.or_eq_true, decide_eq_true_eq] at h1
      rcases h1 with h1 | h1
      · exact absurd h1 hd
      · exact h1
    · rw [pd_bnd_b b j (by omega)]
      have h2 := List.all_eq_true.mp pd_R0_bnd b (List.mem_range.mpr hb)
      simp only [decide_eq_true_eq] at h2
      simp only [pd_R0, if_pos hb]
      rw [List.getD_eq_getElem?_getD, List.getElem?_eq_none (by omega)]
      rfl
theorem pd_fr_0 : pd_fr pd_F0 0 := fun _ _ _ hb _ => absurd hb (Nat.not_lt_zero _)
theorem pd_fr_b1 : pd_fr (pd_zf pd_F0 0) 1 := pd_fr_z pd_fr_0
theorem pd_fr_b2 : pd_fr (fc_X11_init (pd_zf pd_F0 0)) 92 := fr_X11_init pd_fr_b1
theorem pd_fr_b3 : pd_fr (pd_zf (fc_X11_init (pd_zf pd_F0 0)) 92) 93 := pd_fr_z pd_fr_b2
theorem pd_fr_b4 : pd_fr (fc_X12_init (pd_zf (fc_X11_init (pd_zf pd_F0 0)) 92)) 132 := fr_X12_init pd_fr_b3
theorem pd_fr_b : pd_fr pd_Fb 133 := pd_fr_z pd_fr_b4
theorem pd_fr_RFb : pd_fr (pd_RF pd_Fb) 133 := fun b j k hb e => pd_fr_b b j k hb (by rw [pd_Fb_RF b hb]; exact e)
