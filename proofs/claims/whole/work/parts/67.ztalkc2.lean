/-! talk, after its demands, in the class: the whole -/
def zLT : List Nat := [0, 9, 10, 11, 12, 13, 14, 15, 16, 18, 19, 20, 21, 22, 23, 24, 25, 26, 27, 28, 29, 30, 31, 32, 33, 34, 35, 44, 45, 46, 47, 48, 49, 50, 51, 52, 53, 59]
theorem zLT_w : ∀ w < 36, 18 ≤ w → w ∈ zLT := by decide
theorem zq_talkC {I : pd_I} {Z : pd_R} {n a b m ow ft nn mo : Nat} {cd f : Nat → Nat} {T : Nat → Nat → Nat} (hn : 133 ≤ n) (ha : 133 ≤ a) (hb : 60 ≤ b) (h : zCo I a cd) (hv : zCv cd) (h5 : cd 0 = 5) (hr : zRow I b m f) (hT : zTab I T) (hZ : zZe Z ow ft) (hZw : zZw Z) (hn1 : 1 ≤ nn) (hn2 : nn ≤ 200) (hm1 : 1 ≤ mo) (hm10 : mo ≤ 10) (hinj : ∀ t, t < nn → ∀ k, k < t → t * cd 5 % nn ≠ k * cd 5 % nn) (hmc : ∀ b, b < 2 → ∀ i, zmc m f T b i ≤ 1000) :
    zT (pd_bd (fn_X3_read I a (zn nn) b) fun zI1 => pd_bd (fn_X1_load zI1 a) fun zI2 => pd_bd3 (fn_X8_run zI2 Z n a (zn nn) (zn mo)) fun zr2 zI3 zZ1 => pd_bd (fn_X8_didAgree zI3) fun zr3 => pd_gd (pd_bo zr3) (pd_let (pd_ui zI3 0 13 zr3) fun zI4 => pd_let (pd_ui zI4 0 12 (zn nn)) fun zI5 => pd_bd (fn_X10_open zI5 1) fun zI6 => pd_bd (fn_X10_offered zI6 zZ1 n) fun zq3 => pd_gd (pd_isWay zq3) (pd_bd (fn_X9_begin zI6 zq3 0 0 (zn nn)) fun zI7 => fl_X11_talk_151 (zn nn) zq3 (fun zI9 => pd_bd3 (fn_X10_settle zI9 zZ1 n) fun _ zI12 zZ2 => some (.ok (zr2, zI12, zZ2))) pd_FU 0 zI7)))
      (zE (fun _ => False) (fun (r : Int32 × pd_I × pd_R) => r.1 = zn (zru cd (zmc m f T) nn mo).1 ∧ (∃ ow ft, zZe r.2.2 ow ft) ∧ (∀ b, b ≠ 43 → r.2.2 b = Z b) ∧ zF zLT I r.2.1 ∧ (∀ j, j ≠ 12 → j ≠ 13 → r.2.1 0 j = I 0 j) ∧ r.2.1 0 12 = zn nn ∧ r.2.1 0 13 = zn (zru cd (zmc m f T) nn mo).2 ∧ (∀ t, t < nn → r.2.1 59 t = zE1 cd (zmc m f T) nn ((zru cd (zmc m f T) nn mo).1 - 1) t) ∧ r.2.1 16 1 = zn 1 ∧ ∃ w0, r.2.2 17 0 = some w0 ∧ pd_isWay w0 = true ∧ zWr r.2.1 w0 (0, fun t => zsay (zE1 cd (zmc m f T) nn ((zru cd (zmc m f T) nn mo).1 - 1) t), 0) nn)) := by
  have hst := zst_le (n := nn) hv
  have hge : nn ≤ zst cd nn := by unfold zst; split <;> omega
  rw [zT_bd]
  refine zT_mono (zq_read ha hb h hv hr hT hn2) (fun I1 ⟨hF1, hR1⟩ => ?_)
  rw [zT_bd]
  refine zT_mono (zq_load ha (zCo_F (by decide) ha hF1 h) hv) (fun I2 ⟨hF2, h3, hLD⟩ => ?_)
  have hF12 : zF [9, 10, 11, 12, 13] I I2 := zF_tr (zF_sub hF1 (by decide)) (zF_sub hF2 (by decide))
  have hR2 : zRD I2 cd (zmc m f T) nn 0 := fun t' o' ho hx => by
    rw [hF2 9 (by decide), hF2 10 (by decide)]
    exact hR1 t' o' ho (Or.inl (by omega))
  have hru := zru_le (cd := cd) (mc := zmc m f T) (n := nn) mo
  rw [zT_bd3]
  refine zT_mono (zq_run (m := n) (n := nn) hn (zCo_F (by decide) ha hF12 h) ha hv h5 hn1 hn2 hm1 hm10 hinj hZ hR2 h3 hLD hmc) (fun r ⟨p1, p2, p3, p4, p5, p6⟩ => ?_)
  obtain ⟨r1, I3, Z3⟩ := r
  try simp only [] at p1 p2 p3 p4 p5 p6 ⊢
  have hZw3 : zZw Z3 := zZw_Z (p3 17 (by decide)) hZw
  obtain ⟨w0, hw0, hw2⟩ := hZw3.1 0 (by omega)
  obtain ⟨y1, y2, y3⟩ := zw_way hw2
  have hdid : fn_X8_didAgree I3 = some (zn (zru cd (zmc m f T) nn mo).2) := by
    unfold fn_X8_didAgree
    rw [p5, zc_bo hru.1, zb_gd]
  unfold fn_X10_open fn_X10_offered fn_X9_begin
  rw [hdid, zb_bd, zc_bo hru.1, zb_gd, zb_let, zb_let, zb_let, zb_let, zb_bd]
  obtain ⟨I4, hI4⟩ : ∃ I4, I4 = pd_ui (pd_ui (pd_ui (pd_ui I3 0 13 (zn (zru cd (zmc m f T) nn mo).2)) 0 12 (zn nn)) 16 1 0) 16 2 1 := ⟨_, rfl⟩
  rw [← hI4]
  have hF4 : zF [0, 16] I3 I4 := by rw [hI4]; exact zF_u (by decide) (zF_u (by decide) (zF_u (by decide) (zF_u (by decide) zF_rfl)))
  have e161 : I4 16 1 = zn 0 := by rw [hI4, zu_same, zu_nat (by omega), zu_same, zu_at, zn_0]
  have e162 : I4 16 2 = zn 1 := by rw [hI4, zu_same, zu_at, zn_1]
  have e0 : I4 0 = upd (upd (I3 0) 13 (zn (zru cd (zmc m f T) nn mo).2)) 12 (zn nn) := by
    rw [hI4, zu_ne (show (0 : Nat) ≠ 16 by decide), zu_ne (show (0 : Nat) ≠ 16 by decide), zu_same, zu_same]
  rw [e161, zn_in2 (show 0 < 9 by omega) (by omega), zb_gd, zn_nat (by omega), hw0, zb_bd, hw2, zb_gd, zb_bd, hw2, zb_gd, zb_let, zb_let, zb_let, zb_bd]
  obtain ⟨I5, hI5⟩ : ∃ I5, I5 = pd_ui (pd_ui (pd_ui I4 w0 0 0) w0 1 0) w0 2 (zn nn) := ⟨_, rfl⟩
  rw [← hI5]
  have hF5 : zF [w0] I4 I5 := by rw [hI5]; exact zF_u (by simp) (zF_u (by simp) (zF_u (by simp) zF_rfl))
  have hX5 : I5 w0 0 = zn 0 ∧ I5 w0 1 = zn 0 ∧ I5 w0 2 = zn nn := by
    rw [hI5]; simp only [zu_same]; exact ⟨rfl, rfl, rfl⟩
  rw [zn_0]
  refine zq_talk151 (E := zE1 cd (zmc m f T) nn ((zru cd (zmc m f T) nn mo).1 - 1)) hw2 hn2 (fun i hi => by rw [hF5 53 (by intro hh; simp at hh; omega), hF4 53 (by decide)]; exact p6 i hi) (fun I6 hF6 h59 hbits => ?_)
  have g161 : I6 16 = I4 16 := by rw [hF6 16 (by intro hh; simp at hh; omega), hF5 16 (by intro hh; simp at hh; omega)]
  have g0 : I6 0 = I4 0 := by rw [hF6 0 (by intro hh; simp at hh), hF5 0 (by intro hh; simp at hh; omega)]
  have gw : I6 w0 = I5 w0 := hF6 w0 (by intro hh; simp at hh; omega)
  rw [zT_bd3]
  unfold fn_X10_settle
  have h65 : pd_FU = 65535 + 1 := rfl
  rw [g161, e161, e162, zb_let, h65, fl_X10_settle_5, zn_0, if_pos (by rw [zn_le (by omega) (by omega)]; omega), zi_le (by omega) (by omega), if_neg (by omega), zb_let, zb_bd]
  have e16x : ∀ x, pd_ui I6 16 1 x 16 2 = zn 1 := fun x => by rw [zu_same, zu_nat (by omega), g161]; exact e162
  rw [e16x, zi_le (by omega) (by omega), if_neg (by omega), zb_bd, zn_1, zn_bo1, zb_gd]
  have k0 : ∀ x, pd_ui I6 16 1 x 0 = I6 0 := fun x => zu_ne (by decide)
  have k59 : ∀ x, pd_ui I6 16 1 x 59 = I6 59 := fun x => zu_ne (by decide)
  have kw : ∀ x, pd_ui I6 16 1 x w0 = I6 w0 := fun x => zu_ne (by omega)
  have kw1 : ∀ x, pd_ui I6 16 1 x (w0 + 1) = I6 (w0 + 1) := fun x => zu_ne (by omega)
  refine ⟨_, rfl, _, rfl, p1, p2, p3, ?_, ?_, ?_, ?_, ?_, ?_, w0, hw0, hw2, ?_⟩
  · refine zF_u (by decide) (zF_tr (zF_tr (zF_tr (zF_sub hF12 (by decide)) (zF_sub p4 (by decide))) (zF_sub hF4 (by decide))) ?_)
    refine zF_tr (zF_sub hF5 (fun x hx => ?_)) (zF_sub hF6 (fun x hx => ?_))
    · simp at hx; subst hx; exact zLT_w _ (by omega) (by omega)
    · simp at hx
      rcases hx with e | e
      · subst e; decide
      · subst e; exact zLT_w _ (by omega) (by omega)
  · intro j hj hj2
    show pd_ui I6 16 1 (zn (0 + 1)) 0 j = I 0 j
    rw [k0, g0, e0, zu_nat hj, zu_nat hj2, p4 0 (by decide), hF12 0 (by decide)]
  · show pd_ui I6 16 1 (zn (0 + 1)) 0 12 = zn nn
    rw [k0, g0, e0, zu_at]
  · show pd_ui I6 16 1 (zn (0 + 1)) 0 13 = zn (zru cd (zmc m f T) nn mo).2
    rw [k0, g0, e0, zu_nat (by omega), zu_at]
  · intro t ht
    show pd_ui I6 16 1 (zn (0 + 1)) 59 t = _
    rw [k59]; exact h59 t ht
  · show pd_ui I6 16 1 (zn (0 + 1)) 16 1 = zn 1
    rw [zu_same, zu_at]
  · show zWr (pd_ui I6 16 1 (zn (0 + 1))) w0 _ _
    unfold zWr
    rw [kw, kw1, gw]
    exact ⟨hX5.1, hX5.2.1, hX5.2.2, hbits⟩
