/-! the reference takes turns */ -/
theorem zq_half {I : pd_I} {c r m n h : Nat} {cd f : Nat → Nat} {T : Nat → Nat → Nat} {N : Nat → Int} (hC : zCm I c cd) (hv : zCv cd) (h5 : cd 0 = 5) (hr : zRom I r m f) (hT : zTam I T) (hn1 : 1 ≤ n) (hn2 : n ≤ 200) (hh : h ≤ 1) (hinj : ∀ t, t < n → ∀ k, k < t → t * cd 5 % n ≠ k * cd 5 % n) (hS : zSy I cd (zmc m f T) n) (hN : ∀ i, i < n → I 121 i = zI (N i)) (hNb : ∀ i, -5000 ≤ N i ∧ N i ≤ 5000) (hmc : ∀ b, b < 2 → ∀ i, zmc m f T b i ≤ 1000) :
    zT (fn_X12_half I (zn c) (zn r) (zn n) (zn h)) (fun I' => zF [109, 110, 115, 116, 117, 118, 121] I I' ∧ (∀ i, i < n → I' 109 i = zTE cd (zmc m f T) n h N i) ∧ (∀ i, i < n → I' 121 i = zI (zTN cd (zmc m f T) n h N i))) := by
  have hS64 := zCv_S hv
  obtain ⟨hti, htj⟩ := zti_ok (h := h) hn1 hinj
  have hP := zTP_le (n := n) (h := h) hv hmc hNb
  have hw := zwd_le hv
  unfold fn_X12_half
  rw [zT_bd]
  refine zT_mono (zq_halfCosts hC hv h5 hr hT hn1 hn2 hh hinj hS hN hNb) (fun I1 ⟨hF1, hma1⟩ => ?_)
  rw [zT_bd]
  refine zT_mono (zq_clearLeasts hn2) (fun I2 ⟨hF2, hW2⟩ => ?_)
  have hcd2 := zCm_F (by decide) hF2 (zCm_F (by decide) hF1 hC)
  have hma2 := zMa_F (by decide) hF2 hma1
  rw [zT_bd, zn_0]
  refine zT_mono (zq_leasts (begin := 0) (rg := 0) (tl := 0) (lz := fun _ => 0) (lo := fun _ => 0) hcd2 hv hma2 (by rw [zst_5 h5]; exact Nat.le_refl _) (by omega) hn1 hn2 (by omega) hP (by rw [if_neg (by omega)]) (by rw [if_neg (by omega)]) (fun t ht => ⟨(hW2 t ht).1, (hW2 t ht).2, by show 0 ≤ 2200000; omega, by show 0 ≤ 2200000; omega⟩)) (fun I3 ⟨hF3, hD3⟩ => ?_)
  have hF13 : zF [109, 110, 115, 116, 117, 118, 121] I I3 := zF_tr (zF_sub hF1 (by decide)) (zF_tr (zF_sub hF2 (by decide)) (zF_sub hF3 (by decide)))
  refine zl_loop (fun fu t (st : pd_I) => fl_X12_half_26 (zn c) (zn n) (zn h) (fun zI5 => fl_X12_half_70 (zn n) (fun zI8 => some zI8) pd_FU (zn 0) zI5) fu t st) n (fun t st => zF [109] I3 st ∧ ∀ i, i < n → ztj cd n h i < t → st 109 i = zTE cd (zmc m f T) n h N i) ?_ ?_ pd_FU 0 I3 (by omega) (zFU (by omega)) ⟨zF_rfl, fun i hi h => absurd h (Nat.not_lt_zero _)⟩
  · rintro fu I4 ⟨hF4, hD4⟩
    try simp only []
    rw [fl_X12_half_26, if_pos (by rw [zn_le (by omega) (by omega)]; omega)]
    refine zl_loop (fun fu i (st : pd_I) => fl_X12_half_70 (zn n) (fun zI8 => some zI8) fu i st) n (fun i st => zF [121] I4 st ∧ ∀ i', i' < n → st 121 i' = zI (if i' < i then zTN cd (zmc m f T) n h N i' else N i')) ?_ ?_ pd_FU 0 I4 (by omega) (zFU (by omega)) ⟨zF_rfl, fun i hi => by rw [if_neg (Nat.not_lt_zero _), hF4 121 (by decide), hF3 121 (by decide), hF2 121 (by decide), hF1 121 (by decide)]; exact hN i hi⟩
    · rintro fu I5 ⟨hF5, hD5⟩
      try simp only []
      rw [fl_X12_half_70, if_pos (by rw [zn_le (by omega) (by omega)]; omega)]
      refine ⟨_, rfl, zF_tr hF13 (zF_tr (zF_sub hF4 (by decide)) (zF_sub hF5 (by decide))), fun i hi => ?_, fun i hi => ?_⟩
      · rw [hF5 109 (by decide)]; exact hD4 i hi (htj i hi).1
      · rw [hD5 i hi, if_pos hi]
    · rintro fu i I5 hi ⟨hF5, hD5⟩ ih
      try simp only [] at ih ⊢
      have e109 : I5 109 i = zTE cd (zmc m f T) n h N i := by rw [hF5 109 (by decide)]; exact hD4 i hi (htj i hi).1
      have e121 := hD5 i hi
      rw [if_neg (Nat.lt_irrefl _)] at e121
      obtain ⟨s0, s1⟩ := hS i hi
      have e122 : I5 122 = I 122 := by rw [hF5 122 (by decide), hF4 122 (by decide), hF3 122 (by decide), hF2 122 (by decide), hF1 122 (by decide)]
      rw [← e122] at s0 s1
      have i2 : (2 : Int32) * zn i = zn (2 * i) := by rw [zn_2, zn_mul]
      have i3 : zn (2 * i) + 1 = zn (2 * i + 1) := by rw [zn_1, zn_add]
      rw [fl_X12_half_70, if_neg (by rw [zn_le (by omega) (by omega)]; omega), i2, i3, zn_in2 (show i < 200 by omega) (by omega), zb_gd, zb_gd, zn_in2 (show 2 * i + 1 < 400 by omega) (by omega), zb_gd, zn_in2 (show 2 * i < 400 by omega) (by omega), zb_gd, zn_nat (show i < 2147483648 by omega), zn_nat (show 2 * i + 1 < 2147483648 by omega), zn_nat (show 2 * i < 2147483648 by omega), e109, e121, s0, s1, zb_let, zp_clampM, zb_bd, zb_gd, zb_let, zb_let, zn_1, zn_add]
      refine ih _ ⟨zF_u (by decide) hF5, fun i' hi' => ?_⟩
      rw [zu_same, zu_app]
      by_cases e : i' = i
      · rw [if_pos e, e, if_pos (by omega)]; rfl
      · rw [if_neg e, hD5 i' hi']
        by_cases e2 : i' < i
        · rw [if_pos e2, if_pos (by omega)]
        · rw [if_neg e2, if_neg (by omega)]
  · rintro fu t I4 ht ⟨hF4, hD4⟩ ih
    try simp only [] at ih ⊢
    have hcd4 := zCm_F (by decide) hF4 (zCm_F (by decide) hF3 hcd2)
    have hbit : (if zn h = 0 then some (zn t) else (pd_bd (fn_X12_order I4 (zn c) (zn n) (zn t)) fun zr2 => some zr2)) = some (zn (zti cd n h t)) := by
      rw [zn_0, zi_eq (by omega) (by omega), zc_order hcd4 hv (by omega) hn1 hn2]
      unfold zti
      by_cases c : h = 0
      · rw [if_pos c, if_neg (by omega)]
      · rw [if_neg c, if_pos (by omega)]; rfl
    obtain ⟨d0, d1⟩ := hD3 t ht
    rw [← hF4 117 (by decide)] at d0
    rw [← hF4 118 (by decide)] at d1
    have l0 := zLZ_le (cd := cd) (P := zTP cd (zmc m f T) n h N) (x := 0) hv hP hn2 1 t ht
    have l1 := zLZ_le (cd := cd) (P := zTP cd (zmc m f T) n h N) (x := 1) hv hP hn2 1 t ht
    have hdf := zc_difference (z := zLZ cd (zTP cd (zmc m f T) n h N) n 0 1 t) (o := zLZ cd (zTP cd (zmc m f T) n h N) n 1 1 t) (show t < 200 by omega) d0 d1 l0 l1
    have hi := (hti t ht).1
    rw [fl_X12_half_26, if_neg (by rw [zn_le (by omega) (by omega)]; omega), hbit, zb_bd, hdf, zb_bd, zn_in2 (by omega) (by omega), zb_gd, zn_nat (by omega), zb_let, zb_let, zn_1, zn_add]
    refine ih _ ⟨zF_u (by decide) hF4, fun i hi hlt => ?_⟩
    rw [zu_same, zu_app]
    by_cases e : i = zti cd n h t
    · rw [if_pos e]
      unfold zTE
      rw [e, (hti t ht).2]
    · rw [if_neg e]
      refine hD4 i hi ?_
      by_cases e2 : ztj cd n h i = t
      · exact absurd (by rw [← e2, (htj i hi).2]) e
      · omega
