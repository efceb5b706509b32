/-! the class does a half */ -/
theorem zt_add {cd : Nat → Nat} {mc : Nat → Nat → Nat} {n h t : Nat} {N : Nat → Int} {b : Nat} : zTg cd mc n h N t 0 b = zrc cd mc b (zti cd n h t) 0 + (if b = 1 then (N (zti cd n h t)).toNat else (-(N (zti cd n h t))).toNat) := by unfold zTg; rw [if_pos rfl]
theorem zq_price {I : pd_I} {a n h t : Nat} {cd : Nat → Nat} {mc : Nat → Nat → Nat} {N : Nat → Int} (hC : zCo I a cd) (ha : 133 ≤ a) (hv : zCv cd) (h5 : cd 0 = 5) (hn2 : n ≤ 200) (ht : t < n) (hi : zti cd n h t < n) (hh : h ≤ 1) (hR : zRD I cd mc n 0) (hN : ∀ i, i < n → I 50 i = zI (N i)) (hNb : ∀ i, -5000 ≤ N i ∧ N i ≤ 5000) :
    zT (fn_X8_price I a (zn t) (zn (zti cd n h t)) (zn h)) (fun I' => zF [15] I I' ∧ (∀ w, w < 16 → I' 15 (t * 16 + w) = zn (zpw (zTg cd mc n h N t) w (cd 2))) ∧ ∀ j, j < t * 16 → I' 15 j = I 15 j) := by
  have hw := zwd_le hv
  have h24 : cd 2 ≤ 4 := hv.2.2.2.2.1
  have h22 : 2 ≤ cd 2 := hv.2.2.2.1
  have hwd : zwd cd = 2 * cd 2 - 1 := by unfold zwd; rw [if_pos h5]
  obtain ⟨i, hid⟩ : ∃ i, i = zti cd n h t := ⟨_, rfl⟩
  obtain ⟨r0, r1⟩ := hR i 0 (by omega) (Or.inl (by omega))
  rw [Nat.add_zero] at r0 r1
  have hn50 := hN i (by omega)
  obtain ⟨b1, b2⟩ := hNb i
  have m0 : pd_max 0 (-(I 50 i)) = zn (-(N i)).toNat := by rw [hn50, zI_neg]; exact (zp_max0 (by omega) (by omega)).1
  have m1 : pd_max 0 (I 50 i) = zn (N i).toNat := by rw [hn50]; exact (zp_max0 (by omega) (by omega)).1
  unfold fn_X8_price
  rw [← hid, zn_7, zn_mul, zb_let, zn_in2 (by omega) (by omega), zb_gd, zn_in2 (by omega) (by omega), zb_gd, zn_nat (by omega), zn_nat (by omega), r0, r1, m0, m1, zn_add, zn_add, zb_let, zb_gd, zb_gd, zb_let, zT_bd]
  refine zT_mono (zq_clearStep (by omega)) (fun I1 ⟨hF1, hC1, hP1⟩ => ?_)
  rw [zT_bd, zn_0]
  refine zT_mono (zq_addSign (o := 0) (by omega) (by omega)) (fun I2 ⟨hF2, hA2, hP2⟩ => ?_)
  rw [zn_1]
  refine zl_loop (fun fu o (st : pd_I) => fl_X8_price_77 a (zn t) (zn h) (fun zI4 => some zI4) fu o st) (cd 2) (fun o st => 1 ≤ o ∧ zF [15] I st ∧ (∀ w, w < 16 → st 15 (t * 16 + w) = zn (zpw (zTg cd mc n h N t) w o)) ∧ ∀ j, j < t * 16 → st 15 j = I 15 j) ?_ ?_ pd_FU 1 I2 (by omega) (by show cd 2 < 65536 + 1; omega) ⟨Nat.le_refl _, zF_tr hF1 hF2, fun w hw => ?_, fun j hj => by rw [hP2 j hj, hP1 j hj]⟩
  · rintro fu I3 ⟨-, hF3, hD3, hP3⟩
    have hcd := zCo_F (by decide) ha hF3 hC
    try simp only []
    rw [fl_X8_price_77, hcd.2.2.1, if_pos (by rw [zn_le (by omega) (by omega)]; omega)]
    exact ⟨_, rfl, hF3, hD3, hP3⟩
  · rintro fu o I3 ho ⟨ho1, hF3, hD3, hP3⟩ ih
    have hcd := zCo_F (by decide) ha hF3 hC
    try simp only [] at ih ⊢
    by_cases ho0 : o = 0
    · omega
    · have ex2 : (if zn h = 0 then some 0 else some (zn (cd 2) - 1)) = some (zn (if h = 1 then cd 2 - 1 else 0)) := by
        rw [zn_0, zi_eq (by omega) (by omega), zn_1, zn_sub (by omega)]
        by_cases c : h = 0
        · rw [if_pos c, if_neg (by omega)]
        · rw [if_neg c, if_pos (by omega)]
      obtain ⟨q, hq⟩ : ∃ q, q = if h = 1 then cd 2 - 1 else 0 := ⟨_, rfl⟩
      rw [← hq] at ex2
      have hqb : o + q < zwd cd := by split at hq <;> omega
      obtain ⟨s0, s1⟩ := hR t (o + q) hqb (Or.inl ht)
      have e9 : I3 9 = I 9 := hF3 9 (by decide)
      have e10 : I3 10 = I 10 := hF3 10 (by decide)
      have i1 : zn t * 7 + zn o + zn q = zn (t * 7 + (o + q)) := by rw [zn_7, zn_mul, zn_add, zn_add, Nat.add_assoc]
      rw [fl_X8_price_77, hcd.2.2.1, if_neg (by rw [zn_le (by omega) (by omega)]; omega), ex2, zb_bd, i1, zb_let, zn_in2 (by omega) (by omega), zb_gd, zb_gd, zn_nat (by omega), e9, e10, s0, s1, zT_bd]
      refine zT_mono (zq_addSign (by omega) (by omega)) (fun I4 ⟨hF4, hA4, hP4⟩ => ?_)
      rw [zb_let, zn_1, zn_add]
      refine ih _ ⟨by omega, zF_tr hF3 hF4, fun w hw => ?_, fun j hj => by rw [hP4 j hj, hP3 j hj]⟩
      rw [hA4 w hw, hD3 w hw]
      have hb := Nat.mod_lt (w / 2 ^ o) (by decide : 2 > 0)
      show _ = zn (zpw _ w o + zTg cd mc n h N t o (w / 2 ^ o % 2))
      have eg : zTg cd mc n h N t o (w / 2 ^ o % 2) = zrc cd mc (w / 2 ^ o % 2) t (o + q) := by unfold zTg; rw [if_neg ho0, hq]
      rw [eg]
      by_cases c : w / 2 ^ o % 2 = 0
      · rw [if_pos c, zn_add, c]
      · rw [if_neg c, zn_add, show w / 2 ^ o % 2 = 1 by omega]
  · rw [hA2 w hw, hC1 w hw]
    have hb := Nat.mod_lt (w / 2 ^ 0) (by decide : 2 > 0)
    have e1 : zpw (zTg cd mc n h N t) w 1 = zTg cd mc n h N t 0 (w / 2 ^ 0 % 2) := by
      show 0 + _ = _
      rw [Nat.zero_add]
    rw [e1, zt_add, ← hid]
    by_cases c : w / 2 ^ 0 % 2 = 0
    · rw [if_pos c, zn_add, c, if_neg (by omega), Nat.zero_add]
    · have c2 : w / 2 ^ 0 % 2 = 1 := by omega
      rw [if_neg c, zn_add, c2, if_pos rfl, Nat.zero_add]

theorem zBg_5 {cd : Nat → Nat} (h : cd 0 = 5) : zBg cd = 1 := by unfold zBg; rw [if_neg (by omega)]
theorem zst_5 {cd : Nat → Nat} {n : Nat} (h : cd 0 = 5) : zst cd n = n := by unfold zst; rw [if_neg (by omega)]
theorem zq_doHalf {I : pd_I} {Z : pd_R} {m a n h ow ft : Nat} {cd : Nat → Nat} {mc : Nat → Nat → Nat} {N : Nat → Int} (hm : 133 ≤ m) (hC : zCo I a cd) (ha : 133 ≤ a) (hv : zCv cd) (h5 : cd 0 = 5) (hn1 : 1 ≤ n) (hn2 : n ≤ 200) (hh : h ≤ 1) (hinj : ∀ t, t < n → ∀ k, k < t → t * cd 5 % n ≠ k * cd 5 % n) (hZ : zZe Z ow ft) (hR : zRD I cd mc n 0) (h3 : I 11 3 = zn (2 ^ cd 1)) (hLD : zLD I cd (2 * 2 ^ cd 1)) (hN : ∀ i, i < n → I 50 i = zI (N i)) (hNb : ∀ i, -5000 ≤ N i ∧ N i ≤ 5000) (hmc : ∀ b, b < 2 → ∀ i, mc b i ≤ 1000) :
    zT (fn_X8_doHalf I Z m a (zn n) (zn h)) (fun r => (∃ ow ft, zZe r.2 ow ft) ∧ (∀ b, b ≠ 43 → r.2 b = Z b) ∧ zF [14, 15, 44, 45, 46, 47, 48, 50, 51, 52, 53] I r.1 ∧ (∀ i, i < n → r.1 50 i = zI (zTN cd mc n h N i)) ∧ (∀ i, i < n → r.1 (if h = 1 then 53 else 52) i = zTE cd mc n h N i) ∧ (h = 1 → r.1 52 = I 52)) := by
  have hS := zCv_S hv
  have hw := zwd_le hv
  obtain ⟨hti, htj⟩ := zti_ok (h := h) hn1 hinj
  have hP := zTP_le (n := n) (h := h) hv hmc hNb
  have hbit : ∀ (I1 : pd_I), zCo I1 a cd → ∀ t, t < n → (if zn h = 0 then some (zn t) else (pd_bd (fn_X0_orderOf I1 a (zn t) (zn n)) fun zr1 => some zr1)) = some (zn (zti cd n h t)) := by
    intro I1 hC1 t ht
    rw [zn_0, zi_eq (by omega) (by omega), zc_orderOf hC1 hv (by omega) hn1 hn2]
    unfold zti
    by_cases c : h = 0
    · rw [if_pos c, if_neg (by omega)]
    · rw [if_neg c, if_pos (by omega)]; rfl
  unfold fn_X8_doHalf
  generalize hkt : (fun zI2 => pd_bd2 (fn_X6_tell zI2 Z m a (zn n) 51) fun zI4 zZ1 => fl_X8_doHalf_55 a (zn n) (zn h) (fun zI6 => some (zI6, zZ1)) pd_FU 0 zI4) = kt
  rw [zn_0]
  refine zl_loop (fun fu t (st : pd_I) => fl_X8_doHalf_3 a (zn n) (zn h) kt fu t st) n (fun t st => zF [15] I st ∧ ∀ t', t' < t → ∀ w, w < 16 → st 15 (t' * 16 + w) = zn (zpw (zTg cd mc n h N t') w (cd 2))) ?_ ?_ pd_FU 0 I (by omega) (zFU (by omega)) ⟨zF_rfl, fun t h => absurd h (Nat.not_lt_zero _)⟩
  · rintro fu I1 ⟨hF1, hD1⟩
    try simp only []
    have hcd1 := zCo_F (by decide) ha hF1 hC
    have hla1 : zLa I1 cd n (zTP cd mc n h N) := zq_mkLa hv (by rw [hF1 11 (by decide)]; exact h3) (by unfold zLD; rw [hF1 12 (by decide), hF1 13 (by decide)]; exact hLD) hD1
    rw [fl_X8_doHalf_3, if_pos (by rw [zn_le (by omega) (by omega)]; omega), ← hkt]
    simp only []
    rw [zT_bd2]
    refine zT_mono (zq_tell (b2 := 51) hm ha hcd1 hZ hv hla1 (by omega) (by rw [zst_5 h5]; exact Nat.le_refl _) hn1 hn2 hP (Or.inr rfl)) (fun r ⟨p1, p2, p3, p4⟩ => ?_)
    rw [zBg_5 h5] at p4
    have hF2 : zF [14, 15, 44, 45, 46, 47, 48, 50, 51, 52, 53] I r.1 := zF_tr (zF_sub hF1 (by decide)) (zF_sub p3 (by decide))
    have e50 : r.1 50 = I 50 := by rw [p3 50 (by decide), hF1 50 (by decide)]
    have e52 : r.1 52 = I 52 := by rw [p3 52 (by decide), hF1 52 (by decide)]
    rw [zn_0]
    obtain ⟨L, hLd⟩ : ∃ L, L = (if h = 1 then 53 else 52) := ⟨_, rfl⟩
    have hLne : L ≠ 50 ∧ L ≠ 51 ∧ L ≠ 9 ∧ L ≠ 10 ∧ (h = 1 → L ≠ 52) ∧ L ∈ [14, 15, 44, 45, 46, 47, 48, 50, 51, 52, 53] := by split at hLd <;> (subst hLd; refine ⟨by decide, by decide, by decide, by decide, by omega, by decide⟩)
    rw [← hLd]
    refine zl_loop (fun fu t (st : pd_I) => fl_X8_doHalf_55 a (zn n) (zn h) (fun zI6 => some (zI6, r.2)) fu t st) n (fun t st => zF [50, L] r.1 st ∧ (∀ i, i < n → st 50 i = zI (if ztj cd n h i < t then zTN cd mc n h N i else N i)) ∧ (∀ i, i < n → ztj cd n h i < t → st L i = zTE cd mc n h N i)) ?_ ?_ pd_FU 0 r.1 (by omega) (zFU (by omega)) ⟨zF_rfl, fun i hi => by rw [e50, if_neg (Nat.not_lt_zero _)]; exact hN i hi, fun i hi h => absurd h (Nat.not_lt_zero _)⟩
    · rintro fu I3 ⟨hF3, hD3, hE3⟩
      try simp only []
      rw [fl_X8_doHalf_55, if_pos (by rw [zn_le (by omega) (by omega)]; omega)]
      refine ⟨_, rfl, p1, p2, zF_tr hF2 (zF_sub hF3 (by intro x hx; simp at hx; rcases hx with e | e; (· rw [e]; decide); rw [e]; exact hLne.2.2.2.2.2)), fun i hi => ?_, fun i hi => hE3 i hi (htj i hi).1, fun h1 => ?_⟩
      · have := hD3 i hi
        rw [if_pos (htj i hi).1] at this
        exact this
      · show I3 52 = _
        rw [hF3 52 (by intro hx; simp at hx; exact hLne.2.2.2.2.1 h1 hx.symm)]; exact e52
    · rintro fu t I3 ht ⟨hF3, hD3, hE3⟩ ih
      try simp only [] at ih ⊢
      have hcd3 : zCo I3 a cd := zCo_F (L := [50, L]) (by intro x hx; simp at hx; have := hLne; split at hLd <;> omega) ha hF3 (zCo_F (by decide) ha hF2 hC)
      have hi := (hti t ht).1
      obtain ⟨i, hid⟩ : ∃ i, i = zti cd n h t := ⟨_, rfl⟩
      have hji : ztj cd n h i = t := by rw [hid]; exact (hti t ht).2
      have e51 : I3 51 t = zTE cd mc n h N i := by
        rw [hF3 51 (by intro hx; simp at hx; exact hLne.2.1 hx.symm), p4 t ht]
        unfold zTE
        rw [hji]
      have eN : I3 50 i = zI (N i) := by
        have := hD3 i (by omega)
        rw [hji, if_neg (Nat.lt_irrefl _)] at this
        exact this
      obtain ⟨r0, r1⟩ := hR i 0 (by omega) (Or.inl (by omega))
      rw [Nat.add_zero] at r0 r1
      have e9 : I3 9 = I 9 := by rw [hF3 9 (by intro hx; simp at hx; exact hLne.2.2.1 hx.symm), hF2 9 (by decide)]
      have e10 : I3 10 = I 10 := by rw [hF3 10 (by intro hx; simp at hx; exact hLne.2.2.2.1 hx.symm), hF2 10 (by decide)]
      have htl : fn_X3_tells I3 (zn i * 7) = some (zn (zrc cd mc 1 i 0) - zn (zrc cd mc 0 i 0)) := by
        unfold fn_X3_tells
        rw [zn_7, zn_mul, zn_in2 (by omega) (by omega), zb_gd, zb_gd, zn_nat (by omega), e9, e10, r0, r1]
      have fin : ∀ I4 : pd_I, I4 = pd_ui (pd_ui I3 50 i (zI (zTN cd mc n h N i))) L i (zTE cd mc n h N i) → zT (fl_X8_doHalf_55 a (zn n) (zn h) (fun zI6 => some (zI6, r.2)) fu (zn (t + 1)) I4) (fun r => (∃ ow ft, zZe r.2 ow ft) ∧ (∀ b, b ≠ 43 → r.2 b = Z b) ∧ zF [14, 15, 44, 45, 46, 47, 48, 50, 51, 52, 53] I r.1 ∧ (∀ i, i < n → r.1 50 i = zI (zTN cd mc n h N i)) ∧ (∀ i, i < n → r.1 L i = zTE cd mc n h N i) ∧ (h = 1 → r.1 52 = I 52)) := by
        intro I4 h4
        have hone : ∀ i', i' < n → ztj cd n h i' = t → i' = i := fun i' h1 h2 => by rw [← (htj i' h1).2, h2, hid]
        refine ih I4 ⟨by rw [h4]; exact zF_u (by simp) (zF_u (by simp) hF3), fun i' hi' => ?_, fun i' hi' hlt => ?_⟩
        · rw [h4, zu_ne hLne.1.symm, zu_same, zu_app]
          by_cases e : i' = i
          · rw [if_pos e, e, hji, if_pos (by omega)]
          · rw [if_neg e, hD3 i' hi']
            have := hone i' hi'
            by_cases e2 : ztj cd n h i' < t
            · rw [if_pos e2, if_pos (by omega)]
            · rw [if_neg e2, if_neg (by omega)]
        · rw [h4, zu_same, zu_app]
          by_cases e : i' = i
          · rw [if_pos e, e]
          · have := hone i' hi'
            rw [if_neg e, zu_ne hLne.1]; exact hE3 i' hi' (by omega)
      rw [fl_X8_doHalf_55, if_neg (by rw [zn_le (by omega) (by omega)]; omega), hbit I3 hcd3 t ht, ← hid, zb_bd, zn_in2 (by omega) (by omega), zb_gd, zn_in2 (by omega) (by omega), zb_gd, htl, zb_bd, zn_nat (by omega), zn_nat (by omega), e51, eN, zb_let, zp_clamp, zb_bd, zb_gd, zb_let]
      have e51' : ∀ x, pd_ui I3 50 i x 51 t = zTE cd mc n h N i := fun x => by rw [zu_ne (by decide)]; exact e51
      have ecl : zcl (zTE cd mc n h N i - zI (N i) - (zn (zrc cd mc 1 i 0) - zn (zrc cd mc 0 i 0))).toInt = zTN cd mc n h N i := rfl
      rw [ecl, zn_0, zi_eq (by omega) (by omega)]
      by_cases c : h = 0
      · rw [if_pos c, e51', zb_gd, zb_gd, zb_let, zb_bd, zb_let, zn_1, zn_add]
        refine fin _ ?_
        rw [hLd, if_neg (by omega)]
      · rw [if_neg c, e51', zb_gd, zb_gd, zb_let, zb_bd, zb_let, zn_1, zn_add]
        refine fin _ ?_
        rw [hLd, if_pos (by omega)]
  · rintro fu t I1 ht ⟨hF1, hD1⟩ ih
    try simp only [] at ih ⊢
    have hcd1 := zCo_F (by decide) ha hF1 hC
    rw [fl_X8_doHalf_3, if_neg (by rw [zn_le (by omega) (by omega)]; omega), hbit I1 hcd1 t ht, zb_bd, zT_bd]
    refine zT_mono (zq_price (t := t) (mc := mc) (N := N) hcd1 ha hv h5 hn2 ht (hti t ht).1 hh (by unfold zRD; rw [hF1 9 (by decide), hF1 10 (by decide)]; exact hR) (by rw [hF1 50 (by decide)]; exact hN) hNb) (fun I2 ⟨hF2, hD2, hP2⟩ => ?_)
    rw [zb_let, zn_1, zn_add]
    refine ih _ ⟨zF_tr hF1 hF2, fun t' ht' w hw => ?_⟩
    by_cases e : t' = t
    · rw [e]; exact hD2 w hw
    · rw [hP2 _ (by omega)]; exact hD1 t' (by omega) w hw
