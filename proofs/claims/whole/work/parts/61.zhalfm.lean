/-! the reference does a half */ -/
def zhs (cd : Nat → Nat) (mc : Nat → Nat → Nat) (h s x t : Nat) : Nat → Nat
  | 0 => 0
  | b + 1 => zhs cd mc h s x t b + (if h = 1 then (if cd 2 ≤ b then zrc cd mc (zsg cd s x (b - cd 2 + 1)) t b else 0) else (if cd 2 ≤ b then 0 else zrc cd mc (zsg cd s x b) t b))
theorem zhs_S {cd : Nat → Nat} {mc : Nat → Nat → Nat} {h s x t b : Nat} : zhs cd mc h s x t (b + 1) = zhs cd mc h s x t b + (if h = 1 then (if cd 2 ≤ b then zrc cd mc (zsg cd s x (b - cd 2 + 1)) t b else 0) else (if cd 2 ≤ b then 0 else zrc cd mc (zsg cd s x b) t b)) := rfl
theorem zps_S {g : Nat → Nat → Nat} {cd : Nat → Nat} {s x k : Nat} : zps g cd s x (k + 1) = zps g cd s x k + g k (zsg cd s x k) := rfl
theorem zhs_0 {cd : Nat → Nat} {mc : Nat → Nat → Nat} {s x t : Nat} : ∀ j, zhs cd mc 0 s x t (cd 2 + j) = zhs cd mc 0 s x t (cd 2)
  | 0 => rfl
  | j + 1 => by
    rw [← Nat.add_assoc, zhs_S, zhs_0 j, if_neg (by omega), if_pos (by omega)]; rfl
theorem zhs_1 {cd : Nat → Nat} {mc : Nat → Nat → Nat} {s x t : Nat} : ∀ j, j ≤ cd 2 → zhs cd mc 1 s x t j = 0
  | 0, _ => rfl
  | j + 1, h => by
    rw [zhs_S, zhs_1 j (by omega), if_pos rfl, if_neg (by omega)]
/-- what the reference adds up is the price of the class -/
theorem zhs_P {cd : Nat → Nat} {mc : Nat → Nat → Nat} {n h s x t : Nat} {N : Nat → Int} (hv : zCv cd) (h5 : cd 0 = 5) (hx : x < 2) (hh : h ≤ 1) : (if x = 1 then (N (zti cd n h t)).toNat else (-(N (zti cd n h t))).toNat) + (if h = 1 then zrc cd mc x (zti cd n h t) 0 else 0) + zhs cd mc h s x t (zwd cd) = zTP cd mc n h N t (2 * s + x) := by
  have h22 : 2 ≤ cd 2 := hv.2.2.2.1
  have hwd : zwd cd = cd 2 + (cd 2 - 1) := by unfold zwd; rw [if_pos h5]; omega
  have hs0 : zsg cd s x 0 = x := by unfold zsg; rw [if_pos ⟨rfl, by omega⟩]
  obtain ⟨w, hw⟩ : ∃ w, w = (if x = 1 then (N (zti cd n h t)).toNat else (-(N (zti cd n h t))).toNat) := ⟨_, rfl⟩
  rw [← hw]
  unfold zTP
  rw [show (2 * s + x) / 2 = s by omega, show (2 * s + x) % 2 = x by omega]
  have z1 : zps (zTg cd mc n h N t) cd s x 1 = zrc cd mc x (zti cd n h t) 0 + w := by
    show 0 + zTg cd mc n h N t 0 (zsg cd s x 0) = _
    rw [hs0, zt_add, Nat.zero_add, hw]
  rcases (show h = 0 ∨ h = 1 by omega) with e | e
  · subst e
    have key : ∀ k, 1 ≤ k → k ≤ cd 2 → zps (zTg cd mc n 0 N t) cd s x k = w + zhs cd mc 0 s x t k := by
      intro k
      induction k with
      | zero => intro h; omega
      | succ k ih =>
        intro h1 h2
        by_cases c : k = 0
        · subst c
          have ez : zti cd n 0 t = t := by unfold zti; rw [if_neg (by omega)]
          have eh : zhs cd mc 0 s x t (0 + 1) = zrc cd mc x t 0 := by
            rw [zhs_S, if_neg (by omega), if_neg (by omega), hs0]
            exact Nat.zero_add _
          have e1 : zps (zTg cd mc n 0 N t) cd s x (0 + 1) = zrc cd mc x (zti cd n 0 t) 0 + w := z1
          rw [e1, eh, ez]; omega
        · rw [zps_S, zhs_S]
          rw [ih (by omega) (by omega), if_neg (by omega), if_neg (by omega)]
          have : zTg cd mc n 0 N t k (zsg cd s x k) = zrc cd mc (zsg cd s x k) t k := by unfold zTg; rw [if_neg c, if_neg (by omega)]; rfl
          rw [this]; omega
    rw [key (cd 2) (by omega) (Nat.le_refl _), hwd, zhs_0, if_neg (by omega)]
    omega
  · subst e
    have key : ∀ j, j < cd 2 → zps (zTg cd mc n 1 N t) cd s x (j + 1) = zrc cd mc x (zti cd n 1 t) 0 + w + zhs cd mc 1 s x t (cd 2 + j) := by
      intro j
      induction j with
      | zero => intro _; rw [z1, Nat.add_zero, zhs_1 _ (Nat.le_refl _)]; rfl
      | succ j ih =>
        intro h1
        rw [zps_S, ← Nat.add_assoc (cd 2), zhs_S]
        rw [ih (by omega), if_pos rfl, if_pos (by omega), show cd 2 + j - cd 2 + 1 = j + 1 by omega]
        have : zTg cd mc n 1 N t (j + 1) (zsg cd s x (j + 1)) = zrc cd mc (zsg cd s x (j + 1)) t (cd 2 + j) := by unfold zTg; rw [if_neg (by omega), if_pos rfl, show j + 1 + (cd 2 - 1) = cd 2 + j by omega]
        rw [this]; omega
    have hk := key (cd 2 - 1) (by omega)
    rw [show cd 2 - 1 + 1 = cd 2 by omega, ← hwd] at hk
    rw [hk, if_pos rfl]; omega
theorem zq_half126 {O : Type} {kont : Int32 → Option O} {I : pd_I} {c r m t s x h v0 : Nat} {cd f : Nat → Nat} {T : Nat → Nat → Nat} (hC : zCm I c cd) (hv : zCv cd) (h5 : cd 0 = 5) (hr : zRom I r m f) (hT : zTam I T) (ht : t < 206) (hs : s < 64) (hx : x < 2) (hh : h ≤ 1) :
    fl_X12_halfCosts_126 (zn c) (zn r) (zn h) (zn t) (zn s) (zn x) I kont pd_FU (zn v0) (zn (zsa cd t)) (zn 0) = kont (zn (v0 + zhs cd (zmc m f T) h s x t (zwd cd))) := by
  have hw := zwd_le hv
  have h22 : 2 ≤ cd 2 := hv.2.2.2.1
  have h24 : cd 2 ≤ 4 := hv.2.2.2.2.1
  have hwd : zwd cd = cd 2 + (cd 2 - 1) := by unfold zwd; rw [if_pos h5]; omega
  have hsa := zsa_le hv t
  have hc := hC.1
  refine zl_eq (fun fu b (st : Int32 × Int32) => fl_X12_halfCosts_126 (zn c) (zn r) (zn h) (zn t) (zn s) (zn x) I kont fu st.1 st.2 b) (zwd cd) 0 (fun b => (zn (v0 + zhs cd (zmc m f T) h s x t b), zn (zsa cd t + zsn cd t b))) _ (fun fu => ?_) (fun fu b _ hb => ?_) pd_FU 0 (by omega) (by omega) (zFU (by omega))
  · try simp only []
    rw [fl_X12_halfCosts_126, zc_wide hC hv, zb_bd, if_pos (by rw [zn_le (by omega) (by omega)]; omega)]
  · try simp only []
    have hsn := zsn_le (cd := cd) (t := t) b
    have hse := zse_lt (cd := cd) (t := t) (o := b)
    rw [fl_X12_halfCosts_126, zc_wide hC hv, zb_bd, if_neg (by rw [zn_le (by omega) (by omega)]; omega), zc_isKept hC hv (by omega) (by omega), zb_bd, zn_0, zi_eq (by omega) (by omega)]
    by_cases c1 : zse cd t b = 0
    · have e0 : ∀ bb, zrc cd (zmc m f T) bb t b = 0 := fun bb => by unfold zrc; rw [if_neg (by omega)]
      have e1 : zhs cd (zmc m f T) h s x t (b + 1) = zhs cd (zmc m f T) h s x t b := by
        rw [zhs_S, e0, e0]; split <;> (split <;> rfl)
      have e2 : zsn cd t (b + 1) = zsn cd t b := by show _ + zse cd t b = _; rw [c1]; rfl
      rw [if_pos c1, zb_bd2, zb_let, zn_1, zn_add, e1, e2]
    · have c2 : zse cd t b = 1 := by omega
      have e0 : ∀ bb, zrc cd (zmc m f T) bb t b = zmc m f T bb (zsa cd t + zsn cd t b) := fun bb => by unfold zrc; rw [if_pos c2]
      have e2 : zsn cd t (b + 1) = zsn cd t b + 1 := by show _ + zse cd t b = _; rw [c2]
      rw [if_neg c1, zn_in2 hc (by omega), zb_gd, zn_nat (by omega), hC.2.2.2.1, zi_lt (by omega) (by omega)]
      have e1 : zhs cd (zmc m f T) h s x t (b + 1) = zhs cd (zmc m f T) h s x t b + (if h = 1 then (if cd 2 ≤ b then zmc m f T (zsg cd s x (b - cd 2 + 1)) (zsa cd t + zsn cd t b) else 0) else (if cd 2 ≤ b then 0 else zmc m f T (zsg cd s x b) (zsa cd t + zsn cd t b))) := by
        rw [zhs_S, e0, e0]
      rw [e1, e2]
      have hsg : ∀ o, zsg cd s x o < 2 := fun o => zsg_lt hx
      have z01 : ¬ (0 : Nat) = 1 := by omega
      have o11 : (1 : Nat) = 1 := rfl
      have z01n : ¬ zn 0 = zn 1 := by rw [zn_eq (by omega) (by omega)]; omega
      rcases (show h = 0 ∨ h = 1 by omega) with eh | eh
      · subst eh
        rw [if_neg z01]
        by_cases cb : b < cd 2
        · have nb : ¬ cd 2 ≤ b := by omega
          rw [if_neg nb, if_pos cb, zb_bd, if_pos rfl, zb_bd, zn_1, if_neg zn_p0, if_pos rfl, zb_bd, zc_out hC hv hs hx (by omega), zb_bd, zr_markCost hr hT (by omega) (hsg b), zb_bd, zb_let, zb_bd, zb_let, zb_bd2, zb_let, zn_add, zn_add, zn_add, Nat.add_assoc, Nat.add_assoc]
        · have pb : cd 2 ≤ b := by omega
          rw [if_pos pb, if_neg cb, zb_bd, zn_1, if_neg z01n, zb_bd, if_pos rfl, zb_bd, zb_let, zb_bd2, zb_let, zn_add, zn_add, Nat.add_assoc]; rfl
      · subst eh
        rw [if_pos o11]
        by_cases cb : b < cd 2
        · have nb : ¬ cd 2 ≤ b := by omega
          rw [if_neg nb, if_pos cb, zb_bd, zn_1, if_neg zn_p0, zb_bd, if_pos rfl, zb_bd, zb_let, zb_bd2, zb_let, zn_add, zn_add, Nat.add_assoc]; rfl
        · have pb : cd 2 ≤ b := by omega
          rw [if_pos pb, if_neg cb, zb_bd, zn_1, if_pos rfl, zb_bd, if_neg zn_p0, if_neg zn_p0, zb_gd, zn_sub (by omega), zn_add, zb_bd, zc_out hC hv hs hx (by omega), zb_bd, zr_markCost hr hT (by omega) (hsg _), zb_bd, zb_let, zb_bd, zb_let, zb_bd2, zb_let, zn_add, zn_add, zn_add, Nat.add_assoc, Nat.add_assoc]
/-- what is known of a bit by its own mark -/
def zSy (I : pd_I) (cd : Nat → Nat) (mc : Nat → Nat → Nat) (n : Nat) : Prop := ∀ i, i < n → I 122 (2 * i) = zn (zrc cd mc 0 i 0) ∧ I 122 (2 * i + 1) = zn (zrc cd mc 1 i 0)
theorem zq_halfCosts {I : pd_I} {c r m n h : Nat} {cd f : Nat → Nat} {T : Nat → Nat → Nat} {N : Nat → Int} (hC : zCm I c cd) (hv : zCv cd) (h5 : cd 0 = 5) (hr : zRom I r m f) (hT : zTam I T) (hn1 : 1 ≤ n) (hn2 : n ≤ 200) (hh : h ≤ 1) (hinj : ∀ t, t < n → ∀ k, k < t → t * cd 5 % n ≠ k * cd 5 % n) (hS : zSy I cd (zmc m f T) n) (hN : ∀ i, i < n → I 121 i = zI (N i)) (hNb : ∀ i, -5000 ≤ N i ∧ N i ≤ 5000) :
    zT (fn_X12_halfCosts I (zn c) (zn r) (zn n) (zn h)) (fun I' => zF [110] I I' ∧ zMa I' cd n (zTP cd (zmc m f T) n h N)) := by
  have hS64 := zCv_S hv
  have h6 : cd 1 ≤ 6 := hv.2.2.1
  have hc := hC.1
  obtain ⟨hti, htj⟩ := zti_ok (h := h) hn1 hinj
  unfold fn_X12_halfCosts
  rw [zn_0]
  refine zl_loop (fun fu t (st : pd_I) => fl_X12_halfCosts_3 (zn c) (zn r) (zn n) (zn h) (fun zI2 => some zI2) fu t st) n (fun t st => zF [110] I st ∧ zMD st (zTP cd (zmc m f T) n h N) (2 * 2 ^ cd 1) t 0) ?_ ?_ pd_FU 0 I (by omega) (zFU (by omega)) ⟨zF_rfl, fun t' e' _ hc => by omega⟩
  · rintro fu I1 ⟨hF1, hD1⟩
    try simp only []
    rw [fl_X12_halfCosts_3, if_pos (by rw [zn_le (by omega) (by omega)]; omega)]
    exact ⟨_, rfl, hF1, fun t ht e he => hD1 t e he (by omega)⟩
  · rintro fu t I1 ht ⟨hF1, hD1⟩ ih
    try simp only [] at ih ⊢
    have hcd1 := zCm_F (by decide) hF1 hC
    have hbit : (if zn h = 0 then some (zn t) else (pd_bd (fn_X12_order I1 (zn c) (zn n) (zn t)) fun zr6 => some zr6)) = some (zn (zti cd n h t)) := by
      rw [zn_0, zi_eq (by omega) (by omega), zc_order hcd1 hv (by omega) hn1 hn2]
      unfold zti
      by_cases c : h = 0
      · rw [if_pos c, if_neg (by omega)]
      · rw [if_neg c, if_pos (by omega)]; rfl
    have hi := (hti t ht).1
    obtain ⟨i, hid⟩ : ∃ i, i = zti cd n h t := ⟨_, rfl⟩
    rw [fl_X12_halfCosts_3, if_neg (by rw [zn_le (by omega) (by omega)]; omega), hbit, zb_bd, zc_sentAhead hcd1 hv (by omega), zb_bd, zn_0, ← hid]
    generalize hkt : (fun zI4 => pd_let (zn t + 1) fun zv7 => fl_X12_halfCosts_3 (zn c) (zn r) (zn n) (zn h) (fun zI2 => some zI2) fu zv7 zI4) = kt
    refine zl_loop (fun fu2 s (st : pd_I) => fl_X12_halfCosts_41 (zn c) (zn r) (zn h) (zn t) (zn i) (zn (zsa cd t)) kt fu2 s st) (2 ^ cd 1) (fun s st => zF [110] I st ∧ zMD st (zTP cd (zmc m f T) n h N) (2 * 2 ^ cd 1) t (2 * s)) ?_ ?_ pd_FU 0 I1 (by omega) (zFU (by omega)) ⟨hF1, hD1⟩
    · rintro fu2 I2 ⟨hF2, hD2⟩
      have hcd2 := zCm_F (by decide) hF2 hC
      try simp only []
      rw [fl_X12_halfCosts_41, zn_in2 hc (by omega), zb_gd, zn_nat (by omega), hcd2.2.2.1, zn_1, zn_31, zn_1shl _ (by omega), if_pos (by rw [zn_le (by omega) (by omega)]; omega), ← hkt]
      simp only [zb_let, zn_1, zn_add]
      exact ih _ ⟨hF2, fun t' e' he' hc => hD2 t' e' he' (by omega)⟩
    · rintro fu2 s I2 hs ⟨hF2, hD2⟩ ih2
      have hcd2 := zCm_F (by decide) hF2 hC
      try simp only [] at ih2 ⊢
      rw [fl_X12_halfCosts_41, zn_in2 hc (by omega), zb_gd, zn_nat (by omega), hcd2.2.2.1, zn_1, zn_31, zn_1shl _ (by omega), if_neg (by rw [zn_le (by omega) (by omega)]; omega), zn_0]
      generalize hkt2 : (fun zI6 => pd_let (zn s + zn 1) fun zv6 => fl_X12_halfCosts_41 (zn c) (zn r) (zn h) (zn t) (zn i) (zn (zsa cd t)) kt fu2 zv6 zI6) = kt2
      refine zl_loop (fun fu3 x (st : pd_I) => fl_X12_halfCosts_57 (zn c) (zn r) (zn h) (zn t) (zn i) (zn (zsa cd t)) (zn s) kt2 fu3 x st) 2 (fun x st => zF [110] I st ∧ zMD st (zTP cd (zmc m f T) n h N) (2 * 2 ^ cd 1) t (2 * s + x)) ?_ ?_ pd_FU 0 I2 (by omega) (zFU (by omega)) ⟨hF2, hD2⟩
      · rintro fu3 I3 ⟨hF3, hD3⟩
        try simp only []
        rw [fl_X12_halfCosts_57, zn_2, if_pos (by rw [zn_le (by omega) (by omega)]; omega), ← hkt2]
        simp only [zb_let, zn_add]
        exact ih2 _ ⟨hF3, hD3⟩
      · rintro fu3 x I3 hx ⟨hF3, hD3⟩ ih3
        have hcd3 := zCm_F (by decide) hF3 hC
        have hr3 := zRom_F (by decide) (by decide) hF3 hr
        have hT3 := zTam_F (by decide) (by decide) hF3 hT
        try simp only [] at ih3 ⊢
        obtain ⟨b1, b2⟩ := hNb i
        have e121 : I3 121 i = zI (N i) := by rw [hF3 121 (by decide)]; exact hN i (by omega)
        have e122 : I3 122 (2 * i + x) = zn (zrc cd (zmc m f T) x i 0) := by
          rw [hF3 122 (by decide)]
          rcases (show x = 0 ∨ x = 1 by omega) with e | e
          · rw [e]; exact (hS i (by omega)).1
          · rw [e]; exact (hS i (by omega)).2
        have ex5 : (if zn x = 1 then pd_gd (pd_in (zn i) 200) (some (pd_max (I3 121 (zn i).toNatClampNeg) 0)) else (pd_gd (pd_in (zn i) 200) (some (pd_max (-(I3 121 (zn i).toNatClampNeg)) 0)))) = some (zn (if x = 1 then (N i).toNat else (-(N i)).toNat)) := by
          rw [zn_in2 (by omega) (by omega), zb_gd, zb_gd, zn_nat (by omega), e121, zI_neg, (zp_max0 (by omega) (by omega)).2, (zp_max0 (by omega) (by omega)).2, zn_1, zi_eq (by omega) (by omega)]
          by_cases c : x = 1
          · rw [if_pos c, if_pos c]
          · rw [if_neg c, if_neg c]
        obtain ⟨w, hw⟩ : ∃ w, w = (if x = 1 then (N i).toNat else (-(N i)).toNat) := ⟨_, rfl⟩
        rw [← hw] at ex5
        have i2 : (2 : Int32) * zn i + zn x = zn (2 * i + x) := by rw [zn_2, zn_mul, zn_add]
        have ex6 : (if zn h = 0 then some (zn w) else (pd_gd (pd_in ((2 * zn i) + zn x) 400) (pd_let (zn w + (I3 122 ((2 * zn i) + zn x).toNatClampNeg)) fun zv5 => some zv5))) = some (zn (w + (if h = 1 then zrc cd (zmc m f T) x i 0 else 0))) := by
          rw [i2, zn_0, zi_eq (by omega) (by omega), zn_in2 (by omega) (by omega), zb_gd, zn_nat (by omega), e122, zn_add, zb_let]
          by_cases c : h = 0
          · rw [if_pos c, if_neg (by omega)]; rfl
          · rw [if_neg c, if_pos (by omega)]
        rw [fl_X12_halfCosts_57, zn_2, if_neg (by rw [zn_le (by omega) (by omega)]; omega), ex5, zb_bd, ← zn_2, ex6, zb_bd, zn_0, zq_half126 hcd3 hv h5 hr3 hT3 (by omega) (by omega) hx hh]
        have hP := zhs_P (cd := cd) (mc := zmc m f T) (n := n) (h := h) (s := s) (x := x) (t := t) (N := N) hv h5 hx hh
        rw [← hid, ← hw] at hP
        rw [hP]
        simp (disch := omega) only [zb_gd, zb_bd, zb_bd2, zb_let, zb_jn, zn_0, zn_1, zn_2, zn_3, zn_4, zn_5, zn_6, zn_7, zn_8, zn_11, zn_12, zn_15, zn_16, zn_18, zn_30, zn_31, zn_32, zn_64, zn_128, zn_199, zn_200, zn_512, zn_600, zn_1000, zn_2048, zn_add, zn_mul, zn_sub, zn_in2, zn_nat, zn_le, zn_lt, zn_eq, if_pos, if_neg, Bool.false_eq_true, ↓reduceIte]
        refine ih3 _ ⟨zF_u (by decide) hF3, ?_⟩
        have hz := zMD_u (by omega) (show 2 * s + x < 2 * 2 ^ cd 1 by omega) hD3
        rw [show 128 * t + 2 * s + x = 128 * t + (2 * s + x) by omega]
        exact hz
