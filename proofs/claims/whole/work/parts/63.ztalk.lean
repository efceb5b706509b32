/-! talk, in the reference and in the class */ -/
theorem zag_S {cd : Nat → Nat} {mc : Nat → Nat → Nat} {n k i : Nat} : zag cd mc n k (i + 1) = if zag cd mc n k i = 1 ∧ zsay (zE0 cd mc n k i) = zsay (zE1 cd mc n k i) then 1 else 0 := rfl
theorem zq_talk91 {O : Type} {Q : O → Prop} {kont : pd_I → Option O} {I : pd_I} {c r m n : Nat} {cd f : Nat → Nat} {T : Nat → Nat → Nat} (hC : zCm I c cd) (hv : zCv cd) (hr : zRom I r m f) (hT : zTam I T) (hn2 : n ≤ 200)
    (hK : ∀ I', zF [121, 122] I I' → (∀ i, i < n → I' 121 i = zI 0) → zSy I' cd (zmc m f T) n → zT (kont I') Q) :
    zT (fl_X12_talk_91 (zn c) (zn r) (zn n) kont pd_FU (zn 0) I) Q := by
  refine zl_loop (fun fu i (st : pd_I) => fl_X12_talk_91 (zn c) (zn r) (zn n) kont fu i st) n (fun i st => zF [121, 122] I st ∧ (∀ i', i' < i → st 121 i' = zI 0) ∧ zSy st cd (zmc m f T) i) ?_ ?_ pd_FU 0 I (by omega) (zFU (by omega)) ⟨zF_rfl, fun i h => absurd h (Nat.not_lt_zero _), fun i h => absurd h (Nat.not_lt_zero _)⟩
  · rintro fu I1 ⟨hF1, hN1, hS1⟩
    try simp only []
    rw [fl_X12_talk_91, if_pos (by rw [zn_le (by omega) (by omega)]; omega)]
    exact hK I1 hF1 hN1 hS1
  · rintro fu i I1 hi ⟨hF1, hN1, hS1⟩ ih
    try simp only [] at ih ⊢
    obtain ⟨I2, hI2⟩ : ∃ I2, I2 = pd_ui I1 121 i (zn 0) := ⟨_, rfl⟩
    have hF2 : zF [121, 122] I I2 := by rw [hI2]; exact zF_u (by decide) hF1
    have hcd2 := zCm_F (by decide) hF2 hC
    have hse := zse_lt (cd := cd) (t := i) (o := 0)
    have hsa := zsa_le hv i
    rw [fl_X12_talk_91, if_neg (by rw [zn_le (by omega) (by omega)]; omega), zn_in2 (show i < 200 by omega) (by omega), zb_gd, zn_nat (by omega), zb_let, zn_0, ← hI2, zc_isKept hcd2 hv (by omega) (by omega), zb_bd, zc_sentAhead hcd2 hv (by omega), zb_bd]
    generalize hkt : (fun zI11 => pd_let (zn i + 1) fun zv2 => fl_X12_talk_91 (zn c) (zn r) (zn n) kont fu zv2 zI11) = kt
    refine zl_loop (fun fu2 x (st : pd_I) => fl_X12_talk_127 (zn r) (zn i) (zn (zse cd i 0)) (zn (zsa cd i)) kt fu2 x st) 2 (fun x st => zF [122] I2 st ∧ (∀ x', x' < x → st 122 (2 * i + x') = zn (zrc cd (zmc m f T) x' i 0)) ∧ ∀ j, j < 2 * i → st 122 j = I1 122 j) ?_ ?_ pd_FU 0 I2 (by omega) (zFU (by omega)) ⟨zF_rfl, fun x h => absurd h (Nat.not_lt_zero _), fun j _ => by rw [hI2, zu_ne (by decide)]⟩
    · rintro fu2 I3 ⟨hF3, hD3, hJ3⟩
      try simp only []
      rw [fl_X12_talk_127, if_pos (by rw [zn_2, zn_le (by omega) (by omega)]; omega), ← hkt]
      simp only [zb_let, zn_1, zn_add]
      refine ih _ ⟨zF_tr hF2 (zF_sub hF3 (by decide)), fun i' hi' => ?_, fun i' hi' => ?_⟩
      · rw [hF3 121 (by decide), hI2, zu_same, zu_app]
        by_cases e : i' = i
        · rw [if_pos e]; rfl
        · rw [if_neg e]; exact hN1 i' (by omega)
      · by_cases e : i' = i
        · rw [e]; exact ⟨hD3 0 (by omega), hD3 1 (by omega)⟩
        · rw [hJ3 _ (by omega), hJ3 _ (by omega)]; exact hS1 i' (by omega)
    · rintro fu2 x I3 hx ⟨hF3, hD3, hJ3⟩ ih2
      try simp only [] at ih2 ⊢
      have hF23 : zF [121, 122] I I3 := zF_tr hF2 (zF_sub hF3 (by decide))
      have hr3 := zRom_F (by decide) (by decide) hF23 hr
      have hT3 := zTam_F (by decide) (by decide) hF23 hT
      have ex : (if zn (zse cd i 0) = 0 then some (0 : Int32) else (pd_bd (fn_X12_markCost I3 (zn r) (zn (zsa cd i)) (zn x)) fun zr9 => some zr9)) = some (zn (zrc cd (zmc m f T) x i 0)) := by
        rw [zn_0, zi_eq (by omega) (by omega), zr_markCost hr3 hT3 (by omega) hx]
        unfold zrc
        by_cases e : zse cd i 0 = 0
        · rw [if_pos e, if_neg (by omega)]
        · rw [if_neg e, if_pos (by omega)]; rfl
      have i2 : (2 : Int32) * zn i + zn x = zn (2 * i + x) := by rw [zn_2, zn_mul, zn_add]
      rw [fl_X12_talk_127, if_neg (by rw [zn_2, zn_le (by omega) (by omega)]; omega), ex, zb_bd, i2, zn_in2 (by omega) (by omega), zb_gd, zn_nat (by omega), zb_let, zb_let, zn_1, zn_add]
      refine ih2 _ ⟨zF_u (by decide) hF3, fun x' hx' => ?_, fun j hj => by rw [zu_same, zu_nat (by omega)]; exact hJ3 j hj⟩
      rw [zu_same, zu_app]
      by_cases e : x' = x
      · rw [if_pos (by omega), e]
      · rw [if_neg (by omega)]; exact hD3 x' (by omega)
theorem zq_talk183 {O : Type} {Q : O → Prop} {kont : Int32 → pd_I → Option O} {I : pd_I} {c r m n mo : Nat} {cd f : Nat → Nat} {T : Nat → Nat → Nat} (hC : zCm I c cd) (hv : zCv cd) (h5 : cd 0 = 5) (hr : zRom I r m f) (hT : zTam I T) (hn1 : 1 ≤ n) (hn2 : n ≤ 200) (hm1 : 1 ≤ mo) (hm10 : mo ≤ 10) (hinj : ∀ t, t < n → ∀ k, k < t → t * cd 5 % n ≠ k * cd 5 % n) (hS : zSy I cd (zmc m f T) n) (hN : ∀ i, i < n → I 121 i = zI 0) (hmc : ∀ b, b < 2 → ∀ i, zmc m f T b i ≤ 1000) (h21 : I 92 21 = zn 0)
    (hK : ∀ I', zF [92, 109, 110, 115, 116, 117, 118, 121, 123] I I' → (∀ j, j ≠ 21 → I' 92 j = I 92 j) → I' 92 21 = zn (zru cd (zmc m f T) n mo).2 → (∀ i, i < n → I' 109 i = zE1 cd (zmc m f T) n ((zru cd (zmc m f T) n mo).1 - 1) i) → zT (kont (zn (zru cd (zmc m f T) n mo).1) I') Q) :
    zT (fl_X12_talk_183 (zn c) (zn r) (zn n) (zn mo) kont pd_FU (zn 0) I) Q := by
  refine zl_loop (fun fu k (st : pd_I) => fl_X12_talk_183 (zn c) (zn r) (zn n) (zn mo) kont fu k st) mo (fun k st => (zru cd (zmc m f T) n k).1 = k ∧ zF [92, 109, 110, 115, 116, 117, 118, 121, 123] I st ∧ (∀ j, j ≠ 21 → st 92 j = I 92 j) ∧ st 92 21 = zn (zru cd (zmc m f T) n k).2 ∧ (∀ i, i < n → st 121 i = zI (zNN cd (zmc m f T) n k i)) ∧ (1 ≤ k → ∀ i, i < n → st 109 i = zE1 cd (zmc m f T) n (k - 1) i)) ?_ ?_ pd_FU 0 I (by omega) (zFU (by omega)) ⟨rfl, zF_rfl, fun _ _ => rfl, h21, hN, fun h => absurd h (by omega)⟩
  · rintro fu I3 ⟨q0, q1, q2, q3, q4, q5⟩
    try simp only []
    have := hK I3 q1 q2 q3
    rw [q0] at this
    rw [fl_X12_talk_183, if_pos (by rw [zn_le (by omega) (by omega)]; omega), zb_bd, if_neg (by decide)]
    exact this (q5 hm1)
  · rintro fu k I3 hk ⟨q0, q1, q2, q3, q4, q5⟩ ih
    try simp only [] at ih ⊢
    have hl := zru_le (cd := cd) (mc := zmc m f T) (n := n) k
    rw [fl_X12_talk_183, if_neg (by rw [zn_le (by omega) (by omega)]; omega), q3, zn_0, zi_eq (by omega) (by omega)]
    by_cases c0 : (zru cd (zmc m f T) n k).2 = 0
    · rw [if_pos c0, zb_bd, if_pos rfl, zT_bd]
      have hcd3 := zCm_F (by decide) q1 hC
      have hr3 := zRom_F (by decide) (by decide) q1 hr
      have hT3 := zTam_F (by decide) (by decide) q1 hT
      have hS3 : zSy I3 cd (zmc m f T) n := by unfold zSy; rw [q1 122 (by decide)]; exact hS
      refine zT_mono (zq_half (h := 0) (N := zNN cd (zmc m f T) n k) hcd3 hv h5 hr3 hT3 hn1 hn2 (by omega) hinj hS3 q4 (zNN_b k) hmc) (fun I4 ⟨p1, p2, p3⟩ => ?_)
      generalize hkt : (fun zI18 => pd_bd (fn_X12_half zI18 (zn c) (zn r) (zn n) 1) fun zI20 => pd_let (pd_ui zI20 92 21 1) fun zI21 => fl_X12_talk_258 (zn n) (fun zI23 => pd_let (zn k + 1) fun zv5 => fl_X12_talk_183 (zn c) (zn r) (zn n) (zn mo) kont fu zv5 zI23) pd_FU (zn 0) zI21) = kt
      refine zl_loop (fun fu2 i (st : pd_I) => fl_X12_talk_208 (zn n) kt fu2 i st) n (fun i st => zF [123] I4 st ∧ ∀ i', i' < i → st 123 i' = zn (zsay (zE0 cd (zmc m f T) n k i'))) ?_ ?_ pd_FU 0 I4 (by omega) (zFU (by omega)) ⟨zF_rfl, fun i h => absurd h (Nat.not_lt_zero _)⟩
      · rintro fu2 I5 ⟨hF5, hD5⟩
        try simp only []
        have q15 : zF [92, 109, 110, 115, 116, 117, 118, 121, 123] I I5 := zF_tr q1 (zF_tr (zF_sub p1 (by decide)) (zF_sub hF5 (by decide)))
        have hcd5 := zCm_F (by decide) q15 hC
        have hr5 := zRom_F (by decide) (by decide) q15 hr
        have hT5 := zTam_F (by decide) (by decide) q15 hT
        have hS5 : zSy I5 cd (zmc m f T) n := by unfold zSy; rw [q15 122 (by decide)]; exact hS
        rw [fl_X12_talk_208, if_pos (by rw [zn_le (by omega) (by omega)]; omega), ← hkt]
        simp only []
        rw [zT_bd, zn_1]
        refine zT_mono (zq_half (h := 1) (N := zTN cd (zmc m f T) n 0 (zNN cd (zmc m f T) n k)) hcd5 hv h5 hr5 hT5 hn1 hn2 (by omega) hinj hS5 (by rw [hF5 121 (by decide)]; exact p3) (fun i => zcl_b) hmc) (fun I6 ⟨o1, o2, o3⟩ => ?_)
        rw [zb_let]
        obtain ⟨I7, hI7⟩ : ∃ I7, I7 = pd_ui I6 92 21 (zn 1) := ⟨_, rfl⟩
        rw [← hI7]
        have hF67 : zF [92] I6 I7 := by rw [hI7]; exact zF_u (by decide) zF_rfl
        have hG67 : ∀ j, j ≠ 21 → I7 92 j = I6 92 j := fun j hj => by rw [hI7, zu_same, zu_nat hj]
        have q17 : zF [92, 109, 110, 115, 116, 117, 118, 121, 123] I I7 := zF_tr q15 (zF_tr (zF_sub o1 (by decide)) (zF_sub hF67 (by decide)))
        have g17 : ∀ j, j ≠ 21 → I7 92 j = I 92 j := fun j hj => by rw [hG67 j hj, o1 92 (by decide), hF5 92 (by decide), p1 92 (by decide), q2 j hj]
        have e123 : ∀ i, i < n → I7 123 i = zn (zsay (zE0 cd (zmc m f T) n k i)) := fun i hi => by rw [hF67 123 (by decide), o1 123 (by decide)]; exact hD5 i hi
        have e109 : ∀ i, i < n → I7 109 i = zE1 cd (zmc m f T) n k i := fun i hi => by rw [hF67 109 (by decide)]; exact o2 i hi
        have hz : zru cd (zmc m f T) n (k + 1) = (k + 1, zag cd (zmc m f T) n k n) := by
          show (if (zru cd (zmc m f T) n k).2 = 1 then zru cd (zmc m f T) n k else ((zru cd (zmc m f T) n k).1 + 1, zag cd (zmc m f T) n (zru cd (zmc m f T) n k).1 n)) = _
          rw [if_neg (by omega), q0]
        generalize hkt2 : (fun zI23 => pd_let (zn k + zn 1) fun zv5 => fl_X12_talk_183 (zn c) (zn r) (zn n) (zn mo) kont fu zv5 zI23) = kt2
        refine zl_loop (fun fu3 i (st : pd_I) => fl_X12_talk_258 (zn n) kt2 fu3 i st) n (fun i st => zF [92] I7 st ∧ (∀ j, j ≠ 21 → st 92 j = I7 92 j) ∧ st 92 21 = zn (zag cd (zmc m f T) n k i)) ?_ ?_ pd_FU 0 I7 (by omega) (zFU (by omega)) ⟨zF_rfl, fun _ _ => rfl, by rw [hI7, zu_same, zu_at]; rfl⟩
        · rintro fu3 I8 ⟨hF8, hG8, h8⟩
          try simp only []
          rw [fl_X12_talk_258, if_pos (by rw [zn_le (by omega) (by omega)]; omega), ← hkt2]
          simp only [zb_let, zn_add]
          refine ih _ ⟨by rw [hz], zF_tr q17 (zF_sub hF8 (by decide)), fun j hj => by rw [hG8 j hj, g17 j hj], by rw [hz]; exact h8, fun i hi => ?_, fun _ i hi => ?_⟩
          · rw [hF8 121 (by decide), hF67 121 (by decide)]; exact o3 i hi
          · rw [hF8 109 (by decide)]; exact e109 i hi
        · rintro fu3 i I8 hi ⟨hF8, hG8, h8⟩ ih3
          try simp only [] at ih3 ⊢
          have la := zag_le (cd := cd) (mc := zmc m f T) (n := n) (k := k) i
          have sa := zsay_lt (x := zE0 cd (zmc m f T) n k i)
          have sb := zsay_lt (x := zE1 cd (zmc m f T) n k i)
          have ex : (if (I8 92 21) = 0 then some (0 : Int32) else (pd_gd (pd_in (zn i) 200) (pd_gd (pd_in (zn i) 200) (pd_bd (if 0 ≤ (I8 109 (zn i).toNatClampNeg) then some 0 else (some 1)) fun (zx12 : Int32) => if (I8 123 (zn i).toNatClampNeg) = zx12 then some 1 else (some 0))))) = some (zn (zag cd (zmc m f T) n k (i + 1))) := by
            rw [zn_in2 (show i < 200 by omega) (by omega), zb_gd, zb_gd, zn_nat (by omega), hF8 109 (by decide), hF8 123 (by decide), e109 i hi, e123 i hi, zsay_e, zb_bd, h8, zn_0, zi_eq (by omega) (by omega), zi_eq (by omega) (by omega)]
            rw [zag_S]
            by_cases a : zag cd (zmc m f T) n k i = 0
            · rw [if_pos a, if_neg (by omega)]
            · rw [if_neg a]
              by_cases b : zsay (zE0 cd (zmc m f T) n k i) = zsay (zE1 cd (zmc m f T) n k i)
              · rw [if_pos b, if_pos ⟨by omega, b⟩]; rfl
              · rw [if_neg b, if_neg (fun h => b h.2)]
          rw [fl_X12_talk_258, if_neg (by rw [zn_le (by omega) (by omega)]; omega), ex, zb_bd, zc_bo (zag_le _), zb_gd, zb_let, zb_let, zn_1, zn_add]
          exact ih3 _ ⟨zF_u (by decide) hF8, fun j hj => by rw [zu_same, zu_nat hj]; exact hG8 j hj, by rw [zu_same, zu_at]⟩
      · rintro fu2 i I5 hi ⟨hF5, hD5⟩ ih2
        try simp only [] at ih2 ⊢
        have e : I5 109 i = zE0 cd (zmc m f T) n k i := by rw [hF5 109 (by decide)]; exact p2 i hi
        rw [fl_X12_talk_208, if_neg (by rw [zn_le (by omega) (by omega)]; omega), zn_in2 (show i < 200 by omega) (by omega), zb_gd, zn_nat (by omega), e, zsay_e, zb_bd, zb_gd, zb_let, zb_let, zn_1, zn_add]
        refine ih2 _ ⟨zF_u (by decide) hF5, fun i' hi' => ?_⟩
        rw [zu_same, zu_app]
        by_cases e2 : i' = i
        · rw [if_pos e2, e2]
        · rw [if_neg e2]; exact hD5 i' (by omega)
    · have c1 : (zru cd (zmc m f T) n k).2 = 1 := by omega
      rw [if_neg c0, zb_bd, if_neg (by decide)]
      have hst := zru_stick c1 (mo - k)
      rw [show k + (mo - k) = mo by omega] at hst
      have hk1 : 1 ≤ k := by
        rcases Nat.eq_zero_or_pos k with e | e
        · rw [e] at c1; exact absurd c1 (by show ¬ (0 : Nat) = 1; omega)
        · exact e
      have := hK I3 q1 q2
      rw [hst, q0] at this
      exact this q3 (q5 hk1)
