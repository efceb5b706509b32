/-! the reference finds by few, whole -/
def zLN : List Nat := [92, 105, 106, 107, 108, 110, 124, 125, 126, 127]
theorem zq_few318 {I : pd_I} {c nn w : Nat} {cd : Nat → Nat} {P : Nat → Nat → Nat} (hv : zCv cd) (hn1 : 1 ≤ nn) (hn2 : nn ≤ 200) (hw : 1 ≤ w) (hO : zOrM I cd P nn w (zst cd nn)) {v0 : Int32} (h6 : I 106 0 = v0) :
    zT (fl_X12_few_318 (zn nn) (fun zI26 => pd_gd (pd_in 0 8) (some ((zI26 106 (0 : Int32).toNatClampNeg), zI26))) pd_FU (zn (zfe cd P nn w)) (zn (zst cd nn) - 1) I) (fun r => r.1 = v0 ∧ zF [105] I r.2 ∧ ∀ t, t < nn → r.2 105 (200 * 0 + t) = zn ((zfw cd P nn w).2.1 t)) := by
  have hS := zCv_S hv
  have hst := zst_le (n := nn) hv
  rw [zdn_0 (by omega)]
  refine zl_gen (fun fu x (st : Int32 × pd_I) => fl_X12_few_318 (zn nn) (fun zI26 => pd_gd (pd_in 0 8) (some ((zI26 106 (0 : Int32).toNatClampNeg), zI26))) fu st.1 x st.2) (zdn (zst cd nn)) (zst cd nn) (fun d st => st.1 = zn (zbs cd P nn w (zfe cd P nn w) d) ∧ zF [105] I st.2 ∧ ∀ t, t < nn → zst cd nn - d ≤ t → st.2 105 (200 * 0 + t) = zn ((zfw cd P nn w).2.1 t)) ?_ ?_ pd_FU 0 (zn (zfe cd P nn w), I) (by omega) (zFU (by omega)) ⟨rfl, zF_rfl, fun t h1 h2 => by omega⟩
  · rintro fu ⟨a, I'⟩ ⟨ea, hF, hD⟩
    try simp only [] at ea hF hD ⊢
    rw [fl_X12_few_318, zdn_n, if_pos (by decide), zn_0, zn_in2 (by omega) (by omega), zb_gd, zn_nat (by omega), hF 106 (by decide), h6]
    exact ⟨_, rfl, rfl, hF, fun t ht => hD t ht (by omega)⟩
  · rintro fu d ⟨a, I'⟩ hd ⟨ea, hF, hD⟩ ih
    try simp only [] at ea hF hD ih ⊢
    obtain ⟨h1, h2⟩ := zbs_ok (P := P) (n := nn) hv hw d (by omega)
    rw [show zst cd nn - d = (zst cd nn - (d + 1)) + 1 by omega] at h2
    have hG := zKG h2
    obtain ⟨q1, q2, q3, q4, q5⟩ := zFg_ok _ _ hG
    have e126 : I' 126 = I 126 := hF 126 (by decide)
    have e127 : I' 127 = I 127 := hF 127 (by decide)
    have hor := hO (zst cd nn - (d + 1)) (by omega) _ h1 hG
    rw [← e126, ← e127] at hor
    have hbs : zbs cd P nn w (zfe cd P nn w) (d + 1) = (zGg cd P nn w (zst cd nn - (d + 1)) (zbs cd P nn w (zfe cd P nn w) d)).2.1 := rfl
    subst ea
    obtain ⟨s, hs⟩ : ∃ s, s = zbs cd P nn w (zfe cd P nn w) d := ⟨_, rfl⟩
    obtain ⟨t, ht⟩ : ∃ t, t = zst cd nn - (d + 1) := ⟨_, rfl⟩
    rw [← ht, ← hs] at hbs hor
    rw [← hs] at h1
    have fin : ∀ I3 : pd_I, I3 = I' ∧ nn ≤ t ∨ I3 = pd_ui I' 105 t (zn (zGg cd P nn w t s).2.2) ∧ t < nn → zT (fl_X12_few_318 (zn nn) (fun zI26 => pd_gd (pd_in 0 8) (some ((zI26 106 (0 : Int32).toNatClampNeg), zI26))) fu (zn (zGg cd P nn w t s).2.1) (zdn (zst cd nn) (d + 1)) I3) (fun r => r.1 = v0 ∧ zF [105] I r.2 ∧ ∀ t, t < nn → r.2 105 (200 * 0 + t) = zn ((zfw cd P nn w).2.1 t)) := by
      intro I3 h3
      rw [← hbs]
      refine ih (_, I3) ⟨rfl, ?_, fun t' h4 h5 => ?_⟩
      · rcases h3 with ⟨h3, -⟩ | ⟨h3, -⟩
        · show zF _ _ I3; rw [h3]; exact hF
        · show zF _ _ I3; rw [h3]; exact zF_u (by simp) hF
      · show I3 _ _ = _
        rcases h3 with ⟨h3, h6⟩ | ⟨h3, h6⟩
        · rw [h3]; exact hD t' h4 (by omega)
        · rw [h3, zu_same, zu_app]
          by_cases e : t' = t
          · rw [if_pos (by omega), e]
            congr 1
            show _ = (zGg cd P nn w t (zbs cd P nn w (zfe cd P nn w) (zst cd nn - (t + 1)))).2.2
            rw [show zst cd nn - (t + 1) = d by omega, ← hs]
          · rw [if_neg (by omega)]; exact hD t' h4 (by omega)
    rw [fl_X12_few_318, zdn_lt (by omega), ← ht, ← hs, show ∀ (x y : Option (Int32 × pd_I)), (if zn t < 0 then x else y) = y from fun x y => by rw [zn_0, if_neg (zn_n0 (by omega))], zi_le (by omega) (by omega)]
    have i1 : (64 : Int32) * zn t + zn s = zn (64 * t + s) := by rw [zn_64, zn_mul, zn_add]
    have i3 : zn t + (-1) = zdn (zst cd nn) (d + 1) := by rw [ht]; exact zdn_s (by omega)
    rw [i1, zn_in2 (show 64 * t + s < 13184 by omega) (by omega), zb_gd, zn_nat (show 64 * t + s < 2147483648 by omega), i3]
    by_cases e : nn ≤ t
    · rw [if_pos e, zb_bd, zb_gd, hor.1, zb_let, zb_let]
      exact fin I' (Or.inl ⟨rfl, e⟩)
    · rw [if_neg e, zn_in2 (by omega) (by omega), zb_gd, zn_nat (by omega), hor.2, zb_let, zb_bd, zb_gd, zu_ne (by decide), hor.1, zb_let, zb_let]
      exact fin _ (Or.inr ⟨rfl, by omega⟩)
theorem zq_fewM {I : pd_I} {c r m nn w : Nat} {cd f : Nat → Nat} {T : Nat → Nat → Nat} (h : zCm I c cd) (hv : zCv cd) (hr : zRom I r m f) (hT : zTam I T) (hn1 : 1 ≤ nn) (hn2 : nn ≤ 200) (hw : 1 ≤ w) (hw64 : w ≤ 64) (hP : ∀ t e, zPp cd (zmc m f T) t e ≤ 10000) :
    zT (pd_bd (fn_X12_costs I (zn c) (zn r) (zn nn)) fun zI4 => pd_gd (pd_in (zn c) 12) (pd_let ((1 : Int32) <<< ((zI4 98 (zn c).toNatClampNeg) &&& 31)) fun zv1 => fl_X12_few_59 zv1 (fun zI6 => fl_X12_few_93 (zn c) (zn nn) (zn w) zv1 (fun zI9 => fl_X12_few_238 zv1 zI9 (fun zx11 => pd_let (pd_ui zI9 92 14 1) fun zI21 => pd_gd (pd_in zx11 64) (pd_gd (pd_in 0 8) (pd_let (pd_ui zI21 106 (0 : Int32).toNatClampNeg (zI21 124 zx11.toNatClampNeg)) fun zI22 => pd_gd (pd_in 0 8) (pd_let (pd_ui zI22 107 (0 : Int32).toNatClampNeg 0) fun zI23 => pd_gd (pd_in 0 8) (pd_let (pd_ui zI23 108 (0 : Int32).toNatClampNeg (zn nn)) fun zI24 => pd_bd (fn_X12_steps zI24 (zn c) (zn nn)) fun zr5 => pd_let (zr5 - 1) fun zv8 => fl_X12_few_318 (zn nn) (fun zI26 => pd_gd (pd_in 0 8) (some ((zI26 106 (0 : Int32).toNatClampNeg), zI26))) pd_FU zx11 zv8 zI24))))) pd_FU 0 0) pd_FU 0 zI6) pd_FU 0 zI4)) (fun r => r.1 = zn (zfw cd (zPp cd (zmc m f T)) nn w).1 ∧ zF zLN I r.2 ∧ zG I r.2 ∧ r.2 92 14 = zn 1 ∧ zWm r.2 0 (zfw cd (zPp cd (zmc m f T)) nn w) nn) := by
  have hS := zCv_S hv
  have hst := zst_le (n := nn) hv
  have h6 : cd 1 ≤ 6 := hv.2.2.1
  have hc := h.1
  have hzW := zW_lt
  have hzE := zE_W
  have hzB := zE_big
  obtain ⟨P, hPd⟩ : ∃ P, P = zPp cd (zmc m f T) := ⟨_, rfl⟩
  rw [← hPd] at hP ⊢
  have hKb : ∀ t s, t ≤ 206 → zKp cd P nn w t s ≤ 2200000 := fun t s ht => by
    have := zKp_le (cd := cd) (n := nn) (w := w) hP t s
    have : 10000 * t ≤ 10000 * 206 := Nat.mul_le_mul_left _ ht
    omega
  rw [zT_bd]
  refine zT_mono (zq_costs h hv hr hT hn2) (fun I1 ⟨hF1, hma1⟩ => ?_)
  rw [← hPd] at hma1
  have hcd1 := zCm_F (by decide) hF1 h
  rw [zn_in2 hc (by omega), zb_gd, zn_nat (by omega), hcd1.2.2.1, zb_let]
  have hsh : (1 : Int32) <<< (zn (cd 1) &&& 31) = zn (2 ^ cd 1) := by rw [zn_1, zn_31, zn_1shl _ (by omega)]
  rw [hsh]
  generalize hkt : (fun zI6 => fl_X12_few_93 (zn c) (zn nn) (zn w) (zn (2 ^ cd 1)) (fun zI9 => fl_X12_few_238 (zn (2 ^ cd 1)) zI9 (fun zx11 => pd_let (pd_ui zI9 92 14 1) fun zI21 => pd_gd (pd_in zx11 64) (pd_gd (pd_in 0 8) (pd_let (pd_ui zI21 106 (0 : Int32).toNatClampNeg (zI21 124 zx11.toNatClampNeg)) fun zI22 => pd_gd (pd_in 0 8) (pd_let (pd_ui zI22 107 (0 : Int32).toNatClampNeg 0) fun zI23 => pd_gd (pd_in 0 8) (pd_let (pd_ui zI23 108 (0 : Int32).toNatClampNeg (zn nn)) fun zI24 => pd_bd (fn_X12_steps zI24 (zn c) (zn nn)) fun zr5 => pd_let (zr5 - 1) fun zv8 => fl_X12_few_318 (zn nn) (fun zI26 => pd_gd (pd_in 0 8) (some ((zI26 106 (0 : Int32).toNatClampNeg), zI26))) pd_FU zx11 zv8 zI24))))) pd_FU 0 0) pd_FU 0 zI6) = kt
  rw [zn_0]
  refine zl_loop (fun fu s (st : pd_I) => fl_X12_few_59 (zn (2 ^ cd 1)) kt fu s st) (2 ^ cd 1) (fun s st => zF [124] I1 st ∧ ∀ s', s' < s → st 124 s' = zn (zen zWW (zKp cd P nn w 0 s'))) ?_ ?_ pd_FU 0 I1 (by omega) (zFU (by omega)) ⟨zF_rfl, fun s' h => absurd h (Nat.not_lt_zero _)⟩
  · rintro fu I2 ⟨hF2, hD2⟩
    try simp only []
    have hcd2 := zCm_F (by decide) hF2 hcd1
    have hma2 := zMa_F (by decide) hF2 hma1
    rw [fl_X12_few_59, if_pos (by rw [zn_le (by omega) (by omega)]; omega), ← hkt]
    simp only []
    refine zq_few93 hcd2 hv hma2 (by omega) (Nat.le_refl _) hn2 hw64 hP hD2 (fun I3 hF3 hK3 hO3 => ?_)
    obtain ⟨k1, k2⟩ := zfe_ok (P := P) (n := nn) hv hw
    have hleast : ∀ kont : Int32 → Option (Int32 × pd_I), fl_X12_few_238 (zn (2 ^ cd 1)) I3 kont pd_FU (zn 0) (zn 0) = kont (zn (zfe cd P nn w)) := by
      intro kont
      have key := zl_eq (fun fu k (st : Int32) => fl_X12_few_238 (zn (2 ^ cd 1)) I3 kont fu st k) (2 ^ cd 1) 0 (fun k => zn (zlt (zKp cd P nn w (zst cd nn)) (k - 1))) (kont (zn (zfe cd P nn w))) (fun fu => ?_) (fun fu k hk0 hk => ?_) pd_FU 0 (by omega) (by omega) (zFU (by omega))
      · exact key
      · try simp only []
        rw [fl_X12_few_238, if_pos (by rw [zn_le (by omega) (by omega)]; omega)]
        rfl
      · try simp only []
        obtain ⟨l1, -⟩ := zlt_ok (f := zKp cd P nn w (zst cd nn)) (k - 1)
        have bk := hKb (zst cd nn) k (by omega)
        have bs := hKb (zst cd nn) (zlt (zKp cd P nn w (zst cd nn)) (k - 1)) (by omega)
        have ek := hK3 k hk
        have es := hK3 (zlt (zKp cd P nn w (zst cd nn)) (k - 1)) (by omega)
        obtain ⟨q, hq⟩ : ∃ q, q = zlt (zKp cd P nn w (zst cd nn)) (k - 1) := ⟨_, rfl⟩
        obtain ⟨F, hF⟩ : ∃ F, F = zKp cd P nn w (zst cd nn) := ⟨_, rfl⟩
        rw [← hq] at es l1 bs
        rw [← hF] at ek es bk bs hq
        have lk := zen_le (B := zWW) (o := F k) (by omega)
        have ls := zen_le (B := zWW) (o := F q) (by omega)
        have i1 := zls_en (B := zWW) (a := F k) (b := F q) (by omega) (by omega)
        have e : zlt F k = if zls (F k) (F q) = true then k else q := by
          by_cases hk0 : k = 0
          · subst hk0
            have : q = 0 := by omega
            rw [this]; split <;> rfl
          · obtain ⟨k', rfl⟩ : ∃ k', k = k' + 1 := ⟨k - 1, by omega⟩
            rw [Nat.add_sub_cancel] at hq
            rw [hq]; rfl
        rw [fl_X12_few_238, if_neg (by rw [zn_le (by omega) (by omega)]; omega), ← hF, ← hq, zn_in2 (by omega) (by omega), zb_gd, zn_in2 (by omega) (by omega), zb_gd, zn_nat (by omega), zn_nat (by omega), ek, es, zi_le (by omega) (by omega), Nat.add_sub_cancel, e]
        by_cases hz : zls (F k) (F q) = true
        · rw [if_neg (by have := i1.mpr hz; omega), if_pos hz, zb_bd, zb_let, zn_1, zn_add]
        · rw [if_pos (by have : ¬ _ := fun h => hz (i1.mp h); omega), if_neg hz, zb_bd, zb_let, zn_1, zn_add]
    rw [zn_0, hleast]
    try simp only []
    have eK : I3 124 (zfe cd P nn w) = zn (zfw cd P nn w).1 := by
      rw [hK3 _ k1, zen_S k2]; rfl
    have e124 : ∀ x, pd_ui I3 92 14 x 124 = I3 124 := fun x => zu_ne (by decide)
    simp (disch := omega) only [zb_let, zn_in2, zb_gd, zn_nat, e124, eK]
    obtain ⟨I4, hI4⟩ : ∃ I4, I4 = pd_ui (pd_ui (pd_ui (pd_ui I3 92 14 1) 106 0 (zn (zfw cd P nn w).1)) 107 0 (zn 0)) 108 0 (zn nn) := ⟨_, rfl⟩
    rw [← hI4]
    have hF04 : zF zLN I I4 := by
      rw [hI4]
      exact zF_u (by decide) (zF_u (by decide) (zF_u (by decide) (zF_u (by decide) (zF_tr (zF_sub hF1 (by decide)) (zF_tr (zF_sub hF2 (by decide)) (zF_sub hF3 (by decide)))))))
    have e92 : ∀ j, I4 92 j = if j = 14 then 1 else I 92 j := fun j => by
      rw [hI4, zu_ne (by decide), zu_ne (by decide), zu_ne (by decide), zu_same, zu_app, hF3 92 (by decide), hF2 92 (by decide), hF1 92 (by decide)]
    have hcd4 : zCm I4 c cd := zCm_F (by decide) hF04 h
    have hO4 : zOrM I4 cd P nn w (zst cd nn) := by
      have e6 : I4 126 = I3 126 := by rw [hI4, zu_ne (by decide), zu_ne (by decide), zu_ne (by decide), zu_ne (by decide)]
      have e7 : I4 127 = I3 127 := by rw [hI4, zu_ne (by decide), zu_ne (by decide), zu_ne (by decide), zu_ne (by decide)]
      unfold zOrM; rw [e6, e7]; exact hO3
    have w6 : I4 106 0 = zn (zfw cd P nn w).1 := by rw [hI4, zu_ne (by decide), zu_ne (by decide), zu_same, zu_at]
    have w7 : I4 107 0 = zn 0 := by rw [hI4, zu_ne (by decide), zu_same, zu_at]
    have w8 : I4 108 0 = zn nn := by rw [hI4, zu_same, zu_at]
    rw [zc_stepsM hcd4 hv, zb_bd]
    have h318 := zq_few318 (c := c) hv hn1 hn2 hw hO4 w6
    rw [zn_0, zn_1] at h318
    rw [zn_1]
    simp (disch := omega) only [zn_in2, zb_gd, zn_nat] at h318
    refine zT_mono h318 (fun r ⟨s1, s2, s3⟩ => ?_)
    refine ⟨s1, zF_tr hF04 (zF_sub s2 (by decide)), fun j hj => ?_, ?_, ?_, ?_, ?_, s3⟩
    · rw [s2 92 (by decide), e92, if_neg hj]
    · rw [s2 92 (by decide), e92, if_pos rfl]; rfl
    · rw [s2 106 (by decide)]; exact w6
    · rw [s2 107 (by decide)]; exact w7
    · rw [s2 108 (by decide)]; exact w8
  · rintro fu s I2 hs ⟨hF2, hD2⟩ ih
    try simp only [] at ih ⊢
    have ex : (if zn s = 0 then some (0 : Int32) else some 1000000000) = some (zn (zen zWW (zKp cd P nn w 0 s))) := by
      rw [zn_0, zi_eq (by omega) (by omega), zn_NW]
      unfold zKp
      by_cases e : s = 0
      · rw [if_pos e, if_pos e]; rfl
      · rw [if_neg e, if_neg e]; rfl
    rw [fl_X12_few_59, if_neg (by rw [zn_le (by omega) (by omega)]; omega), ex, zb_bd, zn_in2 (by omega) (by omega), zb_gd, zn_nat (by omega), zb_let, zb_let, zn_1, zn_add]
    refine ih _ ⟨zF_u (by decide) hF2, fun s' hs' => ?_⟩
    rw [zu_same, zu_app]
    by_cases e : s' = s
    · rw [if_pos e, e]
    · rw [if_neg e]; exact hD2 s' (by omega)
