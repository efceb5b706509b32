/-! the reference's least costs -/
theorem zAe_skip {cd p f : Nat → Nat} {k s : Nat} (h : f (k / 2) = 0) : zAe cd p f (k + 1) s = zAe cd p f k s := by
  conv => lhs; unfold zAe
  split
  · unfold zad zmn
    rw [h, if_pos rfl]
    by_cases c : zAe cd p f k s = 0
    · rw [if_pos c, c]
    · rw [if_neg c, if_pos rfl]
  · rfl
theorem zq_leasts49 {O : Type} {kont : Int32 → Option O} {I : pd_I} {c n s tl T : Nat} {cd : Nat → Nat} {P : Nat → Nat → Nat} (h : zCm I c cd) (hv : zCv cd) (hma : zMa I cd T P) (hT : zst cd n ≤ T) (hT2 : T ≤ 206) (hs : s < 2 ^ cd 1) (htl : tl = if cd 0 = 3 then 1 else 0) :
    fl_X12_leasts_49 (zn c) (zn n) (zn tl) I kont pd_FU (zn 0) (zn s) (zn n) = kont (zn (zFn cd P n s)) := by
  have hst := zst_le (n := n) hv
  have hS := zCv_S hv
  have hc := h.1
  have h6 : cd 1 ≤ 6 := hv.2.2.1
  have hkey : ∀ k, n ≤ k → k ≤ zst cd n → (pd_bd (if zn tl = 0 then some false else (pd_gd (pd_in (zn c) 12) (if (zn n + (I 98 (zn c).toNatClampNeg)) ≤ zn k then some false else (some true)))) fun (zc1 : Bool) => some zc1) = some (decide (k < zst cd n)) := by
    intro k hk hk2
    rw [zn_0, zi_eq (by split at htl <;> omega) (by omega), zn_in2 hc (by omega), zb_gd, zn_nat (by omega), h.2.2.1, zn_add, zi_le (by omega) (by omega)]
    unfold zst at hk2 ⊢
    by_cases c3 : cd 0 = 3
    · rw [if_pos c3] at hk2 htl ⊢
      rw [if_neg (by omega)]
      by_cases d : n + cd 1 ≤ k
      · rw [if_pos d, decide_eq_false (by omega)]; rfl
      · rw [if_neg d, decide_eq_true (by omega)]; rfl
    · rw [if_neg c3] at hk2 htl ⊢
      rw [if_pos (by omega), decide_eq_false (by omega)]; rfl
  have hcond : ∀ k, n ≤ k → k ≤ zst cd n → (if zn tl = 0 then some false else (pd_gd (pd_in (zn c) 12) (if (zn n + (I 98 (zn c).toNatClampNeg)) ≤ zn k then some false else (some true)))) = some (decide (k < zst cd n)) := by
    intro k hk hk2
    have e := hkey k hk hk2
    revert e
    generalize (if zn tl = 0 then some false else (pd_gd (pd_in (zn c) 12) (if (zn n + (I 98 (zn c).toNatClampNeg)) ≤ zn k then some false else (some true)))) = y
    intro e
    cases y with
    | none => cases e
    | some b => exact e
  have key := zl_eq (fun fu k (st : Int32 × Int32) => fl_X12_leasts_49 (zn c) (zn n) (zn tl) I kont fu st.1 st.2 k) (zst cd n) n (fun k => (zn (ztc cd P n s (k - n)), zn (zts cd s (k - n)))) (kont (zn (zFn cd P n s))) (fun fu => ?_) (fun fu k hk0 hk => ?_) pd_FU n (Nat.le_refl _) (by omega) (zFU (by omega))
  · rw [Nat.sub_self] at key
    exact key
  · try simp only []
    rw [fl_X12_leasts_49, hcond _ (by omega) (Nat.le_refl _), decide_eq_false (by omega), zb_bd, if_neg (by decide)]
    rfl
  · try simp only []
    have hz := zts_lt hs (k - n)
    have hf := zfb_lt cd (zts cd s (k - n))
    have hp := hma k (by omega) (2 * zts cd s (k - n) + zfb cd (zts cd s (k - n))) (by omega)
    rw [← Nat.add_assoc] at hp
    rw [fl_X12_leasts_49, hcond k hk0 (by omega), decide_eq_true hk, zb_bd, if_pos rfl, zc_fed h hv, zb_bd]
    simp (disch := omega) only [zb_gd, zb_bd, zb_bd2, zb_let, zb_jn, zn_0, zn_1, zn_2, zn_3, zn_4, zn_5, zn_6, zn_7, zn_8, zn_11, zn_12, zn_15, zn_16, zn_18, zn_30, zn_31, zn_32, zn_64, zn_128, zn_199, zn_200, zn_512, zn_600, zn_1000, zn_2048, zn_add, zn_mul, zn_sub, zn_in2, zn_nat, zn_le, zn_lt, zn_eq, if_pos, if_neg, Bool.false_eq_true, ↓reduceIte, hp]
    rw [zc_next h hv hf, zb_bd]
    have e1 : k + 1 - n = (k - n) + 1 := by omega
    have e2 : n + (k - n) = k := by omega
    rw [e1]
    show _ = fl_X12_leasts_49 (zn c) (zn n) (zn tl) I kont fu (zn (ztc cd P n s (k - n) + P (n + (k - n)) (2 * zts cd s (k - n) + zfb cd (zts cd s (k - n))))) (zn (znx cd (zts cd s (k - n)) (zfb cd (zts cd s (k - n))))) (zn (k + 1))
    rw [e2]
/-- rows of ahead up to t -/
def zRA (I : pd_I) (cd : Nat → Nat) (P : Nat → Nat → Nat) (begin t : Nat) : Prop := ∀ t', t' ≤ t → ∀ s, s < 2 ^ cd 1 → I 115 (64 * t' + s) = zn (zen zWW (zAt cd P begin t' s))
def zRB (I : pd_I) (cd : Nat → Nat) (P : Nat → Nat → Nat) (n : Nat) (E F : Nat → Nat) (d : Nat) : Prop := ∀ s, s < 2 ^ cd 1 → I 116 (64 * (n - d) + s) = zn (zen zWW (zBt cd P n E F d s))
theorem zq_leasts13 {O : Type} {Q : O → Prop} {kont : pd_I → Option O} {I : pd_I} {c n begin rg tl T : Nat} {cd : Nat → Nat} {P : Nat → Nat → Nat} (h : zCm I c cd) (hv : zCv cd) (hma : zMa I cd T P) (hT : zst cd n ≤ T) (hT2 : T ≤ 206) (hn : n ≤ 200) (hb : begin < 64) (hrg : rg = if cd 0 = 4 then 1 else 0) (htl : tl = if cd 0 = 3 then 1 else 0)
    (hK : ∀ I2, zF [115, 116] I I2 → zRA I2 cd P begin 0 → zRB I2 cd P n (zEn cd begin) (zFn cd P n) 0 → zT (kont I2) Q) :
    zT (fl_X12_leasts_13 (zn c) (zn n) (zn begin) (zn rg) (zn tl) (zn (2 ^ cd 1)) kont pd_FU (zn 0) I) Q := by
  have hS := zCv_S hv
  refine zl_loop (fun fu s (st : pd_I) => fl_X12_leasts_13 (zn c) (zn n) (zn begin) (zn rg) (zn tl) (zn (2 ^ cd 1)) kont fu s st) (2 ^ cd 1) (fun s st => zF [115, 116] I st ∧ ∀ s', s' < s → st 115 s' = zn (zen zWW (zAt cd P begin 0 s')) ∧ st 116 (64 * n + s') = zn (zen zWW (zBt cd P n (zEn cd begin) (zFn cd P n) 0 s'))) ?_ ?_ pd_FU 0 I (by omega) (zFU (by omega)) ⟨zF_rfl, fun s' hs' => absurd hs' (Nat.not_lt_zero _)⟩
  · rintro fu I' ⟨hF, hD⟩
    try simp only []
    rw [fl_X12_leasts_13, if_pos (by rw [zn_le (by omega) (by omega)]; omega)]
    refine hK I' hF (fun t' ht' s hs => ?_) (fun s hs => (hD s hs).2)
    have e : t' = 0 := by omega
    subst e
    rw [show 64 * 0 + s = s by omega]; exact (hD s hs).1
  · rintro fu s I' hs ⟨hF, hD⟩ ih
    try simp only [] at ih ⊢
    have hF2 : zF [115, 116] I (pd_ui I' 115 s (zn (zen zWW (zAt cd P begin 0 s)))) := zF_u (by decide) hF
    have hcd2 := zCm_F (by decide) hF2 h
    have hma2 := zMa_F (by decide) hF2 hma
    have ex2 : (if zn s = zn begin then some 0 else (some (1000000000 : Int32))) = some (zn (zen zWW (zAt cd P begin 0 s))) := by
      rw [zi_eq (by omega) (by omega), zn_NW, zn_0]
      unfold zAt
      by_cases e : s = begin
      · rw [if_pos e, if_pos e]; rfl
      · rw [if_neg e, if_neg e]; rfl
    have ex7 : ∀ v : Int32, v = zn (zFn cd P n s) → (pd_bd (if zn rg = 0 then some false else (if zn s = zn begin then some false else (some true))) fun zc4 => if zc4 = true then some 1000000000 else (some v)) = some (zn (zen zWW (zBt cd P n (zEn cd begin) (zFn cd P n) 0 s))) := by
      rintro v rfl
      rw [zn_0, zi_eq (by split at hrg <;> omega) (by omega), zi_eq (by omega) (by omega), zn_NW]
      unfold zBt zEn
      by_cases c4 : cd 0 = 4
      · rw [if_pos c4] at hrg
        rw [if_neg (by omega), if_pos c4]
        by_cases e : s = begin
        · rw [if_pos e, zb_bd, if_neg (by decide), if_pos e, if_pos rfl]; rfl
        · rw [if_neg e, zb_bd, if_pos rfl, if_neg e, if_neg (by omega)]; rfl
      · rw [if_neg c4] at hrg
        rw [if_pos (by omega), zb_bd, if_neg (by decide), if_neg c4, if_pos rfl]; rfl
    have fin : zT (fl_X12_leasts_13 (zn c) (zn n) (zn begin) (zn rg) (zn tl) (zn (2 ^ cd 1)) kont fu (zn (s + 1)) (pd_ui (pd_ui I' 115 s (zn (zen zWW (zAt cd P begin 0 s)))) 116 (64 * n + s) (zn (zen zWW (zBt cd P n (zEn cd begin) (zFn cd P n) 0 s))))) Q := by
      refine ih _ ⟨zF_u (by decide) hF2, fun s' hs' => ?_⟩
      simp only [zu_same, zu_ne (show (115 : Nat) ≠ 116 by decide), zu_ne (show (116 : Nat) ≠ 115 by decide), zu_app]
      by_cases e : s' = s
      · subst e; rw [if_pos rfl, if_pos rfl]; exact ⟨rfl, rfl⟩
      · rw [if_neg e, if_neg (by omega)]; exact hD s' (by omega)
    rw [fl_X12_leasts_13, if_neg (by rw [zn_le (by omega) (by omega)]; omega), ex2, zb_bd, zn_in2 (by omega) (by omega), zb_gd, zn_nat (by omega), zb_let, zn_0, zq_leasts49 hcd2 hv hma2 hT hT2 hs htl]
    try simp only []
    rw [← zn_0, ex7 _ rfl, zb_bd, zn_64, zn_mul, zn_add, zn_in2 (by omega) (by omega), zb_gd, zn_nat (by omega), zb_let, zb_let, zn_1, zn_add]
    exact fin
theorem zq_leasts156 {O : Type} {Q : O → Prop} {kont : pd_I → Option O} {I : pd_I} {c n begin T : Nat} {cd : Nat → Nat} {P : Nat → Nat → Nat} (h : zCm I c cd) (hv : zCv cd) (hma : zMa I cd T P) (hT : n ≤ T) (hn : n ≤ 200) (hP : ∀ t e, P t e ≤ 10000) (hA : zRA I cd P begin 0)
    (hK : ∀ I2, zF [115] I I2 → zRA I2 cd P begin n → zT (kont I2) Q) :
    zT (fl_X12_leasts_156 (zn c) (zn n) (zn (2 ^ cd 1)) kont pd_FU (zn 0) I) Q := by
  have hS := zCv_S hv
  have hzW := zW_lt
  have hzE := zE_W
  have hzB := zE_big
  refine zl_loop (fun fu t (st : pd_I) => fl_X12_leasts_156 (zn c) (zn n) (zn (2 ^ cd 1)) kont fu t st) n (fun t st => zF [115] I st ∧ zRA st cd P begin t) ?_ ?_ pd_FU 0 I (by omega) (zFU (by omega)) ⟨zF_rfl, hA⟩
  · rintro fu I' ⟨hF, hD⟩
    try simp only []
    rw [fl_X12_leasts_156, if_pos (by rw [zn_le (by omega) (by omega)]; omega)]
    exact hK I' hF hD
  · rintro fu t I1 ht ⟨hF1, hD1⟩ ih
    try simp only [] at ih ⊢
    rw [fl_X12_leasts_156, if_neg (by rw [zn_le (by omega) (by omega)]; omega), zn_0]
    generalize hkt : (fun zI8 => fl_X12_leasts_198 (zn c) (zn (2 ^ cd 1)) (zn t) (fun zI11 => pd_let (zn t + 1) fun zv9 => fl_X12_leasts_156 (zn c) (zn n) (zn (2 ^ cd 1)) kont fu zv9 zI11) pd_FU (zn 0) zI8) = kt
    refine zl_loop (fun fu2 s (st : pd_I) => fl_X12_leasts_165 (zn (2 ^ cd 1)) (zn t) kt fu2 s st) (2 ^ cd 1) (fun s st => zF [115] I st ∧ zRA st cd P begin t ∧ ∀ s', s' < s → st 115 (64 * (t + 1) + s') = zn zWW) ?_ ?_ pd_FU 0 I1 (by omega) (zFU (by omega)) ⟨hF1, hD1, fun s' h => absurd h (Nat.not_lt_zero _)⟩
    · rintro fu2 I2 ⟨hF2, hA2, hW2⟩
      try simp only []
      rw [fl_X12_leasts_165, if_pos (by rw [zn_le (by omega) (by omega)]; omega), ← hkt]
      simp only []
      generalize hkt2 : (fun zI11 => pd_let (zn t + 1) fun zv9 => fl_X12_leasts_156 (zn c) (zn n) (zn (2 ^ cd 1)) kont fu zv9 zI11) = kt2
      refine zl_loop (fun fu3 s (st : pd_I) => fl_X12_leasts_198 (zn c) (zn (2 ^ cd 1)) (zn t) kt2 fu3 s st) (2 ^ cd 1) (fun s st => zF [115] I st ∧ zRA st cd P begin t ∧ ∀ s', s' < 2 ^ cd 1 → st 115 (64 * (t + 1) + s') = zn (zen zWW (zAe cd (P t) (zAt cd P begin t) (2 * s) s'))) ?_ ?_ pd_FU 0 I2 (by omega) (zFU (by omega)) ⟨hF2, hA2, hW2⟩
      · rintro fu3 I3 ⟨hF3, hA3, hE3⟩
        try simp only []
        rw [fl_X12_leasts_198, if_pos (by rw [zn_le (by omega) (by omega)]; omega), ← hkt2]
        simp only [zb_let, zn_1, zn_add]
        refine ih _ ⟨hF3, fun t' ht' s hs => ?_⟩
        by_cases e : t' = t + 1
        · rw [e]; exact hE3 s hs
        · exact hA3 t' (by omega) s hs
      · rintro fu3 s I3 hs ⟨hF3, hA3, hE3⟩ ih3
        try simp only [] at ih3 ⊢
        have bA := zAt_le (cd := cd) (begin := begin) hP t s
        have lA := zen_le (B := zWW) (o := zAt cd P begin t s) (by omega)
        rw [fl_X12_leasts_198, if_neg (by rw [zn_le (by omega) (by omega)]; omega), zn_64, zn_mul, zn_add, zn_in2 (by omega) (by omega), zb_gd, zb_jn, zn_nat (by omega), hA3 t (Nat.le_refl _) s hs, zn_NW, zi_lt (by omega) (by omega)]
        by_cases d : zAt cd P begin t s = 0
        · rw [d, zen_0, if_neg (Nat.lt_irrefl _)]
          simp only [zb_let, zn_1, zn_add]
          refine ih3 _ ⟨hF3, hA3, fun s' hs' => ?_⟩
          rw [show 2 * (s + 1) = (2 * s + 1) + 1 by omega, zAe_skip (by rw [show (2 * s + 1) / 2 = s by omega]; exact d), zAe_skip (by rw [show 2 * s / 2 = s by omega]; exact d)]
          exact hE3 s' hs'
        · have lA2 := zen_lt (B := zWW) (o := zAt cd P begin t s) (by omega) d
          rw [if_pos lA2]
          simp only []
          rw [zn_0]
          generalize hkt3 : (fun zI14 => pd_let (zn s + 1) fun zv6 => fl_X12_leasts_198 (zn c) (zn (2 ^ cd 1)) (zn t) kt2 fu3 zv6 zI14) = kt3
          refine zl_loop (fun fu4 x (st : pd_I) => fl_X12_leasts_229 (zn c) (zn t) (zn s) kt3 fu4 x st) 2 (fun x st => zF [115] I st ∧ zRA st cd P begin t ∧ ∀ s', s' < 2 ^ cd 1 → st 115 (64 * (t + 1) + s') = zn (zen zWW (zAe cd (P t) (zAt cd P begin t) (2 * s + x) s'))) ?_ ?_ pd_FU 0 I3 (by omega) (zFU (by omega)) ⟨hF3, hA3, hE3⟩
          · rintro fu4 I4 ⟨hF4, hA4, hE4⟩
            try simp only []
            rw [fl_X12_leasts_229, zn_2, if_pos (by rw [zn_le (by omega) (by omega)]; omega), ← hkt3]
            simp only [zb_let, zn_1, zn_add]
            exact ih3 _ ⟨hF4, hA4, hE4⟩
          · rintro fu4 x I4 hx ⟨hF4, hA4, hE4⟩ ih4
            try simp only [] at ih4 ⊢
            have hcd4 := zCm_F (by decide) hF4 h
            have hma4 := zMa_F (by decide) hF4 hma
            have hnx : znx cd s x < 2 ^ cd 1 := znx_lt
            have hp := hma4 t (by omega) (2 * s + x) (by omega)
            rw [← Nat.add_assoc] at hp
            have e2 : (2 * s + x) / 2 = s := by omega
            have e3 : (2 * s + x) % 2 = x := by omega
            have bE := zAe_le (cd := cd) (hP t) (zAt_le (cd := cd) (begin := begin) hP t) (2 * s + x) (znx cd s x)
            have bP := hP t (2 * s + x)
            have lE := zen_le (B := zWW) (o := zAe cd (P t) (zAt cd P begin t) (2 * s + x) (znx cd s x)) (by omega)
            have hAs := hA4 t (Nat.le_refl _) s hs
            have hEs := hE4 _ hnx
            have hst : zAe cd (P t) (zAt cd P begin t) (2 * s + x + 1) (znx cd s x) = zmn (zAe cd (P t) (zAt cd P begin t) (2 * s + x) (znx cd s x)) (zAt cd P begin t s + P t (2 * s + x)) := by
              conv => lhs; unfold zAe
              rw [e2, e3, if_pos rfl]
              unfold zad
              rw [if_neg d]
            have hval : pd_min (zn (zen zWW (zAe cd (P t) (zAt cd P begin t) (2 * s + x) (znx cd s x)))) (zn (zen zWW (zAt cd P begin t s) + P t (2 * s + x))) = zn (zen zWW (zAe cd (P t) (zAt cd P begin t) (2 * s + x + 1) (znx cd s x))) := by
              rw [hst, zp_min (by omega) (by rw [zen_S d]; omega), ← zen_min (by omega) (by omega), zen_S d, zen_S (show zAt cd P begin t s + P t (2 * s + x) ≠ 0 by omega)]
              congr 2; omega
            rw [fl_X12_leasts_229, zn_2, if_neg (by rw [zn_le (by omega) (by omega)]; omega), zc_next hcd4 hv hx, zb_bd]
            simp (disch := omega) only [zn_64, zn_128, zn_1, zn_mul, zn_add, zb_let, zn_in2, zb_gd, zn_nat, hEs, hAs, hp]
            rw [hval]
            refine ih4 _ ⟨zF_u (by decide) hF4, fun t' ht' s' hs' => ?_, fun s' hs' => ?_⟩
            · rw [zu_same, zu_app, if_neg (by omega)]; exact hA4 t' ht' s' hs'
            · rw [zu_same, zu_app]
              by_cases e : s' = znx cd s x
              · rw [if_pos (by omega), e]; rfl
              · rw [if_neg (by omega), hE4 s' hs']
                congr 2
                show _ = zAe cd (P t) (zAt cd P begin t) (2 * s + x + 1) s'
                conv => rhs; unfold zAe
                rw [e2, e3, if_neg e]
    · rintro fu2 s I2 hs ⟨hF2, hA2, hW2⟩ ih2
      try simp only [] at ih2 ⊢
      rw [fl_X12_leasts_165, if_neg (by rw [zn_le (by omega) (by omega)]; omega)]
      simp (disch := omega) only [zn_64, zn_1, zn_mul, zn_add, zb_let, zn_in2, zb_gd, zn_nat, zn_NW]
      refine ih2 _ ⟨zF_u (by decide) hF2, fun t' ht' s' hs' => ?_, fun s' hs' => ?_⟩
      · rw [zu_same, zu_app, if_neg (by omega)]; exact hA2 t' ht' s' hs'
      · rw [zu_same, zu_app]
        by_cases e : s' = s
        · rw [if_pos (by omega)]
        · rw [if_neg (by omega)]; exact hW2 s' (by omega)
