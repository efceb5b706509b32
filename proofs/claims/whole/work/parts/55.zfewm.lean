/-! the reference finds by few -/
theorem zFg_same {cd p f : Nat → Nat} {tl k : Nat} (hc : zFc cd p f tl k (znx cd (k / 2) (k % 2)) (zFg cd p f tl k (znx cd (k / 2) (k % 2))).1 = false) (s : Nat) : zFg cd p f tl (k + 1) s = zFg cd p f tl k s := by
  conv => lhs; unfold zFg
  rw [if_neg]
  intro h
  by_cases c : s = znx cd (k / 2) (k % 2)
  · rw [c, hc] at h; cases h
  · unfold zFc at h; rw [decide_eq_false c] at h; simp at h
theorem zFg_new {cd p f : Nat → Nat} {tl k : Nat} (hc : zFc cd p f tl k (znx cd (k / 2) (k % 2)) (zFg cd p f tl k (znx cd (k / 2) (k % 2))).1 = true) (s : Nat) : zFg cd p f tl (k + 1) s = if s = znx cd (k / 2) (k % 2) then (f (k / 2) + p k, k / 2, k % 2) else zFg cd p f tl k s := by
  conv => lhs; unfold zFg
  by_cases h : s = znx cd (k / 2) (k % 2)
  · rw [h, if_pos hc, if_pos rfl]
  · rw [if_neg h, if_neg]
    intro h2; unfold zFc at h2; rw [decide_eq_false h] at h2; simp at h2
theorem zFc_iff {cd p f : Nat → Nat} {tl k N : Nat} : zFc cd p f tl k (znx cd (k / 2) (k % 2)) N = true ↔ f (k / 2) ≠ 0 ∧ (tl = 0 ∨ k % 2 = zfb cd (k / 2)) ∧ (N = 0 ∨ f (k / 2) + p k < N) := by
  unfold zFc
  simp only [Bool.and_eq_true, Bool.or_eq_true, decide_eq_true_eq]
  constructor
  · rintro ⟨⟨⟨-, h1⟩, h2⟩, h3⟩; exact ⟨h1, h2, h3⟩
  · rintro ⟨h1, h2, h3⟩; exact ⟨⟨⟨trivial, h1⟩, h2⟩, h3⟩
/-- 125 .. 127 while the edges of step t go -/
def zGM (I : pd_I) (cd p f : Nat → Nat) (tl t k : Nat) : Prop := ∀ s, s < 2 ^ cd 1 → I 125 s = zn (zen zWW (zFg cd p f tl k s).1) ∧ ((zFg cd p f tl k s).1 ≠ 0 → I 126 (64 * t + s) = zn (zFg cd p f tl k s).2.1 ∧ I 127 (64 * t + s) = zn (zFg cd p f tl k s).2.2)
def zGJ (I I' : pd_I) (t : Nat) : Prop := ∀ j, (j < 64 * t ∨ 64 * t + 64 ≤ j) → I' 126 j = I 126 j ∧ I' 127 j = I 127 j
theorem zq_goes {I : pd_I} {c t s x tl T : Nat} {cd f : Nat → Nat} {P : Nat → Nat → Nat} (h : zCm I c cd) (hv : zCv cd) (hma : zMa I cd T P) (ht : t < T) (hT : T ≤ 206) (hs : s < 2 ^ cd 1) (hx : x < 2) (hP : ∀ e, P t e ≤ 10000) (hf : ∀ s, f s ≤ 2200000) (hK : I 124 s = zn (zen zWW (f s))) (hf0 : f s ≠ 0) (htl : tl = 0 ∨ x = zfb cd s) (hG : zGM I cd (P t) f tl t (2 * s + x)) :
    zT (fn_X12_goes I (zn c) (zn t) (zn s) (zn x)) (fun I' => zF [125, 126, 127] I I' ∧ zGM I' cd (P t) f tl t (2 * s + x + 1) ∧ zGJ I I' t) := by
  have hS := zCv_S hv
  have hzW := zW_lt
  have hzE := zE_W
  have hzB := zE_big
  have e2 : (2 * s + x) / 2 = s := by omega
  have e3 : (2 * s + x) % 2 = x := by omega
  have hnx : znx cd s x < 2 ^ cd 1 := znx_lt
  have hp := hma t ht (2 * s + x) (by omega)
  rw [← Nat.add_assoc] at hp
  have bP := hP (2 * s + x)
  have bf := hf s
  obtain ⟨g1, g2⟩ := hG _ hnx
  have bN := zFg_le (cd := cd) (tl := tl) hP hf (2 * s + x) (znx cd s x)
  have lN := zen_le (B := zWW) (o := (zFg cd (P t) f tl (2 * s + x) (znx cd s x)).1) (by omega)
  have hiff := zFc_iff (cd := cd) (p := P t) (f := f) (tl := tl) (k := 2 * s + x) (N := (zFg cd (P t) f tl (2 * s + x) (znx cd ((2 * s + x) / 2) ((2 * s + x) % 2))).1)
  rw [e2, e3] at hiff
  rw [zen_S hf0] at hK
  unfold fn_X12_goes
  rw [zc_next h hv hx, zb_bd]
  simp (disch := omega) only [zn_128, zn_2, zn_64, zn_mul, zn_add, zn_in2, zb_gd, zn_nat, hK, hp, zb_let, g1, zn_lt]
  by_cases d : f s - 1 + P t (2 * s + x) < zen zWW (zFg cd (P t) f tl (2 * s + x) (znx cd s x)).1
  · have hc := hiff.mpr ⟨hf0, htl, by
      by_cases h : (zFg cd (P t) f tl (2 * s + x) (znx cd s x)).1 = 0
      · exact Or.inl h
      · rw [zen_S h] at d; exact Or.inr (by omega)⟩
    have hnew := zFg_new (cd := cd) (p := P t) (f := f) (tl := tl) (k := 2 * s + x) (by rw [e2, e3]; exact hc)
    rw [e2, e3] at hnew
    rw [if_pos d]
    refine ⟨_, rfl, zF_u (by decide) (zF_u (by decide) (zF_u (by decide) zF_rfl)), fun s' hs' => ?_, fun j hj => ?_⟩
    · simp only [zu_same, zu_ne (show (125 : Nat) ≠ 126 by decide), zu_ne (show (125 : Nat) ≠ 127 by decide), zu_ne (show (126 : Nat) ≠ 127 by decide), zu_ne (show (126 : Nat) ≠ 125 by decide), zu_ne (show (127 : Nat) ≠ 126 by decide), zu_ne (show (127 : Nat) ≠ 125 by decide), zu_app]
      rw [hnew]
      by_cases h : s' = znx cd s x
      · rw [if_pos h, if_pos h, if_pos (by omega), if_pos (by omega)]
        refine ⟨?_, fun _ => ⟨rfl, rfl⟩⟩
        show zn _ = zn (zen zWW (f s + P t (2 * s + x)))
        rw [zen_S (show f s + P t (2 * s + x) ≠ 0 by omega)]
        congr 1; omega
      · rw [if_neg h, if_neg h, if_neg (by omega), if_neg (by omega)]; exact hG s' hs'
    · simp only [zu_same, zu_ne (show (126 : Nat) ≠ 127 by decide), zu_ne (show (126 : Nat) ≠ 125 by decide), zu_ne (show (127 : Nat) ≠ 126 by decide), zu_ne (show (127 : Nat) ≠ 125 by decide), zu_app]
      rw [if_neg (by omega), if_neg (by omega)]; exact ⟨rfl, rfl⟩
  · have hc : zFc cd (P t) f tl (2 * s + x) (znx cd ((2 * s + x) / 2) ((2 * s + x) % 2)) (zFg cd (P t) f tl (2 * s + x) (znx cd ((2 * s + x) / 2) ((2 * s + x) % 2))).1 = false := by
      rw [e2, e3]
      cases hcc : zFc cd (P t) f tl (2 * s + x) (znx cd s x) (zFg cd (P t) f tl (2 * s + x) (znx cd s x)).1 with
      | false => rfl
      | true =>
        obtain ⟨-, -, h3⟩ := hiff.mp hcc
        rcases h3 with h3 | h3
        · rw [h3, zen_0] at d; omega
        · rw [zen_S (by omega)] at d; omega
    rw [if_neg d]
    refine ⟨_, rfl, zF_rfl, fun s' hs' => ?_, fun j _ => ⟨rfl, rfl⟩⟩
    rw [zFg_same hc]; exact hG s' hs'
theorem zq_few132 {O : Type} {Q : O → Prop} {kont : pd_I → Option O} {I : pd_I} {c nn t tl T : Nat} {cd f : Nat → Nat} {P : Nat → Nat → Nat} (h : zCm I c cd) (hv : zCv cd) (hma : zMa I cd T P) (ht : t < T) (hT : T ≤ 206) (hnn : nn ≤ 200) (htl : tl = if t < nn then 0 else 1) (hP : ∀ e, P t e ≤ 10000) (hf : ∀ s, f s ≤ 2200000) (hK : ∀ s, s < 2 ^ cd 1 → I 124 s = zn (zen zWW (f s))) (hW : ∀ s, s < 2 ^ cd 1 → I 125 s = zn zWW)
    (hk : ∀ I2, zF [125, 126, 127] I I2 → zGM I2 cd (P t) f tl t (2 * 2 ^ cd 1) → zGJ I I2 t → zT (kont I2) Q) :
    zT (fl_X12_few_132 (zn c) (zn nn) (zn (2 ^ cd 1)) (zn t) kont pd_FU (zn 0) I) Q := by
  have hS := zCv_S hv
  have hzW := zW_lt
  have hzE := zE_W
  have hzB := zE_big
  refine zl_loop (fun fu s (st : pd_I) => fl_X12_few_132 (zn c) (zn nn) (zn (2 ^ cd 1)) (zn t) kont fu s st) (2 ^ cd 1) (fun s st => zF [125, 126, 127] I st ∧ zGM st cd (P t) f tl t (2 * s) ∧ zGJ I st t) ?_ ?_ pd_FU 0 I (by omega) (zFU (by omega)) ⟨zF_rfl, fun s hs => ⟨hW s hs, fun h => absurd rfl h⟩, fun _ _ => ⟨rfl, rfl⟩⟩
  · rintro fu I1 ⟨hF, hG, hJ⟩
    try simp only []
    rw [fl_X12_few_132, if_pos (by rw [zn_le (by omega) (by omega)]; omega)]
    exact hk I1 hF hG hJ
  · rintro fu s I1 hs ⟨hF, hG, hJ⟩ ih
    try simp only [] at ih ⊢
    have hcd := zCm_F (by decide) hF h
    have eK : I1 124 s = zn (zen zWW (f s)) := by rw [hF 124 (by decide)]; exact hK s hs
    have bf := hf s
    have lf := zen_le (B := zWW) (o := f s) (by omega)
    rw [fl_X12_few_132, if_neg (by rw [zn_le (by omega) (by omega)]; omega), zn_in2 (by omega) (by omega), zb_gd, zb_jn, zn_nat (by omega), eK, zn_NW, zi_eq (by omega) (by omega)]
    by_cases c0 : f s = 0
    · rw [if_pos (by rw [c0]; rfl)]
      simp only [zb_let, zn_1, zn_add]
      refine ih _ ⟨hF, fun s' hs' => ?_, hJ⟩
      have hno : ∀ k, k / 2 = s → zFc cd (P t) f tl k (znx cd (k / 2) (k % 2)) (zFg cd (P t) f tl k (znx cd (k / 2) (k % 2))).1 = false := by
        intro k hk2
        cases hcc : zFc cd (P t) f tl k (znx cd (k / 2) (k % 2)) (zFg cd (P t) f tl k (znx cd (k / 2) (k % 2))).1 with
        | false => rfl
        | true => rw [zFc_iff, hk2] at hcc; exact absurd c0 hcc.1
      rw [show 2 * (s + 1) = (2 * s + 1) + 1 by omega, zFg_same (hno _ (by omega)), zFg_same (hno _ (by omega))]
      exact hG s' hs'
    · have := zen_lt (B := zWW) (o := f s) (by omega) c0
      rw [if_neg (by omega), zi_le (by omega) (by omega)]
      have hfb := zfb_lt cd s
      have honly : (if nn ≤ t then pd_bd (fn_X12_fed I1 (zn c) (zn s)) fun zr4 => some zr4 else some (-1)) = some (if nn ≤ t then zn (zfb cd s) else -1) := by
        by_cases e : nn ≤ t
        · rw [if_pos e, if_pos e, zc_fed hcd hv]; rfl
        · rw [if_neg e, if_neg e]
      rw [honly, zb_bd]
      generalize hkt : (fun zI17 => (fun zI15 => pd_let (zn s + 1) fun zv4 => fl_X12_few_132 (zn c) (zn nn) (zn (2 ^ cd 1)) (zn t) kont fu zv4 zI15) zI17) = kt
      rw [zn_0]
      refine zl_loop (fun fu2 x (st : pd_I) => fl_X12_few_176 (zn c) (zn t) (zn s) (if nn ≤ t then zn (zfb cd s) else -1) kt fu2 x st) 2 (fun x st => zF [125, 126, 127] I st ∧ zGM st cd (P t) f tl t (2 * s + x) ∧ zGJ I st t) ?_ ?_ pd_FU 0 I1 (by omega) (zFU (by omega)) ⟨hF, hG, hJ⟩
      · rintro fu2 I2 ⟨hF2, hG2, hJ2⟩
        try simp only []
        rw [fl_X12_few_176, zn_2, if_pos (by rw [zn_le (by omega) (by omega)]; omega), ← hkt]
        simp only [zb_let, zn_1, zn_add]
        exact ih _ ⟨hF2, hG2, hJ2⟩
      · rintro fu2 x I2 hx ⟨hF2, hG2, hJ2⟩ ih2
        try simp only [] at ih2 ⊢
        have hcd2 := zCm_F (by decide) hF2 h
        have hma2 := zMa_F (by decide) hF2 hma
        have eK2 : I2 124 s = zn (zen zWW (f s)) := by rw [hF2 124 (by decide)]; exact hK s hs
        have hgo : (if (if nn ≤ t then zn (zfb cd s) else -1) = -1 then some true else (if (if nn ≤ t then zn (zfb cd s) else -1) = zn x then some true else some false)) = some (decide (tl = 0 ∨ x = zfb cd s)) := by
          by_cases e : nn ≤ t
          · rw [if_neg (by omega)] at htl
            rw [if_pos e, if_neg (zn_m1e (by omega)), zi_eq (by omega) (by omega)]
            by_cases e2 : zfb cd s = x
            · rw [if_pos e2, decide_eq_true (Or.inr e2.symm)]
            · rw [if_neg e2, decide_eq_false (by omega)]
          · rw [if_pos (by omega)] at htl
            rw [if_neg e, if_pos rfl, decide_eq_true (Or.inl htl)]
        rw [fl_X12_few_176, zn_2, if_neg (by rw [zn_le (by omega) (by omega)]; omega), hgo, zb_bd]
        by_cases d : tl = 0 ∨ x = zfb cd s
        · rw [decide_eq_true d, if_pos rfl, zT_bd, zT_bd]
          refine zT_mono (zq_goes hcd2 hv hma2 ht hT hs hx hP hf eK2 c0 d hG2) (fun I3 ⟨hF3, hG3, hJ3⟩ => ?_)
          refine ⟨_, rfl, ?_⟩
          simp only []
          rw [zb_let, show zn x + 1 = zn (x + 1) from by rw [zn_1, zn_add]]
          exact ih2 _ ⟨zF_tr hF2 hF3, hG3, fun j hj => by rw [(hJ3 j hj).1, (hJ3 j hj).2]; exact hJ2 j hj⟩
        · rw [decide_eq_false d, if_neg (by decide), zb_bd, zb_let, zn_1, zn_add]
          refine ih2 _ ⟨hF2, fun s' hs' => ?_, hJ2⟩
          have hno : zFc cd (P t) f tl (2 * s + x) (znx cd ((2 * s + x) / 2) ((2 * s + x) % 2)) (zFg cd (P t) f tl (2 * s + x) (znx cd ((2 * s + x) / 2) ((2 * s + x) % 2))).1 = false := by
            cases hcc : zFc cd (P t) f tl (2 * s + x) (znx cd ((2 * s + x) / 2) ((2 * s + x) % 2)) (zFg cd (P t) f tl (2 * s + x) (znx cd ((2 * s + x) / 2) ((2 * s + x) % 2))).1 with
            | false => rfl
            | true =>
              rw [zFc_iff] at hcc
              rw [show (2 * s + x) / 2 = s by omega, show (2 * s + x) % 2 = x by omega] at hcc
              exact absurd hcc.2.1 d
          show _ ∧ _
          rw [show 2 * s + (x + 1) = (2 * s + x) + 1 by omega, zFg_same hno]
          exact hG2 s' hs'
theorem zct_le {f : Nat → Nat} {s : Nat} : ∀ k, zct f s k ≤ k
  | 0 => Nat.le_refl _
  | k + 1 => by
    have := zct_le (f := f) (s := s) k
    unfold zct; split <;> omega
theorem zq_prunes {I : pd_I} {w : Nat} {cd f : Nat → Nat} (hv : zCv cd) (hw : w ≤ 64) (hf : ∀ s, f s ≤ 2300000) (hL : ∀ s, s < 2 ^ cd 1 → I 125 s = zn (zen zWW (f s))) :
    zT (fn_X12_prunes I (zn (2 ^ cd 1)) (zn w)) (fun I' => zF [124] I I' ∧ ∀ s, s < 2 ^ cd 1 → I' 124 s = zn (zen zWW (zth w (2 ^ cd 1) f s))) := by
  have hS := zCv_S hv
  have hzW := zW_lt
  have hzE := zE_W
  have hzB := zE_big
  have hcount : ∀ (I1 : pd_I), (∀ s, s < 2 ^ cd 1 → I1 125 s = zn (zen zWW (f s))) → ∀ s, s < 2 ^ cd 1 → ∀ kont : Int32 → Option pd_I, fl_X12_prunes_13 (zn (2 ^ cd 1)) (zn s) I1 kont pd_FU (zn 0) (zn 0) = kont (zn (zct f s (2 ^ cd 1))) := by
    intro I1 hL1 s hs kont
    refine zl_eq (fun fu k (st : Int32) => fl_X12_prunes_13 (zn (2 ^ cd 1)) (zn s) I1 kont fu st k) (2 ^ cd 1) 0 (fun k => zn (zct f s k)) _ (fun fu => ?_) (fun fu k _ hk => ?_) pd_FU 0 (by omega) (by omega) (zFU (by omega))
    · try simp only []
      rw [fl_X12_prunes_13, if_pos (by rw [zn_le (by omega) (by omega)]; omega)]
    · try simp only []
      have ek := hL1 k hk
      have es := hL1 s hs
      have lk := zen_le (B := zWW) (o := f k) (by have := hf k; omega)
      have ls := zen_le (B := zWW) (o := f s) (by have := hf s; omega)
      have i1 := zls_en (B := zWW) (a := f k) (b := f s) (by have := hf k; omega) (by have := hf s; omega)
      have i2 := zen_inj (B := zWW) (a := f k) (b := f s) (by have := hf k; omega) (by have := hf s; omega)
      rw [fl_X12_prunes_13, if_neg (by rw [zn_le (by omega) (by omega)]; omega), zn_in2 (by omega) (by omega), zb_gd, zn_in2 (by omega) (by omega), zb_gd, zb_gd, zb_gd, zn_nat (by omega), zn_nat (by omega), ek, es, zi_lt (by omega) (by omega), zi_eq (by omega) (by omega)]
      by_cases c : zls (f k) (f s) = true
      · rw [if_pos (i1.mpr c), zb_bd, if_pos rfl, zb_let, zb_bd, zb_let, zn_1, zn_add, zn_add]
        show _ = fl_X12_prunes_13 _ _ _ _ _ (zn (zct f s k + if _ then 1 else 0)) _
        rw [if_pos (by rw [c]; rfl)]
      · rw [if_neg (fun h => c (i1.mp h))]
        by_cases d : f k = f s
        · rw [if_pos (i2.mpr d), zi_le (by omega) (by omega)]
          by_cases e : s ≤ k
          · rw [if_pos e, zb_bd, if_neg (by decide), zb_bd, zb_let, zn_1, zn_add]
            show _ = fl_X12_prunes_13 _ _ _ _ _ (zn (zct f s k + if _ then 1 else 0)) _
            rw [if_neg (by rw [Bool.or_eq_true, Bool.and_eq_true, decide_eq_true_eq, decide_eq_true_eq]; rintro (h | h); exact c h; exact absurd h.2 (by omega))]
            rfl
          · rw [if_neg e, zb_bd, if_pos rfl, zb_let, zb_bd, zb_let, zn_1, zn_add, zn_add]
            show _ = fl_X12_prunes_13 _ _ _ _ _ (zn (zct f s k + if _ then 1 else 0)) _
            rw [if_pos (by rw [Bool.or_eq_true, Bool.and_eq_true, decide_eq_true_eq, decide_eq_true_eq]; exact Or.inr ⟨d, by omega⟩)]
        · rw [if_neg (fun h => d (i2.mp h)), zb_bd, if_neg (by decide), zb_bd, zb_let, zn_1, zn_add]
          show _ = fl_X12_prunes_13 _ _ _ _ _ (zn (zct f s k + if _ then 1 else 0)) _
          rw [if_neg (by rw [Bool.or_eq_true, Bool.and_eq_true, decide_eq_true_eq, decide_eq_true_eq]; rintro (h | h); exact c h; exact d h.1)]
          rfl
  unfold fn_X12_prunes
  rw [zn_0]
  refine zl_loop (fun fu s (st : pd_I) => fl_X12_prunes_2 (zn (2 ^ cd 1)) (zn w) (fun zI2 => some zI2) fu s st) (2 ^ cd 1) (fun s st => zF [124] I st ∧ ∀ s', s' < s → st 124 s' = zn (zen zWW (zth w (2 ^ cd 1) f s'))) ?_ ?_ pd_FU 0 I (by omega) (zFU (by omega)) ⟨zF_rfl, fun s' h => absurd h (Nat.not_lt_zero _)⟩
  · rintro fu I1 ⟨hF1, hD1⟩
    try simp only []
    rw [fl_X12_prunes_2, if_pos (by rw [zn_le (by omega) (by omega)]; omega)]
    exact ⟨_, rfl, hF1, hD1⟩
  · rintro fu s I1 hs ⟨hF1, hD1⟩ ih
    have hL1 : ∀ s, s < 2 ^ cd 1 → I1 125 s = zn (zen zWW (f s)) := by rw [hF1 125 (by decide)]; exact hL
    have hc := zct_le (f := f) (s := s) (2 ^ cd 1)
    try simp only [] at ih ⊢
    have fin : zT (fl_X12_prunes_2 (zn (2 ^ cd 1)) (zn w) (fun zI2 => some zI2) fu (zn (s + 1)) (pd_ui I1 124 s (zn (zen zWW (zth w (2 ^ cd 1) f s))))) (fun I' => zF [124] I I' ∧ ∀ s, s < 2 ^ cd 1 → I' 124 s = zn (zen zWW (zth w (2 ^ cd 1) f s))) := by
      refine ih _ ⟨zF_u (by simp) hF1, fun s' hs' => ?_⟩
      rw [zu_same, zu_app]
      by_cases c : s' = s
      · rw [if_pos c, c]
      · rw [if_neg c]; exact hD1 s' (by omega)
    rw [fl_X12_prunes_2, if_neg (by rw [zn_le (by omega) (by omega)]; omega), zn_0, hcount I1 hL1 s hs, zi_le (by omega) (by omega), zn_in2 (by omega) (by omega), zn_nat (by omega), zb_gd, hL1 s hs]
    unfold zth at fin
    by_cases c : w ≤ zct f s (2 ^ cd 1)
    · rw [if_neg (by omega), zen_0] at fin
      rw [if_pos c, zb_bd, zb_gd, zb_let, zb_let, zn_1, zn_add, zn_NW]
      exact fin
    · rw [if_pos (by omega)] at fin
      rw [if_neg c, zb_bd, zb_gd, zb_let, zb_let, zn_1, zn_add]
      exact fin

def zOrM (I : pd_I) (cd : Nat → Nat) (P : Nat → Nat → Nat) (n w T : Nat) : Prop := ∀ t, t < T → ∀ s, s < 2 ^ cd 1 → (zGg cd P n w t s).1 ≠ 0 → I 126 (64 * t + s) = zn (zGg cd P n w t s).2.1 ∧ I 127 (64 * t + s) = zn (zGg cd P n w t s).2.2
theorem zq_few93 {O : Type} {Q : O → Prop} {kont : pd_I → Option O} {I : pd_I} {c nn w T : Nat} {cd : Nat → Nat} {P : Nat → Nat → Nat} (h : zCm I c cd) (hv : zCv cd) (hma : zMa I cd T P) (hT : T ≤ 206) (hnT : zst cd nn ≤ T) (hn2 : nn ≤ 200) (hw64 : w ≤ 64) (hP : ∀ t e, P t e ≤ 10000) (hK : ∀ s, s < 2 ^ cd 1 → I 124 s = zn (zen zWW (zKp cd P nn w 0 s)))
    (hk : ∀ I2, zF [124, 125, 126, 127] I I2 → (∀ s, s < 2 ^ cd 1 → I2 124 s = zn (zen zWW (zKp cd P nn w (zst cd nn) s))) → zOrM I2 cd P nn w (zst cd nn) → zT (kont I2) Q) :
    zT (fl_X12_few_93 (zn c) (zn nn) (zn w) (zn (2 ^ cd 1)) kont pd_FU (zn 0) I) Q := by
  have hS := zCv_S hv
  have hst := zst_le (n := nn) hv
  have hKb : ∀ t s, t ≤ 206 → zKp cd P nn w t s ≤ 2200000 := fun t s ht => by
    have := zKp_le (cd := cd) (n := nn) (w := w) hP t s
    have : 10000 * t ≤ 10000 * 206 := Nat.mul_le_mul_left _ ht
    omega
  refine zl_loop (fun fu t (st : pd_I) => fl_X12_few_93 (zn c) (zn nn) (zn w) (zn (2 ^ cd 1)) kont fu t st) (zst cd nn) (fun t st => zF [124, 125, 126, 127] I st ∧ (∀ s, s < 2 ^ cd 1 → st 124 s = zn (zen zWW (zKp cd P nn w t s))) ∧ zOrM st cd P nn w t) ?_ ?_ pd_FU 0 I (by omega) (zFU (by omega)) ⟨zF_rfl, hK, fun t h => absurd h (Nat.not_lt_zero _)⟩
  · rintro fu I1 ⟨hF, hD, hO⟩
    have hcd := zCm_F (by decide) hF h
    try simp only []
    rw [fl_X12_few_93, zc_stepsM hcd hv, zb_bd, if_pos (by rw [zn_le (by omega) (by omega)]; omega)]
    exact hk I1 hF hD hO
  · rintro fu t I1 ht ⟨hF, hD, hO⟩ ih
    have hcd := zCm_F (by decide) hF h
    try simp only [] at ih ⊢
    rw [fl_X12_few_93, zc_stepsM hcd hv, zb_bd, if_neg (by rw [zn_le (by omega) (by omega)]; omega), zn_0]
    generalize hkt : (fun zI11 => fl_X12_few_132 (zn c) (zn nn) (zn (2 ^ cd 1)) (zn t) (fun zI14 => pd_bd (fn_X12_prunes zI14 (zn (2 ^ cd 1)) (zn w)) fun zI20 => pd_let (zn t + 1) fun zv6 => fl_X12_few_93 (zn c) (zn nn) (zn w) (zn (2 ^ cd 1)) kont fu zv6 zI20) pd_FU (zn 0) zI11) = kt
    refine zl_loop (fun fu2 s (st : pd_I) => fl_X12_few_107 (zn (2 ^ cd 1)) kt fu2 s st) (2 ^ cd 1) (fun s st => zF [125] I1 st ∧ ∀ s', s' < s → st 125 s' = zn zWW) ?_ ?_ pd_FU 0 I1 (by omega) (zFU (by omega)) ⟨zF_rfl, fun s' h => absurd h (Nat.not_lt_zero _)⟩
    · rintro fu2 I2 ⟨hF2, hW2⟩
      try simp only []
      have hF2' : zF [124, 125, 126, 127] I I2 := zF_tr hF (zF_sub hF2 (by decide))
      have hcd2 := zCm_F (by decide) hF2' h
      have hma2 := zMa_F (by decide) hF2' hma
      rw [fl_X12_few_107, if_pos (by rw [zn_le (by omega) (by omega)]; omega), ← hkt]
      simp only []
      refine zq_few132 (tl := if t < nn then 0 else 1) (f := zKp cd P nn w t) hcd2 hv hma2 (by omega) hT hn2 rfl (hP t) (fun s => hKb t s (by omega)) (fun s hs => by rw [hF2 124 (by decide)]; exact hD s hs) hW2 (fun I3 hF3 hG3 hJ3 => ?_)
      have hGb : ∀ s, (zGg cd P nn w t s).1 ≤ 2300000 := fun s => by
        have := zFg_le (cd := cd) (tl := if t < nn then 0 else 1) (hP t) (fun s => hKb t s (by omega)) (2 * 2 ^ cd 1) s
        unfold zGg; omega
      rw [zT_bd]
      refine zT_mono (zq_prunes (f := fun s => (zGg cd P nn w t s).1) hv hw64 hGb (fun s hs => (hG3 s hs).1)) (fun I4 ⟨hF4, hK4⟩ => ?_)
      rw [zb_let, zn_1, zn_add]
      refine ih _ ⟨zF_tr hF2' (zF_tr (zF_sub hF3 (by decide)) (zF_sub hF4 (by decide))), hK4, fun t' ht' s hs hne => ?_⟩
      rw [hF4 126 (by decide), hF4 127 (by decide)]
      by_cases e : t' = t
      · subst e; exact (hG3 s hs).2 hne
      · rw [(hJ3 _ (by omega)).1, (hJ3 _ (by omega)).2, hF2 126 (by decide), hF2 127 (by decide)]; exact hO t' (by omega) s hs hne
    · rintro fu2 s I2 hs ⟨hF2, hW2⟩ ih2
      try simp only [] at ih2 ⊢
      rw [fl_X12_few_107, if_neg (by rw [zn_le (by omega) (by omega)]; omega), zn_in2 (by omega) (by omega), zb_gd, zn_nat (by omega), zb_let, zb_let, zn_1, zn_add, zn_NW]
      refine ih2 _ ⟨zF_u (by decide) hF2, fun s' hs' => ?_⟩
      rw [zu_same, zu_app]
      by_cases e : s' = s
      · rw [if_pos e]
      · rw [if_neg e]; exact hW2 s' (by omega)
