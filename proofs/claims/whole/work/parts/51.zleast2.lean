/-! the reference's least costs, whole -/
theorem zmn_0 {q : Nat} : zmn q 0 = q := by
  unfold zmn
  by_cases c : q = 0
  · rw [if_pos c, c]
  · rw [if_neg c, if_pos rfl]
theorem zjo_w0 {A : Nat} : zjo A 0 = 0 := by unfold zjo; split <;> rfl
theorem zq_leasts335 {O : Type} {Q : O → Prop} {kont : pd_I → Option O} {I : pd_I} {c nn t T begin lz lo : Nat} {cd E F : Nat → Nat} {P : Nat → Nat → Nat} (h : zCm I c cd) (hv : zCv cd) (hma : zMa I cd T P) (hnT : nn ≤ T) (hn2 : nn ≤ 200) (ht : t < nn) (hP : ∀ t e, P t e ≤ 10000) (hFb : ∀ s, F s ≤ 100000)
    (hA : ∀ s, s < 2 ^ cd 1 → I 115 (64 * t + s) = zn (zen zWW (zAt cd P begin t s))) (hB : ∀ s, s < 2 ^ cd 1 → I 116 (64 * (t + 1) + s) = zn (zen zWW (zBt cd P nn E F (nn - (t + 1)) s)))
    (h47 : I 117 t = zn (zen zWW lz)) (h48 : I 118 t = zn (zen zWW lo)) (hlz : lz ≤ 2200000) (hlo : lo ≤ 2200000)
    (hK : ∀ I2, zF [116, 117, 118] I I2 → (∀ s, s < 2 ^ cd 1 → I2 116 (64 * t + s) = zn (zen zWW (zmn (zWz cd P nn E F t s 0) (zWz cd P nn E F t s 1)))) → I2 117 t = zn (zen zWW (zfo (fun s => zjo (zAt cd P begin t s) (zWz cd P nn E F t s 0)) lz (2 ^ cd 1))) → I2 118 t = zn (zen zWW (zfo (fun s => zjo (zAt cd P begin t s) (zWz cd P nn E F t s 1)) lo (2 ^ cd 1))) → (∀ j, j ≠ t → I2 117 j = I 117 j ∧ I2 118 j = I 118 j) → zT (kont I2) Q) :
    zT (fl_X12_leasts_335 (zn c) (zn (2 ^ cd 1)) (zn t) kont pd_FU (zn 0) I) Q := by
  have hS := zCv_S hv
  have hzW := zW_lt
  have hzE := zE_W
  have hzB := zE_big
  refine zl_loop (fun fu s (st : pd_I) => fl_X12_leasts_335 (zn c) (zn (2 ^ cd 1)) (zn t) kont fu s st) (2 ^ cd 1) (fun s st => zF [116, 117, 118] I st ∧ (∀ s', s' < s → st 116 (64 * t + s') = zn (zen zWW (zmn (zWz cd P nn E F t s' 0) (zWz cd P nn E F t s' 1)))) ∧ (∀ s', s' < 2 ^ cd 1 → st 116 (64 * (t + 1) + s') = I 116 (64 * (t + 1) + s')) ∧ st 117 t = zn (zen zWW (zfo (fun s => zjo (zAt cd P begin t s) (zWz cd P nn E F t s 0)) lz s)) ∧ st 118 t = zn (zen zWW (zfo (fun s => zjo (zAt cd P begin t s) (zWz cd P nn E F t s 1)) lo s)) ∧ (∀ j, j ≠ t → st 117 j = I 117 j ∧ st 118 j = I 118 j)) ?_ ?_ pd_FU 0 I (by omega) (zFU (by omega)) ⟨zF_rfl, fun s' hs' => absurd hs' (Nat.not_lt_zero _), fun _ _ => rfl, h47, h48, fun _ _ => ⟨rfl, rfl⟩⟩
  · rintro fu I' ⟨hF, hD, hU, hz, ho, hj⟩
    try simp only []
    rw [fl_X12_leasts_335, if_pos (by rw [zn_le (by omega) (by omega)]; omega)]
    exact hK I' hF hD hz ho hj
  · rintro fu s I' hs ⟨hF, hD, hU, hz, ho, hj⟩ ih
    have hcd := zCm_F (by decide) hF h
    have hma' := zMa_F (by decide) hF hma
    have hA' : I' 115 (64 * t + s) = zn (zen zWW (zAt cd P begin t s)) := by rw [hF 115 (by decide)]; exact hA s hs
    have hx0 : znx cd s 0 < 2 ^ cd 1 := znx_lt
    have hx1 : znx cd s 1 < 2 ^ cd 1 := znx_lt
    have hB0 : I' 116 (64 * (t + 1) + znx cd s 0) = zn (zen zWW (zBt cd P nn E F (nn - (t + 1)) (znx cd s 0))) := by rw [hU _ hx0]; exact hB _ hx0
    have hB1 : I' 116 (64 * (t + 1) + znx cd s 1) = zn (zen zWW (zBt cd P nn E F (nn - (t + 1)) (znx cd s 1))) := by rw [hU _ hx1]; exact hB _ hx1
    have hp0 := hma' t (by omega) (2 * s) (by omega)
    have hp1 := hma' t (by omega) (2 * s + 1) (by omega)
    rw [← Nat.add_assoc] at hp1
    have bP0 := hP t (2 * s)
    have bP1 := hP t (2 * s + 1)
    have bB0 := zBt_le (cd := cd) (E := E) (n := nn) hP hFb (nn - (t + 1)) (znx cd s 0)
    have bB1 := zBt_le (cd := cd) (E := E) (n := nn) hP hFb (nn - (t + 1)) (znx cd s 1)
    have b0 := zWz_le (cd := cd) (E := E) (s := s) (x := 0) hP hFb ht
    have b1 := zWz_le (cd := cd) (E := E) (s := s) (x := 1) hP hFb ht
    have bA := zAt_le (cd := cd) (begin := begin) hP t s
    have bj : ∀ x s, zjo (zAt cd P begin t s) (zWz cd P nn E F t s x) ≤ 2200000 := fun x s => by
      have h := zjo_le (zAt_le (cd := cd) (begin := begin) hP t s) (zWz_le (cd := cd) (E := E) (s := s) (x := x) hP hFb ht)
      omega
    have bz := zfo_le (g := fun s => zjo (zAt cd P begin t s) (zWz cd P nn E F t s 0)) hlz (bj 0) s
    have bo := zfo_le (g := fun s => zjo (zAt cd P begin t s) (zWz cd P nn E F t s 1)) hlo (bj 1) s
    have hw0 : zWz cd P nn E F t s 0 = zad (zBt cd P nn E F (nn - (t + 1)) (znx cd s 0)) (P t (2 * s)) := rfl
    have hw1 : zWz cd P nn E F t s 1 = zad (zBt cd P nn E F (nn - (t + 1)) (znx cd s 1)) (P t (2 * s + 1)) := rfl
    obtain ⟨u, hu⟩ : ∃ u, u = zWz cd P nn E F t s 0 := ⟨_, rfl⟩
    obtain ⟨v, hvv⟩ : ∃ v, v = zWz cd P nn E F t s 1 := ⟨_, rfl⟩
    obtain ⟨A, hAA⟩ : ∃ A, A = zAt cd P begin t s := ⟨_, rfl⟩
    obtain ⟨z, hzz⟩ : ∃ z, z = zfo (fun s => zjo (zAt cd P begin t s) (zWz cd P nn E F t s 0)) lz s := ⟨_, rfl⟩
    obtain ⟨o, hoo⟩ : ∃ o, o = zfo (fun s => zjo (zAt cd P begin t s) (zWz cd P nn E F t s 1)) lo s := ⟨_, rfl⟩
    obtain ⟨B0, hBB0⟩ : ∃ B0, B0 = zBt cd P nn E F (nn - (t + 1)) (znx cd s 0) := ⟨_, rfl⟩
    obtain ⟨B1, hBB1⟩ : ∃ B1, B1 = zBt cd P nn E F (nn - (t + 1)) (znx cd s 1) := ⟨_, rfl⟩
    rw [← hu] at b0 hw0
    rw [← hvv] at b1 hw1
    rw [← hAA] at hA' bA
    rw [← hzz] at hz bz
    rw [← hoo] at ho bo
    rw [← hBB0] at hB0 bB0 hw0
    rw [← hBB1] at hB1 bB1 hw1
    have lu := zen_le (B := zWW) (o := u) (by omega)
    have lv := zen_le (B := zWW) (o := v) (by omega)
    have lA := zen_le (B := zWW) (o := A) (by omega)
    have lB0 := zen_le (B := zWW) (o := B0) (by omega)
    have lB1 := zen_le (B := zWW) (o := B1) (by omega)
    have fz : zfo (fun s => zjo (zAt cd P begin t s) (zWz cd P nn E F t s 0)) lz (s + 1) = zmn z (zjo A u) := by show zmn _ (zjo _ _) = _; rw [← hzz, ← hu, ← hAA]
    have fo : zfo (fun s => zjo (zAt cd P begin t s) (zWz cd P nn E F t s 1)) lo (s + 1) = zmn o (zjo A v) := by show zmn _ (zjo _ _) = _; rw [← hoo, ← hvv, ← hAA]
    -- the cost of a half
    have half : ∀ (b w p : Nat) (k : Option Int32), w = zad b p → b + p ≤ 2300000 → k = some (zn (zen zWW b + p)) → (if zen zWW b < zWW then k else some (zn zWW)) = some (zn (zen zWW w)) := by
      intro b w p k hw hb hk
      by_cases e : b = 0
      · subst e; unfold zad at hw; rw [if_pos rfl] at hw; rw [zen_0, if_neg (Nat.lt_irrefl _), hw]; rfl
      · have hl := zen_lt (B := zWW) (o := b) (by omega) e
        unfold zad at hw; rw [if_neg e] at hw
        rw [if_pos hl, hk, zen_S e, hw, zen_S (show b + p ≠ 0 by omega)]
        congr 2; omega
    have upd1 : ∀ (w q : Nat), A ≠ 0 → w ≠ 0 → w + A ≤ 2300000 → q ≤ 2200000 → pd_min (zn (zen zWW q)) (zn (zen zWW A + zen zWW w)) = zn (zen zWW (zmn q (zjo A w))) := by
      intro w q hA0 hw0 hwA hq
      have lq := zen_le (B := zWW) (o := q) (by omega)
      have e : zjo A w = A + w - 1 := by unfold zjo; rw [if_neg hA0, if_neg hw0]
      rw [zp_min (by omega) (by rw [zen_S hA0, zen_S hw0]; omega), ← zen_min (by omega) (by omega), e, zen_S hA0, zen_S hw0, zen_S (show A + w - 1 ≠ 0 by omega)]
      congr 2; omega
    have fin : ∀ I4 : pd_I, zF [116, 117, 118] I' I4 → (∀ j, I4 116 j = if j = 64 * t + s then zn (zen zWW (zmn u v)) else I' 116 j) → I4 117 t = zn (zen zWW (zmn z (zjo A u))) → I4 118 t = zn (zen zWW (zmn o (zjo A v))) → (∀ j, j ≠ t → I4 117 j = I' 117 j ∧ I4 118 j = I' 118 j) → zT (fl_X12_leasts_335 (zn c) (zn (2 ^ cd 1)) (zn t) kont fu (zn (s + 1)) I4) Q := by
      intro I4 k1 k2 k3 k4 k5
      refine ih _ ⟨zF_tr hF k1, fun s' hs' => ?_, fun s' hs' => ?_, by rw [fz]; exact k3, by rw [fo]; exact k4, fun j hj' => ?_⟩
      · rw [k2]
        by_cases e : s' = s
        · rw [if_pos (by omega), e, hu, hvv]
        · rw [if_neg (by omega)]; exact hD s' (by omega)
      · rw [k2, if_neg (by omega)]; exact hU s' hs'
      · rw [(k5 j hj').1, (k5 j hj').2]; exact hj j hj'
    clear ih hD hU hj hB hA hma' hma
    try simp only []
    rw [fl_X12_leasts_335, if_neg (by rw [zn_le (by omega) (by omega)]; omega), zn_0, zc_next hcd hv (by omega), zb_bd, zn_1, zc_next hcd hv (by omega)]
    simp (disch := omega) only [zb_bd, zn_64, zn_128, zn_2, zn_mul, zn_add, zb_let, zn_in2, zb_gd, zn_nat, hB0, hB1, hp0, hp1, zn_NW, zn_lt]
    rw [half B0 u _ _ hw0 (by omega) rfl, zb_bd, half B1 v _ _ hw1 (by omega) rfl, zb_bd, zp_min (by omega) (by omega), zen_min (by omega) (by omega)]
    rw [zu_ne (show (115 : Nat) ≠ 116 by decide), hA', zi_lt (by omega) (by omega)]
    have k47 : pd_ui I' 116 (64 * t + s) (zn (zen zWW (zmn u v))) 117 t = zn (zen zWW z) := by rw [zu_ne (by decide)]; exact hz
    have k48 : pd_ui I' 116 (64 * t + s) (zn (zen zWW (zmn u v))) 118 t = zn (zen zWW o) := by rw [zu_ne (by decide)]; exact ho
    have kA : pd_ui I' 116 (64 * t + s) (zn (zen zWW (zmn u v))) 115 (64 * t + s) = zn (zen zWW A) := by rw [zu_ne (by decide)]; exact hA'
    have k116 : ∀ j, pd_ui I' 116 (64 * t + s) (zn (zen zWW (zmn u v))) 116 j = if j = 64 * t + s then zn (zen zWW (zmn u v)) else I' 116 j := fun j => by rw [zu_same, zu_app]
    have hF5 : zF [116, 117, 118] I' (pd_ui I' 116 (64 * t + s) (zn (zen zWW (zmn u v)))) := zF_u (by decide) zF_rfl
    have kj : ∀ j, pd_ui I' 116 (64 * t + s) (zn (zen zWW (zmn u v))) 117 j = I' 117 j ∧ pd_ui I' 116 (64 * t + s) (zn (zen zWW (zmn u v))) 118 j = I' 118 j := fun j => by rw [zu_ne (by decide), zu_ne (by decide)]; exact ⟨rfl, rfl⟩
    obtain ⟨I5, hI5⟩ : ∃ I5, I5 = pd_ui I' 116 (64 * t + s) (zn (zen zWW (zmn u v))) := ⟨_, rfl⟩
    rw [← hI5] at k47 k48 kA k116 hF5 kj ⊢
    by_cases d : A = 0
    · rw [d, zen_0, if_neg (Nat.lt_irrefl _), zb_bd]
      exact fin I5 hF5 k116 (by rw [zmn_j0 d]; exact k47) (by rw [zmn_j0 d]; exact k48) (fun j _ => kj j)
    · have lA2 := zen_lt (B := zWW) (o := A) (by omega) d
      rw [if_pos lA2]
      by_cases e0 : u = 0
      · rw [zi_le (by omega) (by omega), if_pos (by rw [e0, zen_0]; exact Nat.le_refl _), zb_bd]
        by_cases e1 : v = 0
        · rw [zi_le (by omega) (by omega), if_pos (by rw [e1, zen_0]; exact Nat.le_refl _), zb_bd]
          exact fin I5 hF5 k116 (by rw [e0, zjo_w0, zmn_0]; exact k47) (by rw [e1, zjo_w0, zmn_0]; exact k48) (fun j _ => kj j)
        · have l1 := zen_lt (B := zWW) (o := v) (by omega) e1
          rw [zi_le (by omega) (by omega), if_neg (by omega), k48, kA, zn_add, upd1 v o d e1 (by omega) bo, zb_bd]
          refine fin _ (zF_u (by decide) hF5) (fun j => ?_) ?_ ?_ (fun j hj => ?_)
          · rw [zu_ne (by decide)]; exact k116 j
          · rw [zu_ne (by decide), e0, zjo_w0, zmn_0]; exact k47
          · rw [zu_same, zu_at]
          · rw [zu_ne (by decide), zu_same, zu_nat hj]; exact kj j
      · have l0 := zen_lt (B := zWW) (o := u) (by omega) e0
        rw [zi_le (by omega) (by omega), if_neg (by omega), k47, zn_add, upd1 u z d e0 (by omega) bz, zb_bd]
        have m48 : ∀ x, pd_ui I5 117 t x 118 = I5 118 := fun x => zu_ne (by decide)
        have m115 : ∀ x, pd_ui I5 117 t x 115 = I5 115 := fun x => zu_ne (by decide)
        by_cases e1 : v = 0
        · rw [zi_le (by omega) (by omega), if_pos (by rw [e1, zen_0]; exact Nat.le_refl _), zb_bd]
          refine fin _ (zF_u (by decide) hF5) (fun j => ?_) ?_ ?_ (fun j hj => ?_)
          · rw [zu_ne (by decide)]; exact k116 j
          · rw [zu_same, zu_at]
          · rw [m48, e1, zjo_w0, zmn_0]; exact k48
          · rw [m48, zu_same, zu_nat hj]; exact kj j
        · have l1 := zen_lt (B := zWW) (o := v) (by omega) e1
          rw [zi_le (by omega) (by omega), if_neg (by omega), m48, m115, k48, kA, zn_add, upd1 v o d e1 (by omega) bo, zb_bd]
          refine fin _ (zF_u (by decide) (zF_u (by decide) hF5)) (fun j => ?_) ?_ ?_ (fun j hj => ?_)
          · rw [zu_ne (by decide), zu_ne (by decide)]; exact k116 j
          · rw [zu_ne (by decide), zu_same, zu_at]
          · rw [zu_same, zu_at]
          · rw [zu_ne (show (117 : Nat) ≠ 118 by decide), zu_same, zu_nat hj, zu_same, zu_nat hj, m48]; exact kj j

theorem zq_leasts {I : pd_I} {c nn begin rg tl T : Nat} {cd lz lo : Nat → Nat} {P : Nat → Nat → Nat} (h : zCm I c cd) (hv : zCv cd) (hma : zMa I cd T P) (hT : zst cd nn ≤ T) (hT2 : T ≤ 206) (hn1 : 1 ≤ nn) (hn2 : nn ≤ 200) (hb : begin < 64) (hP : ∀ t e, P t e ≤ 10000) (hrg : rg = if cd 0 = 4 then 1 else 0) (htl : tl = if cd 0 = 3 then 1 else 0)
    (hz : ∀ t, t < nn → I 117 t = zn (zen zWW (lz t)) ∧ I 118 t = zn (zen zWW (lo t)) ∧ lz t ≤ 2200000 ∧ lo t ≤ 2200000) :
    zT (fn_X12_leasts I (zn c) (zn nn) (zn begin) (zn rg) (zn tl)) (fun I' => zF [115, 116, 117, 118] I I' ∧ ∀ t, t < nn → I' 117 t = zn (zen zWW (zfo (fun s => zjo (zAt cd P begin t s) (zWz cd P nn (zEn cd begin) (zFn cd P nn) t s 0)) (lz t) (2 ^ cd 1))) ∧ I' 118 t = zn (zen zWW (zfo (fun s => zjo (zAt cd P begin t s) (zWz cd P nn (zEn cd begin) (zFn cd P nn) t s 1)) (lo t) (2 ^ cd 1)))) := by
  have hS := zCv_S hv
  have hst := zst_le (n := nn) hv
  have h6 : cd 1 ≤ 6 := hv.2.2.1
  have hc := h.1
  have hFb : ∀ s, zFn cd P nn s ≤ 100000 := fun s => Nat.le_trans (zFn_le hv hP) (by omega)
  unfold fn_X12_leasts
  rw [zn_in2 hc (by omega), zb_gd, zn_nat (by omega), h.2.2.1, zn_1, zn_31, zn_1shl _ (by omega), zb_let, zn_0]
  refine zq_leasts13 h hv hma hT hT2 hn2 hb hrg htl (fun I1 hF1 hA1 hB1 => ?_)
  have hcd1 := zCm_F (by decide) hF1 h
  have hma1 := zMa_F (by decide) hF1 hma
  refine zq_leasts156 hcd1 hv hma1 (by omega) hn2 hP hA1 (fun I2 hF2 hA2 => ?_)
  rw [zb_let, ← zn_1, zdn_0 hn1]
  have hF02 : zF [115, 116, 117, 118] I I2 := zF_tr (zF_sub hF1 (by decide)) (zF_sub hF2 (by decide))
  have hB2 : zRB I2 cd P nn (zEn cd begin) (zFn cd P nn) 0 := by unfold zRB; rw [hF2 116 (by decide)]; exact hB1
  refine zl_gen (fun fu x (st : pd_I) => fl_X12_leasts_327 (zn c) (zn (2 ^ cd 1)) (fun zI17 => some zI17) fu x st) (zdn nn) nn (fun d st => zF [115, 116, 117, 118] I st ∧ zF [116, 117, 118] I2 st ∧ zRB st cd P nn (zEn cd begin) (zFn cd P nn) d ∧ (∀ t, t < nn → nn - d ≤ t → st 117 t = zn (zen zWW (zfo (fun s => zjo (zAt cd P begin t s) (zWz cd P nn (zEn cd begin) (zFn cd P nn) t s 0)) (lz t) (2 ^ cd 1))) ∧ st 118 t = zn (zen zWW (zfo (fun s => zjo (zAt cd P begin t s) (zWz cd P nn (zEn cd begin) (zFn cd P nn) t s 1)) (lo t) (2 ^ cd 1)))) ∧ (∀ t, t < nn - d → st 117 t = I 117 t ∧ st 118 t = I 118 t)) ?_ ?_ pd_FU 0 I2 (by omega) (zFU (by omega)) ⟨hF02, zF_rfl, hB2, fun t h1 h2 => by omega, fun t _ => by
    rw [hF2 117 (by decide), hF2 118 (by decide), hF1 117 (by decide), hF1 118 (by decide)]; exact ⟨rfl, rfl⟩⟩
  · rintro fu I' ⟨q1, q2, q3, q4, q5⟩
    try simp only []
    rw [fl_X12_leasts_327, zdn_n, if_pos (by decide)]
    exact ⟨_, rfl, q1, fun t ht => q4 t ht (by omega)⟩
  · rintro fu d I' hd ⟨q1, q2, q3, q4, q5⟩ ih
    try simp only [] at ih ⊢
    have hcd := zCm_F (by decide) q1 h
    have hma' := zMa_F (by decide) q1 hma
    obtain ⟨z1, z2, z3, z4⟩ := hz (nn - (d + 1)) (by omega)
    obtain ⟨y1, y2⟩ := q5 (nn - (d + 1)) (by omega)
    rw [fl_X12_leasts_327, zdn_lt hd, zn_0, if_neg (zn_n0 (by omega))]
    refine zq_leasts335 (begin := begin) (E := zEn cd begin) (F := zFn cd P nn) hcd hv hma' (by omega) hn2 (by omega) hP hFb (fun s hs => by rw [q2 115 (by decide)]; exact hA2 _ (by omega) s hs) (fun s hs => ?_) (by rw [y1]; exact z1) (by rw [y2]; exact z2) z3 z4 (fun I3 k1 k2 k3 k4 k5 => ?_)
    · rw [show nn - (nn - (d + 1) + 1) = d by omega, show nn - (d + 1) + 1 = nn - d by omega]; exact q3 s hs
    · rw [zb_let, zdn_s hd]
      refine ih _ ⟨zF_tr q1 (zF_sub k1 (by decide)), zF_tr q2 k1, fun s hs => ?_, fun t h1 h2 => ?_, fun t ht => ?_⟩
      · have hh := k2 s hs
        unfold zWz at hh
        rw [show nn - (nn - (d + 1) + 1) = d by omega] at hh
        exact hh
      · by_cases e : t = nn - (d + 1)
        · subst e; exact ⟨k3, k4⟩
        · rw [(k5 t e).1, (k5 t e).2]; exact q4 t h1 (by omega)
      · rw [(k5 t (by omega)).1, (k5 t (by omega)).2]; exact q5 t (by omega)
theorem zq_clearLeasts {I : pd_I} {nn : Nat} (hn2 : nn ≤ 200) :
    zT (fn_X12_clearLeasts I (zn nn)) (fun I' => zF [117, 118] I I' ∧ ∀ t, t < nn → I' 117 t = zn zWW ∧ I' 118 t = zn zWW) := by
  unfold fn_X12_clearLeasts
  rw [zn_0]
  refine zl_loop (fun fu t (st : pd_I) => fl_X12_clearLeasts_2 (zn nn) (fun zI2 => some zI2) fu t st) nn (fun t st => zF [117, 118] I st ∧ ∀ t', t' < t → st 117 t' = zn zWW ∧ st 118 t' = zn zWW) ?_ ?_ pd_FU 0 I (by omega) (zFU (by omega)) ⟨zF_rfl, fun t' h => absurd h (Nat.not_lt_zero _)⟩
  · rintro fu I1 ⟨hF1, hD1⟩
    try simp only []
    rw [fl_X12_clearLeasts_2, if_pos (by rw [zn_le (by omega) (by omega)]; omega)]
    exact ⟨_, rfl, hF1, hD1⟩
  · rintro fu t I1 ht ⟨hF1, hD1⟩ ih
    try simp only [] at ih ⊢
    rw [fl_X12_clearLeasts_2, if_neg (by rw [zn_le (by omega) (by omega)]; omega), zn_in2 (show t < 200 by omega) (by omega), zb_gd, zn_nat (by omega), zb_let, zb_gd, zb_let, zb_let, zn_1, zn_add, zn_NW]
    refine ih _ ⟨zF_u (by decide) (zF_u (by decide) hF1), fun t' ht' => ?_⟩
    rw [zu_ne (show (117 : Nat) ≠ 118 by decide), zu_same, zu_same, zu_ne (show (118 : Nat) ≠ 117 by decide), zu_app, zu_app]
    by_cases c : t' = t
    · rw [if_pos c, if_pos c]; exact ⟨rfl, rfl⟩
    · rw [if_neg c, if_neg c]; exact hD1 t' (by omega)
theorem zc_difference {I : pd_I} {t z o : Nat} (ht : t < 200) (h1 : I 117 t = zn (zen zWW z)) (h2 : I 118 t = zn (zen zWW o)) (hz : z ≤ 2200000) (ho : o ≤ 2200000) : fn_X12_difference I (zn t) = some (zdf z o) := by
  have hzW := zW_lt
  have hzE := zE_W
  have hzB := zE_big
  have lz := zen_le (B := zWW) (o := z) (by omega)
  have lo := zen_le (B := zWW) (o := o) (by omega)
  unfold fn_X12_difference zdf
  rw [zn_in2 ht (by omega), zb_gd, zb_gd, zb_gd, zb_gd, zn_nat (by omega), h1, h2, zn_NW, zi_eq (by omega) (by omega), zi_eq (by omega) (by omega)]
  by_cases c : o = 0
  · rw [if_pos (by rw [c]; rfl), if_pos c]; rfl
  · have := zen_lt (B := zWW) (o := o) (by omega) c
    rw [if_neg (by omega), if_neg c]
    by_cases d : z = 0
    · rw [if_pos (by rw [d]; rfl), if_pos d]; rfl
    · have := zen_lt (B := zWW) (o := z) (by omega) d
      rw [if_neg (by omega), if_neg d, zen_S c, zen_S d]; rfl
