/-! the class meets, and tells -/
def zWz (cd : Nat → Nat) (P : Nat → Nat → Nat) (n : Nat) (E F : Nat → Nat) (t s x : Nat) : Nat := zad (zBt cd P n E F (n - (t + 1)) (znx cd s x)) (P t (2 * s + x))
theorem zWz_le {cd E F : Nat → Nat} {P : Nat → Nat → Nat} {n t s x : Nat} (hP : ∀ t e, P t e ≤ 10000) (hF : ∀ s, F s ≤ 100000) (ht : t < n) : zWz cd P n E F t s x ≤ 100001 + 10000 * (n - t) := by
  have h := zad_le (zBt_le (cd := cd) (E := E) (n := n) hP hF (n - (t + 1)) (znx cd s x)) (hP t (2 * s + x))
  have e : n - t = (n - (t + 1)) + 1 := by omega
  rw [e, Nat.mul_succ, ← Nat.add_assoc]
  exact h
/-- the least cost of ways with bit x at step t, over the beginnings -/
def zLZ (cd : Nat → Nat) (P : Nat → Nat → Nat) (n x : Nat) : Nat → Nat → Nat
  | 0, _ => 0
  | b + 1, t => zfo (fun s => zjo (zAt cd P b t s) (zWz cd P n (zEn cd b) (zFn cd P n) t s x)) (zLZ cd P n x b t) (2 ^ cd 1)
theorem zLZ_le {cd : Nat → Nat} {P : Nat → Nat → Nat} {n x : Nat} (hv : zCv cd) (hP : ∀ t e, P t e ≤ 10000) (hn : n ≤ 200) : ∀ b t, t < n → zLZ cd P n x b t ≤ 2200000
  | 0, _, _ => by unfold zLZ; omega
  | b + 1, t, ht => by
    unfold zLZ
    refine zfo_le (zLZ_le hv hP hn b t ht) (fun s => ?_) _
    have h := zjo_le (zAt_le (cd := cd) (begin := b) hP t s) (zWz_le (cd := cd) (E := zEn cd b) (F := zFn cd P n) (s := s) (x := x) hP (fun s => Nat.le_trans (zFn_le (n := n) (s := s) hv hP) (by omega)) ht)
    omega
def zZe (Z : pd_R) (ow ft : Nat) : Prop := Z 43 2 = some ow ∧ Z 43 3 = some ft ∧ (ow = 45 ∧ ft = 46 ∨ ow = 46 ∧ ft = 45)
theorem za_45 {n : Nat} (h : 133 ≤ n) : pd_isArr 45 64 n = true := decide_eq_true ⟨by omega, by decide +kernel⟩
theorem za_46 {n : Nat} (h : 133 ≤ n) : pd_isArr 46 64 n = true := decide_eq_true ⟨by omega, by decide +kernel⟩
theorem zZe_a {Z : pd_R} {ow ft n : Nat} (h : zZe Z ow ft) (hn : 133 ≤ n) : pd_isArr ow 64 n = true ∧ pd_isArr ft 64 n = true := by
  rcases h.2.2 with ⟨e1, e2⟩ | ⟨e1, e2⟩
  · rw [e1, e2]; exact ⟨za_45 hn, za_46 hn⟩
  · rw [e1, e2]; exact ⟨za_46 hn, za_45 hn⟩
theorem zq_behind {I : pd_I} {Z : pd_R} {n ow ft t e T b : Nat} {cd : Nat → Nat} {P : Nat → Nat → Nat} (hn : 133 ≤ n) (hZ : zZe Z ow ft) (hv : zCv cd) (hla : zLa I cd T P) (hT : T ≤ 206) (ht : t < T) (he : e < 2 * 2 ^ cd 1) (hP : ∀ t e, P t e ≤ 10000) (hb : b + 10000 ≤ 3000000) (hf : I ft (znx cd (e / 2) (e % 2)) = zn (zen zEE b)) : fn_X6_behind I Z n (zn t) (zn e) = some (zn (zen zEE (zad b (P t e)))) := by
  have hS := zCv_S hv
  have hzE := zE_lt
  have hzB := zE_big
  obtain ⟨h1, h2⟩ := zZe_a hZ hn
  have hx := hla.2.1 e he
  have hnx : znx cd (e / 2) (e % 2) < 2 ^ cd 1 := znx_lt
  have hpr := zq_priceOf (t := t) hv hla hT ht he
  have hle := zen_le (B := zEE) (o := b) (by omega)
  unfold fn_X6_behind
  rw [hZ.2.1, zb_bd, h2, zb_gd, zn_in2 (by omega) (by omega), zb_gd, zn_nat (by omega), hx, zn_in2 (by omega) (by omega), zb_gd, zn_nat (by omega), hf, zb_let, zn_E, zi_le (by omega) (by omega)]
  by_cases c : b = 0
  · subst c; rw [zen_0, if_pos (Nat.le_refl _)]; rfl
  · have hlt := zen_lt (B := zEE) (o := b) (by omega) c
    rw [if_neg (by omega), hpr, zb_bd, zb_bd, zn_add, zen_S c]
    unfold zad
    rw [if_neg c, zen_S (show b + P t e ≠ 0 by omega)]
    congr 2; omega
theorem zmn_j0 {z A u : Nat} (h : A = 0) : zmn z (zjo A u) = z := by
  unfold zjo zmn
  rw [if_pos h]
  by_cases c : z = 0
  · rw [if_pos c, c]
  · rw [if_neg c, if_pos rfl]
theorem zq_meet44 {O : Type} {Q : O → Prop} {kont : pd_I → Option O} {I : pd_I} {Z : pd_R} {n ow ft nn t T begin lz lo : Nat} {cd E F : Nat → Nat} {P : Nat → Nat → Nat} (hn : 133 ≤ n) (hZ : zZe Z ow ft) (hv : zCv cd) (hla : zLa I cd T P) (hT : T ≤ 206) (hnT : nn ≤ T) (hn2 : nn ≤ 200) (ht : t < nn) (hP : ∀ t e, P t e ≤ 10000) (hFb : ∀ s, F s ≤ 100000)
    (hA : ∀ s, s < 2 ^ cd 1 → I 44 (t * 64 + s) = zn (zen zEE (zAt cd P begin t s))) (hB : ∀ s, s < 2 ^ cd 1 → I ft s = zn (zen zEE (zBt cd P nn E F (nn - (t + 1)) s)))
    (h47 : I 47 t = zn (zen zEE lz)) (h48 : I 48 t = zn (zen zEE lo)) (hlz : lz ≤ 2200000) (hlo : lo ≤ 2200000)
    (hK : ∀ I2, zF [ow, 47, 48] I I2 → (∀ s, s < 2 ^ cd 1 → I2 ow s = zn (zen zEE (zmn (zWz cd P nn E F t s 0) (zWz cd P nn E F t s 1)))) → I2 47 t = zn (zen zEE (zfo (fun s => zjo (zAt cd P begin t s) (zWz cd P nn E F t s 0)) lz (2 ^ cd 1))) → I2 48 t = zn (zen zEE (zfo (fun s => zjo (zAt cd P begin t s) (zWz cd P nn E F t s 1)) lo (2 ^ cd 1))) → (∀ j, j ≠ t → I2 47 j = I 47 j ∧ I2 48 j = I 48 j) → zT (kont I2) Q) :
    zT (fl_X6_meet_44 (zn t) Z n kont pd_FU (zn 0) I) Q := by
  have hS := zCv_S hv
  have hzE := zE_lt
  have hzB := zE_big
  have hz2 := zE_2
  obtain ⟨a1, a2⟩ := zZe_a hZ hn
  have hne : ow ≠ 11 ∧ ow ≠ 12 ∧ ow ≠ 13 ∧ ow ≠ 15 ∧ ow ≠ 44 ∧ ow ≠ 47 ∧ ow ≠ 48 ∧ ft ≠ ow ∧ ft ≠ 47 ∧ ft ≠ 48 := by have := hZ.2.2; omega
  obtain ⟨n1, n2, n3, n4, n5, n6, n7, n8, n9, n10⟩ := hne
  have g2 := hZ.1
  refine zl_loop (fun fu s (st : pd_I) => fl_X6_meet_44 (zn t) Z n kont fu s st) (2 ^ cd 1) (fun s st => zF [ow, 47, 48] I st ∧ (∀ s', s' < s → st ow s' = zn (zen zEE (zmn (zWz cd P nn E F t s' 0) (zWz cd P nn E F t s' 1)))) ∧ st 47 t = zn (zen zEE (zfo (fun s => zjo (zAt cd P begin t s) (zWz cd P nn E F t s 0)) lz s)) ∧ st 48 t = zn (zen zEE (zfo (fun s => zjo (zAt cd P begin t s) (zWz cd P nn E F t s 1)) lo s)) ∧ (∀ j, j ≠ t → st 47 j = I 47 j ∧ st 48 j = I 48 j)) ?_ ?_ pd_FU 0 I (by omega) (zFU (by omega)) ⟨zF_rfl, fun s' hs' => absurd hs' (Nat.not_lt_zero _), h47, h48, fun _ _ => ⟨rfl, rfl⟩⟩
  · rintro fu I' ⟨hF, hD, hz, ho, hj⟩
    have e3 : I' 11 3 = zn (2 ^ cd 1) := by rw [hF 11 (by intro h; simp at h; omega)]; exact hla.1
    try simp only []
    rw [fl_X6_meet_44, e3, if_pos (by rw [zn_le (by omega) (by omega)]; omega)]
    exact hK I' hF hD hz ho hj
  · rintro fu s I' hs ⟨hF, hD, hz, ho, hj⟩ ih
    have e3 : I' 11 3 = zn (2 ^ cd 1) := by rw [hF 11 (by intro h; simp at h; omega)]; exact hla.1
    have hla' : zLa I' cd T P := zLa_F (by intro h; simp at h; omega) (by intro h; simp at h; omega) (by intro h; simp at h; omega) (by intro h; simp at h; omega) hF hla
    have hA' : I' 44 (t * 64 + s) = zn (zen zEE (zAt cd P begin t s)) := by rw [hF 44 (by intro h; simp at h; omega)]; exact hA s hs
    have hft : I' ft = I ft := hF ft (by intro h; simp at h; omega)
    have hb : ∀ s, zBt cd P nn E F (nn - (t + 1)) s + 10000 ≤ 3000000 := fun s => by
      have := zBt_le (cd := cd) (E := E) (n := nn) hP hFb (nn - (t + 1)) s
      omega
    have hb0 := zq_behind (t := t) (e := 2 * s) (b := zBt cd P nn E F (nn - (t + 1)) (znx cd s 0)) hn hZ hv hla' hT (by omega) (by omega) hP (hb _) (by rw [hft, show 2 * s / 2 = s by omega, show 2 * s % 2 = 0 by omega]; exact hB _ znx_lt)
    have hb1 := zq_behind (t := t) (e := 2 * s + 1) (b := zBt cd P nn E F (nn - (t + 1)) (znx cd s 1)) hn hZ hv hla' hT (by omega) (by omega) hP (hb _) (by rw [hft, show (2 * s + 1) / 2 = s by omega, show (2 * s + 1) % 2 = 1 by omega]; exact hB _ znx_lt)
    have w0 : zad (zBt cd P nn E F (nn - (t + 1)) (znx cd s 0)) (P t (2 * s)) = zWz cd P nn E F t s 0 := rfl
    have w1 : zad (zBt cd P nn E F (nn - (t + 1)) (znx cd s 1)) (P t (2 * s + 1)) = zWz cd P nn E F t s 1 := rfl
    rw [w0] at hb0
    rw [w1] at hb1
    have b0 := zWz_le (cd := cd) (E := E) (s := s) (x := 0) hP hFb ht
    have b1 := zWz_le (cd := cd) (E := E) (s := s) (x := 1) hP hFb ht
    have bA := zAt_le (cd := cd) (begin := begin) hP t s
    have bj : ∀ x s, zjo (zAt cd P begin t s) (zWz cd P nn E F t s x) ≤ 2200000 := fun x s => by
      have h := zjo_le (zAt_le (cd := cd) (begin := begin) hP t s) (zWz_le (cd := cd) (E := E) (s := s) (x := x) hP hFb ht)
      omega
    have bz := zfo_le (g := fun s => zjo (zAt cd P begin t s) (zWz cd P nn E F t s 0)) hlz (bj 0) s
    have bo := zfo_le (g := fun s => zjo (zAt cd P begin t s) (zWz cd P nn E F t s 1)) hlo (bj 1) s
    obtain ⟨u, hu⟩ : ∃ u, u = zWz cd P nn E F t s 0 := ⟨_, rfl⟩
    obtain ⟨v, hvv⟩ : ∃ v, v = zWz cd P nn E F t s 1 := ⟨_, rfl⟩
    obtain ⟨A, hAA⟩ : ∃ A, A = zAt cd P begin t s := ⟨_, rfl⟩
    obtain ⟨z, hzz⟩ : ∃ z, z = zfo (fun s => zjo (zAt cd P begin t s) (zWz cd P nn E F t s 0)) lz s := ⟨_, rfl⟩
    obtain ⟨o, hoo⟩ : ∃ o, o = zfo (fun s => zjo (zAt cd P begin t s) (zWz cd P nn E F t s 1)) lo s := ⟨_, rfl⟩
    rw [← hu] at hb0 b0
    rw [← hvv] at hb1 b1
    rw [← hAA] at hA' bA
    rw [← hzz] at hz bz
    rw [← hoo] at ho bo
    have lu := zen_le (B := zEE) (o := u) (by omega)
    have lv := zen_le (B := zEE) (o := v) (by omega)
    have lA := zen_le (B := zEE) (o := A) (by omega)
    have lz' := zen_le (B := zEE) (o := z) (by omega)
    have lo' := zen_le (B := zEE) (o := o) (by omega)
    have fz : zfo (fun s => zjo (zAt cd P begin t s) (zWz cd P nn E F t s 0)) lz (s + 1) = zmn z (zjo A u) := by show zmn _ (zjo _ _) = _; rw [← hzz, ← hu, ← hAA]
    have fo : zfo (fun s => zjo (zAt cd P begin t s) (zWz cd P nn E F t s 1)) lo (s + 1) = zmn o (zjo A v) := by show zmn _ (zjo _ _) = _; rw [← hoo, ← hvv, ← hAA]
    have fin : ∀ I4 : pd_I, zF [ow, 47, 48] I' I4 → (∀ j, I4 ow j = if j = s then zn (zen zEE (zmn u v)) else I' ow j) → I4 47 t = zn (zen zEE (zmn z (zjo A u))) → I4 48 t = zn (zen zEE (zmn o (zjo A v))) → (∀ j, j ≠ t → I4 47 j = I' 47 j ∧ I4 48 j = I' 48 j) → zT (fl_X6_meet_44 (zn t) Z n kont fu (zn (s + 1)) I4) Q := by
      intro I4 k1 k2 k3 k4 k5
      refine ih _ ⟨zF_tr hF k1, fun s' hs' => ?_, by rw [fz]; exact k3, by rw [fo]; exact k4, fun j hj' => ?_⟩
      · rw [k2]
        by_cases c : s' = s
        · rw [if_pos c, c, hu, hvv]
        · rw [if_neg c]; exact hD s' (by omega)
      · rw [(k5 j hj').1, (k5 j hj').2]; exact hj j hj'
    -- one of the two least ones
    have upd1 : ∀ (w q : Nat), A ≠ 0 → w ≤ 2200000 → w + A ≤ 2300000 → q ≤ 2200000 → pd_min (zn (zen zEE q)) (zn (zen zEE A) + zn (zen zEE w)) = zn (zen zEE (zmn q (zjo A w))) := by
      intro w q hA0 hw hwA hq
      have lq := zen_le (B := zEE) (o := q) (by omega)
      have lw := zen_le (B := zEE) (o := w) (by omega)
      rw [zn_add, zp_min (by omega) (by omega)]
      congr 1
      by_cases c : w = 0
      · subst c
        unfold zjo
        rw [if_neg hA0, if_pos rfl, zen_0]
        have : zmn q 0 = q := by unfold zmn; split <;> simp_all
        rw [this]; omega
      · have e : zjo A w = A + w - 1 := by unfold zjo; rw [if_neg hA0, if_neg c]
        rw [← zen_min (by omega) (by omega), e, zen_S hA0, zen_S c, zen_S (show A + w - 1 ≠ 0 by omega)]
        congr 1; omega
    try simp only []
    have i1 : zn t * zn 64 + zn s = zn (t * 64 + s) := by rw [zn_mul, zn_add]
    rw [fl_X6_meet_44, e3, if_neg (by rw [zn_le (by omega) (by omega)]; omega), zn_64, i1, zn_in2 (by omega) (by omega), zb_gd, zn_nat (by omega), hA', zb_let, zn_2, zn_mul, hb0, zb_bd, zn_1, zn_add, hb1, zb_bd, g2, zb_bd, a1, zb_gd, zn_in2 (by omega) (by omega), zb_gd, zn_nat (by omega), zp_min (by omega) (by omega), zen_min (by omega) (by omega), zb_let, zn_E, zi_le (by omega) (by omega), zn_in2 (show t < 200 by omega) (by omega), zb_gd, zb_gd, zn_nat (by omega)]
    by_cases c : A = 0
    · rw [c, zen_0, if_pos (Nat.le_refl _), zb_bd, zb_let, zn_add]
      refine fin _ (zF_u (by simp) zF_rfl) (fun j => ?_) ?_ ?_ (fun j hj' => ?_)
      · rw [zu_same, zu_app]
      · rw [zu_ne n6.symm, hz, zmn_j0 c]
      · rw [zu_ne n7.symm, ho, zmn_j0 c]
      · rw [zu_ne n6.symm, zu_ne n7.symm]; exact ⟨rfl, rfl⟩
    · have lA2 := zen_lt (B := zEE) (o := A) (by omega) c
      rw [if_neg (by omega), zb_let, zb_gd, zb_gd, zb_let, zb_bd, zb_let, zn_add]
      refine fin _ (zF_u (by simp) (zF_u (by simp) (zF_u (by simp) zF_rfl))) (fun j => ?_) ?_ ?_ (fun j hj' => ?_)
      · rw [zu_ne n7, zu_ne n6, zu_same, zu_app]
      · rw [zu_ne (by decide), zu_same, zu_at, zu_ne n6.symm, hz]
        exact upd1 u z c (by omega) (by omega) bz
      · rw [zu_same, zu_at, zu_ne (by decide), zu_ne n7.symm, ho]
        exact upd1 v o c (by omega) (by omega) bo
      · rw [zu_ne (show (47 : Nat) ≠ 48 by decide), zu_same, zu_nat hj', zu_ne n6.symm, zu_same, zu_nat hj', zu_ne (show (48 : Nat) ≠ 47 by decide), zu_ne n7.symm]; exact ⟨rfl, rfl⟩

theorem zq_meet {I : pd_I} {Z : pd_R} {n ow ft nn T begin : Nat} {cd E F lz lo : Nat → Nat} {P : Nat → Nat → Nat} (hn : 133 ≤ n) (hZ : zZe Z ow ft) (hv : zCv cd) (hla : zLa I cd T P) (hT : T ≤ 206) (hnT : nn ≤ T) (hn1 : 1 ≤ nn) (hn2 : nn ≤ 200) (hP : ∀ t e, P t e ≤ 10000) (hFb : ∀ s, F s ≤ 100000) (hE1 : ∀ s, E s ≤ 1)
    (hE : ∀ s, s < 2 ^ cd 1 → I 14 s = zn (if E s = 1 then F s else zEE)) (hA : ∀ t, t < nn → ∀ s, s < 2 ^ cd 1 → I 44 (t * 64 + s) = zn (zen zEE (zAt cd P begin t s)))
    (hz : ∀ t, t < nn → I 47 t = zn (zen zEE (lz t)) ∧ I 48 t = zn (zen zEE (lo t)) ∧ lz t ≤ 2200000 ∧ lo t ≤ 2200000) :
    zT (fn_X6_meet I Z n (zn nn)) (fun r => (∃ ow ft, zZe r.2 ow ft) ∧ (∀ b, b ≠ 43 → r.2 b = Z b) ∧ zF [45, 46, 47, 48] I r.1 ∧ ∀ t, t < nn → r.1 47 t = zn (zen zEE (zfo (fun s => zjo (zAt cd P begin t s) (zWz cd P nn E F t s 0)) (lz t) (2 ^ cd 1))) ∧ r.1 48 t = zn (zen zEE (zfo (fun s => zjo (zAt cd P begin t s) (zWz cd P nn E F t s 1)) (lo t) (2 ^ cd 1)))) := by
  have hS := zCv_S hv
  obtain ⟨a1, a2⟩ := zZe_a hZ hn
  have g3 := hZ.2.1
  have hne : ft ≠ 11 ∧ ft ≠ 12 ∧ ft ≠ 13 ∧ ft ≠ 14 ∧ ft ≠ 15 ∧ ft ≠ 44 ∧ ft ≠ 47 ∧ ft ≠ 48 := by have := hZ.2.2; omega
  obtain ⟨n1, n2, n3, n4, n5, n6, n7, n8⟩ := hne
  have hftL : ft ∈ [45, 46, 47, 48] := by have := hZ.2.2; simp; omega
  unfold fn_X6_meet
  generalize hkt : (fun zI2 => pd_let (zn nn - 1) fun zv2 => fl_X6_meet_38 n (fun zI5 zZ2 => some (zI5, zZ2)) pd_FU zv2 zI2 Z) = kt
  rw [zn_0]
  refine zl_loop (fun fu s (st : pd_I) => fl_X6_meet_2 Z n kt fu s st) (2 ^ cd 1) (fun s st => zF [ft] I st ∧ ∀ s', s' < s → st ft s' = zn (zen zEE (zBt cd P nn E F 0 s'))) ?_ ?_ pd_FU 0 I (by omega) (zFU (by omega)) ⟨zF_rfl, fun s' hs' => absurd hs' (Nat.not_lt_zero _)⟩
  · rintro fu I1 ⟨hF1, hD1⟩
    have e3 : I1 11 3 = zn (2 ^ cd 1) := by rw [hF1 11 (by intro h; simp at h; omega)]; exact hla.1
    try simp only []
    rw [fl_X6_meet_2, e3, if_pos (by rw [zn_le (by omega) (by omega)]; omega), ← hkt]
    simp only [zb_let]
    rw [zdn_0 hn1]
    have hF1' : zF [45, 46, 47, 48] I I1 := zF_sub hF1 (by intro x hx; simp at hx; rw [hx]; exact hftL)
    refine zl_gen (fun fu x (st : pd_I × pd_R) => fl_X6_meet_38 n (fun zI5 zZ2 => some (zI5, zZ2)) fu x st.1 st.2) (zdn nn) nn (fun d st => ∃ ow ft, zZe st.2 ow ft ∧ (∀ b, b ≠ 43 → st.2 b = Z b) ∧ zF [45, 46, 47, 48] I st.1 ∧ (∀ s, s < 2 ^ cd 1 → st.1 ft s = zn (zen zEE (zBt cd P nn E F d s))) ∧ (∀ t, t < nn → nn - d ≤ t → st.1 47 t = zn (zen zEE (zfo (fun s => zjo (zAt cd P begin t s) (zWz cd P nn E F t s 0)) (lz t) (2 ^ cd 1))) ∧ st.1 48 t = zn (zen zEE (zfo (fun s => zjo (zAt cd P begin t s) (zWz cd P nn E F t s 1)) (lo t) (2 ^ cd 1)))) ∧ (∀ t, t < nn - d → st.1 47 t = I 47 t ∧ st.1 48 t = I 48 t)) ?_ ?_ pd_FU 0 (I1, Z) (by omega) (zFU (by omega)) ⟨ow, ft, hZ, fun _ _ => rfl, hF1', hD1, fun t h1 h2 => by omega, fun t _ => by
      show I1 47 t = _ ∧ I1 48 t = _
      rw [hF1 47 (by intro h; simp at h; omega), hF1 48 (by intro h; simp at h; omega)]; exact ⟨rfl, rfl⟩⟩
    · rintro fu ⟨I', Z'⟩ ⟨ow, ft, q1, q2, q3, q4, q5, q6⟩
      try simp only [] at q1 q2 q3 q4 q5 q6 ⊢
      rw [fl_X6_meet_38, zdn_n, if_pos (by decide)]
      exact ⟨_, rfl, ⟨ow, ft, q1⟩, q2, q3, fun t ht => q5 t ht (by omega)⟩
    · rintro fu d ⟨I', Z'⟩ hd ⟨ow, ft, q1, q2, q3, q4, q5, q6⟩ ih
      try simp only [] at q1 q2 q3 q4 q5 q6 ih ⊢
      obtain ⟨b1, b2⟩ := zZe_a q1 hn
      have hla' : zLa I' cd T P := zLa_F (by decide) (by decide) (by decide) (by decide) q3 hla
      obtain ⟨z1, z2, z3, z4⟩ := hz (nn - (d + 1)) (by omega)
      obtain ⟨y1, y2⟩ := q6 (nn - (d + 1)) (by omega)
      have hsub : ∀ x ∈ [ow, 47, 48], x ∈ [45, 46, 47, 48] := by intro x hx; have := q1.2.2; simp at hx; simp; omega
      rw [fl_X6_meet_38, zdn_lt hd, zn_0, if_neg (zn_n0 (by omega))]
      refine zq_meet44 (begin := begin) (E := E) (F := F) hn q1 hv hla' hT hnT hn2 (by omega) hP hFb (fun s hs => by rw [q3 44 (by decide)]; exact hA _ (by omega) s hs) (fun s hs => by rw [show nn - (nn - (d + 1) + 1) = d by omega]; exact q4 s hs) (by rw [y1]; exact z1) (by rw [y2]; exact z2) z3 z4 (fun I2 k1 k2 k3 k4 k5 => ?_)
      obtain ⟨g2, g3, g4⟩ := q1
      simp only [g2, g3, zb_bd, b1, b2, zb_gd, zb_let, zdn_s hd]
      obtain ⟨Z3, hZ3⟩ : ∃ Z3, Z3 = pd_ur (pd_ur Z' 43 2 (some ft)) 43 3 (some ow) := ⟨_, rfl⟩
      rw [← hZ3]
      refine ih (I2, Z3) ⟨ft, ow, ⟨?_, ?_, by omega⟩, fun b hb => ?_, zF_tr q3 (zF_sub k1 hsub), fun s hs => ?_, fun t h1 h2 => ?_, fun t ht => ?_⟩
      · show Z3 43 _ = _; rw [hZ3, zup_k (by omega), zup_same]
      · show Z3 43 _ = _; rw [hZ3, zup_same]
      · show Z3 b = _; rw [hZ3, zup_ne hb, zup_ne hb]; exact q2 b hb
      · have h := k2 s hs
        unfold zWz at h
        rw [show nn - (nn - (d + 1) + 1) = d by omega] at h
        exact h
      · by_cases c : t = nn - (d + 1)
        · subst c; exact ⟨k3, k4⟩
        · show I2 47 t = _ ∧ I2 48 t = _
          rw [(k5 t c).1, (k5 t c).2]; exact q5 t h1 (by omega)
      · show I2 47 t = _ ∧ I2 48 t = _
        rw [(k5 t (by omega)).1, (k5 t (by omega)).2]; exact q6 t (by omega)
  · rintro fu s I1 hs ⟨hF1, hD1⟩ ih
    have e3 : I1 11 3 = zn (2 ^ cd 1) := by rw [hF1 11 (by intro h; simp at h; omega)]; exact hla.1
    have e14 : I1 14 s = zn (if E s = 1 then F s else zEE) := by rw [hF1 14 (by intro h; simp at h; omega)]; exact hE s hs
    try simp only [] at ih ⊢
    rw [fl_X6_meet_2, e3, if_neg (by rw [zn_le (by omega) (by omega)]; omega), g3, zb_bd, a2, zb_gd, zn_in2 (by omega) (by omega), zb_gd, zb_gd, zn_nat (by omega), e14, zb_let, zb_let, zn_1, zn_add]
    refine ih _ ⟨zF_u (by simp) hF1, fun s' hs' => ?_⟩
    rw [zu_same, zu_app]
    by_cases c : s' = s
    · rw [if_pos c, c]
      congr 1
      unfold zBt
      by_cases d : E s = 1
      · rw [if_pos d, if_pos d]; rfl
      · rw [if_neg d, if_neg d]; rfl
    · rw [if_neg c]; exact hD1 s' (by omega)
def zdf (z o : Nat) : Int32 := if o = 0 then 1000000 else if z = 0 then -1000000 else zn (o - 1) - zn (z - 1)
theorem zq_tell {I : pd_I} {Z : pd_R} {n a ow ft nn T b2 : Nat} {cd : Nat → Nat} {P : Nat → Nat → Nat} (hn : 133 ≤ n) (ha : 133 ≤ a) (h : zCo I a cd) (hZ : zZe Z ow ft) (hv : zCv cd) (hla : zLa I cd T P) (hT : T ≤ 206) (hnT : zst cd nn ≤ T) (hn1 : 1 ≤ nn) (hn2 : nn ≤ 200) (hP : ∀ t e, P t e ≤ 10000) (hb2 : b2 = 59 ∨ b2 = 51) :
    zT (fn_X6_tell I Z n a (zn nn) b2) (fun r => (∃ ow ft, zZe r.2 ow ft) ∧ (∀ b, b ≠ 43 → r.2 b = Z b) ∧ zF [14, 44, 45, 46, 47, 48, b2] I r.1 ∧ ∀ t, t < nn → r.1 b2 t = zdf (zLZ cd P nn 0 (zBg cd) t) (zLZ cd P nn 1 (zBg cd) t)) := by
  have hS := zCv_S hv
  have hB := zBg_le hv
  have hst := zst_le (n := nn) hv
  have hzE := zE_lt
  have hzB := zE_big
  have hFb : ∀ s, zFn cd P nn s ≤ 100000 := fun s => Nat.le_trans (zFn_le hv hP) (by omega)
  unfold fn_X6_tell
  generalize hkt : (fun zI2 => fl_X6_tell_36 a (zn nn) n (fun zI6 zZ2 => fl_X6_tell_77 (zn nn) b2 (fun zI11 => some (zI11, zZ2)) pd_FU 0 zI6) pd_FU 0 zI2 Z) = kt
  rw [zn_0]
  refine zl_loop (fun fu t (st : pd_I) => fl_X6_tell_3 (zn nn) kt fu t st) nn (fun t st => zF [47, 48] I st ∧ ∀ t', t' < t → st 47 t' = zn zEE ∧ st 48 t' = zn zEE) ?_ ?_ pd_FU 0 I (by omega) (zFU (by omega)) ⟨zF_rfl, fun t' h => absurd h (Nat.not_lt_zero _)⟩
  · rintro fu I1 ⟨hF1, hD1⟩
    try simp only []
    rw [fl_X6_tell_3, if_pos (by rw [zn_le (by omega) (by omega)]; omega), ← hkt]
    simp only []
    generalize hkt2 : (fun (zI6 : pd_I) (zZ2 : pd_R) => fl_X6_tell_77 (zn nn) b2 (fun zI11 => some (zI11, zZ2)) pd_FU 0 zI6) = kt2
    rw [zn_0]
    refine zl_loop (fun fu b (st : pd_I × pd_R) => fl_X6_tell_36 a (zn nn) n kt2 fu b st.1 st.2) (zBg cd) (fun b st => (∃ ow ft, zZe st.2 ow ft) ∧ (∀ b, b ≠ 43 → st.2 b = Z b) ∧ zF [14, 44, 45, 46, 47, 48] I st.1 ∧ ∀ t, t < nn → st.1 47 t = zn (zen zEE (zLZ cd P nn 0 b t)) ∧ st.1 48 t = zn (zen zEE (zLZ cd P nn 1 b t))) ?_ ?_ pd_FU 0 (I1, Z) (by omega) (zFU (by omega)) ⟨⟨ow, ft, hZ⟩, fun _ _ => rfl, zF_sub hF1 (by decide), fun t ht => hD1 t ht⟩
    · rintro fu ⟨I2, Z2⟩ ⟨q1, q2, q3, q4⟩
      try simp only [] at q1 q2 q3 q4 ⊢
      have hcd := zCo_F (by decide) ha q3 h
      rw [fl_X6_tell_36, zc_beginnings hcd hv, zb_bd, if_pos (by rw [zn_le (by omega) (by omega)]; omega), ← hkt2]
      simp only []
      rw [zn_0]
      refine zl_loop (fun fu t (st : pd_I) => fl_X6_tell_77 (zn nn) b2 (fun zI11 => some (zI11, Z2)) fu t st) nn (fun t st => zF [b2] I2 st ∧ ∀ t', t' < t → st b2 t' = zdf (zLZ cd P nn 0 (zBg cd) t') (zLZ cd P nn 1 (zBg cd) t')) ?_ ?_ pd_FU 0 I2 (by omega) (zFU (by omega)) ⟨zF_rfl, fun t' h => absurd h (Nat.not_lt_zero _)⟩
      · rintro fu I3 ⟨hF3, hD3⟩
        try simp only []
        rw [fl_X6_tell_77, if_pos (by rw [zn_le (by omega) (by omega)]; omega)]
        exact ⟨_, rfl, q1, q2, zF_tr (zF_sub q3 (by intro x hx; simp at hx; simp; omega)) (zF_sub hF3 (by simp)), hD3⟩
      · rintro fu t I3 ht ⟨hF3, hD3⟩ ih
        try simp only [] at ih ⊢
        obtain ⟨z1, z2⟩ := q4 t ht
        have l0 := zLZ_le (x := 0) hv hP hn2 (zBg cd) t ht
        have l1 := zLZ_le (x := 1) hv hP hn2 (zBg cd) t ht
        rw [← hF3 47 (by simp; omega)] at z1
        rw [← hF3 48 (by simp; omega)] at z2
        obtain ⟨z, hz⟩ : ∃ z, z = zLZ cd P nn 0 (zBg cd) t := ⟨_, rfl⟩
        obtain ⟨o, ho⟩ : ∃ o, o = zLZ cd P nn 1 (zBg cd) t := ⟨_, rfl⟩
        rw [← hz] at z1 l0
        rw [← ho] at z2 l1
        have lez := zen_le (B := zEE) (o := z) (by omega)
        have leo := zen_le (B := zEE) (o := o) (by omega)
        have fin : zT (fl_X6_tell_77 (zn nn) b2 (fun zI11 => some (zI11, Z2)) fu (zn (t + 1)) (pd_ui I3 b2 t (zdf z o))) (fun r => (∃ ow ft, zZe r.2 ow ft) ∧ (∀ b, b ≠ 43 → r.2 b = Z b) ∧ zF [14, 44, 45, 46, 47, 48, b2] I r.1 ∧ ∀ t, t < nn → r.1 b2 t = zdf (zLZ cd P nn 0 (zBg cd) t) (zLZ cd P nn 1 (zBg cd) t)) := by
          refine ih _ ⟨zF_u (by simp) hF3, fun t' ht' => ?_⟩
          rw [zu_same, zu_app]
          by_cases c : t' = t
          · rw [if_pos c, c, hz, ho]
          · rw [if_neg c]; exact hD3 t' (by omega)
        rw [fl_X6_tell_77, if_neg (by rw [zn_le (by omega) (by omega)]; omega), zn_200, if_neg (by rw [zn_le (by omega) (by omega)]; omega), zn_in2 (show t < 200 by omega) (by omega), zb_gd, zb_gd, zb_gd, zb_gd, zb_gd, zn_nat (by omega), z1, z2, zn_E, zi_lt (by omega) (by omega), zi_lt (by omega) (by omega)]
        unfold zdf at fin
        by_cases c : o = 0
        · rw [if_pos c] at fin
          rw [c, zen_0, if_neg (Nat.lt_irrefl _)]
          simp only [zb_gd, zb_let, zb_bd, zn_1, zn_add]
          exact fin
        · have := zen_lt (B := zEE) (o := o) (by omega) c
          rw [if_neg c] at fin
          rw [if_pos this]
          by_cases d : z = 0
          · rw [if_pos d] at fin
            rw [d, zen_0, if_neg (Nat.lt_irrefl _)]
            simp only [zb_gd, zb_let, zb_bd]
            rw [zn_1, zn_add]
            exact fin
          · have := zen_lt (B := zEE) (o := z) (by omega) d
            rw [if_neg d] at fin
            rw [if_pos this, zen_S c, zen_S d]
            simp only [zb_gd, zb_let, zb_bd, zn_1, zn_add]
            exact fin
    · rintro fu b ⟨I2, Z2⟩ hb ⟨⟨ow, ft, q1⟩, q2, q3, q4⟩ ih
      try simp only [] at q1 q2 q3 q4 ih ⊢
      have hcd := zCo_F (by decide) ha q3 h
      have hla2 : zLa I2 cd T P := zLa_F (by decide) (by decide) (by decide) (by decide) q3 hla
      rw [fl_X6_tell_36, zc_beginnings hcd hv, zb_bd, if_neg (by rw [zn_le (by omega) (by omega)]; omega), zT_bd]
      refine zT_mono (zq_setEnds (begin := b) ha hcd hv hla2 hnT hT (by omega)) (fun I3 ⟨hF3, hE3⟩ => ?_)
      have hla3 : zLa I3 cd T P := zLa_F (by decide) (by decide) (by decide) (by decide) hF3 hla2
      rw [zT_bd]
      refine zT_mono (zq_reach (begin := b) hv hla3 hT (by omega) hn1 hn2 (by omega) hP) (fun I4 ⟨hF4, hA4⟩ => ?_)
      have hla4 : zLa I4 cd T P := zLa_F (by decide) (by decide) (by decide) (by decide) hF4 hla3
      rw [zT_bd2]
      refine zT_mono (zq_meet (begin := b) (E := zEn cd b) (F := zFn cd P nn) (lz := zLZ cd P nn 0 b) (lo := zLZ cd P nn 1 b) hn q1 hv hla4 hT (by omega) hn1 hn2 hP hFb (fun s => zEn_le) (by rw [hF4 14 (by decide)]; exact hE3) hA4 (fun t ht => ?_)) (fun r5 ⟨p1, p2, p3, p4⟩ => ?_)
      · obtain ⟨z1, z2⟩ := q4 t ht
        rw [hF4 47 (by decide), hF4 48 (by decide), hF3 47 (by decide), hF3 48 (by decide)]
        exact ⟨z1, z2, zLZ_le hv hP hn2 b t ht, zLZ_le hv hP hn2 b t ht⟩
      · rw [zb_let, zn_1, zn_add]
        exact ih (r5.1, r5.2) ⟨p1, fun x hx => by show r5.2 x = _; rw [p2 x hx, q2 x hx], zF_tr q3 (zF_tr (zF_sub hF3 (by decide)) (zF_tr (zF_sub hF4 (by decide)) (zF_sub p3 (by decide)))), p4⟩
  · rintro fu t I1 ht ⟨hF1, hD1⟩ ih
    try simp only [] at ih ⊢
    rw [fl_X6_tell_3, if_neg (by rw [zn_le (by omega) (by omega)]; omega), zn_in2 (show t < 200 by omega) (by omega), zb_gd, zn_nat (by omega), zb_let, zb_gd, zb_let, zb_let, zn_1, zn_add, zn_E]
    refine ih _ ⟨zF_u (by decide) (zF_u (by decide) hF1), fun t' ht' => ?_⟩
    rw [zu_ne (show (47 : Nat) ≠ 48 by decide), zu_same, zu_same, zu_ne (show (48 : Nat) ≠ 47 by decide), zu_app, zu_app]
    by_cases c : t' = t
    · rw [if_pos c, if_pos c]; exact ⟨rfl, rfl⟩
    · rw [if_neg c, if_neg c]; exact hD1 t' (by omega)
