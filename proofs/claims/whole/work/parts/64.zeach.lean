/-! each, after the lattice, in the class and in the reference */ -/
def zcn (g : Nat → Nat) : Nat → Nat
  | 0 => 0
  | k + 1 => zcn g k + g k
theorem zcn_le {g : Nat → Nat} (h : ∀ k, g k ≤ 1) : ∀ k, zcn g k ≤ k
  | 0 => Nat.le_refl _
  | k + 1 => by have h1 := zcn_le h k; have h2 := h k; unfold zcn; omega
theorem zq_each57 {O : Type} {Q : O → Prop} {kont : Int32 → Option O} {I : pd_I} {n : Nat} {d : Nat → Int32} (hn2 : n ≤ 200) (hD : ∀ t, t < n → I 59 t = d t)
    (hK : zT (kont (zn (zcn (fun t => zsay (d t)) n))) Q) : zT (fl_X11_each_57 (zn n) I kont pd_FU (zn 0) (zn 0)) Q := by
  refine zl_loop (fun fu t (st : Int32) => fl_X11_each_57 (zn n) I kont fu st t) n (fun t st => st = zn (zcn (fun t => zsay (d t)) t)) ?_ ?_ pd_FU 0 (zn 0) (by omega) (zFU (by omega)) rfl
  · rintro fu st rfl
    try simp only []
    rw [fl_X11_each_57, if_pos (by rw [zn_le (by omega) (by omega)]; omega)]
    exact hK
  · rintro fu t st ht rfl ih
    try simp only [] at ih ⊢
    rw [fl_X11_each_57, if_neg (by rw [zn_le (by omega) (by omega)]; omega), zn_in2 (show t < 200 by omega) (by omega), zb_gd, zn_nat (by omega), hD t ht, zsay_e, zb_bd, zb_let, zb_let, zn_1, zn_add, zn_add]
    exact ih _ rfl
theorem zq_each109 {O : Type} {Q : O → Prop} {kont : Int32 → pd_I → Option O} {I : pd_I} {n : Nat} {z o : Nat → Nat} (hn2 : n ≤ 200) (h : ∀ t, t < n → I 117 t = zn (zen zWW (z t)) ∧ I 118 t = zn (zen zWW (o t)) ∧ z t ≤ 2200000 ∧ o t ≤ 2200000)
    (hK : ∀ I', zF [109] I I' → (∀ t, t < n → I' 109 t = zdf (z t) (o t)) → zT (kont (zn (zcn (fun t => zsay (zdf (z t) (o t))) n)) I') Q) : zT (fl_X12_each_109 (zn n) kont pd_FU (zn 0) (zn 0) I) Q := by
  refine zl_loop (fun fu t (st : Int32 × pd_I) => fl_X12_each_109 (zn n) kont fu st.1 t st.2) n (fun t st => st.1 = zn (zcn (fun t => zsay (zdf (z t) (o t))) t) ∧ zF [109] I st.2 ∧ ∀ t', t' < t → st.2 109 t' = zdf (z t') (o t')) ?_ ?_ pd_FU 0 (zn 0, I) (by omega) (zFU (by omega)) ⟨rfl, zF_rfl, fun t' h => absurd h (Nat.not_lt_zero _)⟩
  · rintro fu ⟨st, I1⟩ ⟨h1, hF, hD⟩
    try simp only [] at h1 hF hD ⊢
    rw [fl_X12_each_109, if_pos (by rw [zn_le (by omega) (by omega)]; omega), h1]
    exact hK I1 hF hD
  · rintro fu t ⟨st, I1⟩ ht ⟨h1, hF, hD⟩ ih
    try simp only [] at h1 hF hD ih ⊢
    obtain ⟨p1, p2, p3, p4⟩ := h t ht
    rw [fl_X12_each_109, if_neg (by rw [zn_le (by omega) (by omega)]; omega), zc_difference (z := z t) (o := o t) (by omega) (by rw [hF 117 (by decide)]; exact p1) (by rw [hF 118 (by decide)]; exact p2) p3 p4, zb_bd, zn_in2 (show t < 200 by omega) (by omega), zb_gd, zn_nat (by omega), zb_let, zb_gd, zu_same, zu_at, zsay_e, zb_bd, zb_let, zb_let, zn_1, h1, zn_add, zn_add]
    refine ih (_, _) ⟨rfl, zF_u (by decide) hF, fun t' ht' => ?_⟩
    show pd_ui I1 109 t (zdf (z t) (o t)) 109 t' = _
    rw [zu_same, zu_app]
    by_cases c : t' = t
    · rw [if_pos c, c]
    · rw [if_neg c]; exact hD t' (by omega)
theorem zq_each45 {O : Type} {Q : O → Prop} {kont : pd_I → Option O} {I : pd_I} {c nn T : Nat} {cd : Nat → Nat} {P : Nat → Nat → Nat} (h : zCm I c cd) (hv : zCv cd) (hma : zMa I cd T P) (hT : zst cd nn ≤ T) (hT2 : T ≤ 206) (hn1 : 1 ≤ nn) (hn2 : nn ≤ 200) (hP : ∀ t e, P t e ≤ 10000)
    (h0 : ∀ t, t < nn → I 117 t = zn zWW ∧ I 118 t = zn zWW)
    (hK : ∀ I', zF [115, 116, 117, 118] I I' → (∀ t, t < nn → I' 117 t = zn (zen zWW (zLZ cd P nn 0 (zBg cd) t)) ∧ I' 118 t = zn (zen zWW (zLZ cd P nn 1 (zBg cd) t))) → zT (kont I') Q) :
    zT (fl_X12_each_45 (zn c) (zn nn) (zn (if cd 0 = 4 then 1 else 0)) kont pd_FU (zn 0) I) Q := by
  have hS := zCv_S hv
  have hB := zBg_le hv
  have h6 : cd 1 ≤ 6 := hv.2.2.1
  have h5 : cd 0 ≤ 5 := hv.1
  have hc := h.1
  have hcnt : ∀ I' : pd_I, zCm I' c cd → (if (zn (if cd 0 = 4 then 1 else 0)) = 0 then some 1 else (pd_gd (pd_in (zn c) 12) (some ((1 : Int32) <<< ((I' 98 (zn c).toNatClampNeg) &&& 31))))) = some (zn (zBg cd)) := fun I' h' => by
    unfold zBg
    rw [zn_0, zi_eq (by split <;> omega) (by omega), zn_in2 hc (by omega), zb_gd, zn_nat (by omega), h'.2.2.1, zn_1, zn_31, zn_1shl _ (by omega)]
    by_cases e : cd 0 = 4
    · rw [if_pos e, if_pos e, if_neg (by omega)]
    · rw [if_neg e, if_neg e, if_pos rfl]
  refine zl_loop (fun fu b (st : pd_I) => fl_X12_each_45 (zn c) (zn nn) (zn (if cd 0 = 4 then 1 else 0)) kont fu b st) (zBg cd) (fun b st => zF [115, 116, 117, 118] I st ∧ ∀ t, t < nn → st 117 t = zn (zen zWW (zLZ cd P nn 0 b t)) ∧ st 118 t = zn (zen zWW (zLZ cd P nn 1 b t))) ?_ ?_ pd_FU 0 I (by omega) (zFU (by omega)) ⟨zF_rfl, h0⟩
  · rintro fu I1 ⟨hF, hD⟩
    try simp only []
    rw [fl_X12_each_45, hcnt I1 (zCm_F (by decide) hF h), zb_bd, if_pos (by rw [zn_le (by omega) (by omega)]; omega)]
    exact hK I1 hF hD
  · rintro fu b I1 hb ⟨hF, hD⟩ ih
    try simp only [] at ih ⊢
    have hcd := zCm_F (by decide) hF h
    have etl : (if zn (cd 0) = 3 then some (1 : Int32) else some 0) = some (zn (if cd 0 = 3 then 1 else 0)) := by
      rw [zn_3, zi_eq (by omega) (by omega)]
      split <;> rfl
    rw [fl_X12_each_45, hcnt I1 hcd, zb_bd, if_neg (by rw [zn_le (by omega) (by omega)]; omega), zn_in2 hc (by omega), zb_gd, zn_nat (by omega), hcd.2.1, etl, zb_bd, zT_bd]
    refine zT_mono (zq_leasts (rg := if cd 0 = 4 then 1 else 0) (tl := if cd 0 = 3 then 1 else 0) (lz := zLZ cd P nn 0 b) (lo := zLZ cd P nn 1 b) hcd hv (zMa_F (by decide) hF hma) hT hT2 hn1 hn2 (by omega) hP rfl rfl (fun t ht => ⟨(hD t ht).1, (hD t ht).2, zLZ_le hv hP hn2 b t ht, zLZ_le hv hP hn2 b t ht⟩)) (fun I2 ⟨p1, p2⟩ => ?_)
    rw [zb_let, zn_1, zn_add]
    exact ih _ ⟨zF_tr hF p1, p2⟩
