/-! the lattice of the class -/
def zLD (I : pd_I) (cd : Nat → Nat) (k : Nat) : Prop := ∀ e, e < k → I 12 e = zn (znx cd (e / 2) (e % 2)) ∧ I 13 e = zn (zwo cd (e / 2) (e % 2) (cd 2))
theorem zq_load20 {O : Type} {Q : O → Prop} {kont : pd_I → Option O} {I : pd_I} {a s : Nat} {cd : Nat → Nat} (ha : 133 ≤ a) (h : zCo I a cd) (hv : zCv cd) (hs : s < 64)
    {I1 : pd_I} (hF1 : zF [12, 13] I I1) (hD1 : zLD I1 cd (2 * s))
    (hK : ∀ I2, zF [12, 13] I I2 → zLD I2 cd (2 * (s + 1)) → zT (kont I2) Q) :
    zT (fl_X1_load_20 a (zn s) kont pd_FU (zn 0) I1) Q := by
  refine zl_loop (fun fu k (s1 : pd_I) => fl_X1_load_20 a (zn s) kont fu k s1) 2 (fun k s1 => zF [12, 13] I s1 ∧ zLD s1 cd (2 * s + k)) ?_ ?_ pd_FU 0 I1 (by omega) (zFU (by omega)) ⟨hF1, hD1⟩
  · rintro fu I' ⟨hF, hD⟩
    try simp only []
    rw [fl_X1_load_20]
    simp (disch := omega) only [zb_gd, zb_bd, zb_bd2, zb_let, zb_jn, zn_0, zn_1, zn_2, zn_3, zn_4, zn_5, zn_6, zn_7, zn_8, zn_11, zn_12, zn_15, zn_16, zn_18, zn_30, zn_31, zn_32, zn_64, zn_128, zn_199, zn_200, zn_512, zn_600, zn_1000, zn_2048, zn_add, zn_mul, zn_sub, zn_in2, zn_nat, zn_le, zn_lt, zn_eq, if_pos, if_neg, Bool.false_eq_true, ↓reduceIte]
    exact hK I' hF hD
  · rintro fu k I' hk ⟨hF, hD⟩ ih
    try simp only [] at ih ⊢
    have hcd := zCo_F (by decide) ha hF h
    have e1 : (2 * s + k) / 2 = s := by omega
    have e2 : (2 * s + k) % 2 = k := by omega
    have hF2 : zF [12, 13] I (pd_ui I' 12 (2 * s + k) (zn (znx cd s k))) := zF_u (by decide) hF
    have hcd2 := zCo_F (by decide) ha hF2 h
    rw [fl_X1_load_20, zc_stateAfter hcd hv hs hk]
    simp (disch := omega) only [zb_gd, zb_bd, zb_bd2, zb_let, zb_jn, zn_0, zn_1, zn_2, zn_3, zn_4, zn_5, zn_6, zn_7, zn_8, zn_11, zn_12, zn_15, zn_16, zn_18, zn_30, zn_31, zn_32, zn_64, zn_128, zn_199, zn_200, zn_512, zn_600, zn_1000, zn_2048, zn_add, zn_mul, zn_sub, zn_in2, zn_nat, zn_le, zn_lt, zn_eq, if_pos, if_neg, Bool.false_eq_true, ↓reduceIte]
    rw [zc_outsOf hcd2 hv hs hk]
    simp (disch := omega) only [zb_gd, zb_bd, zb_bd2, zb_let, zb_jn, zn_0, zn_1, zn_2, zn_3, zn_4, zn_5, zn_6, zn_7, zn_8, zn_11, zn_12, zn_15, zn_16, zn_18, zn_30, zn_31, zn_32, zn_64, zn_128, zn_199, zn_200, zn_512, zn_600, zn_1000, zn_2048, zn_add, zn_mul, zn_sub, zn_in2, zn_nat, zn_le, zn_lt, zn_eq, if_pos, if_neg, Bool.false_eq_true, ↓reduceIte]
    refine ih _ ⟨zF_u (by decide) hF2, fun e he => ?_⟩
    simp only [zu_same, zu_ne (show (12 : Nat) ≠ 13 by decide), zu_ne (show (13 : Nat) ≠ 12 by decide), zu_app]
    by_cases c : e = 2 * s + k
    · subst c; rw [if_pos rfl, if_pos rfl, e1, e2]; exact ⟨rfl, rfl⟩
    · rw [if_neg c, if_neg c]; exact hD e (by omega)
theorem zq_load {I : pd_I} {a : Nat} {cd : Nat → Nat} (ha : 133 ≤ a) (h : zCo I a cd) (hv : zCv cd) :
    zT (fn_X1_load I a) (fun I' => zF [11, 12, 13] I I' ∧ I' 11 3 = zn (2 ^ cd 1) ∧ zLD I' cd (2 * 2 ^ cd 1)) := by
  have hS := zCv_S hv
  have hF0 : zF [11] I (pd_ui I 11 3 (zn (2 ^ cd 1))) := zF_u (by decide) zF_rfl
  have h0 := zCo_F (by decide) ha hF0 h
  unfold fn_X1_load
  rw [zc_states h hv, zb_bd, zb_let]
  refine zl_loop (fun fu k (s : pd_I) => fl_X1_load_10 a (fun zI3 => some zI3) fu k s) (2 ^ cd 1) (fun k s => zF [12, 13] (pd_ui I 11 3 (zn (2 ^ cd 1))) s ∧ zLD s cd (2 * k)) ?_ ?_ pd_FU 0 _ (by omega) (zFU (by omega)) ⟨zF_rfl, fun e he => by omega⟩
  · rintro fu I' ⟨hF, hD⟩
    have e3 : I' 11 3 = zn (2 ^ cd 1) := by rw [hF 11 (by decide), zu_same, zu_at]
    try simp only []
    rw [fl_X1_load_10, e3, if_pos (by rw [zn_le (by omega) (by omega)]; omega)]
    exact ⟨_, rfl, zF_tr (zF_sub hF0 (by decide)) (zF_sub hF (by decide)), e3, hD⟩
  · rintro fu k I' hk ⟨hF, hD⟩ ih
    try simp only [] at ih ⊢
    have e3 : I' 11 3 = zn (2 ^ cd 1) := by rw [hF 11 (by decide), zu_same, zu_at]
    rw [fl_X1_load_10, e3, if_neg (by rw [zn_le (by omega) (by omega)]; omega)]
    refine zq_load20 ha h0 hv (by omega) hF hD (fun I2 hF2 hD2 => ?_)
    rw [zb_let, zn_1, zn_add]
    exact ih _ ⟨hF2, hD2⟩
theorem zq_clearStep {I : pd_I} {t : Nat} (ht : t < 206) :
    zT (fn_X1_clearStep I (zn t)) (fun I' => zF [15] I I' ∧ (∀ w, w < 16 → I' 15 (t * 16 + w) = zn 0) ∧ ∀ j, j < t * 16 → I' 15 j = I 15 j) := by
  unfold fn_X1_clearStep
  refine zl_loop (fun fu k (s : pd_I) => fl_X1_clearStep_2 (zn t) (fun zI2 => some zI2) fu k s) 16 (fun k s => zF [15] I s ∧ (∀ w, w < k → s 15 (t * 16 + w) = zn 0) ∧ ∀ j, j < t * 16 → s 15 j = I 15 j) ?_ ?_ pd_FU 0 _ (by omega) (zFU (by omega)) ⟨zF_rfl, fun w hw => by omega, fun _ _ => rfl⟩
  · rintro fu I' hI
    try simp only []
    rw [fl_X1_clearStep_2]
    simp (disch := omega) only [zb_gd, zb_bd, zb_bd2, zb_let, zb_jn, zn_0, zn_1, zn_2, zn_3, zn_4, zn_5, zn_6, zn_7, zn_8, zn_11, zn_12, zn_15, zn_16, zn_18, zn_30, zn_31, zn_32, zn_64, zn_128, zn_199, zn_200, zn_512, zn_600, zn_1000, zn_2048, zn_add, zn_mul, zn_sub, zn_in2, zn_nat, zn_le, zn_lt, zn_eq, if_pos, if_neg, Bool.false_eq_true, ↓reduceIte]
    exact ⟨_, rfl, hI⟩
  · rintro fu k I' hk ⟨hF, hD, hP⟩ ih
    try simp only [] at ih ⊢
    rw [fl_X1_clearStep_2]
    simp (disch := omega) only [zb_gd, zb_bd, zb_bd2, zb_let, zb_jn, zn_0, zn_1, zn_2, zn_3, zn_4, zn_5, zn_6, zn_7, zn_8, zn_11, zn_12, zn_15, zn_16, zn_18, zn_30, zn_31, zn_32, zn_64, zn_128, zn_199, zn_200, zn_512, zn_600, zn_1000, zn_2048, zn_add, zn_mul, zn_sub, zn_in2, zn_nat, zn_le, zn_lt, zn_eq, if_pos, if_neg, Bool.false_eq_true, ↓reduceIte]
    refine ih _ ⟨zF_u (by decide) hF, fun w hw => ?_, fun j hj => ?_⟩
    · simp only [zu_same, zu_app]
      by_cases c : w = k
      · subst c; rw [if_pos rfl]
      · rw [if_neg (by omega)]; exact hD w (by omega)
    · simp only [zu_same, zu_app]
      rw [if_neg (by omega)]; exact hP j hj
theorem zc_wbit : ∀ w < 16, ∀ o < 4, ((zn w >>> (zn o &&& zn 31)) &&& zn 1) = zn (w / 2 ^ o % 2) := by decide +kernel
theorem zq_addSign {I : pd_I} {t o : Nat} {z0 z1 : Int32} (ht : t < 206) (ho : o < 4) :
    zT (fn_X1_addSign I (zn t) (zn o) z0 z1) (fun I' => zF [15] I I' ∧ (∀ w, w < 16 → I' 15 (t * 16 + w) = I 15 (t * 16 + w) + (if w / 2 ^ o % 2 = 0 then z0 else z1)) ∧ ∀ j, j < t * 16 → I' 15 j = I 15 j) := by
  unfold fn_X1_addSign
  refine zl_loop (fun fu k (s : pd_I) => fl_X1_addSign_3 (zn t) (zn o) z0 z1 (fun zI2 => some zI2) fu k s) 16 (fun k s => zF [15] I s ∧ (∀ w, w < 16 → s 15 (t * 16 + w) = if w < k then I 15 (t * 16 + w) + (if w / 2 ^ o % 2 = 0 then z0 else z1) else I 15 (t * 16 + w)) ∧ ∀ j, j < t * 16 → s 15 j = I 15 j) ?_ ?_ pd_FU 0 _ (by omega) (zFU (by omega)) ⟨zF_rfl, fun w hw => by rw [if_neg (by omega)], fun _ _ => rfl⟩
  · rintro fu I' ⟨hF, hD, hP⟩
    try simp only []
    rw [fl_X1_addSign_3]
    simp (disch := omega) only [zb_gd, zb_bd, zb_bd2, zb_let, zb_jn, zn_0, zn_1, zn_2, zn_3, zn_4, zn_5, zn_6, zn_7, zn_8, zn_11, zn_12, zn_15, zn_16, zn_18, zn_30, zn_31, zn_32, zn_64, zn_128, zn_199, zn_200, zn_512, zn_600, zn_1000, zn_2048, zn_add, zn_mul, zn_sub, zn_in2, zn_nat, zn_le, zn_lt, zn_eq, if_pos, if_neg, Bool.false_eq_true, ↓reduceIte]
    exact ⟨_, rfl, hF, fun w hw => by rw [hD w hw, if_pos hw], hP⟩
  · rintro fu k I' hk ⟨hF, hD, hP⟩ ih
    try simp only [] at ih ⊢
    have hb : (if ((zn k >>> (zn o &&& 31)) &&& 1) = 0 then some z0 else some z1) = some (if k / 2 ^ o % 2 = 0 then z0 else z1) := by
      rw [zn_31, zn_1, zn_0, zc_wbit k hk o ho, zi_eq (by omega) (by omega)]
      by_cases c : k / 2 ^ o % 2 = 0
      · rw [if_pos c, if_pos c]
      · rw [if_neg c, if_neg c]
    rw [fl_X1_addSign_3, hb]
    simp (disch := omega) only [zb_gd, zb_bd, zb_let, zn_16, zn_1, zn_add, zn_mul, zn_in2, zn_nat, zn_le, if_neg]
    refine ih _ ⟨zF_u (by decide) hF, fun w hw => ?_, fun j hj => ?_⟩
    · simp only [zu_same, zu_app]
      by_cases c : w = k
      · subst c
        rw [if_pos rfl, if_pos (show w < w + 1 by omega), hD w hw, if_neg (show ¬ w < w by omega)]
      · rw [if_neg (by omega), hD w hw]
        by_cases c2 : w < k
        · rw [if_pos c2, if_pos (show w < k + 1 by omega)]
        · rw [if_neg c2, if_neg (show ¬ w < k + 1 by omega)]
    · simp only [zu_same, zu_app]
      rw [if_neg (by omega)]; exact hP j hj
/-- the price of a word, of an edge: g what an OUT costs if it is b -/
def zpw (g : Nat → Nat → Nat) (w : Nat) : Nat → Nat
  | 0 => 0
  | k + 1 => zpw g w k + g k (w / 2 ^ k % 2)
def zps (g : Nat → Nat → Nat) (cd : Nat → Nat) (s x : Nat) : Nat → Nat
  | 0 => 0
  | k + 1 => zps g cd s x k + g k (zsg cd s x k)
theorem zc_wb1 : ∀ K < 4, ∀ o < K, ∀ A < 2 ^ K, ∀ b < 2, (A + b * 2 ^ K) / 2 ^ o % 2 = A / 2 ^ o % 2 := by decide +kernel
theorem zc_wb2 : ∀ K < 4, ∀ A < 2 ^ K, ∀ b < 2, (A + b * 2 ^ K) / 2 ^ K % 2 = b := by decide +kernel
theorem zwo_bit {cd : Nat → Nat} {s x : Nat} (hx : x < 2) : ∀ K, K ≤ 4 → ∀ o, o < K → zwo cd s x K / 2 ^ o % 2 = zsg cd s x o := by
  intro K
  induction K with
  | zero => intro _ o ho; omega
  | succ K ih =>
    intro hK o ho
    have h1 := zwo_lt (cd := cd) (s := s) hx K
    have h2 := zsg_lt (cd := cd) (s := s) (o := K) hx
    unfold zwo
    by_cases c : o = K
    · subst c; exact zc_wb2 o (by omega) _ h1 _ h2
    · rw [zc_wb1 K (by omega) o (by omega) _ h1 _ h2]; exact ih (by omega) o (by omega)
theorem zpw_ps {g : Nat → Nat → Nat} {cd : Nat → Nat} {s x K : Nat} (hx : x < 2) (hK : K ≤ 4) : ∀ k, k ≤ K → zpw g (zwo cd s x K) k = zps g cd s x k
  | 0, _ => rfl
  | k + 1, h => by
    unfold zpw zps
    rw [zpw_ps hx hK k (by omega), zwo_bit hx K hK k (by omega)]
theorem zps_le {g : Nat → Nat → Nat} {cd : Nat → Nat} {s x B : Nat} (hx : x < 2) (hg : ∀ o b, b < 2 → g o b ≤ B) : ∀ k, zps g cd s x k ≤ B * k
  | 0 => Nat.zero_le _
  | k + 1 => by
    have := zps_le (cd := cd) (s := s) hx hg k
    have := hg k _ (zsg_lt (cd := cd) (s := s) (o := k) hx)
    unfold zps; rw [Nat.mul_succ]; omega
/-- the lattice: S states, T steps with prices P t edge -/
def zLa (I : pd_I) (cd : Nat → Nat) (T : Nat) (P : Nat → Nat → Nat) : Prop := I 11 3 = zn (2 ^ cd 1) ∧ (∀ e, e < 2 * 2 ^ cd 1 → I 12 e = zn (znx cd (e / 2) (e % 2))) ∧ (∀ t, t < T → ∀ e, e < 2 * 2 ^ cd 1 → ∃ w, I 13 e = zn w ∧ w < 16 ∧ I 15 (t * 16 + w) = zn (P t e))
theorem zLa_F {L : List Nat} {I I' : pd_I} {cd : Nat → Nat} {T : Nat} {P : Nat → Nat → Nat} (h1 : 11 ∉ L) (h2 : 12 ∉ L) (h3 : 13 ∉ L) (h4 : 15 ∉ L) (h : zF L I I') (k : zLa I cd T P) : zLa I' cd T P := by
  unfold zLa; rw [h 11 h1, h 12 h2, h 13 h3, h 15 h4]; exact k
theorem zq_priceOf {I : pd_I} {cd : Nat → Nat} {T t e : Nat} {P : Nat → Nat → Nat} (hv : zCv cd) (h : zLa I cd T P) (hT : T ≤ 206) (ht : t < T) (he : e < 2 * 2 ^ cd 1) : fn_X1_priceOf I (zn t) (zn e) = some (zn (P t e)) := by
  have hS := zCv_S hv
  obtain ⟨w, h1, h2, h3⟩ := h.2.2 t ht e he
  unfold fn_X1_priceOf
  rw [zn_in (by omega) (by decide), zb_gd, zn_nat (by omega), h1]
  simp (disch := omega) only [zb_gd, zb_bd, zb_bd2, zb_let, zb_jn, zn_0, zn_1, zn_2, zn_3, zn_4, zn_5, zn_6, zn_7, zn_8, zn_11, zn_12, zn_15, zn_16, zn_18, zn_30, zn_31, zn_32, zn_64, zn_128, zn_199, zn_200, zn_512, zn_600, zn_1000, zn_2048, zn_add, zn_mul, zn_sub, zn_in2, zn_nat, zn_le, zn_lt, zn_eq, if_pos, if_neg, Bool.false_eq_true, ↓reduceIte, h3]
theorem zq_mkLa {I : pd_I} {cd : Nat → Nat} {T : Nat} {g : Nat → Nat → Nat → Nat} (hv : zCv cd) (h3 : I 11 3 = zn (2 ^ cd 1)) (hD : zLD I cd (2 * 2 ^ cd 1)) (hp : ∀ t, t < T → ∀ w, w < 16 → I 15 (t * 16 + w) = zn (zpw (g t) w (cd 2))) : zLa I cd T (fun t e => zps (g t) cd (e / 2) (e % 2) (cd 2)) := by
  have hc : cd 2 ≤ 4 := hv.2.2.2.2.1
  refine ⟨h3, fun e he => (hD e he).1, fun t ht e he => ⟨zwo cd (e / 2) (e % 2) (cd 2), (hD e he).2, ?_, ?_⟩⟩
  · exact Nat.lt_of_lt_of_le (zwo_lt (Nat.mod_lt _ (by decide)) _) (Nat.pow_le_pow_right (by decide) hc)
  · have hw : zwo cd (e / 2) (e % 2) (cd 2) < 16 := Nat.lt_of_lt_of_le (zwo_lt (Nat.mod_lt _ (by decide)) _) (Nat.pow_le_pow_right (by decide) hc)
    rw [hp t ht _ hw, zpw_ps (Nat.mod_lt _ (by decide)) hc _ (Nat.le_refl _)]
theorem zq_prepare {I : pd_I} {a b m n : Nat} {cd f : Nat → Nat} {T : Nat → Nat → Nat} (ha : 133 ≤ a) (hb : 60 ≤ b) (h : zCo I a cd) (hv : zCv cd) (hr : zRow I b m f) (hT : zTab I T) (hn : n ≤ 200) :
    zT (fn_X11_prepare I a b (zn n)) (fun I' => zF [9, 10, 11, 12, 13, 15] I I' ∧ zLa I' cd (zst cd n) (fun t e => zps (fun o b => zrc cd (zmc m f T) b t o) cd (e / 2) (e % 2) (cd 2))) := by
  have hst := zst_le (n := n) hv
  have hw := zwd_le hv
  have hc : cd 2 ≤ 4 := hv.2.2.2.2.1
  unfold fn_X11_prepare
  rw [zT_bd]
  refine zT_mono (zq_read ha hb h hv hr hT hn) (fun I1 ⟨hF1, hR⟩ => ?_)
  rw [zT_bd]
  refine zT_mono (zq_load ha (zCo_F (by decide) ha hF1 h) hv) (fun I2 ⟨hF2, h3, hLD⟩ => ?_)
  have hF02 : zF [9, 10, 11, 12, 13, 15] I I2 := zF_tr (zF_sub hF1 (by decide)) (zF_sub hF2 (by decide))
  have hR2 : zRD I2 cd (zmc m f T) (zst cd n) 0 := by
    unfold zRD; rw [hF2 9 (by decide), hF2 10 (by decide)]; exact hR
  refine zl_loop (fun fu k (s : pd_I) => fl_X11_prepare_21 a (zn n) (fun zI4 => some zI4) fu k s) (zst cd n) (fun k s => zF [15] I2 s ∧ ∀ t, t < k → ∀ w, w < 16 → s 15 (t * 16 + w) = zn (zpw (fun o b => zrc cd (zmc m f T) b t o) w (cd 2))) ?_ ?_ pd_FU 0 _ (by omega) (zFU (by omega)) ⟨zF_rfl, fun t ht => by omega⟩
  · rintro fu I' ⟨hF, hD⟩
    have hcd := zCo_F (by decide) ha (zF_tr hF02 (zF_sub hF (by decide))) h
    try simp only []
    rw [fl_X11_prepare_21, zc_steps hcd hv, zb_bd, if_pos (by rw [zn_le (by omega) (by omega)]; omega)]
    refine ⟨_, rfl, zF_tr hF02 (zF_sub hF (by decide)), zq_mkLa hv (by rw [hF 11 (by decide)]; exact h3) ?_ hD⟩
    unfold zLD; rw [hF 12 (by decide), hF 13 (by decide)]; exact hLD
  · rintro fu k I' hk ⟨hF, hD⟩ ih
    try simp only [] at ih ⊢
    have hcd := zCo_F (by decide) ha (zF_tr hF02 (zF_sub hF (by decide))) h
    rw [fl_X11_prepare_21, zc_steps hcd hv, zb_bd, if_neg (by rw [zn_le (by omega) (by omega)]; omega), zT_bd]
    refine zT_mono (zq_clearStep (by omega)) (fun I3 ⟨hF3, hC, hP⟩ => ?_)
    have hF23 : zF [15] I2 I3 := zF_tr hF hF3
    generalize hkt : (fun zI7 => pd_let (zn k + 1) fun zv3 => fl_X11_prepare_21 a (zn n) (fun zI4 => some zI4) fu zv3 zI7) = kt
    refine zl_loop (fun fu2 o (s : pd_I) => fl_X11_prepare_43 a (zn k) kt fu2 o s) (cd 2) (fun o s => zF [15] I2 s ∧ (∀ w, w < 16 → s 15 (k * 16 + w) = zn (zpw (fun o b => zrc cd (zmc m f T) b k o) w o)) ∧ ∀ j, j < k * 16 → s 15 j = I' 15 j) ?_ ?_ pd_FU 0 _ (by omega) (zFU (by omega)) ⟨hF23, hC, hP⟩
    · rintro fu2 I4 ⟨hF4, hC4, hP4⟩
      have hcd4 := zCo_F (by decide) ha (zF_tr hF02 (zF_sub hF4 (by decide))) h
      try simp only []
      rw [fl_X11_prepare_43, hcd4.2.2.1, if_pos (by rw [zn_le (by omega) (by omega)]; omega), ← hkt]
      simp only [zb_let, zn_1, zn_add]
      refine ih _ ⟨hF4, fun t ht w hw => ?_⟩
      by_cases c : t = k
      · subst c; exact hC4 w hw
      · rw [hP4 _ (by omega)]; exact hD t (by omega) w hw
    · rintro fu2 o I4 ho ⟨hF4, hC4, hP4⟩ ih2
      have hcd4 := zCo_F (by decide) ha (zF_tr hF02 (zF_sub hF4 (by decide))) h
      have hR4 := hR2 k o (by omega) (Or.inl hk)
      rw [← hF4 9 (by decide), ← hF4 10 (by decide)] at hR4
      try simp only [] at ih2 ⊢
      rw [fl_X11_prepare_43, hcd4.2.2.1]
      simp (disch := omega) only [zb_gd, zb_let, zn_7, zn_1, zn_add, zn_mul, zn_in2, zn_nat, zn_le, if_neg, hR4.1, hR4.2, zT_bd]
      refine zT_mono (zq_addSign (by omega) (by omega)) (fun I5 ⟨hF5, hA, hP5⟩ => ?_)
      refine ih2 _ ⟨zF_tr hF4 hF5, fun w hw => ?_, fun j hj => by rw [hP5 j hj, hP4 j hj]⟩
      rw [hA w hw, hC4 w hw]
      have hb := Nat.mod_lt (w / 2 ^ o) (by decide : 2 > 0)
      show _ = zn (zpw _ w o + zrc cd (zmc m f T) (w / 2 ^ o % 2) k o)
      by_cases c : w / 2 ^ o % 2 = 0
      · rw [if_pos c, zn_add, c]
      · rw [if_neg c, zn_add, show w / 2 ^ o % 2 = 1 by omega]
