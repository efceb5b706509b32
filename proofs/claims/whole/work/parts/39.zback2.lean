/-! merge and comeBack, whole -/
def zLvO (I : pd_I) (la lc S : Nat) (L : Nat → Nat × (Nat → Nat)) : Prop := ∀ s, s < S → I lc s = zn (L s).1 ∧ ∀ i, i < (L s).1 → I la (s * 8 + i) = zn ((L s).2 i)
def zN1 (cd : Nat → Nat) (k : Nat) (L : Nat → Nat × (Nat → Nat)) (s : Nat) : Nat := min k ((L (znx cd s 0)).1 + (L (znx cd s 1)).1)
def zC1 (cd : Nat → Nat) (P : Nat → Nat → Nat) (t : Nat) (L : Nat → Nat × (Nat → Nat)) (s m : Nat) : Nat := zMc (P t (2 * s)) (P t (2 * s + 1)) (L (znx cd s 0)).1 (L (znx cd s 1)).1 (L (znx cd s 0)).2 (L (znx cd s 1)).2 m
def zB1 (cd : Nat → Nat) (P : Nat → Nat → Nat) (t : Nat) (L : Nat → Nat × (Nat → Nat)) (s m : Nat) : Nat := zMb (P t (2 * s)) (P t (2 * s + 1)) (L (znx cd s 0)).1 (L (znx cd s 1)).1 (L (znx cd s 0)).2 (L (znx cd s 1)).2 m
def zR1 (cd : Nat → Nat) (P : Nat → Nat → Nat) (t : Nat) (L : Nat → Nat × (Nat → Nat)) (s m : Nat) : Nat := zMr (P t (2 * s)) (P t (2 * s + 1)) (L (znx cd s 0)).1 (L (znx cd s 1)).1 (L (znx cd s 0)).2 (L (znx cd s 1)).2 m
theorem zq_merge {I : pd_I} {Z : pd_R} {n na la nc lc t s k T : Nat} {cd : Nat → Nat} {P : Nat → Nat → Nat} {L : Nat → Nat × (Nat → Nat)} (hn : 133 ≤ n) (hZ : zZs Z na la nc lc) (hv : zCv cd) (hla : zLa I cd T P) (hT : T ≤ 206) (ht : t < T) (ht2 : t < 200) (hs : s < 2 ^ cd 1) (hk : 1 ≤ k) (hk8 : k ≤ 8)
    (hL : zLvO I la lc (2 ^ cd 1) L) (hL8 : ∀ s, (L s).1 ≤ 8) (hLb : ∀ s i, i < (L s).1 → (L s).2 i + 10000 < zEE) (hP : ∀ t e, P t e ≤ 10000) :
    zT (fn_X5_merge I Z n (zn t) (zn s) (zn k)) (fun I' => zF [na, nc, 41] I I' ∧ I' nc s = zn (zN1 cd k L s) ∧ (∀ m, m < zN1 cd k L s → I' na (s * 8 + m) = zn (zC1 cd P t L s m) ∧ I' 41 ((t * 64 + s) * 8 + m) = zn (8 * zB1 cd P t L s m + zR1 cd P t L s m)) ∧ (∀ j, (j < s * 8 ∨ s * 8 + 8 ≤ j) → I' na j = I na j) ∧ (∀ j, j ≠ s → I' nc j = I nc j) ∧ (∀ j, (j < (t * 64 + s) * 8 ∨ (t * 64 + s) * 8 + 8 ≤ j) → I' 41 j = I 41 j)) := by
  have hS := zCv_S hv
  obtain ⟨ha1, ha2, ha3, ha4⟩ := zZs_a hZ hn
  have hp0 := zq_priceOf (t := t) (e := 2 * s) hv hla hT ht (by omega)
  have hp1 := zq_priceOf (t := t) (e := 2 * s + 1) hv hla hT ht (by omega)
  have hx0 := hla.2.1 (2 * s) (by omega)
  have hx1 := hla.2.1 (2 * s + 1) (by omega)
  rw [show 2 * s / 2 = s by omega, show 2 * s % 2 = 0 by omega] at hx0
  rw [show (2 * s + 1) / 2 = s by omega, show (2 * s + 1) % 2 = 1 by omega] at hx1
  have hz0 : znx cd s 0 < 2 ^ cd 1 := znx_lt
  have hz1 : znx cd s 1 < 2 ^ cd 1 := znx_lt
  have hc := hZ.2.2.1
  have hne : nc ≠ na ∧ nc ≠ 41 := by have h1 := hZ.2.2.2.2.1; have h2 := hZ.2.2.2.2.2; clear hp0 hp1; omega
  obtain ⟨l0, l0'⟩ := hL _ hz0
  obtain ⟨l1, l1'⟩ := hL _ hz1
  unfold fn_X5_merge
  simp (disch := omega) only [zb_gd, zb_bd, zb_bd2, zb_let, zb_jn, zn_0, zn_1, zn_2, zn_3, zn_4, zn_5, zn_6, zn_7, zn_8, zn_11, zn_12, zn_15, zn_16, zn_18, zn_30, zn_31, zn_32, zn_64, zn_128, zn_199, zn_200, zn_512, zn_600, zn_1000, zn_2048, zn_add, zn_mul, zn_sub, zn_in2, zn_nat, zn_le, zn_lt, zn_eq, if_pos, if_neg, Bool.false_eq_true, ↓reduceIte, hx0, hx1, hp0, hp1]
  refine zq_merge65 hn hZ ht2 (by omega) hk hk8 (by omega) (by omega) l0 l1 (hL8 _) (hL8 _) (fun i hi => ⟨l0' i hi, ?_⟩) (fun i hi => ⟨l1' i hi, ?_⟩) (fun I2 hF hD hP1 hP2 => ?_)
  · have := hLb _ i hi; have := hP t (2 * s); omega
  · have := hLb _ i hi; have := hP t (2 * s + 1); omega
  · simp (disch := omega) only [hc, ha3, zb_gd, zb_bd, zb_bd2, zb_let, zb_jn, zn_0, zn_1, zn_2, zn_3, zn_4, zn_5, zn_6, zn_7, zn_8, zn_11, zn_12, zn_15, zn_16, zn_18, zn_30, zn_31, zn_32, zn_64, zn_128, zn_199, zn_200, zn_512, zn_600, zn_1000, zn_2048, zn_add, zn_mul, zn_sub, zn_in2, zn_nat, zn_le, zn_lt, zn_eq, if_pos, if_neg, Bool.false_eq_true, ↓reduceIte]
    refine ⟨_, rfl, zF_u (by simp) (zF_sub hF (by intro x hx; simp at hx; simp; omega)), ?_, fun m hm => ?_, fun j hj => ?_, fun j hj => ?_, fun j hj => ?_⟩
    · rw [zu_same, zu_at]; rfl
    · rw [zu_ne hne.1.symm, zu_ne hne.2.symm]; exact hD m hm
    · rw [zu_ne hne.1.symm]; exact hP1 j hj
    · rw [zu_same, zu_nat hj, hF nc (by intro h; simp at h; omega)]
    · rw [zu_ne hne.2.symm]; exact hP2 j hj
def zOn1 (I : pd_I) (cd : Nat → Nat) (P : Nat → Nat → Nat) (k t : Nat) (L : Nat → Nat × (Nat → Nat)) (S : Nat) : Prop := ∀ s, s < S → ∀ m, m < zN1 cd k L s → I 41 ((t * 64 + s) * 8 + m) = zn (8 * zB1 cd P t L s m + zR1 cd P t L s m)
theorem zq_come73 {O : Type} {Q : O → Prop} {kont : pd_I → Option O} {I : pd_I} {Z : pd_R} {n na la nc lc t k T : Nat} {cd : Nat → Nat} {P : Nat → Nat → Nat} {L : Nat → Nat × (Nat → Nat)} (hn : 133 ≤ n) (hZ : zZs Z na la nc lc) (hv : zCv cd) (hla : zLa I cd T P) (hT : T ≤ 206) (ht : t < T) (ht2 : t < 200) (hk : 1 ≤ k) (hk8 : k ≤ 8)
    (hL : zLvO I la lc (2 ^ cd 1) L) (hL8 : ∀ s, (L s).1 ≤ 8) (hLb : ∀ s i, i < (L s).1 → (L s).2 i + 10000 < zEE) (hP : ∀ t e, P t e ≤ 10000)
    (hK : ∀ I2, zF [na, nc, 41] I I2 → zLvO I2 na nc (2 ^ cd 1) (fun s => (zN1 cd k L s, zC1 cd P t L s)) → zOn1 I2 cd P k t L (2 ^ cd 1) → (∀ j, (j < t * 512 ∨ t * 512 + 512 ≤ j) → I2 41 j = I 41 j) → zT (kont I2) Q) :
    zT (fl_X5_comeBack_73 (zn k) (zn t) Z n kont pd_FU (zn 0) I) Q := by
  have hS := zCv_S hv
  have hne : na ≠ 11 ∧ na ≠ 12 ∧ na ≠ 13 ∧ na ≠ 15 ∧ nc ≠ 11 ∧ nc ≠ 12 ∧ nc ≠ 13 ∧ nc ≠ 15 ∧ la ≠ na ∧ la ≠ nc ∧ la ≠ 41 ∧ lc ≠ na ∧ lc ≠ nc ∧ lc ≠ 41 := by have h1 := hZ.2.2.2.2.1; have h2 := hZ.2.2.2.2.2; omega
  obtain ⟨n1, n2, n3, n4, n5, n6, n7, n8, n9, n10, n11, n12, n13, n14⟩ := hne
  refine zl_loop (fun fu s (st : pd_I) => fl_X5_comeBack_73 (zn k) (zn t) Z n kont fu s st) (2 ^ cd 1) (fun s st => zF [na, nc, 41] I st ∧ (∀ s', s' < s → st nc s' = zn (zN1 cd k L s') ∧ ∀ m, m < zN1 cd k L s' → st na (s' * 8 + m) = zn (zC1 cd P t L s' m) ∧ st 41 ((t * 64 + s') * 8 + m) = zn (8 * zB1 cd P t L s' m + zR1 cd P t L s' m)) ∧ (∀ j, (j < t * 512 ∨ t * 512 + 512 ≤ j) → st 41 j = I 41 j)) ?_ ?_ pd_FU 0 I (by omega) (zFU (by omega)) ⟨zF_rfl, fun s' hs' => by omega, fun _ _ => rfl⟩
  · rintro fu I' ⟨hF, hD, hJ⟩
    try simp only []
    have e3 : I' 11 3 = zn (2 ^ cd 1) := by rw [hF 11 (by intro h; simp at h; omega)]; exact hla.1
    rw [fl_X5_comeBack_73, e3, if_pos (by rw [zn_le (by omega) (by omega)]; omega)]
    exact hK I' hF (fun s hs => ⟨(hD s hs).1, fun i hi => ((hD s hs).2 i hi).1⟩) (fun s hs m hm => ((hD s hs).2 m hm).2) hJ
  · rintro fu s I' hs ⟨hF, hD, hJ⟩ ih
    try simp only [] at ih ⊢
    have e3 : I' 11 3 = zn (2 ^ cd 1) := by rw [hF 11 (by intro h; simp at h; omega)]; exact hla.1
    have hla' : zLa I' cd T P := zLa_F (by intro h; simp at h; omega) (by intro h; simp at h; omega) (by intro h; simp at h; omega) (by intro h; simp at h; omega) hF hla
    have hL' : zLvO I' la lc (2 ^ cd 1) L := by
      unfold zLvO; rw [hF la (by intro h; simp at h; omega), hF lc (by intro h; simp at h; omega)]; exact hL
    rw [fl_X5_comeBack_73, e3, if_neg (by rw [zn_le (by omega) (by omega)]; omega), zT_bd]
    refine zT_mono (zq_merge hn hZ hv hla' hT ht ht2 hs hk hk8 hL' hL8 hLb hP) (fun I2 ⟨hF2, q1, q2, q3, q4, q5⟩ => ?_)
    have hN8 : ∀ s', zN1 cd k L s' ≤ 8 := fun s' => by unfold zN1; omega
    rw [zb_let, zn_1, zn_add]
    refine ih _ ⟨zF_tr hF hF2, fun s' hs' => ?_, fun j hj => ?_⟩
    · by_cases c : s' = s
      · subst c; exact ⟨q1, q2⟩
      · obtain ⟨w1, w2⟩ := hD s' (by omega)
        refine ⟨by rw [q4 s' c]; exact w1, fun m hm => ?_⟩
        have := hN8 s'
        rw [q3 _ (by omega), q5 _ (by omega)]
        exact w2 m hm
    · rw [q5 j (by omega)]; exact hJ j hj
theorem zq_come2 {O : Type} {Q : O → Prop} {kont : pd_I → Option O} {I : pd_I} {Z : pd_R} {n na la nc lc : Nat} {cd E F : Nat → Nat} (hn : 133 ≤ n) (hZ : zZs Z na la nc lc) (hv : zCv cd) (hS3 : I 11 3 = zn (2 ^ cd 1))
    (hE : ∀ s, s < 2 ^ cd 1 → I 14 s = zn (if E s = 1 then F s else zEE)) (hE1 : ∀ s, E s ≤ 1) (hFb : ∀ s, F s < zEE)
    (hK : ∀ I2, zF [la, lc] I I2 → zLvO I2 la lc (2 ^ cd 1) (fun s => (E s, fun _ => F s)) → zT (kont I2) Q) :
    zT (fl_X5_comeBack_2 Z n kont pd_FU (zn 0) I) Q := by
  have hzE := zE_lt
  have hS := zCv_S hv
  obtain ⟨ha1, ha2, ha3, ha4⟩ := zZs_a hZ hn
  have hne : la ≠ 11 ∧ lc ≠ 11 ∧ la ≠ 14 ∧ lc ≠ 14 ∧ la ≠ lc := by have h1 := hZ.2.2.2.2.1; have h2 := hZ.2.2.2.2.2; omega
  obtain ⟨n1, n2, n3, n4, n5⟩ := hne
  have g3 := hZ.2.1
  have g5 := hZ.2.2.2.1
  clear hZ
  refine zl_loop (fun fu s (st : pd_I) => fl_X5_comeBack_2 Z n kont fu s st) (2 ^ cd 1) (fun s st => zF [la, lc] I st ∧ zLvO st la lc s (fun s => (E s, fun _ => F s))) ?_ ?_ pd_FU 0 I (by omega) (zFU (by omega)) ⟨zF_rfl, fun s' hs' => by omega⟩
  · rintro fu I' ⟨hF, hD⟩
    try simp only []
    have e3 : I' 11 3 = zn (2 ^ cd 1) := by rw [hF 11 (by intro h; simp at h; omega)]; exact hS3
    rw [fl_X5_comeBack_2, e3, if_pos (by rw [zn_le (by omega) (by omega)]; omega)]
    exact hK I' hF hD
  · rintro fu s I' hs ⟨hF, hD⟩ ih
    try simp only [] at ih ⊢
    have e3 : I' 11 3 = zn (2 ^ cd 1) := by rw [hF 11 (by intro h; simp at h; omega)]; exact hS3
    have e14 : I' 14 s = zn (if E s = 1 then F s else zEE) := by rw [hF 14 (by intro h; simp at h; omega)]; exact hE s hs
    have h1 := hE1 s
    have h2 := hFb s
    have step : ∀ v : Int32, v = zn (E s) → zT (fl_X5_comeBack_2 Z n kont fu (zn (s + 1)) (pd_ui (pd_ui I' lc s v) la (s * 8) (zn (if E s = 1 then F s else zEE)))) Q := fun v hvv => by
      refine ih _ ⟨zF_u (by simp) (zF_u (by simp) hF), fun s' hs' => ?_⟩
      simp only [zu_same, zu_ne n5, zu_ne n5.symm, zu_app]
      by_cases c : s' = s
      · subst c
        rw [if_pos rfl]
        refine ⟨hvv, fun i hi => ?_⟩
        have hi0 : i = 0 := by omega
        subst hi0
        rw [if_pos (by omega), if_pos (by omega)]
      · rw [if_neg c]
        obtain ⟨w1, w2⟩ := hD s' (by omega)
        refine ⟨w1, fun i hi => ?_⟩
        have := hE1 s'
        rw [if_neg (by omega)]
        exact w2 i hi
    have hv2 : ∀ s', pd_ui I' lc s s' 14 = I' 14 := fun s' => zu_ne (by omega)
    rw [fl_X5_comeBack_2, e3, if_neg (by rw [zn_le (by omega) (by omega)]; omega)]
    by_cases c : E s = 1
    · rw [if_pos c] at e14 step
      simp (disch := omega) only [zb_gd, zb_bd, zb_bd2, zb_let, zb_jn, zn_0, zn_1, zn_2, zn_3, zn_4, zn_5, zn_6, zn_7, zn_8, zn_11, zn_12, zn_15, zn_16, zn_18, zn_30, zn_31, zn_32, zn_64, zn_128, zn_199, zn_200, zn_512, zn_600, zn_1000, zn_2048, zn_add, zn_mul, zn_sub, zn_in2, zn_nat, zn_le, zn_lt, zn_eq, if_pos, if_neg, Bool.false_eq_true, ↓reduceIte, zn_E, g3, g5, ha2, ha4, e14, hv2]
      exact step _ (by rw [c])
    · rw [if_neg c] at e14 step
      simp (disch := omega) only [zb_gd, zb_bd, zb_bd2, zb_let, zb_jn, zn_0, zn_1, zn_2, zn_3, zn_4, zn_5, zn_6, zn_7, zn_8, zn_11, zn_12, zn_15, zn_16, zn_18, zn_30, zn_31, zn_32, zn_64, zn_128, zn_199, zn_200, zn_512, zn_600, zn_1000, zn_2048, zn_add, zn_mul, zn_sub, zn_in2, zn_nat, zn_le, zn_lt, zn_eq, if_pos, if_neg, Bool.false_eq_true, ↓reduceIte, zn_E, g3, g5, ha2, ha4, e14, hv2]
      exact step _ (by rw [show E s = 0 by omega])
theorem zup_same {F : pd_R} {a k : Nat} {x : Option Nat} : pd_ur F a k x a k = x := by unfold pd_ur; rw [if_pos rfl]; unfold va_up; rw [if_pos rfl]
theorem zup_k {F : pd_R} {a k j : Nat} {x : Option Nat} (h : j ≠ k) : pd_ur F a k x a j = F a j := by unfold pd_ur; rw [if_pos rfl]; unfold va_up; rw [if_neg h]
theorem zup_ne {F : pd_R} {a k b : Nat} {x : Option Nat} (h : b ≠ a) : pd_ur F a k x b = F b := by unfold pd_ur; rw [if_neg h]
/-- what was written down of how the rests go on, of the last D steps -/
def zOnO (I : pd_I) (cd : Nat → Nat) (P : Nat → Nat → Nat) (k n : Nat) (E F : Nat → Nat) (D : Nat) : Prop := ∀ d, d < D → ∀ s, s < 2 ^ cd 1 → ∀ m, m < (zLs cd P k n E F (d + 1) s).1 → I 41 (((n - (d + 1)) * 64 + s) * 8 + m) = zn (8 * zLb cd P k n E F d s m + zLr cd P k n E F d s m)
theorem zq_come {I : pd_I} {Z : pd_R} {n na la nc lc nn k T : Nat} {cd E F : Nat → Nat} {P : Nat → Nat → Nat} (hn : 133 ≤ n) (hZ : zZs Z na la nc lc) (hv : zCv cd) (hla : zLa I cd T P) (hT : T ≤ 206) (hnT : nn ≤ T) (hn1 : 1 ≤ nn) (hn2 : nn ≤ 200) (hk : 1 ≤ k) (hk8 : k ≤ 8) (hP : ∀ t e, P t e ≤ 10000)
    (hE : ∀ s, s < 2 ^ cd 1 → I 14 s = zn (if E s = 1 then F s else zEE)) (hE1 : ∀ s, E s ≤ 1) (hFb : ∀ s, F s ≤ 100000) :
    zT (fn_X5_comeBack I Z n (zn nn) (zn k)) (fun r => ∃ na la nc lc, zZs r.2 na la nc lc ∧ (∀ b, b ≠ 36 → r.2 b = Z b) ∧ zF [37, 38, 39, 40, 41] I r.1 ∧ zLvO r.1 la lc (2 ^ cd 1) (zLs cd P k nn E F nn) ∧ zOnO r.1 cd P k nn E F nn) := by
  have hzE := zE_lt
  have hzB := zE_big
  have hS := zCv_S hv
  unfold fn_X5_comeBack
  refine zq_come2 hn hZ hv hla.1 hE hE1 (fun s => by have := hFb s; omega) (fun I2 hF2 hL2 => ?_)
  rw [zb_let, zdn_0 hn1]
  refine zl_gen (fun fu x (st : pd_I × pd_R) => fl_X5_comeBack_66 (zn k) n (fun zI6 zZ2 => some (zI6, zZ2)) fu x st.1 st.2) (zdn nn) nn (fun d st => ∃ na la nc lc, zZs st.2 na la nc lc ∧ (∀ b, b ≠ 36 → st.2 b = Z b) ∧ zF [37, 38, 39, 40, 41] I st.1 ∧ zLvO st.1 la lc (2 ^ cd 1) (zLs cd P k nn E F d) ∧ zOnO st.1 cd P k nn E F d) ?_ ?_ pd_FU 0 (I2, Z) (by omega) (zFU (by omega)) ⟨na, la, nc, lc, hZ, fun _ _ => rfl, zF_sub hF2 (by intro x hx; have h1 := hZ.2.2.2.2.1; have h2 := hZ.2.2.2.2.2; simp at hx; simp; omega), hL2, fun d hd => by omega⟩
  · rintro fu ⟨I', Z'⟩ hI
    try simp only [] at hI ⊢
    rw [fl_X5_comeBack_66, zdn_n, if_pos (by decide)]
    exact ⟨_, rfl, hI⟩
  · rintro fu d ⟨I', Z'⟩ hd ⟨na, la, nc, lc, hZ', hZo, hF, hL, hOn⟩ ih
    try simp only [] at hZ' hZo hF hL hOn ih ⊢
    obtain ⟨ha1, ha2, ha3, ha4⟩ := zZs_a hZ' hn
    have hlen : ∀ s, (zLs cd P k nn E F d s).1 ≤ 8 := fun s => Nat.le_trans (zLs_cnt hk hE1 d s) hk8
    have hbd : ∀ s i, i < (zLs cd P k nn E F d s).1 → (zLs cd P k nn E F d s).2 i + 10000 < zEE := fun s i hi => by
      have := zLs_le hP hFb d s i hi
      have : 10000 * d ≤ 10000 * 200 := Nat.mul_le_mul_left _ (by omega)
      omega
    have hla' : zLa I' cd T P := zLa_F (by decide) (by decide) (by decide) (by decide) hF hla
    rw [fl_X5_comeBack_66, zdn_lt hd, zn_0, if_neg (zn_n0 (by omega))]
    have hsub : ∀ x ∈ [na, nc, 41], x ∈ [37, 38, 39, 40, 41] := by intro x hx; have h1 := hZ'.2.2.2.2.1; have h2 := hZ'.2.2.2.2.2; simp at hx; simp; omega
    refine zq_come73 hn hZ' hv hla' hT (by omega) (by omega) hk hk8 hL hlen hbd hP (fun I3 hF3 hL3 hO3 hJ3 => ?_)
    obtain ⟨g2, g3, g4, g5, g6, g7⟩ := hZ'
    have u1 : ∀ x y, pd_ur (pd_ur Z' 36 2 x) 36 3 y 36 4 = Z' 36 4 := fun x y => by rw [zup_k (by omega), zup_k (by omega)]
    have u2 : ∀ x y, pd_ur (pd_ur Z' 36 2 x) 36 3 y 36 5 = Z' 36 5 := fun x y => by rw [zup_k (by omega), zup_k (by omega)]
    simp only [g2, g3, g4, g5, u1, u2, zb_bd, ha1, ha2, ha3, ha4, zb_gd, zb_let, zdn_s hd]
    obtain ⟨Z3, hZ3⟩ : ∃ Z3, Z3 = pd_ur (pd_ur (pd_ur (pd_ur Z' 36 2 (some la)) 36 3 (some na)) 36 4 (some lc)) 36 5 (some nc) := ⟨_, rfl⟩
    rw [← hZ3]
    refine ih (I3, Z3) ⟨la, na, lc, nc, ⟨?_, ?_, ?_, ?_, by omega, by omega⟩, fun b hb => ?_, zF_tr hF (zF_sub hF3 hsub), hL3, fun d' hd' s hs m hm => ?_⟩
    · show Z3 36 _ = _; rw [hZ3, zup_k (by omega), zup_k (by omega), zup_k (by omega), zup_same]
    · show Z3 36 _ = _; rw [hZ3, zup_k (by omega), zup_k (by omega), zup_same]
    · show Z3 36 _ = _; rw [hZ3, zup_k (by omega), zup_same]
    · show Z3 36 _ = _; rw [hZ3, zup_same]
    · show Z3 b = _; rw [hZ3, zup_ne hb, zup_ne hb, zup_ne hb, zup_ne hb]; exact hZo b hb
    · by_cases c : d' = d
      · subst c; exact hO3 s hs m hm
      · have hm8 : m < 8 := Nat.lt_of_lt_of_le hm (Nat.le_trans (zLs_cnt hk hE1 _ s) hk8)
        show I3 41 _ = _
        rw [hJ3 _ (by omega)]
        exact hOn d' (by omega) s hs m hm
