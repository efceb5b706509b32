/-! rows and THE TABLE in numbers: m how many numbers, f the numbers and 32 -/
def zRow (I : pd_I) (b m : Nat) (f : Nat → Nat) : Prop := (I b 1 = zn m ∨ I b 1 = -1 ∧ m = 0) ∧ m ≤ 600 ∧ ∀ i, i < m → I (b + 1) i + 32 = zn (f i) ∧ f i < 64
def zRom (I : pd_I) (r m : Nat) (f : Nat → Nat) : Prop := r < 16 ∧ (I 93 r = zn m ∨ I 93 r = -1 ∧ m = 0) ∧ m ≤ 600 ∧ ∀ i, i < m → I 94 (600 * r + i) + 32 = zn (f i) ∧ f i < 64
def zTab (I : pd_I) (T : Nat → Nat → Nat) : Prop := ∀ v, v < 64 → I 7 v = zn (T 0 v) ∧ I 8 v = zn (T 1 v) ∧ T 0 v ≤ 1000 ∧ T 1 v ≤ 1000
def zTam (I : pd_I) (T : Nat → Nat → Nat) : Prop := ∀ v, v < 64 → I 95 v = zn (T 0 v) ∧ I 96 v = zn (T 1 v) ∧ T 0 v ≤ 1000 ∧ T 1 v ≤ 1000
def zmc (m : Nat) (f : Nat → Nat) (T : Nat → Nat → Nat) (b i : Nat) : Nat := if i < m then T b (f i) else 0
theorem zRow_F {L : List Nat} {I I' : pd_I} {b m : Nat} {f : Nat → Nat} (h0 : b ∉ L) (h1 : b + 1 ∉ L) (h : zF L I I') (k : zRow I b m f) : zRow I' b m f := by
  unfold zRow; rw [h b h0, h _ h1]; exact k
theorem zRom_F {L : List Nat} {I I' : pd_I} {b m : Nat} {f : Nat → Nat} (h0 : 93 ∉ L) (h1 : 94 ∉ L) (h : zF L I I') (k : zRom I b m f) : zRom I' b m f := by
  unfold zRom; rw [h 93 h0, h 94 h1]; exact k
theorem zTab_F {L : List Nat} {I I' : pd_I} {T : Nat → Nat → Nat} (h0 : 7 ∉ L) (h1 : 8 ∉ L) (h : zF L I I') (k : zTab I T) : zTab I' T := by
  unfold zTab; rw [h 7 h0, h 8 h1]; exact k
theorem zTam_F {L : List Nat} {I I' : pd_I} {T : Nat → Nat → Nat} (h0 : 95 ∉ L) (h1 : 96 ∉ L) (h : zF L I I') (k : zTam I T) : zTam I' T := by
  unfold zTam; rw [h 95 h0, h 96 h1]; exact k
theorem zn_m1 {k : Nat} (h : k < 2147483648) : (-1 : Int32) < zn k := by
  rw [Int32.lt_iff_toInt_lt, zn_int h, show (-1 : Int32).toInt = -1 by decide]; omega
theorem zn_m1e {k : Nat} (h : k < 2147483648) : ¬ zn k = -1 := fun e => by
  have := zn_m1 h; rw [e] at this; exact absurd this (by decide)
theorem zn_n0 {k : Nat} (h : k < 2147483648) : ¬ zn k < zn 0 := by rw [zn_lt h (by omega)]; omega
theorem zn_b {c : Prop} [Decidable c] : (if (if c then (1 : Nat) else 0) = 0 then 0 else 1) = (if c then 1 else 0) := by
  by_cases h : c
  · rw [if_pos h]; rfl
  · rw [if_neg h]; rfl
theorem zr_has {I : pd_I} {b m i : Nat} {f : Nat → Nat} (h : zRow I b m f) (hi : i < 2147483648) : fn_X4_has I b (zn i) = some (zn (if i < m then 1 else 0)) := by
  obtain ⟨h1, h2, -⟩ := h
  unfold fn_X4_has
  rw [zn_0, if_neg (zn_n0 hi)]
  rcases h1 with e | ⟨e, em⟩
  · rw [e, zi_le (by omega) hi]
    by_cases c : m ≤ i
    · rw [if_pos c, if_neg (by omega)]; rfl
    · rw [if_neg c, if_pos (by omega)]; rfl
  · rw [e, if_pos (Int32.le_of_lt (zn_m1 hi)), if_neg (by omega)]; rfl
theorem zr_numberAt {I : pd_I} {b m i : Nat} {f : Nat → Nat} (h : zRow I b m f) (hi : i < 2147483648) : fn_X4_numberAt I b (zn i) = some (if i < m then I (b + 1) i else 0) := by
  have h2 : m ≤ 600 := h.2.1
  unfold fn_X4_numberAt
  rw [zr_has h hi, zb_bd]
  by_cases c : i < m
  · rw [if_pos c, if_pos c, zn_0, if_neg zn_p0, zn_in (by omega) (by decide), zb_gd, zn_nat (by omega)]; rfl
  · rw [if_neg c, if_neg c, zn_0, if_pos rfl]; rfl
theorem zs_32 (x : Int32) : x - (-32) = x + 32 := by rw [Int32.sub_eq_add_neg, Int32.neg_neg]
/-- what an OUT o of step t costs, if it is b -/
def zrc (cd : Nat → Nat) (mc : Nat → Nat → Nat) (b t o : Nat) : Nat := if zse cd t o = 1 then mc b (zsa cd t + zsn cd t o) else 0
def zRD (I : pd_I) (cd : Nat → Nat) (mc : Nat → Nat → Nat) (t k : Nat) : Prop := ∀ t' o', o' < zwd cd → (t' < t ∨ t' = t ∧ o' < k) → I 9 (t' * 7 + o') = zn (zrc cd mc 0 t' o') ∧ I 10 (t' * 7 + o') = zn (zrc cd mc 1 t' o')
theorem zq_read19 {O : Type} {Q : O → Prop} {kont : Int32 → pd_I → Option O} {I : pd_I} {a b m t : Nat} {cd f : Nat → Nat} {T : Nat → Nat → Nat} (ha : 133 ≤ a) (hb : 60 ≤ b) (h : zCo I a cd) (hv : zCv cd) (hr : zRow I b m f) (hT : zTab I T) (ht : t < 206)
    {I1 : pd_I} (hF1 : zF [9, 10] I I1) (hD1 : zRD I1 cd (zmc m f T) t 0)
    (hK : ∀ I2, zF [9, 10] I I2 → zRD I2 cd (zmc m f T) (t + 1) 0 → zT (kont (zn (zsa cd (t + 1))) I2) Q) :
    zT (fl_X3_read_19 a b (zn t) kont pd_FU (zn (zsa cd t)) (zn 0) I1) Q := by
  have hw := zwd_le hv
  have hsa := zsa_le hv t
  refine zl_loop (fun fu k (s : Int32 × pd_I) => fl_X3_read_19 a b (zn t) kont fu s.1 k s.2) (zwd cd) (fun k s => s.1 = zn (zsa cd t + zsn cd t k) ∧ zF [9, 10] I s.2 ∧ zRD s.2 cd (zmc m f T) t k) ?_ ?_ pd_FU 0 (zn (zsa cd t), I1) (by omega) (zFU (by omega)) ⟨rfl, hF1, hD1⟩
  · rintro fu ⟨mk, I'⟩ ⟨rfl, hF, hD⟩
    try simp only []
    have hcd := zCo_F (by decide) ha hF h
    rw [fl_X3_read_19, zc_width hcd hv, zb_bd, if_pos (by rw [zn_le (by omega) (by omega)]; omega)]
    refine hK I' hF (fun t' o' ho' hc => hD t' o' ho' ?_)
    omega
  · rintro fu k ⟨mk, I'⟩ hk ⟨rfl, hF, hD⟩ ih
    try simp only [] at hF hD ih ⊢
    have hcd := zCo_F (by decide) ha hF h
    have hrw := zRow_F (b := b) (by simp; omega) (by simp; omega) hF hr
    have htb := zTab_F (by decide) (by decide) hF hT
    have hsn := zsn_le (cd := cd) (t := t) k
    have hse := zse_lt (cd := cd) (t := t) (o := k)
    have hm6 : m ≤ 600 := hr.2.1
    have e6 : (pd_bd (if zn (zse cd t k) = 0 then some false else (pd_bd (fn_X4_has I' b (zn (zsa cd t + zsn cd t k))) fun zr5 => if zr5 = 0 then some false else (some true))) fun zc4 => if zc4 = true then some 1 else (some (0 : Int32))) = some (zn (if zse cd t k = 1 ∧ zsa cd t + zsn cd t k < m then 1 else 0)) := by
      rw [zr_has hrw (by omega), zn_0, zi_eq (by omega) (by omega)]
      by_cases c1 : zse cd t k = 0
      · rw [if_pos c1, if_neg (by omega)]; rfl
      · rw [if_neg c1, zb_bd]
        by_cases c2 : zsa cd t + zsn cd t k < m
        · rw [if_pos c2, if_neg zn_p0, if_pos (by omega)]; rfl
        · rw [if_neg c2, if_pos rfl, if_neg (by omega)]; rfl
    have fin : ∀ I3 : pd_I, I3 = pd_ui (pd_ui I' 9 (t * 7 + k) (zn (zrc cd (zmc m f T) 0 t k))) 10 (t * 7 + k) (zn (zrc cd (zmc m f T) 1 t k)) → zT (fl_X3_read_19 a b (zn t) kont fu (zn (zsa cd t + zsn cd t k + zse cd t k)) (zn (k + 1)) I3) Q := by
      intro I3 hI3
      rw [Nat.add_assoc]
      refine ih (zn (zsa cd t + zsn cd t (k + 1)), I3) ⟨rfl, by rw [hI3]; exact zF_u (by decide) (zF_u (by decide) hF), fun t' o' ho' hc => ?_⟩
      have hne := hD t' o' ho'
      rw [hI3]
      simp only [zu_same, zu_ne (show (9 : Nat) ≠ 10 by decide), zu_ne (show (10 : Nat) ≠ 9 by decide), zu_app]
      by_cases e : t' * 7 + o' = t * 7 + k
      · have e1 : t' = t := by omega
        have e2 : o' = k := by omega
        subst e1 e2
        rw [if_pos rfl, if_pos rfl]; exact ⟨rfl, rfl⟩
      · rw [if_neg e, if_neg e]; exact hne (by omega)
    rw [fl_X3_read_19, zc_width hcd hv, zb_bd, if_neg (by rw [zn_le (by omega) (by omega)]; omega), zb_let, zc_isSent hcd hv (by omega) (by omega), zb_bd, e6, zb_bd, zr_numberAt hrw (by omega), zb_bd, zb_let, zs_32, zc_b01 hse]
    by_cases c : zse cd t k = 1 ∧ zsa cd t + zsn cd t k < m
    · obtain ⟨q1, q2⟩ := hrw.2.2 _ c.2
      have q3 := htb _ q2
      rw [if_pos c, if_pos c.2, q1]
      simp (disch := omega) only [zn_p0, zb_gd, zb_bd, zb_bd2, zb_let, zb_jn, zn_0, zn_1, zn_2, zn_3, zn_4, zn_5, zn_6, zn_7, zn_8, zn_11, zn_12, zn_15, zn_16, zn_18, zn_30, zn_31, zn_32, zn_64, zn_128, zn_199, zn_200, zn_512, zn_600, zn_1000, zn_2048, zn_add, zn_mul, zn_sub, zn_in2, zn_nat, zn_le, zn_lt, zn_eq, if_pos, if_neg, Bool.false_eq_true, ↓reduceIte, zu_ne, q3.1, q3.2.1]
      refine fin _ ?_
      have r0 : zrc cd (zmc m f T) 0 t k = T 0 (f (zsa cd t + zsn cd t k)) := by unfold zrc zmc; rw [if_pos c.1, if_pos c.2]
      have r1 : zrc cd (zmc m f T) 1 t k = T 1 (f (zsa cd t + zsn cd t k)) := by unfold zrc zmc; rw [if_pos c.1, if_pos c.2]
      rw [r0, r1]
    · rw [if_neg c]
      simp (disch := omega) only [zb_gd, zb_bd, zb_bd2, zb_let, zb_jn, zn_0, zn_1, zn_2, zn_3, zn_4, zn_5, zn_6, zn_7, zn_8, zn_11, zn_12, zn_15, zn_16, zn_18, zn_30, zn_31, zn_32, zn_64, zn_128, zn_199, zn_200, zn_512, zn_600, zn_1000, zn_2048, zn_add, zn_mul, zn_sub, zn_in2, zn_nat, zn_le, zn_lt, zn_eq, if_pos, if_neg, Bool.false_eq_true, ↓reduceIte]
      refine fin _ ?_
      have r : ∀ b, zrc cd (zmc m f T) b t k = 0 := fun b => by
        unfold zrc zmc
        by_cases c1 : zse cd t k = 1
        · rw [if_pos c1, if_neg (fun c2 => c ⟨c1, c2⟩)]
        · rw [if_neg c1]
      rw [r, r]
theorem zq_read {I : pd_I} {a b m n : Nat} {cd f : Nat → Nat} {T : Nat → Nat → Nat} (ha : 133 ≤ a) (hb : 60 ≤ b) (h : zCo I a cd) (hv : zCv cd) (hr : zRow I b m f) (hT : zTab I T) (hn : n ≤ 200) :
    zT (fn_X3_read I a (zn n) b) (fun I' => zF [9, 10] I I' ∧ zRD I' cd (zmc m f T) (zst cd n) 0) := by
  have hst := zst_le (n := n) hv
  unfold fn_X3_read
  refine zl_loop (fun fu k (s : Int32 × pd_I) => fl_X3_read_6 a (zn n) b (fun zI2 => some zI2) fu s.1 k s.2) (zst cd n) (fun k s => s.1 = zn (zsa cd k) ∧ zF [9, 10] I s.2 ∧ zRD s.2 cd (zmc m f T) k 0) ?_ ?_ pd_FU 0 (zn 0, I) (by omega) (zFU (by omega)) ⟨rfl, zF_rfl, fun t' o' _ hc => by omega⟩
  · rintro fu ⟨mk, I'⟩ ⟨rfl, hF, hD⟩
    try simp only [] at hF hD ⊢
    have hcd := zCo_F (by decide) ha hF h
    rw [fl_X3_read_6, zc_steps hcd hv, zb_bd, if_pos (by rw [zn_le (by omega) (by omega)]; omega)]
    exact ⟨_, rfl, hF, hD⟩
  · rintro fu k ⟨mk, I'⟩ hk ⟨rfl, hF, hD⟩ ih
    try simp only [] at hF hD ih ⊢
    have hcd := zCo_F (by decide) ha hF h
    rw [fl_X3_read_6, zc_steps hcd hv, zb_bd, if_neg (by rw [zn_le (by omega) (by omega)]; omega)]
    refine zq_read19 ha hb h hv hr hT (by omega) hF hD (fun I2 hF2 hD2 => ?_)
    rw [zb_let, zn_1, zn_add]
    exact ih (zn (zsa cd (k + 1)), I2) ⟨rfl, hF2, hD2⟩
