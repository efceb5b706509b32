/-! EACH in numbers: 0 is 'no way', v + 1 the cost v -/
def zmn (a b : Nat) : Nat := if a = 0 then b else if b = 0 then a else min a b
def zad (a p : Nat) : Nat := if a = 0 then 0 else a + p
def zjo (a w : Nat) : Nat := if a = 0 then 0 else if w = 0 then 0 else a + w - 1
def zen (B o : Nat) : Nat := if o = 0 then B else o - 1
theorem zmn_le {a b C : Nat} (ha : a ≤ C) (hb : b ≤ C) : zmn a b ≤ C := by
  unfold zmn; split
  · exact hb
  · split
    · exact ha
    · omega
theorem zad_le {a p C D : Nat} (ha : a ≤ C) (hp : p ≤ D) : zad a p ≤ C + D := by
  unfold zad; split <;> omega
theorem zjo_le {a w C D : Nat} (ha : a ≤ C) (hw : w ≤ D) : zjo a w ≤ C + D := by
  unfold zjo; split
  · omega
  · split <;> omega
theorem zen_le {B o : Nat} (h : o ≤ B) : zen B o ≤ B := by unfold zen; split <;> omega
theorem zen_lt {B o : Nat} (h : o ≤ B) (h0 : o ≠ 0) : zen B o < B := by unfold zen; rw [if_neg h0]; omega
theorem zen_0 {B : Nat} : zen B 0 = B := rfl
theorem zen_S {B o : Nat} (h : o ≠ 0) : zen B o = o - 1 := if_neg h
theorem zp_min {x y : Nat} (hx : x < 2147483648) (hy : y < 2147483648) : pd_min (zn x) (zn y) = zn (min x y) := by
  unfold pd_min
  rw [zi_lt hy hx]
  by_cases c : y < x
  · rw [if_pos c]; congr 1; omega
  · rw [if_neg c]; congr 1; omega
theorem zen_min {B a b : Nat} (ha : a ≤ B) (hb : b ≤ B) : min (zen B a) (zen B b) = zen B (zmn a b) := by
  unfold zmn
  by_cases c : a = 0
  · subst c; rw [if_pos rfl, zen_0]; have := zen_le hb; omega
  · rw [if_neg c]
    by_cases d : b = 0
    · subst d; rw [if_pos rfl, zen_0]; have := zen_le ha; omega
    · rw [if_neg d, zen_S c, zen_S d, zen_S (by omega)]; omega
/-- the least cost from begin to a state ahead of step t; after k edges of a step -/
def zAe (cd : Nat → Nat) (p : Nat → Nat) (f : Nat → Nat) : Nat → Nat → Nat
  | 0, _ => 0
  | k + 1, s => if s = znx cd (k / 2) (k % 2) then zmn (zAe cd p f k s) (zad (f (k / 2)) (p k)) else zAe cd p f k s
def zAt (cd : Nat → Nat) (P : Nat → Nat → Nat) (begin : Nat) : Nat → Nat → Nat
  | 0, s => if s = begin then 1 else 0
  | t + 1, s => zAe cd (P t) (zAt cd P begin t) (2 * 2 ^ cd 1) s
theorem zAe_le {cd p f : Nat → Nat} {C : Nat} (hp : ∀ e, p e ≤ 10000) (hf : ∀ s, f s ≤ C) : ∀ k s, zAe cd p f k s ≤ C + 10000
  | 0, _ => by unfold zAe; omega
  | k + 1, s => by
    have h := zAe_le (cd := cd) hp hf k s
    unfold zAe
    split
    · exact zmn_le h (zad_le (hf _) (hp _))
    · exact h
theorem zAt_le {cd : Nat → Nat} {P : Nat → Nat → Nat} {begin : Nat} (hP : ∀ t e, P t e ≤ 10000) : ∀ t s, zAt cd P begin t s ≤ 1 + 10000 * t
  | 0, s => by unfold zAt; split <;> omega
  | t + 1, s => by
    have h := zAe_le (cd := cd) (hP t) (zAt_le (cd := cd) (begin := begin) hP t) (2 * 2 ^ cd 1) s
    rw [Nat.mul_succ, ← Nat.add_assoc]
    exact h
/-- the least cost on to an end; d bits are left -/
def zBt (cd : Nat → Nat) (P : Nat → Nat → Nat) (n : Nat) (E F : Nat → Nat) : Nat → Nat → Nat
  | 0, s => if E s = 1 then F s + 1 else 0
  | d + 1, s => zmn (zad (zBt cd P n E F d (znx cd s 0)) (P (n - (d + 1)) (2 * s))) (zad (zBt cd P n E F d (znx cd s 1)) (P (n - (d + 1)) (2 * s + 1)))
theorem zBt_le {cd E F : Nat → Nat} {P : Nat → Nat → Nat} {n : Nat} (hP : ∀ t e, P t e ≤ 10000) (hF : ∀ s, F s ≤ 100000) : ∀ d s, zBt cd P n E F d s ≤ 100001 + 10000 * d
  | 0, s => by unfold zBt; have := hF s; split <;> omega
  | d + 1, s => by
    rw [Nat.mul_succ, ← Nat.add_assoc]
    exact zmn_le (zad_le (zBt_le hP hF d _) (hP _ _)) (zad_le (zBt_le hP hF d _) (hP _ _))
/-- the least of many -/
def zfo (g : Nat → Nat) (x0 : Nat) : Nat → Nat
  | 0 => x0
  | s + 1 => zmn (zfo g x0 s) (g s)
theorem zfo_le {g : Nat → Nat} {x0 C : Nat} (h0 : x0 ≤ C) (hg : ∀ s, g s ≤ C) : ∀ s, zfo g x0 s ≤ C
  | 0 => h0
  | s + 1 => zmn_le (zfo_le h0 hg s) (hg s)
/-! the class reaches out -/
def zRS (I : pd_I) (cd : Nat → Nat) (P : Nat → Nat → Nat) (begin n t k : Nat) : Prop := ∀ t' s, t' < n → s < 2 ^ cd 1 → I 44 (t' * 64 + s) = zn (zen zEE (if t' ≤ t then zAt cd P begin t' s else if t' = t + 1 then zAe cd (P t) (zAt cd P begin t) k s else 0))
theorem zq_reach {I : pd_I} {n begin T : Nat} {cd : Nat → Nat} {P : Nat → Nat → Nat} (hv : zCv cd) (hla : zLa I cd T P) (hT : T ≤ 206) (hnT : n ≤ T) (hn1 : 1 ≤ n) (hn : n ≤ 200) (hb : begin < 2 ^ cd 1) (hP : ∀ t e, P t e ≤ 10000) :
    zT (fn_X6_reach I (zn begin) (zn n)) (fun I' => zF [44] I I' ∧ ∀ t, t < n → ∀ s, s < 2 ^ cd 1 → I' 44 (t * 64 + s) = zn (zen zEE (zAt cd P begin t s))) := by
  have hS := zCv_S hv
  have hzE := zE_lt
  have hzB := zE_big
  have hz2 := zE_2
  unfold fn_X6_reach
  generalize hkt : (fun zI2 => pd_gd (pd_in (zn begin) 12800) (pd_let (pd_ui zI2 44 (zn begin).toNatClampNeg 0) fun zI4 => fl_X6_reach_33 (zn n) (fun zI6 => some zI6) pd_FU 0 zI4)) = kt
  rw [zn_0]
  refine zl_loop (fun fu i (st : pd_I) => fl_X6_reach_2 (zn n) kt fu i st) (n * 64) (fun i st => zF [44] I st ∧ ∀ j, j < i → st 44 j = zn zEE) ?_ ?_ pd_FU 0 I (by omega) (zFU (by omega)) ⟨zF_rfl, fun j hj => absurd hj (Nat.not_lt_zero j)⟩
  · rintro fu I1 ⟨hF1, hD1⟩
    try simp only []
    rw [fl_X6_reach_2, zn_64, zn_mul, if_pos (by rw [zn_le (by omega) (by omega)]; omega), ← hkt]
    simp only []
    rw [zn_in2 (by omega) (by omega), zb_gd, zn_nat (by omega), zb_let, zn_0]
    refine zl_loop (fun fu t (st : pd_I) => fl_X6_reach_33 (zn n) (fun zI6 => some zI6) fu t st) (n - 1) (fun t st => zF [44] I st ∧ zRS st cd P begin n t 0) ?_ ?_ pd_FU 0 _ (by omega) (zFU (by omega)) ⟨zF_u (by decide) hF1, fun t' s ht' hs => ?_⟩
    · rintro fu I2 ⟨hF2, hD2⟩
      try simp only []
      rw [fl_X6_reach_33, zn_1, zn_sub hn1, if_pos (by rw [zn_le (by omega) (by omega)]; omega)]
      refine ⟨_, rfl, hF2, fun t ht s hs => ?_⟩
      rw [hD2 t s ht hs, if_pos (by omega)]
    · rintro fu t I2 ht ⟨hF2, hD2⟩ ih
      try simp only [] at ih ⊢
      rw [fl_X6_reach_33, zn_1, zn_sub hn1, if_neg (by rw [zn_le (by omega) (by omega)]; omega), zn_0]
      generalize hkt2 : (fun zI8 => pd_let (zn t + zn 1) fun zv5 => fl_X6_reach_33 (zn n) (fun zI6 => some zI6) fu zv5 zI8) = kt2
      refine zl_loop (fun fu2 e (st : pd_I) => fl_X6_reach_43 (zn t) kt2 fu2 e st) (2 * 2 ^ cd 1) (fun e st => zF [44] I st ∧ zRS st cd P begin n t e) ?_ ?_ pd_FU 0 I2 (by omega) (zFU (by omega)) ⟨hF2, hD2⟩
      · rintro fu2 I3 ⟨hF3, hD3⟩
        have e3 : I3 11 3 = zn (2 ^ cd 1) := by rw [hF3 11 (by decide)]; exact hla.1
        try simp only []
        rw [fl_X6_reach_43, e3, zn_2, zn_mul, if_pos (by rw [zn_le (by omega) (by omega)]; omega), ← hkt2]
        simp only [zb_let, zn_add]
        refine ih _ ⟨hF3, fun t' s ht' hs => ?_⟩
        rw [hD3 t' s ht' hs]
        by_cases c1 : t' ≤ t
        · rw [if_pos c1, if_pos (by omega)]
        · rw [if_neg c1]
          by_cases c2 : t' = t + 1
          · subst c2; rw [if_pos rfl, if_pos (Nat.le_refl _)]; rfl
          · rw [if_neg c2, if_neg (by omega)]; split <;> rfl
      · rintro fu2 e I3 he ⟨hF3, hD3⟩ ih2
        have e3 : I3 11 3 = zn (2 ^ cd 1) := by rw [hF3 11 (by decide)]; exact hla.1
        have hla3 : zLa I3 cd T P := zLa_F (by decide) (by decide) (by decide) (by decide) hF3 hla
        have hx := hla3.2.1 e he
        have hnx : znx cd (e / 2) (e % 2) < 2 ^ cd 1 := znx_lt
        have hpr := zq_priceOf (t := t) hv hla3 hT (by omega) he
        have hA := zAt_le (cd := cd) (begin := begin) hP t (e / 2)
        have hAe := zAe_le (cd := cd) (hP t) (zAt_le (cd := cd) (begin := begin) hP t) e (znx cd (e / 2) (e % 2))
        have hPe := hP t e
        have hfrom := hD3 t (e / 2) (by omega) (by omega)
        rw [if_pos (Nat.le_refl _)] at hfrom
        have hto := hD3 (t + 1) (znx cd (e / 2) (e % 2)) (by omega) hnx
        rw [if_neg (by omega), if_pos rfl] at hto
        have fin : ∀ I4 : pd_I, zF [44] I3 I4 → (∀ j, I4 44 j = if j = (t + 1) * 64 + znx cd (e / 2) (e % 2) then zn (zen zEE (zAe cd (P t) (zAt cd P begin t) (e + 1) (znx cd (e / 2) (e % 2)))) else I3 44 j) → zT (fl_X6_reach_43 (zn t) kt2 fu2 (zn (e + 1)) I4) (fun I' => zF [44] I I' ∧ ∀ t, t < n → ∀ s, s < 2 ^ cd 1 → I' 44 (t * 64 + s) = zn (zen zEE (zAt cd P begin t s))) := by
          intro I4 hF4 hj
          refine ih2 _ ⟨zF_tr hF3 hF4, fun t' s ht' hs => ?_⟩
          rw [hj]
          by_cases c : t' * 64 + s = (t + 1) * 64 + znx cd (e / 2) (e % 2)
          · have e1 : t' = t + 1 := by omega
            have e2 : s = znx cd (e / 2) (e % 2) := by omega
            rw [if_pos c, if_neg (by omega), if_pos e1, e2]
          · rw [if_neg c, hD3 t' s ht' hs]
            by_cases c1 : t' ≤ t
            · rw [if_pos c1, if_pos c1]
            · rw [if_neg c1, if_neg c1]
              by_cases c2 : t' = t + 1
              · rw [if_pos c2, if_pos c2]
                congr 2
                conv => rhs; unfold zAe
                rw [if_neg (fun h => c (by rw [c2, h]))]
              · rw [if_neg c2, if_neg c2]
        have hst : zAe cd (P t) (zAt cd P begin t) (e + 1) (znx cd (e / 2) (e % 2)) = zmn (zAe cd (P t) (zAt cd P begin t) e (znx cd (e / 2) (e % 2))) (zad (zAt cd P begin t (e / 2)) (P t e)) := by
          conv => lhs; unfold zAe
          rw [if_pos rfl]
        try simp only []
        have i2 : zn t * zn 64 + zn e / zn 2 = zn (t * 64 + e / 2) := by rw [zn_div (by omega) (by omega), zn_mul, zn_add]
        have i3 : (zn t + zn 1) * zn 64 + zn (znx cd (e / 2) (e % 2)) = zn ((t + 1) * 64 + znx cd (e / 2) (e % 2)) := by rw [zn_add, zn_mul, zn_add]
        rw [fl_X6_reach_43, e3, zn_2, zn_mul, if_neg (by rw [zn_le (by omega) (by omega)]; omega), zb_let, zn_in2 (by omega) (by omega), zb_gd, zn_nat (by omega), hx, zn_1, zn_64, i2, i3, zb_let, zn_in2 (by omega) (by omega), zb_gd, zn_nat (by omega), hfrom, zn_E, zi_le (by omega) (by have := zen_le (B := zEE) (o := zAt cd P begin t (e / 2)) (by omega); omega)]
        by_cases c : zAt cd P begin t (e / 2) = 0
        · rw [c, zen_0, if_pos (Nat.le_refl _), zb_bd, zb_let, zn_add]
          refine fin I3 zF_rfl (fun j => ?_)
          by_cases d : j = (t + 1) * 64 + znx cd (e / 2) (e % 2)
          · rw [if_pos d, hst, c, d, hto]
            congr 2
            unfold zad zmn
            rw [if_pos rfl]
            split <;> simp_all
          · rw [if_neg d]
        · have hlt := zen_lt (B := zEE) (o := zAt cd P begin t (e / 2)) (by omega) c
          have hle := zen_le (B := zEE) (o := zAe cd (P t) (zAt cd P begin t) e (znx cd (e / 2) (e % 2))) (by omega)
          rw [if_neg (by omega), zn_in2 (by omega) (by omega), zb_gd, zb_gd, zn_nat (by omega), hpr, zb_bd, zb_gd, hto, zn_add, zp_min (by omega) (by rw [zen_S c]; omega), zb_let, zb_bd, zb_let, zn_add]
          refine fin _ (zF_u (by decide) zF_rfl) (fun j => ?_)
          rw [zu_same, zu_app, hst]
          by_cases d : j = (t + 1) * 64 + znx cd (e / 2) (e % 2)
          · rw [if_pos d, if_pos d, ← zen_min (by omega) (by unfold zad; rw [if_neg c]; omega)]
            congr 2
            unfold zad
            rw [if_neg c, zen_S c, zen_S (show zAt cd P begin t (e / 2) + P t e ≠ 0 by omega)]
            omega
          · rw [if_neg d, if_neg d]
    · rw [zu_same, zu_app]
      by_cases c : t' * 64 + s = begin
      · rw [if_pos c, if_pos (by omega)]
        have e1 : t' = 0 := by omega
        subst e1
        unfold zAt
        rw [if_pos (by omega)]; rfl
      · rw [if_neg c, hD1 _ (by omega)]
        by_cases e1 : t' = 0
        · subst e1
          rw [if_pos (by omega)]
          unfold zAt
          rw [if_neg (by omega)]; rfl
        · rw [if_neg (by omega)]; split <;> rfl
  · rintro fu i I1 hi ⟨hF1, hD1⟩ ih
    try simp only [] at ih ⊢
    rw [fl_X6_reach_2, zn_64, zn_mul, if_neg (by rw [zn_le (by omega) (by omega)]; omega), zn_in2 (by omega) (by omega), zb_gd, zn_nat (by omega), zb_let, zb_let, zn_1, zn_add, zn_E]
    refine ih _ ⟨zF_u (by decide) hF1, fun j hj => ?_⟩
    rw [zu_same, zu_app]
    by_cases c : j = i
    · rw [if_pos c]
    · rw [if_neg c]; exact hD1 j (by omega)
