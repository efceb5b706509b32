/-! FEW in numbers: 0 is 'not kept', v + 1 the cost v; cost, where from, which bit, after k edges of a step -/
def zFc (cd p f : Nat → Nat) (tl k s N : Nat) : Bool := decide (s = znx cd (k / 2) (k % 2)) && decide (f (k / 2) ≠ 0) && (decide (tl = 0) || decide (k % 2 = zfb cd (k / 2))) && (decide (N = 0) || decide (f (k / 2) + p k < N))
def zFg (cd p f : Nat → Nat) (tl : Nat) : Nat → Nat → Nat × Nat × Nat
  | 0, _ => (0, 0, 0)
  | k + 1, s => if zFc cd p f tl k s (zFg cd p f tl k s).1 = true then (f (k / 2) + p k, k / 2, k % 2) else zFg cd p f tl k s
def zls (a b : Nat) : Bool := decide (a ≠ 0) && (decide (b = 0) || decide (a < b))
/-- how many of the first k are ahead of s -/
def zct (f : Nat → Nat) (s : Nat) : Nat → Nat
  | 0 => 0
  | k + 1 => zct f s k + (if (zls (f k) (f s) || (decide (f k = f s) && decide (k < s))) = true then 1 else 0)
def zth (w S : Nat) (f : Nat → Nat) (s : Nat) : Nat := if zct f s S < w then f s else 0
/-- the least of the first k + 1 -/
def zlt (f : Nat → Nat) : Nat → Nat
  | 0 => 0
  | k + 1 => if zls (f (k + 1)) (f (zlt f k)) = true then k + 1 else zlt f k
def zKp (cd : Nat → Nat) (P : Nat → Nat → Nat) (n w : Nat) : Nat → Nat → Nat
  | 0, s => if s = 0 then 1 else 0
  | t + 1, s => zth w (2 ^ cd 1) (fun s => (zFg cd (P t) (zKp cd P n w t) (if t < n then 0 else 1) (2 * 2 ^ cd 1) s).1) s
theorem zth_le {w S : Nat} {f : Nat → Nat} {s : Nat} : zth w S f s ≤ f s := by
  unfold zth; split
  · exact Nat.le_refl _
  · exact Nat.zero_le _
theorem zls_iff {a b : Nat} : zls a b = true ↔ a ≠ 0 ∧ (b = 0 ∨ a < b) := by unfold zls; simp
theorem zls_en {a b B : Nat} (ha : a ≤ B) (hb : b ≤ B) : zen B a < zen B b ↔ zls a b = true := by
  rw [zls_iff]
  by_cases c : a = 0
  · subst c
    have := zen_le hb
    rw [zen_0]
    omega
  · by_cases d : b = 0
    · subst d
      have := zen_lt ha c
      rw [zen_0]; omega
    · rw [zen_S c, zen_S d]; omega
theorem zen_inj {a b B : Nat} (ha : a ≤ B) (hb : b ≤ B) : zen B a = zen B b ↔ a = b := by
  by_cases c : a = 0
  · subst c
    by_cases d : b = 0
    · subst d; simp
    · have := zen_lt hb d
      rw [zen_0]; omega
  · by_cases d : b = 0
    · subst d
      have := zen_lt ha c
      rw [zen_0]; omega
    · rw [zen_S c, zen_S d]; omega
theorem zFg_le {cd p f : Nat → Nat} {tl C : Nat} (hp : ∀ e, p e ≤ 10000) (hf : ∀ s, f s ≤ C) : ∀ k s, (zFg cd p f tl k s).1 ≤ C + 10000
  | 0, _ => Nat.zero_le _
  | k + 1, s => by
    have := zFg_le (cd := cd) (tl := tl) hp hf k s
    have := hp k
    have := hf (k / 2)
    unfold zFg
    split
    · show f (k / 2) + p k ≤ _; omega
    · assumption
theorem zKp_le {cd : Nat → Nat} {P : Nat → Nat → Nat} {n w : Nat} (hP : ∀ t e, P t e ≤ 10000) : ∀ t s, zKp cd P n w t s ≤ 1 + 10000 * t
  | 0, s => by unfold zKp; split <;> omega
  | t + 1, s => by
    have h := zFg_le (cd := cd) (tl := if t < n then 0 else 1) (hP t) (zKp_le (cd := cd) (n := n) (w := w) hP t) (2 * 2 ^ cd 1) s
    unfold zKp
    refine Nat.le_trans zth_le ?_
    show (zFg cd (P t) (zKp cd P n w t) (if t < n then 0 else 1) (2 * 2 ^ cd 1) s).1 ≤ _
    rw [Nat.mul_succ, ← Nat.add_assoc]
    exact h
/-- where a state comes from: what is told of it is so -/
theorem zFg_ok {cd p f : Nat → Nat} {tl : Nat} : ∀ k s, (zFg cd p f tl k s).1 ≠ 0 → (zFg cd p f tl k s).2.1 * 2 + (zFg cd p f tl k s).2.2 < k ∧ (zFg cd p f tl k s).2.2 < 2 ∧ s = znx cd (zFg cd p f tl k s).2.1 (zFg cd p f tl k s).2.2 ∧ f (zFg cd p f tl k s).2.1 ≠ 0 ∧ (tl = 0 ∨ (zFg cd p f tl k s).2.2 = zfb cd (zFg cd p f tl k s).2.1)
  | 0, _, h => absurd rfl h
  | k + 1, s, h => by
    unfold zFg at h ⊢
    split at h
    · rename_i c
      rw [if_pos c]
      unfold zFc at c
      simp only [Bool.and_eq_true, Bool.or_eq_true, decide_eq_true_eq] at c
      obtain ⟨⟨⟨c1, c2⟩, c3⟩, c4⟩ := c
      refine ⟨?_, Nat.mod_lt _ (by decide), c1, c2, c3⟩
      show k / 2 * 2 + k % 2 < k + 1
      omega
    · rename_i c
      rw [if_neg c]
      obtain ⟨h1, h2⟩ := zFg_ok k s h
      exact ⟨by omega, h2⟩
/-- a state to which an edge goes is reached -/
theorem zFg_pos {cd p f : Nat → Nat} {tl : Nat} : ∀ k e, e < k → f (e / 2) ≠ 0 → (tl = 0 ∨ e % 2 = zfb cd (e / 2)) → (zFg cd p f tl k (znx cd (e / 2) (e % 2))).1 ≠ 0
  | 0, e, h, _, _ => absurd h (Nat.not_lt_zero _)
  | k + 1, e, h, hf, ht => by
    unfold zFg
    split
    · rename_i c
      unfold zFc at c
      simp only [Bool.and_eq_true, Bool.or_eq_true, decide_eq_true_eq] at c
      show f (k / 2) + p k ≠ 0
      have := c.1.1.2
      omega
    · rename_i c
      by_cases e1 : e = k
      · subst e1
        unfold zFc at c
        simp only [Bool.and_eq_true, Bool.or_eq_true, decide_eq_true_eq] at c
        intro h0
        exact c ⟨⟨⟨trivial, hf⟩, ht⟩, Or.inl h0⟩
      · exact zFg_pos k e (by omega) hf ht
theorem zlt_ok {f : Nat → Nat} : ∀ k, zlt f k ≤ k ∧ ∀ j, j ≤ k → ¬ zls (f j) (f (zlt f k)) = true ∧ (f j = f (zlt f k) → zlt f k ≤ j)
  | 0 => ⟨Nat.le_refl _, fun j hj => by
      have : j = 0 := by omega
      subst this
      exact ⟨by rw [zls_iff]; show ¬ (f 0 ≠ 0 ∧ (f 0 = 0 ∨ f 0 < f 0)); omega, fun _ => Nat.le_refl _⟩⟩
  | k + 1 => by
    obtain ⟨h1, h2⟩ := zlt_ok (f := f) k
    unfold zlt
    split
    · rename_i c
      refine ⟨Nat.le_refl _, fun j hj => ?_⟩
      rw [zls_iff] at c
      by_cases e : j = k + 1
      · subst e
        exact ⟨by rw [zls_iff]; omega, fun _ => Nat.le_refl _⟩
      · obtain ⟨g1, g2⟩ := h2 j (by omega)
        rw [zls_iff] at g1
        refine ⟨by rw [zls_iff]; omega, fun e2 => ?_⟩
        exact absurd e2 (by omega)
    · rename_i c
      refine ⟨by omega, fun j hj => ?_⟩
      by_cases e : j = k + 1
      · subst e; exact ⟨c, fun _ => by omega⟩
      · exact h2 j (by omega)
theorem zct_0 {f : Nat → Nat} {s : Nat} : ∀ k, (∀ j, j < k → ¬ zls (f j) (f s) = true ∧ (f j = f s → s ≤ j)) → zct f s k = 0
  | 0, _ => rfl
  | k + 1, h => by
    unfold zct
    rw [zct_0 k (fun j hj => h j (by omega))]
    obtain ⟨h1, h2⟩ := h k (by omega)
    rw [if_neg]
    intro c
    simp only [Bool.or_eq_true, Bool.and_eq_true, decide_eq_true_eq] at c
    rcases c with c | ⟨c1, c2⟩
    · exact h1 c
    · have := h2 c1; omega
/-- some state is always kept -/
theorem zKp_some {cd : Nat → Nat} {P : Nat → Nat → Nat} {n w : Nat} (hv : zCv cd) (hw : 1 ≤ w) : ∀ t, ∃ s, s < 2 ^ cd 1 ∧ zKp cd P n w t s ≠ 0
  | 0 => ⟨0, by have := zCv_S hv; omega, by unfold zKp; rw [if_pos rfl]; omega⟩
  | t + 1 => by
    have hS := zCv_S hv
    obtain ⟨s, hs, h⟩ := zKp_some (P := P) (n := n) hv hw t
    have hfb := zfb_lt cd s
    have hpos := zFg_pos (cd := cd) (p := P t) (f := zKp cd P n w t) (tl := if t < n then 0 else 1) (2 * 2 ^ cd 1) (2 * s + zfb cd s) (by omega) (by rw [show (2 * s + zfb cd s) / 2 = s by omega]; exact h) (Or.inr (by rw [show (2 * s + zfb cd s) / 2 = s by omega]; omega))
    obtain ⟨f, hf⟩ : ∃ f, f = fun s => (zFg cd (P t) (zKp cd P n w t) (if t < n then 0 else 1) (2 * 2 ^ cd 1) s).1 := ⟨_, rfl⟩
    obtain ⟨l1, l2⟩ := zlt_ok (f := f) (2 ^ cd 1 - 1)
    refine ⟨zlt f (2 ^ cd 1 - 1), by omega, ?_⟩
    show zth w (2 ^ cd 1) (fun s => (zFg cd (P t) (zKp cd P n w t) (if t < n then 0 else 1) (2 * 2 ^ cd 1) s).1) (zlt f (2 ^ cd 1 - 1)) ≠ 0
    rw [← hf]
    unfold zth
    rw [zct_0 (2 ^ cd 1) (fun j hj => l2 j (by omega)), if_pos (by omega)]
    have hx : znx cd ((2 * s + zfb cd s) / 2) ((2 * s + zfb cd s) % 2) < 2 ^ cd 1 := znx_lt
    obtain ⟨g1, -⟩ := l2 _ (by omega : znx cd ((2 * s + zfb cd s) / 2) ((2 * s + zfb cd s) % 2) ≤ 2 ^ cd 1 - 1)
    have hq : f (znx cd ((2 * s + zfb cd s) / 2) ((2 * s + zfb cd s) % 2)) ≠ 0 := by rw [hf]; exact hpos
    rw [zls_iff] at g1
    omega
theorem zc_tl0 : ∀ c ≤ 6, ∀ j < c, ∀ s < 64, s % 2 ^ j = 0 → (2 * s) % 2 ^ c % 2 ^ (j + 1) = 0 := by decide +kernel
/-- at the end of a TAIL only STATE 0 can be -/
theorem zKp_tail {cd : Nat → Nat} {P : Nat → Nat → Nat} {n w : Nat} (hv : zCv cd) : ∀ j, j ≤ cd 1 → ∀ s, s < 2 ^ cd 1 → zKp cd P n w (n + j) s ≠ 0 → s % 2 ^ j = 0
  | 0, _, s, _, _ => by simp [Nat.mod_one]
  | j + 1, hj, s, hs, h => by
    have hS := zCv_S hv
    have h1 : (zFg cd (P (n + j)) (zKp cd P n w (n + j)) (if n + j < n then 0 else 1) (2 * 2 ^ cd 1) s).1 ≠ 0 := by
      intro e
      apply h
      show zth w (2 ^ cd 1) (fun s => (zFg cd (P (n + j)) (zKp cd P n w (n + j)) (if n + j < n then 0 else 1) (2 * 2 ^ cd 1) s).1) s = 0
      exact Nat.le_zero.mp (Nat.le_trans zth_le (Nat.le_of_eq e))
    obtain ⟨q1, q2, q3, q4, q5⟩ := zFg_ok _ _ h1
    rw [if_neg (by omega)] at q1 q2 q3 q4 q5
    have q6 : (zFg cd (P (n + j)) (zKp cd P n w (n + j)) 1 (2 * 2 ^ cd 1) s).2.2 = zfb cd (zFg cd (P (n + j)) (zKp cd P n w (n + j)) 1 (2 * 2 ^ cd 1) s).2.1 := by omega
    obtain ⟨r, hr⟩ : ∃ r, r = (zFg cd (P (n + j)) (zKp cd P n w (n + j)) 1 (2 * 2 ^ cd 1) s).2.1 := ⟨_, rfl⟩
    rw [q6] at q3 q1
    rw [← hr] at q1 q3 q4
    have ih := zKp_tail (P := P) (n := n) (w := w) hv j (by omega) r (by omega) q4
    rw [q3]
    unfold znx
    have hx : zfb cd r ^^^ zfb cd r = 0 := Nat.xor_self _
    rw [hx, Nat.add_zero]
    exact zc_tl0 _ hv.2.2.1 j (by omega) r (by omega) ih

/-! the class: goOn, thin -/
theorem zq_goOn {I : pd_I} {Z : pd_R} {n na la nc lc t tl T : Nat} {cd f : Nat → Nat} {P : Nat → Nat → Nat} (hn : 133 ≤ n) (hZ : zZs Z na la nc lc) (hv : zCv cd) (hla : zLa I cd T P) (hT : T ≤ 206) (ht : t < T) (htl : tl ≤ 1) (hP : ∀ e, P t e ≤ 10000) (hf : ∀ s, f s ≤ 2200000) (hL : ∀ s, s < 2 ^ cd 1 → I la s = zn (zen zEE (f s))) :
    zT (fn_X5_goOn I Z n (zn t) (zn tl)) (fun r => zF [37, 38, 42] I r.1 ∧ (∀ b, b ≠ 36 → r.2 b = Z b) ∧ zZs r.2 la na nc lc ∧ (∀ s, s < 2 ^ cd 1 → r.1 na s = zn (zen zEE (zFg cd (P t) f tl (2 * 2 ^ cd 1) s).1)) ∧ (∀ s, s < 2 ^ cd 1 → (zFg cd (P t) f tl (2 * 2 ^ cd 1) s).1 ≠ 0 → r.1 42 (t * 64 + s) = zn (zFg cd (P t) f tl (2 * 2 ^ cd 1) s).2.1) ∧ (∀ j, (j < t * 64 ∨ t * 64 + 64 ≤ j) → r.1 42 j = I 42 j)) := by
  have hS := zCv_S hv
  have hzE := zE_lt
  have hzB := zE_big
  obtain ⟨ha1, ha2, ha3, ha4⟩ := zZs_a hZ hn
  obtain ⟨g2, g3, g4, g5, g6, g7⟩ := hZ
  have hne : na ≠ la ∧ na ≠ 11 ∧ na ≠ 12 ∧ na ≠ 13 ∧ na ≠ 15 ∧ na ≠ 42 ∧ la ≠ 42 := by omega
  obtain ⟨n1, n2, n3, n4, n5, n6, n7⟩ := hne
  have hnaL : ∀ x ∈ [na, 42], x ∈ [37, 38, 42] := by intro x hx; simp at hx; simp; omega
  unfold fn_X5_goOn
  generalize hkt : (fun zI2 => fl_X5_goOn_29 (zn t) (zn tl) Z n (fun zI5 => pd_bd (Z 36 2) fun zq7 => pd_gd (pd_isArr zq7 512 n) (pd_bd (Z 36 3) fun zq8 => pd_gd (pd_isArr zq8 512 n) (pd_let (pd_ur Z 36 2 (some zq8)) fun zZ1 => pd_let (pd_ur zZ1 36 3 (some zq7)) fun zZ2 => some (zI5, zZ2)))) pd_FU 0 zI2) = kt
  rw [zn_0]
  refine zl_loop (fun fu s (st : pd_I) => fl_X5_goOn_2 Z n kt fu s st) (2 ^ cd 1) (fun s st => zF [na] I st ∧ ∀ s', s' < s → st na s' = zn zEE) ?_ ?_ pd_FU 0 I (by omega) (zFU (by omega)) ⟨zF_rfl, fun s' h => absurd h (Nat.not_lt_zero _)⟩
  · rintro fu I1 ⟨hF1, hD1⟩
    have e3 : I1 11 3 = zn (2 ^ cd 1) := by rw [hF1 11 (by intro h; simp at h; omega)]; exact hla.1
    try simp only []
    rw [fl_X5_goOn_2, e3, if_pos (by rw [zn_le (by omega) (by omega)]; omega), ← hkt]
    simp only []
    generalize hkt2 : (fun zI5 => pd_bd (Z 36 2) fun zq7 => pd_gd (pd_isArr zq7 512 n) (pd_bd (Z 36 3) fun zq8 => pd_gd (pd_isArr zq8 512 n) (pd_let (pd_ur Z 36 2 (some zq8)) fun zZ1 => pd_let (pd_ur zZ1 36 3 (some zq7)) fun zZ2 => some ((zI5 : pd_I), zZ2)))) = kt2
    rw [zn_0]
    refine zl_loop (fun fu e (st : pd_I) => fl_X5_goOn_29 (zn t) (zn tl) Z n kt2 fu e st) (2 * 2 ^ cd 1) (fun e st => zF [na, 42] I st ∧ (∀ s, s < 2 ^ cd 1 → st na s = zn (zen zEE (zFg cd (P t) f tl e s).1)) ∧ (∀ s, s < 2 ^ cd 1 → (zFg cd (P t) f tl e s).1 ≠ 0 → st 42 (t * 64 + s) = zn (zFg cd (P t) f tl e s).2.1) ∧ (∀ j, (j < t * 64 ∨ t * 64 + 64 ≤ j) → st 42 j = I 42 j)) ?_ ?_ pd_FU 0 I1 (by omega) (zFU (by omega)) ⟨zF_sub hF1 (by simp), hD1, fun s _ h => absurd rfl h, fun j _ => by rw [hF1 42 (by simp; omega)]⟩
    · rintro fu I2 ⟨hF2, hD2, hO2, hJ2⟩
      have e3 : I2 11 3 = zn (2 ^ cd 1) := by rw [hF2 11 (by intro h; simp at h; omega)]; exact hla.1
      try simp only []
      rw [fl_X5_goOn_29, e3, zn_2, zn_mul, if_pos (by rw [zn_le (by omega) (by omega)]; omega), ← hkt2]
      simp only [g2, g3, zb_bd, ha1, ha2, zb_gd, zb_let]
      obtain ⟨Z3, hZ3⟩ : ∃ Z3, Z3 = pd_ur (pd_ur Z 36 2 (some la)) 36 3 (some na) := ⟨_, rfl⟩
      rw [← hZ3]
      refine ⟨_, rfl, zF_sub hF2 hnaL, fun b hb => ?_, ⟨?_, ?_, ?_, ?_, by omega, g7⟩, hD2, hO2, hJ2⟩
      · show Z3 b = _; rw [hZ3, zup_ne hb, zup_ne hb]
      · show Z3 36 _ = _; rw [hZ3, zup_k (by omega), zup_same]
      · show Z3 36 _ = _; rw [hZ3, zup_same]
      · show Z3 36 _ = _; rw [hZ3, zup_k (by omega), zup_k (by omega)]; exact g4
      · show Z3 36 _ = _; rw [hZ3, zup_k (by omega), zup_k (by omega)]; exact g5
    · rintro fu e I2 he ⟨hF2, hD2, hO2, hJ2⟩ ih
      have e3 : I2 11 3 = zn (2 ^ cd 1) := by rw [hF2 11 (by intro h; simp at h; omega)]; exact hla.1
      have hla2 : zLa I2 cd T P := zLa_F (by intro h; simp at h; omega) (by intro h; simp at h; omega) (by intro h; simp at h; omega) (by intro h; simp at h; omega) hF2 hla
      have hx := hla2.2.1 e he
      have hnx : znx cd (e / 2) (e % 2) < 2 ^ cd 1 := znx_lt
      have hpr := zq_priceOf (t := t) hv hla2 hT ht he
      have hte := zc_tailEdge (s := e / 2) hv hla2 (by omega)
      have hfb := zfb_lt cd (e / 2)
      have bf := hf (e / 2)
      have bp := hP e
      have bN := zFg_le (cd := cd) (tl := tl) hP hf e (znx cd (e / 2) (e % 2))
      have hfrom : I2 la (e / 2) = zn (zen zEE (f (e / 2))) := by rw [hF2 la (by intro h; simp at h; omega)]; exact hL _ (by omega)
      have hto := hD2 _ hnx
      have lf := zen_le (B := zEE) (o := f (e / 2)) (by omega)
      have lN := zen_le (B := zEE) (o := (zFg cd (P t) f tl e (znx cd (e / 2) (e % 2))).1) (by omega)
      have skip : zFc cd (P t) f tl e (znx cd (e / 2) (e % 2)) (zFg cd (P t) f tl e (znx cd (e / 2) (e % 2))).1 = false → zT (fl_X5_goOn_29 (zn t) (zn tl) Z n kt2 fu (zn (e + 1)) I2) (fun r => zF [37, 38, 42] I r.1 ∧ (∀ b, b ≠ 36 → r.2 b = Z b) ∧ zZs r.2 la na nc lc ∧ (∀ s, s < 2 ^ cd 1 → r.1 na s = zn (zen zEE (zFg cd (P t) f tl (2 * 2 ^ cd 1) s).1)) ∧ (∀ s, s < 2 ^ cd 1 → (zFg cd (P t) f tl (2 * 2 ^ cd 1) s).1 ≠ 0 → r.1 42 (t * 64 + s) = zn (zFg cd (P t) f tl (2 * 2 ^ cd 1) s).2.1) ∧ (∀ j, (j < t * 64 ∨ t * 64 + 64 ≤ j) → r.1 42 j = I 42 j)) := by
        intro hc
        have same : ∀ s, zFg cd (P t) f tl (e + 1) s = zFg cd (P t) f tl e s := by
          intro s
          conv => lhs; unfold zFg
          rw [if_neg]
          intro h
          by_cases c : s = znx cd (e / 2) (e % 2)
          · rw [c, hc] at h; cases h
          · unfold zFc at h; rw [decide_eq_false c] at h; simp at h
        refine ih _ ⟨hF2, fun s hs => by rw [same]; exact hD2 s hs, fun s hs => by rw [same]; exact hO2 s hs, hJ2⟩
      try simp only []
      rw [fl_X5_goOn_29, e3, zn_2, zn_mul, if_neg (by rw [zn_le (by omega) (by omega)]; omega), zn_div (by omega) (by omega), zb_let, zn_in2 (by omega) (by omega), zb_gd, zn_nat (by omega), hx, zb_let, g3, zb_bd, ha2, zb_gd, zn_in2 (by omega) (by omega), zb_gd, zn_nat (by omega), hfrom, hte]
      have ex3 : (pd_bd (if (536870912 : Int32) ≤ zn (zen zEE (f (e / 2))) then some false else (if zn tl = 0 then some true else (pd_bd (some (zn (2 * (e / 2) + zfb cd (e / 2)))) fun zr3 => if zn e = zr3 then some true else (some false)))) fun zc4 => if zc4 = true then some (1 : Int32) else (some 0)) = some (zn (if f (e / 2) ≠ 0 ∧ (tl = 0 ∨ e % 2 = zfb cd (e / 2)) then 1 else 0)) := by
        rw [zn_E, zi_le (by omega) (by omega)]
        by_cases c1 : f (e / 2) = 0
        · rw [c1, zen_0, if_pos (Nat.le_refl _), zb_bd, if_neg (by decide), if_neg (by omega)]; rfl
        · have := zen_lt (B := zEE) (o := f (e / 2)) (by omega) c1
          rw [if_neg (by omega), zn_0, zi_eq (by omega) (by omega)]
          by_cases c2 : tl = 0
          · rw [if_pos c2, zb_bd, if_pos rfl, if_pos ⟨c1, Or.inl c2⟩]; rfl
          · rw [if_neg c2, zb_bd, zi_eq (by omega) (by omega)]
            by_cases c3 : e % 2 = zfb cd (e / 2)
            · rw [if_pos (by omega), zb_bd, if_pos rfl, if_pos ⟨c1, Or.inr c3⟩]; rfl
            · rw [if_neg (by omega), zb_bd, if_neg (by decide), if_neg (by omega)]
      rw [ex3, zb_bd, zn_0]
      by_cases c : f (e / 2) ≠ 0 ∧ (tl = 0 ∨ e % 2 = zfb cd (e / 2))
      · rw [if_pos c, if_neg zn_p0, zb_bd, ha2, zb_gd, zb_gd, hpr, zb_bd, g2, zb_bd, ha1, zb_gd, zn_in2 (by omega) (by omega), zb_gd, zn_nat (by omega), hto, hfrom, zn_add, zi_le (by omega) (by rw [zen_S c.1]; omega)]
        by_cases d : zen zEE (zFg cd (P t) f tl e (znx cd (e / 2) (e % 2))).1 ≤ zen zEE (f (e / 2)) + P t e
        · rw [if_pos d, zb_bd, zb_let, zn_1, zn_add]
          refine skip ?_
          rw [zen_S c.1] at d
          unfold zFc
          have : ¬ ((zFg cd (P t) f tl e (znx cd (e / 2) (e % 2))).1 = 0 ∨ f (e / 2) + P t e < (zFg cd (P t) f tl e (znx cd (e / 2) (e % 2))).1) := by
            rintro (h | h)
            · rw [h, zen_0] at d; omega
            · rw [zen_S (by omega)] at d; omega
          simp only [Bool.and_eq_false_imp, Bool.or_eq_false_iff, decide_eq_false_iff_not]
          intro _
          exact ⟨fun h => this (Or.inl h), fun h => this (Or.inr h)⟩
        · rw [if_neg d]
          have hc : zFc cd (P t) f tl e (znx cd (e / 2) (e % 2)) (zFg cd (P t) f tl e (znx cd (e / 2) (e % 2))).1 = true := by
            rw [zen_S c.1] at d
            have : (zFg cd (P t) f tl e (znx cd (e / 2) (e % 2))).1 = 0 ∨ f (e / 2) + P t e < (zFg cd (P t) f tl e (znx cd (e / 2) (e % 2))).1 := by
              by_cases h : (zFg cd (P t) f tl e (znx cd (e / 2) (e % 2))).1 = 0
              · exact Or.inl h
              · rw [zen_S h] at d; have := c.1; omega
            unfold zFc
            simp only [Bool.and_eq_true, Bool.or_eq_true, decide_eq_true_eq]
            exact ⟨⟨⟨trivial, c.1⟩, c.2⟩, this⟩
          have new : ∀ s, zFg cd (P t) f tl (e + 1) s = if s = znx cd (e / 2) (e % 2) then (f (e / 2) + P t e, e / 2, e % 2) else zFg cd (P t) f tl e s := by
            intro s
            conv => lhs; unfold zFg
            by_cases h : s = znx cd (e / 2) (e % 2)
            · rw [h, if_pos hc, if_pos rfl]
            · rw [if_neg h, if_neg]
              intro h2; unfold zFc at h2; rw [decide_eq_false h] at h2; simp at h2
          have fin : ∀ I3 : pd_I, I3 = pd_ui (pd_ui I2 na (znx cd (e / 2) (e % 2)) (zn (zen zEE (f (e / 2)) + P t e))) 42 (t * 64 + znx cd (e / 2) (e % 2)) (zn (e / 2)) → zT (fl_X5_goOn_29 (zn t) (zn tl) Z n kt2 fu (zn (e + 1)) I3) (fun r => zF [37, 38, 42] I r.1 ∧ (∀ b, b ≠ 36 → r.2 b = Z b) ∧ zZs r.2 la na nc lc ∧ (∀ s, s < 2 ^ cd 1 → r.1 na s = zn (zen zEE (zFg cd (P t) f tl (2 * 2 ^ cd 1) s).1)) ∧ (∀ s, s < 2 ^ cd 1 → (zFg cd (P t) f tl (2 * 2 ^ cd 1) s).1 ≠ 0 → r.1 42 (t * 64 + s) = zn (zFg cd (P t) f tl (2 * 2 ^ cd 1) s).2.1) ∧ (∀ j, (j < t * 64 ∨ t * 64 + 64 ≤ j) → r.1 42 j = I 42 j)) := by
            intro I3 hI3
            refine ih I3 ⟨by rw [hI3]; exact zF_u (by simp) (zF_u (by simp) hF2), fun s hs => ?_, fun s hs => ?_, fun j hj => ?_⟩
            · rw [hI3, zu_ne n6, zu_same, zu_app, new]
              by_cases h : s = znx cd (e / 2) (e % 2)
              · rw [if_pos h, if_pos h]
                show zn _ = zn (zen zEE (f (e / 2) + P t e))
                have := c.1
                rw [zen_S this, zen_S (show f (e / 2) + P t e ≠ 0 by omega)]
                congr 1; omega
              · rw [if_neg h, if_neg h]; exact hD2 s hs
            · rw [hI3, zu_same, zu_app, zu_ne n6.symm, new]
              by_cases h : s = znx cd (e / 2) (e % 2)
              · rw [if_pos h, if_pos (by omega)]; intro _; rfl
              · rw [if_neg h, if_neg (by omega)]; exact hO2 s hs
            · rw [hI3, zu_same, zu_app, zu_ne n6.symm, if_neg (by omega)]; exact hJ2 j hj
          simp (disch := omega) only [g2, g3, ha1, ha2, hfrom, zb_gd, zb_bd, zb_let, zn_64, zn_mul, zn_add, zn_in2, zn_nat, zn_by8, zn_1]
          exact fin _ rfl
      · rw [if_neg c, if_pos rfl, zb_bd, zb_let, zn_1, zn_add]
        refine skip ?_
        unfold zFc
        have : ¬ (f (e / 2) ≠ 0 ∧ (tl = 0 ∨ e % 2 = zfb cd (e / 2))) := c
        simp only [Bool.and_eq_false_imp, Bool.or_eq_false_iff, decide_eq_false_iff_not, Bool.and_eq_true, Bool.or_eq_true, decide_eq_true_eq]
        rintro ⟨⟨-, h1⟩, h2⟩
        exact absurd ⟨h1, h2⟩ c
  · rintro fu s I1 hs ⟨hF1, hD1⟩ ih
    have e3 : I1 11 3 = zn (2 ^ cd 1) := by rw [hF1 11 (by intro h; simp at h; omega)]; exact hla.1
    try simp only [] at ih ⊢
    rw [fl_X5_goOn_2, e3, if_neg (by rw [zn_le (by omega) (by omega)]; omega), g2, zb_bd, ha1, zb_gd, zn_in2 (by omega) (by omega), zb_gd, zn_nat (by omega), zb_let, zb_let, zn_1, zn_add, zn_E]
    refine ih _ ⟨zF_u (by simp) hF1, fun s' hs' => ?_⟩
    rw [zu_same, zu_app]
    by_cases c : s' = s
    · rw [if_pos c]
    · rw [if_neg c]; exact hD1 s' (by omega)
