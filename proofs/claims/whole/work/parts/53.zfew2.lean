/-! the class finds by few */ -/
theorem zq_thin {I : pd_I} {Z : pd_R} {n na la nc lc w : Nat} {cd f : Nat → Nat} (hn : 133 ≤ n) (hZ : zZs Z na la nc lc) (hv : zCv cd) (h3 : I 11 3 = zn (2 ^ cd 1)) (hw : w ≤ 64) (hf : ∀ s, f s ≤ 2300000) (hL : ∀ s, s < 2 ^ cd 1 → I la s = zn (zen zEE (f s))) :
    zT (fn_X5_thin I Z n (zn w)) (fun r => zF [37, 38] I r.1 ∧ (∀ b, b ≠ 36 → r.2 b = Z b) ∧ zZs r.2 la na nc lc ∧ (∀ s, s < 2 ^ cd 1 → r.1 na s = zn (zen zEE (zth w (2 ^ cd 1) f s)))) := by
  have hS := zCv_S hv
  have hzE := zE_lt
  have hzB := zE_big
  obtain ⟨ha1, ha2, ha3, ha4⟩ := zZs_a hZ hn
  obtain ⟨g2, g3, g4, g5, g6, g7⟩ := hZ
  have hne : na ≠ la ∧ na ≠ 11 := by omega
  obtain ⟨n1, n2⟩ := hne
  have hnaL : ∀ x ∈ [na], x ∈ [37, 38] := by intro x hx; simp at hx; simp; omega
  have hcount : ∀ (I1 : pd_I), I1 11 3 = zn (2 ^ cd 1) → (∀ s, s < 2 ^ cd 1 → I1 la s = zn (zen zEE (f s))) → ∀ s, s < 2 ^ cd 1 → ∀ kont : Int32 → Option (pd_I × pd_R), fl_X5_thin_18 (zn s) I1 Z n kont pd_FU (zn 0) (zn 0) = kont (zn (zct f s (2 ^ cd 1))) := by
    intro I1 e3 hL1 s hs kont
    refine zl_eq (fun fu k (st : Int32) => fl_X5_thin_18 (zn s) I1 Z n kont fu st k) (2 ^ cd 1) 0 (fun k => zn (zct f s k)) _ (fun fu => ?_) (fun fu k _ hk => ?_) pd_FU 0 (by omega) (by omega) (zFU (by omega))
    · try simp only []
      rw [fl_X5_thin_18, e3, if_pos (by rw [zn_le (by omega) (by omega)]; omega)]
    · try simp only []
      have ek := hL1 k hk
      have es := hL1 s hs
      have lk := zen_le (B := zEE) (o := f k) (by have := hf k; omega)
      have ls := zen_le (B := zEE) (o := f s) (by have := hf s; omega)
      have i1 := zls_en (B := zEE) (a := f k) (b := f s) (by have := hf k; omega) (by have := hf s; omega)
      have i2 := zen_inj (B := zEE) (a := f k) (b := f s) (by have := hf k; omega) (by have := hf s; omega)
      rw [fl_X5_thin_18, e3, if_neg (by rw [zn_le (by omega) (by omega)]; omega), g3, zb_bd, ha2, zb_gd, zn_in2 (by omega) (by omega), zb_gd, zb_bd, ha2, zb_gd, zn_in2 (by omega) (by omega), zb_gd, zn_nat (by omega), zn_nat (by omega), ek, es, zi_lt (by omega) (by omega)]
      by_cases c : zls (f k) (f s) = true
      · rw [if_pos (i1.mpr c), zb_let, zb_bd, zb_let, zn_1, zn_add, zn_add]
        show _ = fl_X5_thin_18 _ _ _ _ _ _ (zn (zct f s k + if _ then 1 else 0)) _
        rw [if_pos (by rw [c]; rfl)]
      · rw [if_neg (fun h => c (i1.mp h)), zb_bd, ha2, zb_gd, zb_gd, zb_bd, ha2, zb_gd, zb_gd, ek, es, zi_eq (by omega) (by omega)]
        by_cases d : f k = f s
        · rw [if_pos (i2.mpr d), zi_le (by omega) (by omega)]
          by_cases e : s ≤ k
          · rw [if_pos e, zb_bd, if_neg (by decide), zb_bd, zb_let, zn_1, zn_add]
            show _ = fl_X5_thin_18 _ _ _ _ _ _ (zn (zct f s k + if _ then 1 else 0)) _
            rw [if_neg (by rw [Bool.or_eq_true, Bool.and_eq_true, decide_eq_true_eq, decide_eq_true_eq]; rintro (h | h); exact c h; exact absurd h.2 (by omega))]
            rfl
          · rw [if_neg e, zb_bd, if_pos rfl, zb_let, zb_bd, zb_let, zn_1, zn_add, zn_add]
            show _ = fl_X5_thin_18 _ _ _ _ _ _ (zn (zct f s k + if _ then 1 else 0)) _
            rw [if_pos (by rw [Bool.or_eq_true, Bool.and_eq_true, decide_eq_true_eq, decide_eq_true_eq]; exact Or.inr ⟨d, by omega⟩)]
        · rw [if_neg (fun h => d (i2.mp h)), zb_bd, if_neg (by decide), zb_bd, zb_let, zn_1, zn_add]
          show _ = fl_X5_thin_18 _ _ _ _ _ _ (zn (zct f s k + if _ then 1 else 0)) _
          rw [if_neg (by rw [Bool.or_eq_true, Bool.and_eq_true, decide_eq_true_eq, decide_eq_true_eq]; rintro (h | h); exact c h; exact d h.1)]
          rfl
  have hcle : ∀ s k, zct f s k ≤ k := by
    intro s k
    induction k with
    | zero => exact Nat.le_refl _
    | succ k ih => unfold zct; split <;> omega
  unfold fn_X5_thin
  generalize hkt : (fun zI2 => pd_bd (Z 36 2) fun zq7 => pd_gd (pd_isArr zq7 512 n) (pd_bd (Z 36 3) fun zq8 => pd_gd (pd_isArr zq8 512 n) (pd_let (pd_ur Z 36 2 (some zq8)) fun zZ1 => pd_let (pd_ur zZ1 36 3 (some zq7)) fun zZ2 => some ((zI2 : pd_I), zZ2)))) = kt
  rw [zn_0]
  refine zl_loop (fun fu s (st : pd_I) => fl_X5_thin_2 (zn w) Z n kt fu s st) (2 ^ cd 1) (fun s st => zF [na] I st ∧ ∀ s', s' < s → st na s' = zn (zen zEE (zth w (2 ^ cd 1) f s'))) ?_ ?_ pd_FU 0 I (by omega) (zFU (by omega)) ⟨zF_rfl, fun s' h => absurd h (Nat.not_lt_zero _)⟩
  · rintro fu I1 ⟨hF1, hD1⟩
    have e3 : I1 11 3 = zn (2 ^ cd 1) := by rw [hF1 11 (by intro h; simp at h; omega)]; exact h3
    try simp only []
    rw [fl_X5_thin_2, e3, if_pos (by rw [zn_le (by omega) (by omega)]; omega), ← hkt]
    simp only [g2, g3, zb_bd, ha1, ha2, zb_gd, zb_let]
    obtain ⟨Z3, hZ3⟩ : ∃ Z3, Z3 = pd_ur (pd_ur Z 36 2 (some la)) 36 3 (some na) := ⟨_, rfl⟩
    rw [← hZ3]
    refine ⟨_, rfl, zF_sub hF1 hnaL, fun b hb => ?_, ⟨?_, ?_, ?_, ?_, by omega, g7⟩, hD1⟩
    · show Z3 b = _; rw [hZ3, zup_ne hb, zup_ne hb]
    · show Z3 36 _ = _; rw [hZ3, zup_k (by omega), zup_same]
    · show Z3 36 _ = _; rw [hZ3, zup_same]
    · show Z3 36 _ = _; rw [hZ3, zup_k (by omega), zup_k (by omega)]; exact g4
    · show Z3 36 _ = _; rw [hZ3, zup_k (by omega), zup_k (by omega)]; exact g5
  · rintro fu s I1 hs ⟨hF1, hD1⟩ ih
    have e3 : I1 11 3 = zn (2 ^ cd 1) := by rw [hF1 11 (by intro h; simp at h; omega)]; exact h3
    have hL1 : ∀ s, s < 2 ^ cd 1 → I1 la s = zn (zen zEE (f s)) := by rw [hF1 la (by intro h; simp at h; omega)]; exact hL
    have hc := hcle s (2 ^ cd 1)
    try simp only [] at ih ⊢
    have fin : zT (fl_X5_thin_2 (zn w) Z n kt fu (zn (s + 1)) (pd_ui I1 na s (zn (zen zEE (zth w (2 ^ cd 1) f s))))) (fun r => zF [37, 38] I r.1 ∧ (∀ b, b ≠ 36 → r.2 b = Z b) ∧ zZs r.2 la na nc lc ∧ (∀ s, s < 2 ^ cd 1 → r.1 na s = zn (zen zEE (zth w (2 ^ cd 1) f s)))) := by
      refine ih _ ⟨zF_u (by simp) hF1, fun s' hs' => ?_⟩
      rw [zu_same, zu_app]
      by_cases c : s' = s
      · rw [if_pos c, c]
      · rw [if_neg c]; exact hD1 s' (by omega)
    rw [fl_X5_thin_2, e3, if_neg (by rw [zn_le (by omega) (by omega)]; omega), zn_0, hcount I1 e3 hL1 s hs, g2, zb_bd, ha1, zb_gd, g3, zi_le (by omega) (by omega), zn_in2 (by omega) (by omega), zn_nat (by omega)]
    unfold zth at fin
    by_cases c : w ≤ zct f s (2 ^ cd 1)
    · rw [if_neg (by omega), zen_0] at fin
      rw [if_pos c, zb_bd, zb_gd, zb_let, zb_let, zn_1, zn_add, zn_E]
      exact fin
    · rw [if_pos (by omega)] at fin
      rw [if_neg c, zb_bd, ha2, zb_gd, zb_gd, hL1 s hs, zb_bd, zb_gd, zb_let, zb_let, zn_1, zn_add]
      exact fin
theorem zq_cheapest {I : pd_I} {Z : pd_R} {n na la nc lc : Nat} {cd f : Nat → Nat} (hn : 133 ≤ n) (hZ : zZs Z na la nc lc) (hv : zCv cd) (h3 : I 11 3 = zn (2 ^ cd 1)) (hf : ∀ s, f s ≤ 2300000) (hL : ∀ s, s < 2 ^ cd 1 → I la s = zn (zen zEE (f s))) :
    fn_X5_cheapestState I Z n = some (zn (zlt f (2 ^ cd 1 - 1))) := by
  have hS := zCv_S hv
  have hzE := zE_lt
  have hzB := zE_big
  obtain ⟨ha1, ha2, ha3, ha4⟩ := zZs_a hZ hn
  have g3 := hZ.2.1
  unfold fn_X5_cheapestState
  have key := zl_eq (fun fu k (st : Int32) => fl_X5_cheapestState_4 I Z n (fun zx3 => some zx3) fu st k) (2 ^ cd 1) 1 (fun k => zn (zlt f (k - 1))) (some (zn (zlt f (2 ^ cd 1 - 1)))) (fun fu => ?_) (fun fu k hk0 hk => ?_) pd_FU 1 (by omega) (by omega) (zFU (by omega))
  · exact key
  · try simp only []
    rw [fl_X5_cheapestState_4, h3, if_pos (by rw [zn_le (by omega) (by omega)]; omega)]
  · try simp only []
    obtain ⟨l1, -⟩ := zlt_ok (f := f) (k - 1)
    have ek := hL k hk
    have es := hL (zlt f (k - 1)) (by omega)
    have bk := hf k
    have bs := hf (zlt f (k - 1))
    have lk := zen_le (B := zEE) (o := f k) (by omega)
    have ls := zen_le (B := zEE) (o := f (zlt f (k - 1))) (by omega)
    have i1 := zls_en (B := zEE) (a := f k) (b := f (zlt f (k - 1))) (by omega) (by omega)
    have e : zlt f k = if zls (f k) (f (zlt f (k - 1))) = true then k else zlt f (k - 1) := by
      obtain ⟨q, rfl⟩ : ∃ q, k = q + 1 := ⟨k - 1, by omega⟩
      rfl
    rw [fl_X5_cheapestState_4, h3, if_neg (by rw [zn_le (by omega) (by omega)]; omega), g3, zb_bd, ha2, zb_gd, zn_in2 (by omega) (by omega), zb_gd, zb_bd, ha2, zb_gd, zn_in2 (by omega) (by omega), zb_gd, zn_nat (by omega), zn_nat (by omega), ek, es, zi_le (by omega) (by omega), Nat.add_sub_cancel, e]
    by_cases c : zls (f k) (f (zlt f (k - 1))) = true
    · rw [if_neg (by have := i1.mpr c; omega), if_pos c, zb_bd, zb_let, zn_1, zn_add]
    · rw [if_pos (by have : ¬ _ := fun h => c (i1.mp h); omega), if_neg c, zb_bd, zb_let, zn_1, zn_add]
/-! the way by few -/
def zGg (cd : Nat → Nat) (P : Nat → Nat → Nat) (n w t s : Nat) : Nat × Nat × Nat := zFg cd (P t) (zKp cd P n w t) (if t < n then 0 else 1) (2 * 2 ^ cd 1) s
def zbs (cd : Nat → Nat) (P : Nat → Nat → Nat) (n w e : Nat) : Nat → Nat
  | 0 => e
  | d + 1 => (zGg cd P n w (zst cd n - (d + 1)) (zbs cd P n w e d)).2.1
def zfe (cd : Nat → Nat) (P : Nat → Nat → Nat) (n w : Nat) : Nat := zlt (zKp cd P n w (zst cd n)) (2 ^ cd 1 - 1)
def zfw (cd : Nat → Nat) (P : Nat → Nat → Nat) (n w : Nat) : Nat × (Nat → Nat) × Nat := (zKp cd P n w (zst cd n) (zfe cd P n w) - 1, fun t => (zGg cd P n w t (zbs cd P n w (zfe cd P n w) (zst cd n - (t + 1)))).2.2, 0)
theorem zKG {cd : Nat → Nat} {P : Nat → Nat → Nat} {n w t s : Nat} (h : zKp cd P n w (t + 1) s ≠ 0) : (zGg cd P n w t s).1 ≠ 0 := fun e => h (Nat.le_zero.mp (Nat.le_trans zth_le (Nat.le_of_eq e)))
theorem zfe_ok {cd : Nat → Nat} {P : Nat → Nat → Nat} {n w : Nat} (hv : zCv cd) (hw : 1 ≤ w) : zfe cd P n w < 2 ^ cd 1 ∧ zKp cd P n w (zst cd n) (zfe cd P n w) ≠ 0 := by
  have hS := zCv_S hv
  obtain ⟨l1, l2⟩ := zlt_ok (f := zKp cd P n w (zst cd n)) (2 ^ cd 1 - 1)
  obtain ⟨s, hs, h⟩ := zKp_some (P := P) (n := n) (w := w) hv hw (zst cd n)
  obtain ⟨g1, -⟩ := l2 s (by omega)
  rw [zls_iff] at g1
  exact ⟨by unfold zfe; omega, by unfold zfe; omega⟩
theorem zfe_tail {cd : Nat → Nat} {P : Nat → Nat → Nat} {n w : Nat} (hv : zCv cd) (hw : 1 ≤ w) (h3 : cd 0 = 3) : zfe cd P n w = 0 := by
  obtain ⟨h1, h2⟩ := zfe_ok (P := P) (n := n) hv hw
  have e : zst cd n = n + cd 1 := by unfold zst; rw [if_pos h3]
  have h4 := zKp_tail (P := P) (n := n) (w := w) hv (cd 1) (Nat.le_refl _) (zfe cd P n w) h1 (by rw [← e]; exact h2)
  rw [Nat.mod_eq_of_lt h1] at h4
  exact h4
theorem zbs_ok {cd : Nat → Nat} {P : Nat → Nat → Nat} {n w : Nat} (hv : zCv cd) (hw : 1 ≤ w) : ∀ d, d ≤ zst cd n → zbs cd P n w (zfe cd P n w) d < 2 ^ cd 1 ∧ zKp cd P n w (zst cd n - d) (zbs cd P n w (zfe cd P n w) d) ≠ 0
  | 0, _ => zfe_ok hv hw
  | d + 1, h => by
    obtain ⟨h1, h2⟩ := zbs_ok (cd := cd) (P := P) (n := n) (w := w) hv hw d (by omega)
    rw [show zst cd n - d = (zst cd n - (d + 1)) + 1 by omega] at h2
    obtain ⟨q1, q2, q3, q4, q5⟩ := zFg_ok _ _ (zKG h2)
    refine ⟨?_, q4⟩
    show (zGg cd P n w (zst cd n - (d + 1)) (zbs cd P n w (zfe cd P n w) d)).2.1 < _
    unfold zGg
    omega
theorem zfw_b {cd : Nat → Nat} {P : Nat → Nat → Nat} {n w : Nat} (hv : zCv cd) (hw : 1 ≤ w) (hn : n ≤ 200) (hP : ∀ t e, P t e ≤ 10000) : (zfw cd P n w).1 < 2147483648 ∧ (∀ t, t < zst cd n → (zfw cd P n w).2.1 t < 2) ∧ (zfw cd P n w).2.2 < 64 := by
  have hst := zst_le (n := n) hv
  refine ⟨?_, fun t ht => ?_, by show 0 < 64; omega⟩
  · have h := zKp_le (cd := cd) (n := n) (w := w) hP (zst cd n) (zfe cd P n w)
    show zKp cd P n w (zst cd n) (zfe cd P n w) - 1 < _
    have : 10000 * zst cd n ≤ 10000 * 206 := Nat.mul_le_mul_left _ (by omega)
    omega
  · obtain ⟨h1, h2⟩ := zbs_ok (P := P) (n := n) hv hw (zst cd n - (t + 1)) (by omega)
    rw [show zst cd n - (zst cd n - (t + 1)) = t + 1 by omega] at h2
    exact (zFg_ok _ _ (zKG h2)).2.1
