/-! FREE in numbers -/
def zfL (cd L : Nat → Nat) (e : Nat) : Nat → Nat := fun v => if v = zen2 cd e ∧ v ≠ 0 then zmn (L v) (zad (L (e / 2)) (zew cd e)) else L v
def zff (cd L : Nat → Nat) (f e : Nat) : Nat := if zen2 cd e = 0 then zmn f (zad (L (e / 2)) (zew cd e)) else f
def zfq (cd : Nat → Nat) (st : Nat × (Nat → Nat)) : Nat → Nat × (Nat → Nat)
  | 0 => st
  | m + 1 => (zff cd (zfq cd st m).2 (zfq cd st m).1 (m + 2), zfL cd (zfq cd st m).2 (m + 2))
def zfr (cd : Nat → Nat) : Nat → Nat × (Nat → Nat)
  | 0 => (0, fun v => if v = 1 then zew cd 1 + 1 else 0)
  | r + 1 => zfq cd (zfr cd r) (2 * 2 ^ cd 1 - 2)
theorem zmn_r0 {a : Nat} : zmn a 0 = a := by
  unfold zmn
  by_cases c : a = 0
  · rw [if_pos c, c]
  · rw [if_neg c, if_pos rfl]
theorem zmn_p {a b : Nat} (h : a ≠ 0 ∨ b ≠ 0) : zmn a b ≠ 0 := by
  unfold zmn
  by_cases c : a = 0
  · rw [if_pos c]; omega
  · rw [if_neg c]
    by_cases d : b = 0
    · rw [if_pos d]; exact c
    · rw [if_neg d]; omega
theorem zst_min {B q a w : Nat} (hq : q ≤ B) (ha : a + w ≤ B) : min (zen B q) (zen B a + w) = zen B (zmn q (zad a w)) := by
  by_cases c : a = 0
  · have e : zad a w = 0 := by unfold zad; rw [if_pos c]
    have := zen_le hq
    rw [e, zmn_r0, c, zen_0]
    omega
  · have e : zad a w = a + w := by unfold zad; rw [if_neg c]
    rw [e, show zen B a + w = zen B (a + w) by rw [zen_S c, zen_S (by omega)]; omega, zen_min hq ha]
theorem zfq_le {cd : Nat → Nat} {st : Nat × (Nat → Nat)} {C : Nat} (hv : zCv cd) (h1 : st.1 ≤ C) (h2 : ∀ v, st.2 v ≤ C) : ∀ m, (zfq cd st m).1 ≤ C + 4 * m ∧ ∀ v, (zfq cd st m).2 v ≤ C + 4 * m
  | 0 => ⟨h1, h2⟩
  | m + 1 => by
    obtain ⟨a, b⟩ := zfq_le hv h1 h2 m
    have hw := zew_le (e := m + 2) hv
    have hz := zad_le (b ((m + 2) / 2)) hw
    constructor
    · show zff cd (zfq cd st m).2 (zfq cd st m).1 (m + 2) ≤ _
      unfold zff
      split
      · exact zmn_le (by omega) (by omega)
      · omega
    · intro v
      show zfL cd (zfq cd st m).2 (m + 2) v ≤ _
      unfold zfL
      have := b v
      split
      · exact zmn_le (by omega) (by omega)
      · omega
theorem zfr_le {cd : Nat → Nat} (hv : zCv cd) : ∀ r, (zfr cd r).1 ≤ 5 + 512 * r ∧ ∀ v, (zfr cd r).2 v ≤ 5 + 512 * r
  | 0 => ⟨Nat.zero_le _, fun v => by
    have hw := zew_le (e := 1) hv
    show (if v = 1 then zew cd 1 + 1 else 0) ≤ 5 + 512 * 0
    split <;> omega⟩
  | r + 1 => by
    obtain ⟨a, b⟩ := zfr_le hv r
    have hS := zCv_S hv
    have h := zfq_le hv a b (2 * 2 ^ cd 1 - 2)
    exact ⟨by have h1 := h.1; show (zfq cd (zfr cd r) (2 * 2 ^ cd 1 - 2)).1 ≤ _; omega, fun v => by have h1 := h.2 v; show (zfq cd (zfr cd r) (2 * 2 ^ cd 1 - 2)).2 v ≤ _; omega⟩
theorem zfq_1 {cd : Nat → Nat} {st : Nat × (Nat → Nat)} {m : Nat} (h : (zfq cd st m).1 ≠ 0) : ∀ d, (zfq cd st (m + d)).1 ≠ 0
  | 0 => h
  | d + 1 => by
    have ih := zfq_1 h d
    show zff cd (zfq cd st (m + d)).2 (zfq cd st (m + d)).1 (m + d + 2) ≠ 0
    unfold zff
    split
    · exact zmn_p (Or.inl ih)
    · exact ih
theorem zfq_2 {cd : Nat → Nat} {st : Nat × (Nat → Nat)} {m v : Nat} (h : (zfq cd st m).2 v ≠ 0) : ∀ d, (zfq cd st (m + d)).2 v ≠ 0
  | 0 => h
  | d + 1 => by
    have ih := zfq_2 h d
    show zfL cd (zfq cd st (m + d)).2 (m + d + 2) v ≠ 0
    unfold zfL
    split
    · exact zmn_p (Or.inl ih)
    · exact ih
theorem zfr_path {cd : Nat → Nat} (hv : zCv cd) {st : Nat × (Nat → Nat)} (h1 : st.2 1 ≠ 0) : ∀ i, (i < cd 1 → ∀ m, i = 0 ∨ 2 ^ i ≤ m → (zfq cd st m).2 (2 ^ i) ≠ 0) ∧ (i + 1 = cd 1 → ∀ m, 2 ^ (i + 1) ≤ m → (zfq cd st m).1 ≠ 0) := by
  have stp : ∀ i, i < cd 1 → (∀ m, i = 0 ∨ 2 ^ i ≤ m → (zfq cd st m).2 (2 ^ i) ≠ 0) → ∃ m0, m0 + 1 ≤ 2 ^ (i + 1) ∧ (zfq cd st m0).2 ((m0 + 2) / 2) ≠ 0 ∧ zen2 cd (m0 + 2) = 2 ^ (i + 1) % 2 ^ cd 1 := fun i hi ih => by
    have hfb := zfb_lt cd (2 ^ i)
    have hp : 2 ^ (i + 1) = 2 * 2 ^ i := by rw [Nat.pow_succ, Nat.mul_comm]
    have h2i : 1 ≤ 2 ^ i := Nat.two_pow_pos i
    refine ⟨2 * 2 ^ i + zfb cd (2 ^ i) - 2, by omega, ?_, ?_⟩
    · rw [show (2 * 2 ^ i + zfb cd (2 ^ i) - 2 + 2) / 2 = 2 ^ i by omega]
      refine ih _ ?_
      by_cases c : i = 0
      · exact Or.inl c
      · have h2 : 2 ≤ 2 ^ i := by
          have := Nat.pow_le_pow_right (n := 2) (by omega) (show 1 ≤ i by omega)
          omega
        exact Or.inr (by omega)
    · unfold zen2 znx
      rw [show (2 * 2 ^ i + zfb cd (2 ^ i) - 2 + 2) / 2 = 2 ^ i by omega, show (2 * 2 ^ i + zfb cd (2 ^ i) - 2 + 2) % 2 = zfb cd (2 ^ i) by omega, Nat.xor_self, hp, Nat.add_zero]
  have zadp : ∀ a w, a ≠ 0 → zad a w ≠ 0 := fun a w ha => by unfold zad; rw [if_neg ha]; omega
  have main : ∀ i, i < cd 1 → ∀ m, i = 0 ∨ 2 ^ i ≤ m → (zfq cd st m).2 (2 ^ i) ≠ 0 := fun i => by
    induction i with
    | zero =>
      intro _ m _
      have := zfq_2 (cd := cd) (st := st) (m := 0) (v := 1) h1 m
      rw [Nat.zero_add] at this
      exact this
    | succ i ih =>
      intro hi m hm
      obtain ⟨m0, a, b, c⟩ := stp i (by omega) (ih (by omega))
      rw [Nat.mod_eq_of_lt (Nat.pow_lt_pow_right (by omega) hi)] at c
      have h2 : (zfq cd st (m0 + 1)).2 (2 ^ (i + 1)) ≠ 0 := by
        show zfL cd (zfq cd st m0).2 (m0 + 2) (2 ^ (i + 1)) ≠ 0
        unfold zfL
        rw [if_pos ⟨c.symm, by have := Nat.two_pow_pos (i + 1); omega⟩]
        exact zmn_p (Or.inr (zadp _ _ b))
      have hm' : 2 ^ (i + 1) ≤ m := by
        rcases hm with hm | hm
        · omega
        · exact hm
      have := zfq_2 h2 (m - (m0 + 1))
      rw [show m0 + 1 + (m - (m0 + 1)) = m by omega] at this
      exact this
  refine fun i => ⟨main i, fun hi m hm => ?_⟩
  obtain ⟨m0, a, b, c⟩ := stp i (by omega) (main i (by omega))
  rw [hi, Nat.mod_self] at c
  have h2 : (zfq cd st (m0 + 1)).1 ≠ 0 := by
    show zff cd (zfq cd st m0).2 (zfq cd st m0).1 (m0 + 2) ≠ 0
    unfold zff
    rw [if_pos c]
    exact zmn_p (Or.inr (zadp _ _ b))
  have := zfq_1 h2 (m - (m0 + 1))
  rw [show m0 + 1 + (m - (m0 + 1)) = m by omega] at this
  exact this
theorem zfr_p {cd : Nat → Nat} (hv : zCv cd) : ∀ r, (zfr cd (r + 1)).1 ≠ 0
  | 0 => by
    have hS := zCv_S hv
    have h1 := hv.2.1
    have h := (zfr_path hv (st := zfr cd 0) (by show (if 1 = 1 then zew cd 1 + 1 else 0) ≠ 0; rw [if_pos rfl]; omega) (cd 1 - 1)).2 (by omega) (2 * 2 ^ cd 1 - 2)
    rw [show cd 1 - 1 + 1 = cd 1 by omega] at h
    exact h (by omega)
  | r + 1 => by
    have ih := zfr_p hv r
    have := zfq_1 (cd := cd) (st := zfr cd (r + 1)) (m := 0) ih (2 * 2 ^ cd 1 - 2)
    rw [Nat.zero_add] at this
    exact this
theorem zen2_0 {cd : Nat → Nat} : zen2 cd 0 = 0 := by
  unfold zen2 znx zfb
  rw [Nat.zero_div, Nat.zero_mod, Nat.zero_and, show zpar 0 = 0 from rfl, Nat.xor_self, Nat.mul_zero, Nat.zero_add, Nat.zero_mod]
theorem zen2_1 {cd : Nat → Nat} (hv : zCv cd) : zen2 cd 1 = 1 := by
  have hS := zCv_S hv
  unfold zen2 znx zfb
  rw [show 1 / 2 = 0 from rfl, show 1 % 2 = 1 from rfl, Nat.zero_and, show zpar 0 = 0 from rfl, Nat.xor_zero, Nat.mul_zero, Nat.zero_add]
  exact Nat.mod_eq_of_lt (by omega)
/-! class -/
theorem zq_lw2 {O : Type} {Q : O → Prop} {I : pd_I} {cd : Nat → Nat} {kont : pd_I → Option O} (hv : zCv cd) (e3 : I 11 3 = zn (2 ^ cd 1)) (hK : ∀ I', zF [57] I I' → (∀ v, v < 2 ^ cd 1 → I' 57 v = zn zEE) → zT (kont I') Q) : zT (fl_X7_leastWeight_2 kont pd_FU (zn 0) I) Q := by
  have hS := zCv_S hv
  refine zl_loop (fun fu j (s : pd_I) => fl_X7_leastWeight_2 kont fu j s) (2 ^ cd 1) (fun j s => zF [57] I s ∧ ∀ v, v < j → s 57 v = zn zEE) ?_ ?_ pd_FU 0 _ (by omega) (zFU (by omega)) ⟨zF_rfl, fun i hi => by omega⟩
  · rintro fu s ⟨h1, h2⟩
    rw [fl_X7_leastWeight_2, h1 11 (by decide), e3, if_pos (Int32.le_refl _)]
    exact hK s h1 h2
  · rintro fu j s hj ⟨h1, h2⟩ ih
    rw [fl_X7_leastWeight_2, h1 11 (by decide), e3, zi_le (by omega) (by omega), if_neg (by omega), zn_in2 (show j < 64 by omega) (by omega), zb_gd, zn_nat (by omega), zb_let, zb_let, zn_1, zn_add, zn_E]
    refine ih _ ⟨zF_u (by simp) h1, fun v hv => ?_⟩
    rw [zu_same, zu_app]
    by_cases c : v = j
    · rw [if_pos c]
    · rw [if_neg c]; exact h2 v (by omega)
theorem zq_lw56 {O : Type} {Q : O → Prop} {I : pd_I} {cd : Nat → Nat} {st : Nat × (Nat → Nat)} {kont : Int32 → pd_I → Option O} (hv : zCv cd) (e3 : I 11 3 = zn (2 ^ cd 1)) (hD : zLD I cd (2 * 2 ^ cd 1)) (h1 : st.1 ≤ 40000) (h2 : ∀ v, st.2 v ≤ 40000) (hI : ∀ v, v < 2 ^ cd 1 → I 57 v = zn (zen zEE (st.2 v)))
    (hK : ∀ I', zF [57] I I' → (∀ v, v < 2 ^ cd 1 → I' 57 v = zn (zen zEE ((zfq cd st (2 * 2 ^ cd 1 - 2)).2 v))) → zT (kont (zn (zen zEE (zfq cd st (2 * 2 ^ cd 1 - 2)).1)) I') Q) : zT (fl_X7_leastWeight_56 kont pd_FU (zn (zen zEE st.1)) (zn 2) I) Q := by
  have hS := zCv_S hv
  have hE := zE_2
  have hE2 := zE_big
  refine zl_loop (fun fu j (s : Int32 × pd_I) => fl_X7_leastWeight_56 kont fu s.1 j s.2) (2 * 2 ^ cd 1) (fun j s => 2 ≤ j ∧ s.1 = zn (zen zEE (zfq cd st (j - 2)).1) ∧ zF [57] I s.2 ∧ ∀ v, v < 2 ^ cd 1 → s.2 57 v = zn (zen zEE ((zfq cd st (j - 2)).2 v))) ?_ ?_ pd_FU 2 (zn (zen zEE st.1), I) (by omega) (zFU (by omega)) ⟨Nat.le_refl _, rfl, zF_rfl, hI⟩
  · rintro fu ⟨f, s⟩ ⟨-, rfl, k1, k2⟩
    try simp only [] at k1 k2 ⊢
    rw [fl_X7_leastWeight_56, k1 11 (by decide), e3, zn_2, zn_mul, if_pos (Int32.le_refl _)]
    exact hK s k1 k2
  · rintro fu j ⟨f, s⟩ hj ⟨h0, rfl, k1, k2⟩ ih
    try simp only [] at k1 k2 ih ⊢
    have hD' := zLD_F (by decide) (by decide) k1 hD
    have hnx := zen2_lt (cd := cd) (e := j)
    have hw := zew_le (e := j) hv
    obtain ⟨b1, b2⟩ := zfq_le hv h1 h2 (j - 2)
    have bs := b2 (j / 2)
    have bn := b2 (zen2 cd j)
    have es : zfq cd st (j + 1 - 2) = (zff cd (zfq cd st (j - 2)).2 (zfq cd st (j - 2)).1 j, zfL cd (zfq cd st (j - 2)).2 j) := by
      rw [show j + 1 - 2 = (j - 2) + 1 by omega]
      show (zff cd (zfq cd st (j - 2)).2 (zfq cd st (j - 2)).1 (j - 2 + 2), zfL cd (zfq cd st (j - 2)).2 (j - 2 + 2)) = _
      rw [show j - 2 + 2 = j by omega]
    rw [es] at ih
    generalize zfq cd st (j - 2) = P at *
    have g1 := zen_le (B := zEE) (o := P.1) (by omega)
    have g2 := zen_le (B := zEE) (o := P.2 (j / 2)) (by omega)
    have g3 := zen_le (B := zEE) (o := P.2 (zen2 cd j)) (by omega)
    rw [fl_X7_leastWeight_56, k1 11 (by decide), e3, zn_2, zn_mul, zi_le (by omega) (by omega), if_neg (by omega), zn_div (by omega) (by omega), zn_in2 (show j / 2 < 64 by omega) (by omega), zb_gd, zp_wt hv hD' hj, zb_bd, zn_nat (show j / 2 < 2147483648 by omega), k2 (j / 2) (by omega), zn_add, zb_let, zn_in2 (show j < 128 by omega) (by omega), zb_gd, zn_nat (by omega), zp_nx hD' hj, zb_let, zn_0, zi_eq (by omega) (by omega)]
    by_cases c : zen2 cd j = 0
    · rw [if_pos c, zp_min (by omega) (by omega), zst_min (by omega) (by omega), zb_let, zb_bd2, zb_let, zn_1, zn_add]
      refine ih (zn (zen zEE (zmn P.1 (zad (P.2 (j / 2)) (zew cd j)))), s) ⟨by omega, ?_, k1, fun v hvS => ?_⟩
      · show zn _ = zn (zen zEE (zff cd P.2 P.1 j))
        unfold zff
        rw [if_pos c]
      · show s 57 v = zn (zen zEE (zfL cd P.2 j v))
        unfold zfL
        rw [if_neg (fun hh => by rw [c] at hh; exact hh.2 hh.1)]
        exact k2 v hvS
    · rw [if_neg c, zn_in2 (show zen2 cd j < 64 by omega) (by omega), zb_gd, zb_gd, zn_nat (by omega), k2 _ hnx, zp_min (by omega) (by omega), zst_min (by omega) (by omega), zb_let, zb_bd2, zb_let, zn_1, zn_add]
      refine ih (zn (zen zEE P.1), pd_ui s 57 (zen2 cd j) (zn (zen zEE (zmn (P.2 (zen2 cd j)) (zad (P.2 (j / 2)) (zew cd j)))))) ⟨by omega, ?_, zF_u (by simp) k1, fun v hvS => ?_⟩
      · show zn _ = zn (zen zEE (zff cd P.2 P.1 j))
        unfold zff
        rw [if_neg c]
      · show pd_ui s 57 (zen2 cd j) _ 57 v = zn (zen zEE (zfL cd P.2 j v))
        unfold zfL
        rw [zu_same, zu_app]
        by_cases d : v = zen2 cd j
        · rw [if_pos d, if_pos ⟨d, by rw [d]; exact c⟩, d]
        · rw [if_neg d, if_neg (fun hh => d hh.1)]; exact k2 v hvS
theorem zq_leastC {I : pd_I} {cd : Nat → Nat} (hv : zCv cd) (e3 : I 11 3 = zn (2 ^ cd 1)) (hD : zLD I cd (2 * 2 ^ cd 1)) : zT (fn_X7_leastWeight I) (fun x => zF [57] I x.2 ∧ x.1 = zn (zen zEE (zfr cd (2 ^ cd 1)).1)) := by
  have hS := zCv_S hv
  have hE := zE_2
  have hE2 := zE_big
  unfold fn_X7_leastWeight
  rw [zn_0]
  refine zq_lw2 hv e3 (fun I1 f1 g1 => ?_)
  have hD1 := zLD_F (by decide) (by decide) f1 hD
  have hwt : fn_X7_weightOf I1 1 = some (zn (zew cd 1)) := zp_wt (e := 1) hv hD1 (by omega)
  have t1 : (1 : Int32).toNatClampNeg = 1 := by decide
  rw [hwt, zb_bd, show pd_in 1 64 = true by decide, zb_gd, zb_let, t1, zn_E]
  have F1 : zF [57] I (pd_ui I1 57 1 (zn (zew cd 1))) := zF_u (by decide) f1
  refine zl_loop (fun fu j (s : Int32 × pd_I) => fl_X7_leastWeight_43 (fun zx4 zI6 => some (zx4, zI6)) fu s.1 j s.2) (2 ^ cd 1) (fun r s => s.1 = zn (zen zEE (zfr cd r).1) ∧ zF [57] I s.2 ∧ ∀ v, v < 2 ^ cd 1 → s.2 57 v = zn (zen zEE ((zfr cd r).2 v))) ?_ ?_ pd_FU 0 (zn zEE, pd_ui I1 57 1 (zn (zew cd 1))) (by omega) (zFU (by omega)) ⟨rfl, F1, fun v hvS => ?_⟩
  · rintro fu ⟨f, s⟩ ⟨rfl, k1, k2⟩
    try simp only [] at k1 k2 ⊢
    rw [fl_X7_leastWeight_43, k1 11 (by decide), e3, if_pos (Int32.le_refl _)]
    exact ⟨_, rfl, k1, rfl⟩
  · rintro fu j ⟨f, s⟩ hj ⟨rfl, k1, k2⟩ ih
    try simp only [] at k1 k2 ih ⊢
    obtain ⟨b1, b2⟩ := zfr_le hv j
    rw [fl_X7_leastWeight_43, k1 11 (by decide), e3, zi_le (by omega) (by omega), if_neg (by omega), zn_2]
    refine zq_lw56 hv (by rw [k1 11 (by decide)]; exact e3) (zLD_F (by decide) (by decide) k1 hD) (by omega) (fun v => by have := b2 v; omega) k2 (fun I2 f2 g2 => ?_)
    rw [zb_let, zn_1, zn_add]
    exact ih (_, I2) ⟨rfl, zF_tr k1 f2, g2⟩
  · show pd_ui I1 57 1 (zn (zew cd 1)) 57 v = zn (zen zEE (if v = 1 then zew cd 1 + 1 else 0))
    rw [zu_same, zu_app]
    by_cases c : v = 1
    · rw [if_pos c, if_pos c]; rfl
    · rw [if_neg c, if_neg c, zen_0]; exact g1 v hvS
