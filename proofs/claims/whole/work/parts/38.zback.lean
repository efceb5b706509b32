/-! the class looks back: merge, comeBack -/
/-- never, in the class, in the reference (never a comparison of such numbers by omega or decide: the kernel counts) -/
theorem zEW_ex : ∃ p : Nat × Nat, (536870912 : Int32) = zn p.1 ∧ (1000000000 : Int32) = zn p.2 ∧ p.1 + p.1 < 2147483648 ∧ p.2 < 2147483648 ∧ p.1 < p.2 ∧ 3000000 ≤ p.1 := ⟨(536870912, 1000000000), by decide +kernel, by decide +kernel, Nat.le_of_ble_eq_true rfl, Nat.le_of_ble_eq_true rfl, Nat.le_of_ble_eq_true rfl, Nat.le_of_ble_eq_true rfl⟩
noncomputable def zEE : Nat := (Classical.choose zEW_ex).1
noncomputable def zWW : Nat := (Classical.choose zEW_ex).2
theorem zn_E : (536870912 : Int32) = zn zEE := (Classical.choose_spec zEW_ex).1
theorem zn_NW : (1000000000 : Int32) = zn zWW := (Classical.choose_spec zEW_ex).2.1
theorem zE_2 : zEE + zEE < 2147483648 := (Classical.choose_spec zEW_ex).2.2.1
theorem zE_lt : zEE < 2147483648 := Nat.lt_of_le_of_lt (Nat.le_add_left _ _) zE_2
theorem zW_lt : zWW < 2147483648 := (Classical.choose_spec zEW_ex).2.2.2.1
theorem zE_W : zEE < zWW := (Classical.choose_spec zEW_ex).2.2.2.2.1
theorem zE_big : 3000000 ≤ zEE := (Classical.choose_spec zEW_ex).2.2.2.2.2
theorem zl_gen {S O : Type} {Q : O → Prop} (F : Nat → Int32 → S → Option O) (ix : Nat → Int32) (N : Nat) (Inv : Nat → S → Prop)
    (hend : ∀ fu s, Inv N s → zT (F (fu + 1) (ix N) s) Q)
    (hstep : ∀ fu k s, k < N → Inv k s → (∀ s', Inv (k + 1) s' → zT (F fu (ix (k + 1)) s') Q) → zT (F (fu + 1) (ix k) s) Q) :
    ∀ (fu lo : Nat) (s : S), lo ≤ N → N < fu + lo → Inv lo s → zT (F fu (ix lo) s) Q := by
  intro fu
  induction fu with
  | zero => intro lo s h1 h2; omega
  | succ fu ih =>
    intro lo s h1 h2 hI
    by_cases hlo : lo = N
    · subst hlo; exact hend fu s hI
    · exact hstep fu lo s (by omega) hI (fun s' hs' => ih (lo + 1) s' (by omega) (by omega) hs')
/-- n - 1, n - 2 .. 0, -1 -/
def zdn (n d : Nat) : Int32 := if d < n then zn (n - (d + 1)) else -1
theorem zdn_0 {n : Nat} (h : 1 ≤ n) : zn n - 1 = zdn n 0 := by
  unfold zdn; rw [if_pos (by omega), zn_1, zn_sub h]
theorem zdn_lt {n d : Nat} (h : d < n) : zdn n d = zn (n - (d + 1)) := if_pos h
theorem zdn_n {n : Nat} : zdn n n = -1 := if_neg (by omega)
theorem zdn_s {n d : Nat} (h : d < n) : zn (n - (d + 1)) + (-1) = zdn n (d + 1) := by
  unfold zdn
  by_cases c : d + 1 < n
  · rw [if_pos c, ← Int32.sub_eq_add_neg, zn_1, zn_sub (by omega)]; congr 1
  · rw [if_neg c, show n - (d + 1) = 0 by omega]; decide
theorem zn_m1n : (-1 : Int32) < zn 0 := by decide
theorem zq_merge65 {O : Type} {Q : O → Prop} {kont : Int32 → pd_I → Option O} {I : pd_I} {Z : pd_R} {n na la nc lc t s k z0 z1 p0 p1 n0 n1 : Nat} {c0 c1 : Nat → Nat} (hn : 133 ≤ n) (hZ : zZs Z na la nc lc) (ht : t < 200) (hs : s < 64) (hk : 1 ≤ k) (hk8 : k ≤ 8) (hz0 : z0 < 64) (hz1 : z1 < 64)
    (e0 : I lc z0 = zn n0) (e1 : I lc z1 = zn n1) (hn0 : n0 ≤ 8) (hn1 : n1 ≤ 8)
    (f0 : ∀ i, i < n0 → I la (z0 * 8 + i) = zn (c0 i) ∧ c0 i + p0 < zEE) (f1 : ∀ i, i < n1 → I la (z1 * 8 + i) = zn (c1 i) ∧ c1 i + p1 < zEE)
    (hK : ∀ I2, zF [na, 41] I I2 → (∀ m, m < min k (n0 + n1) → I2 na (s * 8 + m) = zn (zMc p0 p1 n0 n1 c0 c1 m) ∧ I2 41 ((t * 64 + s) * 8 + m) = zn (8 * zMb p0 p1 n0 n1 c0 c1 m + zMr p0 p1 n0 n1 c0 c1 m)) → (∀ j, (j < s * 8 ∨ s * 8 + 8 ≤ j) → I2 na j = I na j) → (∀ j, (j < (t * 64 + s) * 8 ∨ (t * 64 + s) * 8 + 8 ≤ j) → I2 41 j = I 41 j) → zT (kont (zn (min k (n0 + n1))) I2) Q) :
    zT (fl_X5_merge_65 (zn t) (zn s) (zn k) (zn z0) (zn z1) (zn p0) (zn p1) Z n kont pd_FU (zn 0) (zn 0) (zn 0) I) Q := by
  have hzE := zE_lt
  obtain ⟨ha1, ha2, ha3, ha4⟩ := zZs_a hZ hn
  obtain ⟨g2, g3, g4, g5, g6, g7⟩ := hZ
  have hla : la ∉ [na, 41] := by intro h; simp at h; omega
  have hlc : lc ∉ [na, 41] := by intro h; simp at h; omega
  have hna : na ≠ 41 := by omega
  clear g6 g7
  refine zl_loop (fun fu m (st : Int32 × Int32 × pd_I) => fl_X5_merge_65 (zn t) (zn s) (zn k) (zn z0) (zn z1) (zn p0) (zn p1) Z n kont fu st.1 st.2.1 m st.2.2) (min k (n0 + n1))
    (fun m st => st.1 = zn (zM p0 p1 n0 n1 c0 c1 m) ∧ st.2.1 = zn (m - zM p0 p1 n0 n1 c0 c1 m) ∧ zF [na, 41] I st.2.2 ∧ (∀ m', m' < m → st.2.2 na (s * 8 + m') = zn (zMc p0 p1 n0 n1 c0 c1 m') ∧ st.2.2 41 ((t * 64 + s) * 8 + m') = zn (8 * zMb p0 p1 n0 n1 c0 c1 m' + zMr p0 p1 n0 n1 c0 c1 m')) ∧ (∀ j, (j < s * 8 ∨ s * 8 + 8 ≤ j) → st.2.2 na j = I na j) ∧ (∀ j, (j < (t * 64 + s) * 8 ∨ (t * 64 + s) * 8 + 8 ≤ j) → st.2.2 41 j = I 41 j)) ?_ ?_ pd_FU 0 (zn 0, zn 0, I) (by omega) (zFU (by omega)) ⟨rfl, rfl, zF_rfl, fun m hm => by omega, fun _ _ => rfl, fun _ _ => rfl⟩
  · rintro fu ⟨a, b, I'⟩ ⟨ea, eb, hF, hD, hP1, hP2⟩
    try simp only [] at ea eb hF hD hP1 hP2 ⊢
    have hl := zM_le (p0 := p0) (p1 := p1) (n0 := n0) (n1 := n1) (c0 := c0) (c1 := c1) (min k (n0 + n1))
    obtain ⟨z, hz⟩ : ∃ z, z = zM p0 p1 n0 n1 c0 c1 (min k (n0 + n1)) := ⟨_, rfl⟩
    rw [← hz] at ea eb hl
    have q0 : I' lc z0 = zn n0 := by rw [hF lc hlc]; exact e0
    have q1 : I' lc z1 = zn n1 := by rw [hF lc hlc]; exact e1
    have hfin := hK I' hF hD hP1 hP2
    by_cases c : k ≤ n0 + n1
    · have hN : min k (n0 + n1) = k := by omega
      rw [hN] at hfin
      rw [hN, fl_X5_merge_65, if_pos (by rw [zn_le (by omega) (by omega)]; omega)]
      exact hfin
    · have hN : min k (n0 + n1) = n0 + n1 := by omega
      rw [hN] at hfin hl eb
      subst ea eb
      rw [hN, fl_X5_merge_65]
      simp (disch := omega) only [zb_gd, zb_bd, zb_bd2, zb_let, zb_jn, zn_0, zn_1, zn_2, zn_3, zn_4, zn_5, zn_6, zn_7, zn_8, zn_11, zn_12, zn_15, zn_16, zn_18, zn_30, zn_31, zn_32, zn_64, zn_128, zn_199, zn_200, zn_512, zn_600, zn_1000, zn_2048, zn_add, zn_mul, zn_sub, zn_in2, zn_nat, zn_le, zn_lt, zn_eq, if_pos, if_neg, Bool.false_eq_true, ↓reduceIte, g5, ha4, q0, q1]
      exact hfin
  · rintro fu m ⟨a, b, I'⟩ hm ⟨ea, eb, hF, hD, hP1, hP2⟩ ih
    try simp only [] at ea eb hF hD hP1 hP2 ih ⊢
    have hl := zM_le (p0 := p0) (p1 := p1) (n0 := n0) (n1 := n1) (c0 := c0) (c1 := c1) m
    have hzr := zMr_lt (p0 := p0) (p1 := p1) (n0 := n0) (n1 := n1) (c0 := c0) (c1 := c1) (m := m) (by omega)
    have hs1 := zM_succ (p0 := p0) (p1 := p1) (n0 := n0) (n1 := n1) (c0 := c0) (c1 := c1) (m := m)
    have hz0' : zMz p0 p1 n0 n1 c0 c1 m = 0 → _ := zcb_0 (p0 := p0) (p1 := p1) (n0 := n0) (n1 := n1) (c0 := c0) (c1 := c1) (i := zM p0 p1 n0 n1 c0 c1 m) (j := m - zM p0 p1 n0 n1 c0 c1 m)
    have hz1' : zMz p0 p1 n0 n1 c0 c1 m = 1 → _ := zcb_1 (p0 := p0) (p1 := p1) (n0 := n0) (n1 := n1) (c0 := c0) (c1 := c1) (i := zM p0 p1 n0 n1 c0 c1 m) (j := m - zM p0 p1 n0 n1 c0 c1 m)
    have hMc : zMc p0 p1 n0 n1 c0 c1 m = if zMz p0 p1 n0 n1 c0 c1 m = 1 then c0 (zM p0 p1 n0 n1 c0 c1 m) + p0 else c1 (m - zM p0 p1 n0 n1 c0 c1 m) + p1 := rfl
    have hMb : zMb p0 p1 n0 n1 c0 c1 m = 1 - zMz p0 p1 n0 n1 c0 c1 m := rfl
    have q0 : I' lc z0 = zn n0 := by rw [hF lc hlc]; exact e0
    have q1 : I' lc z1 = zn n1 := by rw [hF lc hlc]; exact e1
    have fin : ∀ (a' b' : Int32) (I3 : pd_I), a' = zn (zM p0 p1 n0 n1 c0 c1 (m + 1)) → b' = zn (m + 1 - zM p0 p1 n0 n1 c0 c1 (m + 1)) → I3 = pd_ui (pd_ui I' na (s * 8 + m) (zn (zMc p0 p1 n0 n1 c0 c1 m))) 41 ((t * 64 + s) * 8 + m) (zn (8 * zMb p0 p1 n0 n1 c0 c1 m + zMr p0 p1 n0 n1 c0 c1 m)) → zT (fl_X5_merge_65 (zn t) (zn s) (zn k) (zn z0) (zn z1) (zn p0) (zn p1) Z n kont fu a' b' (zn (m + 1)) I3) Q := by
      intro a' b' I3 h1 h2 h3
      refine ih (a', b', I3) ⟨h1, h2, by rw [h3]; exact zF_u (by simp) (zF_u (by simp) hF), fun m' hm' => ?_, fun j hj => ?_, fun j hj => ?_⟩
      · rw [h3]
        simp only [zu_same, zu_ne hna, zu_ne hna.symm, zu_app]
        by_cases c : m' = m
        · subst c; rw [if_pos rfl, if_pos rfl]; exact ⟨rfl, rfl⟩
        · rw [if_neg (by omega), if_neg (by omega)]; exact hD m' (by omega)
      · rw [h3]
        simp only [zu_same, zu_ne hna, zu_app]
        rw [if_neg (by omega)]; exact hP1 j hj
      · rw [h3]
        simp only [zu_same, zu_ne hna.symm, zu_app]
        rw [if_neg (by omega)]; exact hP2 j hj
    obtain ⟨z, hz⟩ : ∃ z, z = zM p0 p1 n0 n1 c0 c1 m := ⟨_, rfl⟩
    rw [← hz] at ea eb hl hzr hs1 hz0' hz1' hMc
    obtain ⟨o, ho⟩ : ∃ o, o = m - z := ⟨_, rfl⟩
    rw [← ho] at eb hl hzr hz0' hz1' hMc
    obtain ⟨y, hy⟩ : ∃ y, y = zMz p0 p1 n0 n1 c0 c1 m := ⟨_, rfl⟩
    rw [← hy] at hzr hs1 hz0' hz1' hMc hMb
    obtain ⟨r, hr⟩ : ∃ r, r = zMr p0 p1 n0 n1 c0 c1 m := ⟨_, rfl⟩
    rw [← hr] at hzr fin
    rw [hs1, hMc, hMb] at fin
    subst ea eb
    have hfl : I' la = I la := hF la hla
    rw [fl_X5_merge_65]
    have hzm : z ≤ m := hl.1
    have hmk : m < k := by omega
    clear hl hP1 hP2 hD
    rcases hzr with ⟨hy1, hr1, hzn⟩ | ⟨hy0, hr0, hon⟩
    · subst hy1
      have hr2 := hr1.symm
      subst hr2
      obtain ⟨w1, w2⟩ := f0 z hzn
      have hor := (hz1' rfl).2
      clear hz1' hz0' hs1 hMc hMb hm
      rcases hor with c | c
      · simp (disch := omega) only [zb_gd, zb_bd, zb_bd2, zb_let, zb_jn, zn_0, zn_1, zn_2, zn_3, zn_4, zn_5, zn_6, zn_7, zn_8, zn_11, zn_12, zn_15, zn_16, zn_18, zn_30, zn_31, zn_32, zn_64, zn_128, zn_199, zn_200, zn_512, zn_600, zn_1000, zn_2048, zn_add, zn_mul, zn_sub, zn_in2, zn_nat, zn_le, zn_lt, zn_eq, if_pos, if_neg, Bool.false_eq_true, ↓reduceIte, zn_E, g2, g3, g4, g5, ha1, ha2, ha3, ha4, q0, q1, hfl, w1, zn_by8]
        refine fin _ _ _ rfl ?_ ?_
        · congr 1; omega
        · rw [if_pos rfl]; try (congr 2; omega)
      · by_cases c2 : o < n1
        · obtain ⟨w3, w4⟩ := f1 o c2
          simp (disch := omega) only [zb_gd, zb_bd, zb_bd2, zb_let, zb_jn, zn_0, zn_1, zn_2, zn_3, zn_4, zn_5, zn_6, zn_7, zn_8, zn_11, zn_12, zn_15, zn_16, zn_18, zn_30, zn_31, zn_32, zn_64, zn_128, zn_199, zn_200, zn_512, zn_600, zn_1000, zn_2048, zn_add, zn_mul, zn_sub, zn_in2, zn_nat, zn_le, zn_lt, zn_eq, if_pos, if_neg, Bool.false_eq_true, ↓reduceIte, zn_E, g2, g3, g4, g5, ha1, ha2, ha3, ha4, q0, q1, hfl, w1, w3, zn_by8]
          refine fin _ _ _ rfl ?_ ?_
          · congr 1; omega
          · rw [if_pos rfl]; try (congr 2; omega)
        · simp (disch := omega) only [zb_gd, zb_bd, zb_bd2, zb_let, zb_jn, zn_0, zn_1, zn_2, zn_3, zn_4, zn_5, zn_6, zn_7, zn_8, zn_11, zn_12, zn_15, zn_16, zn_18, zn_30, zn_31, zn_32, zn_64, zn_128, zn_199, zn_200, zn_512, zn_600, zn_1000, zn_2048, zn_add, zn_mul, zn_sub, zn_in2, zn_nat, zn_le, zn_lt, zn_eq, if_pos, if_neg, Bool.false_eq_true, ↓reduceIte, zn_E, g2, g3, g4, g5, ha1, ha2, ha3, ha4, q0, q1, hfl, w1, zn_by8]
          refine fin _ _ _ rfl ?_ ?_
          · congr 1; omega
          · rw [if_pos rfl]; try (congr 2; omega)
    · subst hy0
      have hr2 := hr0.symm
      subst hr2
      obtain ⟨w3, w4⟩ := f1 o hon
      have hor := hz0' rfl
      clear hz1' hz0' hs1 hMc hMb hm
      rcases hor with c | c
      · simp (disch := omega) only [zb_gd, zb_bd, zb_bd2, zb_let, zb_jn, zn_0, zn_1, zn_2, zn_3, zn_4, zn_5, zn_6, zn_7, zn_8, zn_11, zn_12, zn_15, zn_16, zn_18, zn_30, zn_31, zn_32, zn_64, zn_128, zn_199, zn_200, zn_512, zn_600, zn_1000, zn_2048, zn_add, zn_mul, zn_sub, zn_in2, zn_nat, zn_le, zn_lt, zn_eq, if_pos, if_neg, Bool.false_eq_true, ↓reduceIte, zn_E, g2, g3, g4, g5, ha1, ha2, ha3, ha4, q0, q1, hfl, w3, zn_by8]
        refine fin _ _ _ rfl ?_ ?_
        · congr 1; omega
        · rw [if_neg (by omega)]; try (congr 2; omega)
      · by_cases c2 : z < n0
        · obtain ⟨w1, w2⟩ := f0 z c2
          simp (disch := omega) only [zb_gd, zb_bd, zb_bd2, zb_let, zb_jn, zn_0, zn_1, zn_2, zn_3, zn_4, zn_5, zn_6, zn_7, zn_8, zn_11, zn_12, zn_15, zn_16, zn_18, zn_30, zn_31, zn_32, zn_64, zn_128, zn_199, zn_200, zn_512, zn_600, zn_1000, zn_2048, zn_add, zn_mul, zn_sub, zn_in2, zn_nat, zn_le, zn_lt, zn_eq, if_pos, if_neg, Bool.false_eq_true, ↓reduceIte, zn_E, g2, g3, g4, g5, ha1, ha2, ha3, ha4, q0, q1, hfl, w1, w3, zn_by8]
          refine fin _ _ _ rfl ?_ ?_
          · congr 1; omega
          · rw [if_neg (by omega)]; try (congr 2; omega)
        · simp (disch := omega) only [zb_gd, zb_bd, zb_bd2, zb_let, zb_jn, zn_0, zn_1, zn_2, zn_3, zn_4, zn_5, zn_6, zn_7, zn_8, zn_11, zn_12, zn_15, zn_16, zn_18, zn_30, zn_31, zn_32, zn_64, zn_128, zn_199, zn_200, zn_512, zn_600, zn_1000, zn_2048, zn_add, zn_mul, zn_sub, zn_in2, zn_nat, zn_le, zn_lt, zn_eq, if_pos, if_neg, Bool.false_eq_true, ↓reduceIte, zn_E, g2, g3, g4, g5, ha1, ha2, ha3, ha4, q0, q1, hfl, w3, zn_by8]
          refine fin _ _ _ rfl ?_ ?_
          · congr 1; omega
          · rw [if_neg (by omega)]; try (congr 2; omega)
