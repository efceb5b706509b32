/-! the reference's rests -/
theorem zq_rest27 {O : Type} {Q : O → Prop} {kont : Int32 → pd_I → Option O} {I : pd_I} {t s k z0 z1 p0 p1 n0 n1 : Nat} {c0 c1 : Nat → Nat} (ht : t < 200) (hs : s < 64) (hk : 1 ≤ k) (hk8 : k ≤ 8) (hz0 : z0 < 64) (hz1 : z1 < 64)
    (e0 : I 111 (64 * (t + 1) + z0) = zn n0) (e1 : I 111 (64 * (t + 1) + z1) = zn n1) (hn0 : n0 ≤ 8) (hn1 : n1 ≤ 8) (b0 : I 110 (128 * t + 2 * s) = zn p0) (b1 : I 110 (128 * t + 2 * s + 1) = zn p1)
    (f0 : ∀ i, i < n0 → I 112 (512 * (t + 1) + 8 * z0 + i) = zn (c0 i) ∧ c0 i + p0 < zEE) (f1 : ∀ i, i < n1 → I 112 (512 * (t + 1) + 8 * z1 + i) = zn (c1 i) ∧ c1 i + p1 < zEE)
    (hK : ∀ I2, zF [112, 113, 114] I I2 → (∀ m, m < min k (n0 + n1) → I2 112 (512 * t + 8 * s + m) = zn (zMc p0 p1 n0 n1 c0 c1 m) ∧ I2 113 (512 * t + 8 * s + m) = zn (zMb p0 p1 n0 n1 c0 c1 m) ∧ I2 114 (512 * t + 8 * s + m) = zn (zMr p0 p1 n0 n1 c0 c1 m)) → (∀ j, (j < 512 * t + 8 * s ∨ 512 * t + 8 * s + 8 ≤ j) → I2 112 j = I 112 j ∧ I2 113 j = I 113 j ∧ I2 114 j = I 114 j) → zT (kont (zn (min k (n0 + n1))) I2) Q) :
    zT (fl_X12_rest_27 (zn t) (zn s) (zn k) (zn z0) (zn z1) kont pd_FU (zn 0) (zn 0) (zn 0) I) Q := by
  have hzE := zE_lt
  have hzW := zW_lt
  have hzEW := zE_W
  refine zl_loop (fun fu m (st : Int32 × Int32 × pd_I) => fl_X12_rest_27 (zn t) (zn s) (zn k) (zn z0) (zn z1) kont fu st.1 st.2.1 m st.2.2) (min k (n0 + n1))
    (fun m st => st.1 = zn (zM p0 p1 n0 n1 c0 c1 m) ∧ st.2.1 = zn (m - zM p0 p1 n0 n1 c0 c1 m) ∧ zF [112, 113, 114] I st.2.2 ∧ (∀ m', m' < m → st.2.2 112 (512 * t + 8 * s + m') = zn (zMc p0 p1 n0 n1 c0 c1 m') ∧ st.2.2 113 (512 * t + 8 * s + m') = zn (zMb p0 p1 n0 n1 c0 c1 m') ∧ st.2.2 114 (512 * t + 8 * s + m') = zn (zMr p0 p1 n0 n1 c0 c1 m')) ∧ (∀ j, (j < 512 * t + 8 * s ∨ 512 * t + 8 * s + 8 ≤ j) → st.2.2 112 j = I 112 j ∧ st.2.2 113 j = I 113 j ∧ st.2.2 114 j = I 114 j)) ?_ ?_ pd_FU 0 (zn 0, zn 0, I) (by omega) (zFU (by omega)) ⟨rfl, rfl, zF_rfl, fun m hm => by omega, fun _ _ => ⟨rfl, rfl, rfl⟩⟩
  · rintro fu ⟨a, b, I'⟩ ⟨ea, eb, hF, hD, hP⟩
    try simp only [] at ea eb hF hD hP ⊢
    have hl := zM_le (p0 := p0) (p1 := p1) (n0 := n0) (n1 := n1) (c0 := c0) (c1 := c1) (min k (n0 + n1))
    obtain ⟨z, hz⟩ : ∃ z, z = zM p0 p1 n0 n1 c0 c1 (min k (n0 + n1)) := ⟨_, rfl⟩
    rw [← hz] at ea eb hl
    have q0 : I' 111 (64 * (t + 1) + z0) = zn n0 := by rw [hF 111 (by decide)]; exact e0
    have q1 : I' 111 (64 * (t + 1) + z1) = zn n1 := by rw [hF 111 (by decide)]; exact e1
    have hfin := hK I' hF hD hP
    by_cases c : k ≤ n0 + n1
    · have hN : min k (n0 + n1) = k := by omega
      rw [hN] at hfin
      rw [hN, fl_X12_rest_27, if_pos (by rw [zn_le (by omega) (by omega)]; omega)]
      exact hfin
    · have hN : min k (n0 + n1) = n0 + n1 := by omega
      rw [hN] at hfin hl eb
      subst ea eb
      rw [hN, fl_X12_rest_27]
      simp (disch := omega) only [zb_gd, zb_bd, zb_bd2, zb_let, zb_jn, zn_0, zn_1, zn_2, zn_3, zn_4, zn_5, zn_6, zn_7, zn_8, zn_11, zn_12, zn_15, zn_16, zn_18, zn_30, zn_31, zn_32, zn_64, zn_128, zn_199, zn_200, zn_512, zn_600, zn_1000, zn_2048, zn_add, zn_mul, zn_sub, zn_in2, zn_nat, zn_le, zn_lt, zn_eq, if_pos, if_neg, Bool.false_eq_true, ↓reduceIte, q0, q1]
      exact hfin
  · rintro fu m ⟨a, b, I'⟩ hm ⟨ea, eb, hF, hD, hP⟩ ih
    try simp only [] at ea eb hF hD hP ih ⊢
    have hl := zM_le (p0 := p0) (p1 := p1) (n0 := n0) (n1 := n1) (c0 := c0) (c1 := c1) m
    have hzr := zMr_lt (p0 := p0) (p1 := p1) (n0 := n0) (n1 := n1) (c0 := c0) (c1 := c1) (m := m) (by omega)
    have hs1 := zM_succ (p0 := p0) (p1 := p1) (n0 := n0) (n1 := n1) (c0 := c0) (c1 := c1) (m := m)
    have hz0' : zMz p0 p1 n0 n1 c0 c1 m = 0 → _ := zcb_0 (p0 := p0) (p1 := p1) (n0 := n0) (n1 := n1) (c0 := c0) (c1 := c1) (i := zM p0 p1 n0 n1 c0 c1 m) (j := m - zM p0 p1 n0 n1 c0 c1 m)
    have hz1' : zMz p0 p1 n0 n1 c0 c1 m = 1 → _ := zcb_1 (p0 := p0) (p1 := p1) (n0 := n0) (n1 := n1) (c0 := c0) (c1 := c1) (i := zM p0 p1 n0 n1 c0 c1 m) (j := m - zM p0 p1 n0 n1 c0 c1 m)
    have hMc : zMc p0 p1 n0 n1 c0 c1 m = if zMz p0 p1 n0 n1 c0 c1 m = 1 then c0 (zM p0 p1 n0 n1 c0 c1 m) + p0 else c1 (m - zM p0 p1 n0 n1 c0 c1 m) + p1 := rfl
    have hMb : zMb p0 p1 n0 n1 c0 c1 m = 1 - zMz p0 p1 n0 n1 c0 c1 m := rfl
    have q0 : I' 111 (64 * (t + 1) + z0) = zn n0 := by rw [hF 111 (by decide)]; exact e0
    have q1 : I' 111 (64 * (t + 1) + z1) = zn n1 := by rw [hF 111 (by decide)]; exact e1
    have r0 : I' 110 (128 * t + 2 * s) = zn p0 := by rw [hF 110 (by decide)]; exact b0
    have r1 : I' 110 (128 * t + 2 * s + 1) = zn p1 := by rw [hF 110 (by decide)]; exact b1
    have fin : ∀ (a' b' : Int32) (I3 : pd_I), a' = zn (zM p0 p1 n0 n1 c0 c1 (m + 1)) → b' = zn (m + 1 - zM p0 p1 n0 n1 c0 c1 (m + 1)) → I3 = pd_ui (pd_ui (pd_ui I' 112 (512 * t + 8 * s + m) (zn (zMc p0 p1 n0 n1 c0 c1 m))) 113 (512 * t + 8 * s + m) (zn (zMb p0 p1 n0 n1 c0 c1 m))) 114 (512 * t + 8 * s + m) (zn (zMr p0 p1 n0 n1 c0 c1 m)) → zT (fl_X12_rest_27 (zn t) (zn s) (zn k) (zn z0) (zn z1) kont fu a' b' (zn (m + 1)) I3) Q := by
      intro a' b' I3 h1 h2 h3
      refine ih (a', b', I3) ⟨h1, h2, by rw [h3]; exact zF_u (by simp) (zF_u (by simp) (zF_u (by simp) hF)), fun m' hm' => ?_, fun j hj => ?_⟩
      · rw [h3]
        simp only [zu_same, zu_ne (show (112 : Nat) ≠ 113 by decide), zu_ne (show (112 : Nat) ≠ 114 by decide), zu_ne (show (113 : Nat) ≠ 114 by decide), zu_ne (show (113 : Nat) ≠ 112 by decide), zu_ne (show (114 : Nat) ≠ 112 by decide), zu_ne (show (114 : Nat) ≠ 113 by decide), zu_app]
        by_cases c : m' = m
        · subst c; rw [if_pos rfl, if_pos rfl, if_pos rfl]; exact ⟨rfl, rfl, rfl⟩
        · rw [if_neg (by omega), if_neg (by omega), if_neg (by omega)]; exact hD m' (by omega)
      · rw [h3]
        simp only [zu_same, zu_ne (show (112 : Nat) ≠ 113 by decide), zu_ne (show (112 : Nat) ≠ 114 by decide), zu_ne (show (113 : Nat) ≠ 114 by decide), zu_ne (show (113 : Nat) ≠ 112 by decide), zu_ne (show (114 : Nat) ≠ 112 by decide), zu_ne (show (114 : Nat) ≠ 113 by decide), zu_app]
        rw [if_neg (by omega), if_neg (by omega), if_neg (by omega)]; exact hP j hj
    obtain ⟨z, hz⟩ : ∃ z, z = zM p0 p1 n0 n1 c0 c1 m := ⟨_, rfl⟩
    rw [← hz] at ea eb hl hzr hs1 hz0' hz1' hMc
    obtain ⟨o, ho⟩ : ∃ o, o = m - z := ⟨_, rfl⟩
    rw [← ho] at eb hl hzr hz0' hz1' hMc
    obtain ⟨y, hy⟩ : ∃ y, y = zMz p0 p1 n0 n1 c0 c1 m := ⟨_, rfl⟩
    rw [← hy] at hzr hs1 hz0' hz1' hMc hMb
    obtain ⟨r, hr⟩ : ∃ r, r = zMr p0 p1 n0 n1 c0 c1 m := ⟨_, rfl⟩
    rw [← hr] at hzr fin
    rw [hs1, hMc, hMb] at fin
    subst ea eb
    have hlm : z ≤ m := hl.1
    have hmk : m < k := by omega
    clear hl hD
    have v0 : ∀ x, pd_ui I' 112 (512 * t + 8 * s + m) x 111 = I' 111 := fun x => zu_ne (by decide)
    rw [fl_X12_rest_27]
    rcases hzr with ⟨hy1, hr1, hzn⟩ | ⟨hy0, hr0, hon⟩
    · subst hy1
      have hr2 := hr1.symm
      subst hr2
      obtain ⟨w1, w2⟩ := f0 z hzn
      have hor := (hz1' rfl).2
      clear hz1' hz0' hs1 hMc hMb hm
      have w1' : I' 112 (512 * (t + 1) + 8 * z0 + z) = zn (c0 z) := by rw [(hP _ (Or.inr (by omega))).1]; exact w1
      rcases hor with c | c
      · simp (disch := omega) only [zb_gd, zb_bd, zb_bd2, zb_let, zb_jn, zn_0, zn_1, zn_2, zn_3, zn_4, zn_5, zn_6, zn_7, zn_8, zn_11, zn_12, zn_15, zn_16, zn_18, zn_30, zn_31, zn_32, zn_64, zn_128, zn_199, zn_200, zn_512, zn_600, zn_1000, zn_2048, zn_add, zn_mul, zn_sub, zn_in2, zn_nat, zn_le, zn_lt, zn_eq, if_pos, if_neg, Bool.false_eq_true, ↓reduceIte, zn_NW, q0, q1, r0, r1, w1']
        refine fin _ _ _ rfl ?_ ?_
        · congr 1; omega
        · rw [if_pos rfl, Nat.add_comm p0]
      · by_cases c2 : o < n1
        · obtain ⟨w3, w4⟩ := f1 o c2
          have w3' : I' 112 (512 * (t + 1) + 8 * z1 + o) = zn (c1 o) := by rw [(hP _ (Or.inr (by omega))).1]; exact w3
          simp (disch := omega) only [zb_gd, zb_bd, zb_bd2, zb_let, zb_jn, zn_0, zn_1, zn_2, zn_3, zn_4, zn_5, zn_6, zn_7, zn_8, zn_11, zn_12, zn_15, zn_16, zn_18, zn_30, zn_31, zn_32, zn_64, zn_128, zn_199, zn_200, zn_512, zn_600, zn_1000, zn_2048, zn_add, zn_mul, zn_sub, zn_in2, zn_nat, zn_le, zn_lt, zn_eq, if_pos, if_neg, Bool.false_eq_true, ↓reduceIte, zn_NW, q0, q1, r0, r1, w1', w3']
          refine fin _ _ _ rfl ?_ ?_
          · congr 1; omega
          · rw [if_pos rfl, Nat.add_comm p0]
        · simp (disch := omega) only [zb_gd, zb_bd, zb_bd2, zb_let, zb_jn, zn_0, zn_1, zn_2, zn_3, zn_4, zn_5, zn_6, zn_7, zn_8, zn_11, zn_12, zn_15, zn_16, zn_18, zn_30, zn_31, zn_32, zn_64, zn_128, zn_199, zn_200, zn_512, zn_600, zn_1000, zn_2048, zn_add, zn_mul, zn_sub, zn_in2, zn_nat, zn_le, zn_lt, zn_eq, if_pos, if_neg, Bool.false_eq_true, ↓reduceIte, zn_NW, q0, q1, r0, r1, w1']
          refine fin _ _ _ rfl ?_ ?_
          · congr 1; omega
          · rw [if_pos rfl, Nat.add_comm p0]
    · subst hy0
      have hr2 := hr0.symm
      subst hr2
      obtain ⟨w3, w4⟩ := f1 o hon
      have w3' : I' 112 (512 * (t + 1) + 8 * z1 + o) = zn (c1 o) := by rw [(hP _ (Or.inr (by omega))).1]; exact w3
      have hor := hz0' rfl
      clear hz1' hz0' hs1 hMc hMb hm
      rcases hor with c | c
      · simp (disch := omega) only [zb_gd, zb_bd, zb_bd2, zb_let, zb_jn, zn_0, zn_1, zn_2, zn_3, zn_4, zn_5, zn_6, zn_7, zn_8, zn_11, zn_12, zn_15, zn_16, zn_18, zn_30, zn_31, zn_32, zn_64, zn_128, zn_199, zn_200, zn_512, zn_600, zn_1000, zn_2048, zn_add, zn_mul, zn_sub, zn_in2, zn_nat, zn_le, zn_lt, zn_eq, if_pos, if_neg, Bool.false_eq_true, ↓reduceIte, zn_NW, q0, q1, r0, r1, w3']
        refine fin _ _ _ rfl ?_ ?_
        · congr 1; omega
        · rw [if_neg (by omega), Nat.add_comm p1]
      · by_cases c2 : z < n0
        · obtain ⟨w1, w2⟩ := f0 z c2
          have w1' : I' 112 (512 * (t + 1) + 8 * z0 + z) = zn (c0 z) := by rw [(hP _ (Or.inr (by omega))).1]; exact w1
          simp (disch := omega) only [zb_gd, zb_bd, zb_bd2, zb_let, zb_jn, zn_0, zn_1, zn_2, zn_3, zn_4, zn_5, zn_6, zn_7, zn_8, zn_11, zn_12, zn_15, zn_16, zn_18, zn_30, zn_31, zn_32, zn_64, zn_128, zn_199, zn_200, zn_512, zn_600, zn_1000, zn_2048, zn_add, zn_mul, zn_sub, zn_in2, zn_nat, zn_le, zn_lt, zn_eq, if_pos, if_neg, Bool.false_eq_true, ↓reduceIte, zn_NW, q0, q1, r0, r1, w1', w3']
          refine fin _ _ _ rfl ?_ ?_
          · congr 1; omega
          · rw [if_neg (by omega), Nat.add_comm p1]
        · simp (disch := omega) only [zb_gd, zb_bd, zb_bd2, zb_let, zb_jn, zn_0, zn_1, zn_2, zn_3, zn_4, zn_5, zn_6, zn_7, zn_8, zn_11, zn_12, zn_15, zn_16, zn_18, zn_30, zn_31, zn_32, zn_64, zn_128, zn_199, zn_200, zn_512, zn_600, zn_1000, zn_2048, zn_add, zn_mul, zn_sub, zn_in2, zn_nat, zn_le, zn_lt, zn_eq, if_pos, if_neg, Bool.false_eq_true, ↓reduceIte, zn_NW, q0, q1, r0, r1, w3']
          refine fin _ _ _ rfl ?_ ?_
          · congr 1; omega
          · rw [if_neg (by omega), Nat.add_comm p1]

def zLvM (I : pd_I) (t S : Nat) (L : Nat → Nat × (Nat → Nat)) : Prop := ∀ s, s < S → I 111 (64 * t + s) = zn (L s).1 ∧ ∀ i, i < (L s).1 → I 112 (512 * t + 8 * s + i) = zn ((L s).2 i)
def zOn1M (I : pd_I) (cd : Nat → Nat) (P : Nat → Nat → Nat) (k t : Nat) (L : Nat → Nat × (Nat → Nat)) (S : Nat) : Prop := ∀ s, s < S → ∀ m, m < zN1 cd k L s → I 113 (512 * t + 8 * s + m) = zn (zB1 cd P t L s m) ∧ I 114 (512 * t + 8 * s + m) = zn (zR1 cd P t L s m)
theorem zq_rest {I : pd_I} {c t s k T : Nat} {cd : Nat → Nat} {P : Nat → Nat → Nat} {L : Nat → Nat × (Nat → Nat)} (h : zCm I c cd) (hv : zCv cd) (hma : zMa I cd T P) (ht : t < T) (ht2 : t < 200) (hs : s < 2 ^ cd 1) (hk : 1 ≤ k) (hk8 : k ≤ 8)
    (hL : zLvM I (t + 1) (2 ^ cd 1) L) (hL8 : ∀ s, (L s).1 ≤ 8) (hLb : ∀ s i, i < (L s).1 → (L s).2 i + 10000 < zEE) (hP : ∀ t e, P t e ≤ 10000) :
    zT (fn_X12_rest I (zn c) (zn t) (zn s) (zn k)) (fun I' => zF [111, 112, 113, 114] I I' ∧ I' 111 (64 * t + s) = zn (zN1 cd k L s) ∧ (∀ m, m < zN1 cd k L s → I' 112 (512 * t + 8 * s + m) = zn (zC1 cd P t L s m) ∧ I' 113 (512 * t + 8 * s + m) = zn (zB1 cd P t L s m) ∧ I' 114 (512 * t + 8 * s + m) = zn (zR1 cd P t L s m)) ∧ (∀ j, (j < 512 * t + 8 * s ∨ 512 * t + 8 * s + 8 ≤ j) → I' 112 j = I 112 j ∧ I' 113 j = I 113 j ∧ I' 114 j = I 114 j) ∧ (∀ j, j ≠ 64 * t + s → I' 111 j = I 111 j)) := by
  have hS := zCv_S hv
  have hz0 : znx cd s 0 < 2 ^ cd 1 := znx_lt
  have hz1 : znx cd s 1 < 2 ^ cd 1 := znx_lt
  have hb0 := hma t ht (2 * s) (by omega)
  have hb1 := hma t ht (2 * s + 1) (by omega)
  rw [← Nat.add_assoc] at hb1
  obtain ⟨l0, l0'⟩ := hL _ hz0
  obtain ⟨l1, l1'⟩ := hL _ hz1
  unfold fn_X12_rest
  rw [zn_0, zc_next h hv (by omega), zb_bd, zn_1, zc_next h hv (by omega), zb_bd]
  refine zq_rest27 ht2 (by omega) hk hk8 (by omega) (by omega) l0 l1 (hL8 _) (hL8 _) hb0 hb1 (fun i hi => ⟨l0' i hi, ?_⟩) (fun i hi => ⟨l1' i hi, ?_⟩) (fun I2 hF hD hP1 => ?_)
  · have := hLb _ i hi; have := hP t (2 * s); omega
  · have := hLb _ i hi; have := hP t (2 * s + 1); omega
  · simp (disch := omega) only [zb_gd, zb_bd, zb_bd2, zb_let, zb_jn, zn_0, zn_1, zn_2, zn_3, zn_4, zn_5, zn_6, zn_7, zn_8, zn_11, zn_12, zn_15, zn_16, zn_18, zn_30, zn_31, zn_32, zn_64, zn_128, zn_199, zn_200, zn_512, zn_600, zn_1000, zn_2048, zn_add, zn_mul, zn_sub, zn_in2, zn_nat, zn_le, zn_lt, zn_eq, if_pos, if_neg, Bool.false_eq_true, ↓reduceIte]
    refine ⟨_, rfl, zF_u (by simp) (zF_sub hF (by decide)), ?_, fun m hm => ?_, fun j hj => ?_, fun j hj => ?_⟩
    · rw [zu_same, zu_at]; rfl
    · rw [zu_ne (show (112 : Nat) ≠ 111 by decide), zu_ne (show (113 : Nat) ≠ 111 by decide), zu_ne (show (114 : Nat) ≠ 111 by decide)]; exact hD m hm
    · rw [zu_ne (show (112 : Nat) ≠ 111 by decide), zu_ne (show (113 : Nat) ≠ 111 by decide), zu_ne (show (114 : Nat) ≠ 111 by decide)]; exact hP1 j hj
    · rw [zu_same, zu_nat hj, hF 111 (by decide)]
theorem zq_rests174 {O : Type} {Q : O → Prop} {kont : pd_I → Option O} {I : pd_I} {c t k T : Nat} {cd : Nat → Nat} {P : Nat → Nat → Nat} {L : Nat → Nat × (Nat → Nat)} (h : zCm I c cd) (hv : zCv cd) (hma : zMa I cd T P) (ht : t < T) (ht2 : t < 200) (hk : 1 ≤ k) (hk8 : k ≤ 8)
    (hL : zLvM I (t + 1) (2 ^ cd 1) L) (hL8 : ∀ s, (L s).1 ≤ 8) (hLb : ∀ s i, i < (L s).1 → (L s).2 i + 10000 < zEE) (hP : ∀ t e, P t e ≤ 10000)
    (hK : ∀ I2, zF [111, 112, 113, 114] I I2 → zLvM I2 t (2 ^ cd 1) (fun s => (zN1 cd k L s, zC1 cd P t L s)) → zOn1M I2 cd P k t L (2 ^ cd 1) → (∀ j, (j < 512 * t ∨ 512 * t + 512 ≤ j) → I2 112 j = I 112 j ∧ I2 113 j = I 113 j ∧ I2 114 j = I 114 j) → (∀ j, (j < 64 * t ∨ 64 * t + 64 ≤ j) → I2 111 j = I 111 j) → zT (kont I2) Q) :
    zT (fl_X12_rests_174 (zn c) (zn k) (zn (2 ^ cd 1)) (zn t) kont pd_FU (zn 0) I) Q := by
  have hS := zCv_S hv
  refine zl_loop (fun fu s (st : pd_I) => fl_X12_rests_174 (zn c) (zn k) (zn (2 ^ cd 1)) (zn t) kont fu s st) (2 ^ cd 1) (fun s st => zF [111, 112, 113, 114] I st ∧ (∀ s', s' < s → st 111 (64 * t + s') = zn (zN1 cd k L s') ∧ ∀ m, m < zN1 cd k L s' → st 112 (512 * t + 8 * s' + m) = zn (zC1 cd P t L s' m) ∧ st 113 (512 * t + 8 * s' + m) = zn (zB1 cd P t L s' m) ∧ st 114 (512 * t + 8 * s' + m) = zn (zR1 cd P t L s' m)) ∧ (∀ j, (j < 512 * t ∨ 512 * t + 512 ≤ j) → st 112 j = I 112 j ∧ st 113 j = I 113 j ∧ st 114 j = I 114 j) ∧ (∀ j, (j < 64 * t ∨ 64 * t + 64 ≤ j) → st 111 j = I 111 j)) ?_ ?_ pd_FU 0 I (by omega) (zFU (by omega)) ⟨zF_rfl, fun s' hs' => by omega, fun _ _ => ⟨rfl, rfl, rfl⟩, fun _ _ => rfl⟩
  · rintro fu I' ⟨hF, hD, hJ, hJ2⟩
    try simp only []
    rw [fl_X12_rests_174, if_pos (by rw [zn_le (by omega) (by omega)]; omega)]
    exact hK I' hF (fun s hs => ⟨(hD s hs).1, fun i hi => ((hD s hs).2 i hi).1⟩) (fun s hs m hm => ((hD s hs).2 m hm).2) hJ hJ2
  · rintro fu s I' hs ⟨hF, hD, hJ, hJ2⟩ ih
    try simp only [] at ih ⊢
    have hcd := zCm_F (by decide) hF h
    have hma' : zMa I' cd T P := zMa_F (by decide) hF hma
    have hL' : zLvM I' (t + 1) (2 ^ cd 1) L := by
      intro s' hs'
      obtain ⟨w1, w2⟩ := hL s' hs'
      refine ⟨by rw [hJ2 _ (by omega)]; exact w1, fun i hi => ?_⟩
      have := hL8 s'
      rw [(hJ _ (by omega)).1]; exact w2 i hi
    have hN8 : ∀ s', zN1 cd k L s' ≤ 8 := fun s' => by unfold zN1; omega
    rw [fl_X12_rests_174, if_neg (by rw [zn_le (by omega) (by omega)]; omega), zT_bd]
    refine zT_mono (zq_rest hcd hv hma' ht ht2 hs hk hk8 hL' hL8 hLb hP) (fun I2 ⟨hF2, q1, q2, q3, q4⟩ => ?_)
    rw [zb_let, zn_1, zn_add]
    refine ih _ ⟨zF_tr hF hF2, fun s' hs' => ?_, fun j hj => ?_, fun j hj => ?_⟩
    · by_cases e : s' = s
      · subst e; exact ⟨q1, q2⟩
      · obtain ⟨w1, w2⟩ := hD s' (by omega)
        refine ⟨by rw [q4 _ (by omega)]; exact w1, fun m hm => ?_⟩
        have := hN8 s'
        obtain ⟨r1, r2, r3⟩ := q3 (512 * t + 8 * s' + m) (by omega)
        rw [r1, r2, r3]
        exact w2 m hm
    · obtain ⟨r1, r2, r3⟩ := q3 j (by omega)
      rw [r1, r2, r3]; exact hJ j hj
    · rw [q4 j (by omega)]; exact hJ2 j hj
/-! the ends, and what a tail costs -/
def zts (cd : Nat → Nat) (s : Nat) : Nat → Nat
  | 0 => s
  | k + 1 => znx cd (zts cd s k) (zfb cd (zts cd s k))
def ztc (cd : Nat → Nat) (P : Nat → Nat → Nat) (n s : Nat) : Nat → Nat
  | 0 => 0
  | k + 1 => ztc cd P n s k + P (n + k) (2 * zts cd s k + zfb cd (zts cd s k))
def zEn (cd : Nat → Nat) (begin s : Nat) : Nat := if cd 0 = 4 then (if s = begin then 1 else 0) else 1
def zFn (cd : Nat → Nat) (P : Nat → Nat → Nat) (n s : Nat) : Nat := ztc cd P n s (zst cd n - n)
theorem zts_lt {cd : Nat → Nat} {s : Nat} (hs : s < 2 ^ cd 1) : ∀ k, zts cd s k < 2 ^ cd 1
  | 0 => hs
  | k + 1 => znx_lt
theorem ztc_le {cd : Nat → Nat} {P : Nat → Nat → Nat} {n s B : Nat} (hP : ∀ t e, P t e ≤ B) : ∀ k, ztc cd P n s k ≤ B * k
  | 0 => Nat.zero_le _
  | k + 1 => by
    have := ztc_le (cd := cd) (n := n) (s := s) hP k
    have := hP (n + k) (2 * zts cd s k + zfb cd (zts cd s k))
    unfold ztc; rw [Nat.mul_succ]; omega
theorem zEn_le {cd : Nat → Nat} {begin s : Nat} : zEn cd begin s ≤ 1 := by
  unfold zEn; split
  · split <;> omega
  · omega
theorem zFn_le {cd : Nat → Nat} {P : Nat → Nat → Nat} {n s : Nat} (hv : zCv cd) (hP : ∀ t e, P t e ≤ 10000) : zFn cd P n s ≤ 60000 := by
  have h1 := ztc_le (cd := cd) (n := n) (s := s) hP (zst cd n - n)
  have h2 := zst_le (n := n) hv
  have : 10000 * (zst cd n - n) ≤ 10000 * 6 := Nat.mul_le_mul_left _ (by omega)
  unfold zFn; omega
theorem zFn_ring {cd : Nat → Nat} {P : Nat → Nat → Nat} {n s : Nat} (h : cd 0 ≠ 3) : zFn cd P n s = 0 := by
  unfold zFn zst; rw [if_neg h, Nat.sub_self]; rfl
theorem zq_rests76 {O : Type} {kont : Int32 → Option O} {I : pd_I} {c n s T : Nat} {cd : Nat → Nat} {P : Nat → Nat → Nat} (h : zCm I c cd) (hv : zCv cd) (hma : zMa I cd T P) (hT : zst cd n ≤ T) (hT2 : T ≤ 206) (hs : s < 2 ^ cd 1) :
    fl_X12_rests_76 (zn c) (zn n) I kont pd_FU (zn 0) (zn s) (zn n) = kont (zn (zFn cd P n s)) := by
  have hst := zst_le (n := n) hv
  have hS := zCv_S hv
  have key := zl_eq (fun fu k (st : Int32 × Int32) => fl_X12_rests_76 (zn c) (zn n) I kont fu st.1 st.2 k) (zst cd n) n (fun k => (zn (ztc cd P n s (k - n)), zn (zts cd s (k - n)))) (kont (zn (zFn cd P n s))) (fun fu => ?_) (fun fu k hk0 hk => ?_) pd_FU n (Nat.le_refl _) (by omega) (zFU (by omega))
  · rw [Nat.sub_self] at key
    exact key
  · try simp only []
    rw [fl_X12_rests_76, zc_stepsM h hv, zb_bd, if_pos (by rw [zn_le (by omega) (by omega)]; omega)]
    rfl
  · try simp only []
    have hz := zts_lt hs (k - n)
    have hf := zfb_lt cd (zts cd s (k - n))
    have hp := hma k (by omega) (2 * zts cd s (k - n) + zfb cd (zts cd s (k - n))) (by omega)
    rw [← Nat.add_assoc] at hp
    rw [fl_X12_rests_76, zc_stepsM h hv, zb_bd, if_neg (by rw [zn_le (by omega) (by omega)]; omega), zc_fed h hv, zb_bd]
    simp (disch := omega) only [zb_gd, zb_bd, zb_bd2, zb_let, zb_jn, zn_0, zn_1, zn_2, zn_3, zn_4, zn_5, zn_6, zn_7, zn_8, zn_11, zn_12, zn_15, zn_16, zn_18, zn_30, zn_31, zn_32, zn_64, zn_128, zn_199, zn_200, zn_512, zn_600, zn_1000, zn_2048, zn_add, zn_mul, zn_sub, zn_in2, zn_nat, zn_le, zn_lt, zn_eq, if_pos, if_neg, Bool.false_eq_true, ↓reduceIte, hp]
    rw [zc_next h hv hf, zb_bd]
    have e1 : k + 1 - n = (k - n) + 1 := by omega
    have e2 : n + (k - n) = k := by omega
    rw [e1]
    show _ = fl_X12_rests_76 (zn c) (zn n) I kont fu (zn (ztc cd P n s (k - n) + P (n + (k - n)) (2 * zts cd s (k - n) + zfb cd (zts cd s (k - n))))) (zn (znx cd (zts cd s (k - n)) (zfb cd (zts cd s (k - n))))) (zn (k + 1))
    rw [e2]
theorem zq_rests13 {O : Type} {Q : O → Prop} {kont : pd_I → Option O} {I : pd_I} {c n begin T : Nat} {cd : Nat → Nat} {P : Nat → Nat → Nat} (h : zCm I c cd) (hv : zCv cd) (hma : zMa I cd T P) (hT : zst cd n ≤ T) (hT2 : T ≤ 206) (hn : n ≤ 200) (hb : begin < 64)
    (hK : ∀ I2, zF [111, 112] I I2 → zLvM I2 n (2 ^ cd 1) (fun s => (zEn cd begin s, fun _ => zFn cd P n s)) → zT (kont I2) Q) :
    zT (fl_X12_rests_13 (zn c) (zn n) (zn begin) (zn (2 ^ cd 1)) kont pd_FU (zn 0) I) Q := by
  have hS := zCv_S hv
  have h0 : cd 0 ≤ 5 := hv.1
  refine zl_loop (fun fu s (st : pd_I) => fl_X12_rests_13 (zn c) (zn n) (zn begin) (zn (2 ^ cd 1)) kont fu s st) (2 ^ cd 1) (fun s st => zF [111, 112] I st ∧ zLvM st n s (fun s => (zEn cd begin s, fun _ => zFn cd P n s))) ?_ ?_ pd_FU 0 I (by omega) (zFU (by omega)) ⟨zF_rfl, fun s' hs' => by omega⟩
  · rintro fu I' ⟨hF, hD⟩
    try simp only []
    rw [fl_X12_rests_13, if_pos (by rw [zn_le (by omega) (by omega)]; omega)]
    exact hK I' hF hD
  · rintro fu s I' hs ⟨hF, hD⟩ ih
    try simp only [] at ih ⊢
    have hcd := zCm_F (by decide) hF h
    have hF2 : zF [111, 112] I (pd_ui I' 111 (64 * n + s) (zn (zEn cd begin s))) := zF_u (by decide) hF
    have hcd2 := zCm_F (by decide) hF2 h
    have hma2 := zMa_F (by decide) hF2 hma
    have e97 := hcd.2.1
    have hc := h.1
    have hx : (pd_bd (pd_bd (if zn (cd 0) = 4 then if zn s = zn begin then some false else (some true) else (some false)) fun zc3 => if zc3 = true then some 0 else (some (1 : Int32))) fun (zx2 : Int32) => if zx2 = 0 then some (0 : Int32) else (some 1)) = some (zn (zEn cd begin s)) := by
      unfold zEn
      rw [zn_4, zi_eq (by omega) (by omega), zi_eq (by omega) (by omega)]
      by_cases c1 : cd 0 = 4
      · by_cases c2 : s = begin
        · rw [if_pos c1, if_pos c2, if_pos c1, if_pos c2]; rfl
        · rw [if_pos c1, if_neg c2, if_pos c1, if_neg c2]; rfl
      · rw [if_neg c1, if_neg c1]; rfl
    obtain ⟨x2, hx1, hx2⟩ := Option.bind_eq_some_iff.mp hx
    have fin : zT (fl_X12_rests_13 (zn c) (zn n) (zn begin) (zn (2 ^ cd 1)) kont fu (zn (s + 1)) (pd_ui (pd_ui I' 111 (64 * n + s) (zn (zEn cd begin s))) 112 (512 * n + 8 * s) (zn (zFn cd P n s)))) Q := by
      refine ih _ ⟨zF_u (by decide) hF2, fun s' hs' => ?_⟩
      simp only [zu_same, zu_ne (show (111 : Nat) ≠ 112 by decide), zu_ne (show (112 : Nat) ≠ 111 by decide), zu_app]
      have hE := zEn_le (cd := cd) (begin := begin) (s := s')
      by_cases e : s' = s
      · subst e
        rw [if_pos rfl]
        refine ⟨rfl, fun i hi => ?_⟩
        rw [if_pos (by omega)]
      · rw [if_neg (by omega)]
        obtain ⟨w1, w2⟩ := hD s' (by omega)
        refine ⟨w1, fun i hi => ?_⟩
        rw [if_neg (by omega)]
        exact w2 i hi
    rw [fl_X12_rests_13, if_neg (by rw [zn_le (by omega) (by omega)]; omega), zn_in hc (by decide), zb_gd, zn_nat (by omega), e97]
    rw [show ∀ (f : Int32 → Option O), pd_bd (pd_bd (if zn (cd 0) = 4 then if zn s = zn begin then some false else (some true) else (some false)) fun zc3 => if zc3 = true then some 0 else (some (1 : Int32))) f = f x2 from fun f => by rw [hx1]; rfl, hx2, zb_bd]
    simp (disch := omega) only [zn_64, zn_mul, zn_add, zn_in2, zb_gd, zn_nat, zb_let, zn_0]
    rw [zq_rests76 hcd2 hv hma2 hT hT2 hs]
    simp (disch := omega) only [zb_gd, zb_bd, zb_bd2, zb_let, zb_jn, zn_0, zn_1, zn_2, zn_3, zn_4, zn_5, zn_6, zn_7, zn_8, zn_11, zn_12, zn_15, zn_16, zn_18, zn_30, zn_31, zn_32, zn_64, zn_128, zn_199, zn_200, zn_512, zn_600, zn_1000, zn_2048, zn_add, zn_mul, zn_sub, zn_in2, zn_nat, zn_le, zn_lt, zn_eq, if_pos, if_neg, Bool.false_eq_true, ↓reduceIte]
    exact fin
def zOnM (I : pd_I) (cd : Nat → Nat) (P : Nat → Nat → Nat) (k n : Nat) (E F : Nat → Nat) (D : Nat) : Prop := ∀ d, d < D → ∀ s, s < 2 ^ cd 1 → ∀ m, m < (zLs cd P k n E F (d + 1) s).1 → I 113 (512 * (n - (d + 1)) + 8 * s + m) = zn (zLb cd P k n E F d s m) ∧ I 114 (512 * (n - (d + 1)) + 8 * s + m) = zn (zLr cd P k n E F d s m)
theorem zq_rests {I : pd_I} {c n k begin T : Nat} {cd : Nat → Nat} {P : Nat → Nat → Nat} (h : zCm I c cd) (hv : zCv cd) (hma : zMa I cd T P) (hT : zst cd n ≤ T) (hT2 : T ≤ 206) (hn1 : 1 ≤ n) (hn : n ≤ 200) (hb : begin < 64) (hk : 1 ≤ k) (hk8 : k ≤ 8) (hP : ∀ t e, P t e ≤ 10000) :
    zT (fn_X12_rests I (zn c) (zn n) (zn k) (zn begin)) (fun I' => zF [111, 112, 113, 114] I I' ∧ zLvM I' 0 (2 ^ cd 1) (zLs cd P k n (zEn cd begin) (zFn cd P n) n) ∧ zOnM I' cd P k n (zEn cd begin) (zFn cd P n) n) := by
  have hzB := zE_big
  have hst := zst_le (n := n) hv
  have hS := zCv_S hv
  have h6 : cd 1 ≤ 6 := hv.2.2.1
  have hc := h.1
  unfold fn_X12_rests
  rw [zn_in hc (by decide), zb_gd, zn_nat (by omega), h.2.2.1, zn_1, zn_31, zn_1shl _ (by omega), zb_let, zn_0]
  refine zq_rests13 h hv hma hT hT2 hn hb (fun I2 hF2 hL2 => ?_)
  rw [zb_let, ← zn_1, zdn_0 hn1]
  refine zl_gen (fun fu x (st : pd_I) => fl_X12_rests_166 (zn c) (zn k) (zn (2 ^ cd 1)) (fun zI6 => some zI6) fu x st) (zdn n) n (fun d st => zF [111, 112, 113, 114] I st ∧ zLvM st (n - d) (2 ^ cd 1) (zLs cd P k n (zEn cd begin) (zFn cd P n) d) ∧ zOnM st cd P k n (zEn cd begin) (zFn cd P n) d) ?_ ?_ pd_FU 0 I2 (by omega) (zFU (by omega)) ⟨zF_sub hF2 (by decide), hL2, fun d hd => by omega⟩
  · rintro fu I' ⟨hF, hL, hO⟩
    try simp only [] at *
    rw [fl_X12_rests_166, zdn_n, if_pos (by decide)]
    rw [Nat.sub_self] at hL
    exact ⟨_, rfl, hF, hL, hO⟩
  · rintro fu d I' hd ⟨hF, hL, hO⟩ ih
    try simp only [] at ih ⊢
    have hcd := zCm_F (by decide) hF h
    have hma' := zMa_F (by decide) hF hma
    have hFb : ∀ s, zFn cd P n s ≤ 60000 := fun s => zFn_le hv hP
    have hlen : ∀ s, (zLs cd P k n (zEn cd begin) (zFn cd P n) d s).1 ≤ 8 := fun s => Nat.le_trans (zLs_cnt hk (fun s => zEn_le) d s) hk8
    have hbd : ∀ s i, i < (zLs cd P k n (zEn cd begin) (zFn cd P n) d s).1 → (zLs cd P k n (zEn cd begin) (zFn cd P n) d s).2 i + 10000 < zEE := fun s i hi => by
      have := zLs_le hP hFb d s i hi
      have : 10000 * d ≤ 10000 * 200 := Nat.mul_le_mul_left _ (by omega)
      omega
    rw [fl_X12_rests_166, zdn_lt hd, zn_0, if_neg (zn_n0 (by omega))]
    rw [show n - d = (n - (d + 1)) + 1 by omega] at hL
    refine zq_rests174 hcd hv hma' (by omega) (by omega) hk hk8 hL hlen hbd hP (fun I3 hF3 hL3 hO3 hJ3 hJ4 => ?_)
    rw [zb_let, zdn_s hd]
    refine ih _ ⟨zF_tr hF hF3, hL3, fun d' hd' s hs m hm => ?_⟩
    by_cases e : d' = d
    · subst e; exact hO3 s hs m hm
    · have hm8 : m < 8 := Nat.lt_of_lt_of_le hm (Nat.le_trans (zLs_cnt hk (fun s => zEn_le) _ s) hk8)
      obtain ⟨r1, r2, r3⟩ := hJ3 (512 * (n - (d' + 1)) + 8 * s + m) (by omega)
      rw [r2, r3]
      exact hO d' (by omega) s hs m hm
