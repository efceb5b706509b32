/-! codes: about, tap, stride, keep -/
theorem zn_19 : (19 : Int32) = zn 19 := (rfl)
theorem zin_t2 {p : Int32} {N : Nat} (hN : N < 2147483648) (h : zin p N) : (if p < 0 then some false else (if p < zn N then some true else (some false))) = some true := by
  obtain ⟨k, rfl, hk⟩ := h
  rw [zn_0, zi_lt (by omega) (by omega), if_neg (by omega), zi_lt (by omega) (by omega), if_pos hk]
theorem zin_f2 {p : Int32} {N : Nat} (hN : N < 2147483648) (h : ¬ zin p N) : (if p < 0 then some false else (if p < zn N then some true else (some false))) = some false := by
  by_cases c : p < 0
  · rw [if_pos c]
  · rw [if_neg c]
    by_cases d : p < zn N
    · exact absurd (zn_rng c (Int32.not_le.mpr d) hN) h
    · rw [if_neg d]
theorem zp7 {c : Nat} (h : c ≤ 7) : 2 ^ c ≤ 128 := Nat.le_trans (Nat.pow_le_pow_right (by decide) h) (by decide)
theorem zd_b1 {p : Int32} {c : Nat} (hc : c ≤ 7) (h : zin p (2 ^ c)) : fn_X11_demandBits p (zn c) = some (.ok ()) := by
  have := zp7 hc
  unfold fn_X11_demandBits
  rw [zn_1, zn_31, zn_1shl _ (by omega), zin_t2 (by omega) h, zb_bd, if_pos rfl]
theorem zd_b0 {p : Int32} {c : Nat} (hc : c ≤ 7) (h : ¬ zin p (2 ^ c)) : fn_X11_demandBits p (zn c) = some (.error "java/lang/IllegalArgumentException") := by
  have := zp7 hc
  unfold fn_X11_demandBits
  rw [zn_1, zn_31, zn_1shl _ (by omega), zin_f2 (by omega) h, zb_bd, if_neg (by decide)]
theorem zd_f1 {p : Int32} {c : Nat} (hc : c ≤ 7) (h : zin p (2 ^ c)) : fn_X12_fits p (zn c) = some (zn 1) := by
  have := zp7 hc
  unfold fn_X12_fits
  rw [zn_1, zn_31, zn_1shl _ (by omega), zin_t (by omega) h, zb_bd, if_pos rfl, zb_bd, zn_bo1, zb_gd]
theorem zd_f0 {p : Int32} {c : Nat} (hc : c ≤ 7) (h : ¬ zin p (2 ^ c)) : fn_X12_fits p (zn c) = some (zn 0) := by
  have := zp7 hc
  unfold fn_X12_fits
  rw [zn_1, zn_31, zn_1shl _ (by omega), zin_f (by omega) h, zb_bd, if_neg (by decide), zb_bd, zn_0, zn_bo0, zb_gd]
theorem zci {k cnt n : Nat} (hn : n = 133 + 3 * cnt) (hk : k < cnt) : pd_isCode (133 + 3 * k) n = true := decide_eq_true ⟨by omega, by omega, by omega⟩
theorem zrg_n {p : Int32} {b : Nat} (hb : b < 2147483648) (h : ¬ zrg p 0 b) : p < zn 0 ∨ ∃ t, p = zn t ∧ b < t ∧ t < 2147483648 := by
  by_cases c : p < zn 0
  · exact Or.inl c
  · obtain ⟨t, rfl, ht⟩ := zn_of (Int32.not_lt.mp c)
    refine Or.inr ⟨t, rfl, ?_, ht⟩
    by_cases d : b < t
    · exact d
    · exact absurd ⟨t, rfl, by omega, by omega⟩ h
def zav (cd : Nat → Nat) (w : Nat) : Int32 := if w = 0 then zn (cd 0) else if w = 1 then zn (cd 1) else if w = 2 then zn (cd 2) else if w = 3 then zn (2 ^ cd 1) else if w = 4 then zn (cd 3) else if w = 5 then zn (cd 4) else if w = 6 then zn (cd 5) else if w < 11 then (if w - 7 < cd 2 then zn (cd w) else -1) else (if 2 ≤ cd 0 ∧ w - 11 < cd 4 then zn (cd w) else -1)
theorem zc_tok1 {I : pd_I} {a w : Nat} {cd : Nat → Nat} (h : zCo I a cd) (hv : zCv cd) (h7 : 7 ≤ w) (h18 : w ≤ 18) : fn_X0_tapOrKeep I a (zn w) = some (.ok (if w < 11 then (if w - 7 < cd 2 then zn (cd w) else -1) else (if 2 ≤ cd 0 ∧ w - 11 < cd 4 then zn (cd w) else -1))) := by
  have v2 : cd 2 ≤ 4 := hv.2.2.2.2.1
  have v4 : cd 4 ≤ 8 := hv.2.2.2.2.2.2.2.1
  have hcut := zc_isCut h hv
  obtain ⟨-, -, e2, -, e5, -, e7, e8⟩ := h
  unfold fn_X0_tapOrKeep
  rw [zb_jn, zn_7, zi_lt (by omega) (by omega), if_neg (by omega), zn_11, zi_le (by omega) (by omega)]
  by_cases c : 11 ≤ w
  · rw [if_pos c, if_neg (show ¬ w < 11 by omega), zb_jn, zi_lt (by omega) (by omega), if_neg (by omega), zn_19, zi_le (by omega) (by omega), if_neg (by omega), hcut, zb_bd]
    by_cases d : 2 ≤ cd 0
    · rw [if_pos d, zn_0, if_neg zn_p0, e5, zn_sub c, zi_le (by omega) (by omega)]
      by_cases g : w - 11 < cd 4
      · rw [if_neg (by omega), if_pos ⟨d, g⟩, zb_bd, if_pos rfl, zn_in2 (show w - 11 < 8 by omega) (by omega), zb_gd, zn_nat (by omega), e8 _ (by omega), zb_bd, show 11 + (w - 11) = w by omega]
      · rw [if_pos (by omega), if_neg (fun hh => g hh.2), zb_bd, if_neg (by decide), zb_bd]
    · rw [if_neg d, zn_0, if_pos rfl, zb_bd, if_neg (by decide), zb_bd, if_neg (fun hh => d hh.1)]
  · rw [if_neg c, if_pos (show w < 11 by omega), e2, zn_sub h7, zi_le (by omega) (by omega)]
    by_cases g : w - 7 < cd 2
    · rw [if_neg (by omega), if_pos g, zn_in2 (show w - 7 < 4 by omega) (by omega), zb_gd, zn_nat (by omega), e7 _ (by omega), zb_bd, show 7 + (w - 7) = w by omega]
    · rw [if_pos (by omega), if_neg g, zb_bd]
theorem zc_tok0 {I : pd_I} {a : Nat} {q : Int32} (hq : ¬ zrg q 0 18) : fn_X0_tapOrKeep I a q = some (.error "java/util/NoSuchElementException") := by
  unfold fn_X0_tapOrKeep
  rw [zb_jn]
  rcases zrg_n (by omega) hq with c | ⟨t, rfl, ht, ht2⟩
  · have h7 : q < 7 := Int32.lt_trans c (by decide)
    have h11 : q < 11 := Int32.lt_trans c (by decide)
    rw [if_pos h7, zb_jn, if_pos h11]
  · rw [zn_7, zi_lt ht2 (by omega), if_neg (by omega), zn_11, zi_le (by omega) ht2, if_pos (by omega), zb_jn, zi_lt ht2 (by omega), if_neg (by omega), zn_19, zi_le (by omega) ht2, if_pos (by omega)]
theorem zc_aboutC {I : pd_I} {Z : pd_R} {n k cnt w : Nat} {cd : Nat → Nat} (h : zCo I (133 + 3 * k) cd) (hv : zCv cd) (hc : I 0 2 = zn cnt) (hc12 : cnt ≤ 12) (hk : k < cnt) (hz : Z 2 k = some (133 + 3 * k)) (hn : n = 133 + 3 * cnt) (hw : w ≤ 18) : fn_X11_about I Z n (zn k) (zn w) = some (.ok (zav cd w)) := by
  have ht := fun h7 => zc_tok1 (w := w) h hv h7 hw
  have hS := zc_states h hv
  obtain ⟨e0, e1, e2, e3, e4, e5, -, -⟩ := h
  unfold fn_X11_about zav
  rw [zr_codeOf1 hc hc12 hk hz (zci hn hk), zb_bx, zci hn hk, zb_gd, zn_0, zn_1, zn_2, zn_3, zn_4, zn_5, zn_6, zi_eq (by omega) (by omega), zi_eq (by omega) (by omega), zi_eq (by omega) (by omega), zi_eq (by omega) (by omega), zi_eq (by omega) (by omega), zi_eq (by omega) (by omega), zi_eq (by omega) (by omega)]
  by_cases c0 : w = 0
  · rw [if_pos c0, if_pos c0, e0]
  by_cases c1 : w = 1
  · rw [if_neg c0, if_neg c0, if_pos c1, if_pos c1, e1]
  by_cases c2 : w = 2
  · rw [if_neg c0, if_neg c0, if_neg c1, if_neg c1, if_pos c2, if_pos c2, e2]
  by_cases c3 : w = 3
  · rw [if_neg c0, if_neg c0, if_neg c1, if_neg c1, if_neg c2, if_neg c2, if_pos c3, if_pos c3, hS, zb_bd]
  by_cases c4 : w = 4
  · rw [if_neg c0, if_neg c0, if_neg c1, if_neg c1, if_neg c2, if_neg c2, if_neg c3, if_neg c3, if_pos c4, if_pos c4, e3]
  by_cases c5 : w = 5
  · rw [if_neg c0, if_neg c0, if_neg c1, if_neg c1, if_neg c2, if_neg c2, if_neg c3, if_neg c3, if_neg c4, if_neg c4, if_pos c5, if_pos c5, e4]
  by_cases c6 : w = 6
  · rw [if_neg c0, if_neg c0, if_neg c1, if_neg c1, if_neg c2, if_neg c2, if_neg c3, if_neg c3, if_neg c4, if_neg c4, if_neg c5, if_neg c5, if_pos c6, if_pos c6, e5]
  · rw [if_neg c0, if_neg c0, if_neg c1, if_neg c1, if_neg c2, if_neg c2, if_neg c3, if_neg c3, if_neg c4, if_neg c4, if_neg c5, if_neg c5, if_neg c6, if_neg c6, ht (by omega), zb_bx]
    rfl
theorem zc_aboutM {I : pd_I} {k cnt w : Nat} {cd : Nat → Nat} (h : zCm I k cd) (hv : zCv cd) (hc : I 92 5 = zn cnt) (hc12 : cnt ≤ 12) (hk : k < cnt) (hw : w ≤ 18) : fn_X12_about I (zn k) (zn w) = some (zav cd w, pd_ui I 92 0 (zn 0)) := by
  have v0 : cd 0 ≤ 5 := hv.1
  have v1 : cd 1 ≤ 6 := hv.2.2.1
  have v2 : cd 2 ≤ 4 := hv.2.2.2.2.1
  have v4 : cd 4 ≤ 8 := hv.2.2.2.2.2.2.2.1
  obtain ⟨I1, hI1⟩ : ∃ I1, I1 = pd_ui I 92 0 (zn 0) := ⟨_, rfl⟩
  have h1 : zCm I1 k cd := by rw [hI1]; exact zCm_F (L := [92]) (by decide) (zF_u (by decide) zF_rfl) h
  have h92 : I1 92 0 = zn 0 := by rw [hI1, z92_0]
  obtain ⟨hk12, e0, e1, e2, e3, e4, e5, e7, e8⟩ := h1
  unfold fn_X12_about
  rw [zr_code1 hc hc12 ⟨k, rfl, hk⟩, zb_bd2, zb_jn, zn_0, if_neg zn_p0, zn_18, (zrg_t (a := 0) (by omega) ⟨w, rfl, by omega, hw⟩).1, zb_bd, if_pos rfl, zb_bd, ← hI1, zr_ok1 h92, zb_bd2, if_neg zn_p0, zb_jn, zn_7, zi_lt (by omega) (by omega)]
  have hsh : (1 : Int32) <<< (zn (cd 1) &&& 31) = zn (2 ^ cd 1) := by rw [zn_1, zn_31, zn_1shl _ (by omega)]
  by_cases c7 : w < 7
  · rw [if_pos c7, zn_11, zi_lt (by omega) (by omega), if_pos (by omega)]
    have hw7 : w = 0 ∨ w = 1 ∨ w = 2 ∨ w = 3 ∨ w = 4 ∨ w = 5 ∨ w = 6 := by omega
    unfold zav
    rw [zn_in2 (show k < 12 by omega) (by omega), zn_nat (show k < 2147483648 by omega), zi_eq (by omega) (by omega), zn_2, zn_3, zn_4, zn_5, zb_gd, zb_gd, zb_gd, zb_gd, zb_gd, zb_gd, zb_gd, e0, e1, e2, e3, e4, e5, hsh]
    by_cases c0 : w = 0
    · rw [if_pos c0, if_pos c0]
    rw [if_neg c0, if_neg c0, zn_1, zi_eq (by omega) (by omega)]
    by_cases c1 : w = 1
    · rw [if_pos c1, if_pos c1]
    rw [if_neg c1, if_neg c1, zi_eq (by omega) (by omega)]
    by_cases c2 : w = 2
    · rw [if_pos c2, if_pos c2]
    rw [if_neg c2, if_neg c2, zi_eq (by omega) (by omega)]
    by_cases c3 : w = 3
    · rw [if_pos c3, if_pos c3]
    rw [if_neg c3, if_neg c3, zi_eq (by omega) (by omega)]
    by_cases c4 : w = 4
    · rw [if_pos c4, if_pos c4]
    rw [if_neg c4, if_neg c4, zi_eq (by omega) (by omega)]
    by_cases c5 : w = 5
    · rw [if_pos c5, if_pos c5]
    rw [if_neg c5, if_neg c5, if_pos (show w = 6 by omega)]
  · have hz : zav cd w = if w < 11 then (if w - 7 < cd 2 then zn (cd w) else -1) else (if 2 ≤ cd 0 ∧ w - 11 < cd 4 then zn (cd w) else -1) := by
      unfold zav
      rw [if_neg (by omega), if_neg (by omega), if_neg (by omega), if_neg (by omega), if_neg (by omega), if_neg (by omega), if_neg (by omega)]
    rw [if_neg c7, hz, show (10 : Int32) = zn 10 from rfl, zi_lt (by omega) (by omega)]
    by_cases c : 10 < w
    · rw [if_pos c, if_neg (show ¬ w < 11 by omega), zn_11, zi_lt (by omega) (by omega), if_neg (by omega), zn_in2 (show k < 12 by omega) (by omega), zb_gd, zn_nat (show k < 2147483648 by omega), e0, zn_2, zi_lt (by omega) (by omega)]
      by_cases d : 2 ≤ cd 0
      · rw [if_neg (by omega), zb_gd, e4, zn_sub (by omega), zi_le (by omega) (by omega)]
        by_cases g : w - 11 < cd 4
        · have ex : 8 * k + w - 11 = 8 * k + (w - 11) := by omega
          rw [if_neg (by omega), if_pos ⟨d, g⟩, zb_bd, if_pos rfl, zn_8, zn_mul, zn_add, zn_sub (by omega), ex, zn_in2 (show 8 * k + (w - 11) < 96 by omega) (by omega), zb_gd, zn_nat (by omega), e8 _ (by omega), zb_bd, show 11 + (w - 11) = w by omega]
        · rw [if_pos (by omega), if_neg (fun hh => g hh.2), zb_bd, if_neg (by decide), zb_bd]
      · rw [if_pos (by omega), zb_bd, if_neg (by decide), zb_bd, if_neg (fun hh => d hh.1)]
    · rw [if_neg c, if_pos (show w < 11 by omega), zn_in2 (show k < 12 by omega) (by omega), zb_gd, zn_nat (show k < 2147483648 by omega), e2, zn_sub (by omega), zi_le (by omega) (by omega)]
      by_cases g : w - 7 < cd 2
      · have ex : 4 * k + w - 7 = 4 * k + (w - 7) := by omega
        rw [if_neg (by omega), if_pos g, zn_4, zn_mul, zn_add, zn_sub (by omega), ex, zn_in2 (show 4 * k + (w - 7) < 48 by omega) (by omega), zb_gd, zn_nat (by omega), e7 _ (by omega), zb_bd, show 7 + (w - 7) = w by omega]
      · rw [if_pos (by omega), if_neg g, zb_bd]
theorem zo_about {I : pd_I} {J : pd_J} {Z : pd_R} {n : Nat} {p q : Int32} (h : zCI I Z n) : zOi (fn_L_about I J Z n p q) (fn_X12_about I p q) Z n := by
  obtain ⟨cnt, cd, q1, q2, q3, q4, q5⟩ := h.2.2.1
  by_cases hp : zin p cnt
  · obtain ⟨k, rfl, hk⟩ := hp
    obtain ⟨g1, g2, g3, g4⟩ := q5 k hk
    by_cases hq : zrg q 0 18
    · obtain ⟨w, rfl, -, hw⟩ := hq
      refine ⟨0, pd_uj J 132 (0 : Int32).toNatClampNeg (zav (cd k) w).toInt64, _, _, ?_, zc_aboutM g4 g2 q4 q1 hk hw, by rw [z92_0, zn_0], fun _ => by rw [zb_j], zCI_0 h⟩
      unfold fn_L_about
      rw [zc_aboutC g3 g2 q3 q1 hk g1 q2 hw, zb_bc, zb_in1, zb_gd]
      rfl
    · have hne : ∀ j, j ≤ 18 → ¬ q = zn j := fun j hj e => hq ⟨j, e, by omega, hj⟩
      refine zOi_er (J := J) (e := 2) h (by decide) ?_ ?_
      · unfold fn_L_about fn_X11_about
        rw [zr_codeOf1 q3 q1 hk g1 (zci q2 hk), zb_bx, zci q2 hk, zb_gd, zn_0, zn_1, zn_2, zn_3, zn_4, zn_5, zn_6, if_neg (hne 0 (by omega)), if_neg (hne 1 (by omega)), if_neg (hne 2 (by omega)), if_neg (hne 3 (by omega)), if_neg (hne 4 (by omega)), if_neg (hne 5 (by omega)), if_neg (hne 6 (by omega)), zc_tok0 hq, zb_bxe, zb_bce, if_neg (by decide), if_pos rfl]
      · unfold fn_X12_about
        rw [zr_code1 q4 q1 ⟨k, rfl, hk⟩, zb_bd2, zb_jn, zn_0, if_neg zn_p0, zn_18, (zrg_f (a := 0) (by omega) (by omega) hq).1, zb_bd, if_neg (by decide), zb_bd, zr_noL z92_0 (by decide), zb_bd2, if_pos rfl]
  · refine zOi_er (J := J) (e := 1) h (by decide) ?_ ?_
    · unfold fn_L_about fn_X11_about
      rw [zr_codeOf0 q3 q1 hp, zb_bxe, zb_bce, if_pos rfl]
    · unfold fn_X12_about
      rw [zr_codeL q4 q1 hp, zb_bd2, zb_jn, zn_0, if_pos rfl]
/-! a code is changed -/
theorem zCC_up {I I' : pd_I} {Z : pd_R} {n k : Nat} {cd' : Nat → Nat} (K : zCC I Z n) (h0 : I' 0 2 = I 0 2) (h5 : I' 92 5 = I 92 5) (hc : ∀ b, 133 ≤ b → b ≠ 133 + 3 * k → b ≠ 133 + 3 * k + 1 → b ≠ 133 + 3 * k + 2 → I' b = I b) (h6 : ∀ x, 97 ≤ x → x ≤ 102 → ∀ j, j ≠ k → I' x j = I x j) (h3 : ∀ i, i < 4 * k ∨ 4 * k + 4 ≤ i → I' 103 i = I 103 i) (h4 : ∀ i, i < 8 * k ∨ 8 * k + 8 ≤ i → I' 104 i = I 104 i) (hv : zCv cd') (q1 : zCo I' (133 + 3 * k) cd') (q2 : zCm I' k cd') : zCC I' Z n := by
  obtain ⟨cnt, cd, p1, p2, p3, p4, p5⟩ := K
  refine ⟨cnt, fun j => if j = k then cd' else cd j, p1, p2, by rw [h0, p3], by rw [h5, p4], fun j hj => ?_⟩
  obtain ⟨g1, g2, g3, g4⟩ := p5 j hj
  by_cases e : j = k
  · subst e
    show Z 2 j = _ ∧ zCv (if j = j then cd' else cd j) ∧ zCo I' (133 + 3 * j) (if j = j then cd' else cd j) ∧ zCm I' j (if j = j then cd' else cd j)
    rw [if_pos rfl]
    exact ⟨g1, hv, q1, q2⟩
  · show Z 2 j = _ ∧ zCv (if j = k then cd' else cd j) ∧ zCo I' (133 + 3 * j) (if j = k then cd' else cd j) ∧ zCm I' j (if j = k then cd' else cd j)
    rw [if_neg e]
    refine ⟨g1, g2, ?_, ?_⟩
    · unfold zCo
      rw [hc (133 + 3 * j) (by omega) (by omega) (by omega) (by omega), hc (133 + 3 * j + 1) (by omega) (by omega) (by omega) (by omega), hc (133 + 3 * j + 2) (by omega) (by omega) (by omega) (by omega)]
      exact g3
    · obtain ⟨f0, f1, f2, f3, f4, f5, f6, f7, f8⟩ := g4
      refine ⟨f0, by rw [h6 97 (by omega) (by omega) j e, f1], by rw [h6 98 (by omega) (by omega) j e, f2], by rw [h6 99 (by omega) (by omega) j e, f3], by rw [h6 100 (by omega) (by omega) j e, f4], by rw [h6 101 (by omega) (by omega) j e, f5], by rw [h6 102 (by omega) (by omega) j e, f6], fun o ho => by rw [h3 _ (by omega), f7 o ho], fun i hi => by rw [h4 _ (by omega), f8 i hi]⟩
theorem zCI_code {I I' : pd_I} {Z : pd_R} {n k : Nat} {cd' : Nat → Nat} (K : zCI I Z n) (hF : ∀ b, b < 97 → b ≠ 92 → I' b = I b) (hF2 : ∀ b, 105 ≤ b → b < 133 → I' b = I b) (h92 : ∀ j, j ≠ 0 → I' 92 j = I 92 j) (hc : ∀ b, 133 ≤ b → b ≠ 133 + 3 * k → b ≠ 133 + 3 * k + 1 → b ≠ 133 + 3 * k + 2 → I' b = I b) (h6 : ∀ x, 97 ≤ x → x ≤ 102 → ∀ j, j ≠ k → I' x j = I x j) (h3 : ∀ i, i < 4 * k ∨ 4 * k + 4 ≤ i → I' 103 i = I 103 i) (h4 : ∀ i, i < 8 * k ∨ 8 * k + 8 ≤ i → I' 104 i = I 104 i) (hv : zCv cd') (q1 : zCo I' (133 + 3 * k) cd') (q2 : zCm I' k cd') : zCI I' Z n := by
  obtain ⟨a1, a2, a3, a4, a5, a6, a7, a8⟩ := K
  refine ⟨zCR_F (fun b h1 h2 h3 => hF b (by omega) h3) a1, zCT_F (hF 7 (by omega) (by omega)) (hF 8 (by omega) (by omega)) (hF 95 (by omega) (by omega)) (hF 96 (by omega) (by omega)) a2, zCC_up a3 (by rw [hF 0 (by omega) (by omega)]) (h92 5 (by omega)) hc h6 h3 h4 hv q1 q2, zCW_F (fun b h1 h2 => hF b (by omega) (by omega)) (by rw [hF 16 (by omega) (by omega)]) (h92 14 (by omega)) (hF2 105 (by omega) (by omega)) (hF2 106 (by omega) (by omega)) (hF2 107 (by omega) (by omega)) (hF2 108 (by omega) (by omega)) rfl a4, zCS_F (by rw [hF 0 (by omega) (by omega)]) (h92 19 (by omega)) (hF 59 (by omega) (by omega)) (hF2 109 (by omega) (by omega)) a5, zCA_F (by rw [hF 0 (by omega) (by omega)]) (h92 21 (by omega)) a6, a7, a8⟩
