/-! the operations best, list, few -/
theorem zcl0 {x : Int32} : (if zn 0 ≤ zn 0 then x else x) = x := by split <;> rfl
theorem zo_best {I : pd_I} {J : pd_J} {Z : pd_R} {n : Nat} {p q u : Int32} (h : zCI I Z n) : zO4 (fn_L_best I J Z n p q u) (fun I1 => fn_X12_best I1 p q u) n := by
  obtain ⟨cnt, cd, q1, q2, q3, q4, q5⟩ := id h.2.2.1
  have hn133 : 133 ≤ n := by omega
  by_cases hp : zin p cnt
  · obtain ⟨k, rfl, hk⟩ := hp
    obtain ⟨g1, g2, g3, g4⟩ := q5 k hk
    by_cases hq : zin q 16
    · obtain ⟨r, rfl, hr⟩ := hq
      obtain ⟨m, f, b1, b2, b3⟩ := zr_rowI h.1 hr
      obtain ⟨T, t1, t2⟩ := id h.2.1
      by_cases hD : cd k 0 ≠ 5
      · by_cases hu : zrg u 1 200
        · obtain ⟨nn, rfl, hn1, hn2⟩ := hu
          obtain ⟨I0, I1, Z1, e0, e1, f1, z1, z2, w1⟩ := zk_find h hn133 g3 g2 b2 t1 hn1 hn2 (Nat.le_refl 1) (by omega)
          obtain ⟨I2, e2, f2, j2, j0, w2⟩ := zm_find (k := k) f1 g4 g2 b3 b2 t1 t2 hn1 hn2 (Nat.le_refl 1) (by omega)
          obtain ⟨c1, c2, c3, c4, c5, c6⟩ := w1
          obtain ⟨d1, d2, d3, d4⟩ := w2
          have h1M := zCm_F (L := zLw) (by decide) f1 g4
          generalize hX : zfl (cd k) (zPp (cd k) (zmc m f T)) 1 nn (zBg (cd k)) = X at c1 c3 c5 c6 d1 d2 d3 d4
          have hcount : fn_X10_count I1 = some (zn X.1) := by unfold fn_X10_count; rw [c1]
          have fin : ∀ v, (if zn X.1 ≤ zn 0 then some (-1) else (pd_bd (fn_X10_wayAt Z1 n (zn 0)) fun zq3 => pd_gd (pd_isWay zq3) (some (I1 zq3 0)))) = some v → (if zn X.1 ≤ zn 0 then some (-1) else some (I2 106 0)) = some v → zO4 (fn_L_best I J Z n (zn k) (zn r) (zn nn)) (fun I1 => fn_X12_best I1 (zn k) (zn r) (zn nn)) n := fun v v1 v2 => by
            refine ⟨0, I1, pd_uj J 132 (0 : Int32).toNatClampNeg v.toInt64, Z1, v, I2, ?_, ?_, by rw [j0, zn_0], fun _ => by rw [zb_j], ?_⟩
            · unfold fn_L_best fn_X11_best
              rw [zr_codeOf1 q3 q1 hk g1 (zci q2 hk), zb_bx, zci q2 hk, zb_gd, zr_rowOf1 hr, zb_bx, za_row r hr, zb_gd, zk_one1 g3 g2 hD, zb_bx, zr_bits1 ⟨nn, rfl, hn1, hn2⟩, zb_bx, e0, zb_bd, show fn_X5_findLeast I0 Z n (133 + 3 * k) (zn nn) 1 = some (I1, Z1) from e1, zb_bd2, hcount, zb_bd, zn_0, v1, zb_bd, zb_bc3, ← zn_0, zb_in1, zb_gd]
              rfl
            · show fn_X12_best I1 (zn k) (zn r) (zn nn) = _
              unfold fn_X12_best
              rw [zn_1, zm_dec h1M g2 (by rw [f1 92 (by decide)]; exact q4) q1 hk hr (Nat.le_refl 1) ⟨hD, fun c => by omega⟩ ⟨nn, rfl, hn1, hn2⟩, zb_bd2, zn_0, if_neg zn_p0, e2, zb_bd, d1, zn_in2 (show 0 < 8 by omega) (by omega), zb_gd, zn_nat (by omega)]
              show pd_bd (if zn X.1 ≤ zn 0 then some (-1) else some (I2 106 0)) _ = _
              rw [v2, zb_bd]
            · exact zCI_ways (m := X.1) (W := X.2) (nn := fun _ => nn) h f1 f2 (fun j a1 a2 => by rw [j2 j a1 a2, f1 92 (by decide)]) z1 z2 c4 (by omega) c1 d1 (fun j hj => ⟨hn2, c6 j hj, c5 j hj, d3 j hj⟩)
          by_cases hX0 : X.1 = 0
          · rw [hX0, if_pos (Int32.le_refl _), if_pos (Int32.le_refl _)] at fin
            exact fin _ rfl rfl
          · have hX1 : X.1 = 1 := by omega
            obtain ⟨w, x1, x2⟩ := c5 0 (by omega)
            have hw : pd_isWay w = true := by obtain ⟨w', e, q⟩ := c4.1 0 (by omega); rw [x1] at e; cases e; exact q
            have y1 := d3 0 (by omega)
            refine fin (zn (X.2 0).1) ?_ ?_
            · rw [zi_le (by omega) (by omega), if_neg (by omega)]
              unfold fn_X10_wayAt
              rw [zn_in2 (show 0 < 9 by omega) (by omega), zb_gd, zn_nat (by omega), x1, zb_bd, hw, zb_gd, zb_bd, hw, zb_gd, x2.1]
            · rw [zi_le (by omega) (by omega), if_neg (by omega), y1.1]
        · refine zO4_er (J := J) (e := 3) h (by decide) ?_ ?_
          · unfold fn_L_best fn_X11_best
            rw [zr_codeOf1 q3 q1 hk g1 (zci q2 hk), zb_bx, zci q2 hk, zb_gd, zr_rowOf1 hr, zb_bx, za_row r hr, zb_gd, zk_one1 g3 g2 hD, zb_bx, zr_bits0 hu, zb_bxe, zb_bc3e, if_neg (by decide), if_neg (by decide), if_pos rfl]
          · show fn_X12_best I (zn k) (zn r) u = _
            unfold fn_X12_best
            rw [zn_1, zm_dec3 g4 g2 q4 q1 hk hr (Nat.le_refl 1) ⟨hD, fun c => by omega⟩ hu, zb_bd2, zn_0, if_pos rfl]
      · refine zO4_er (J := J) (e := 2) h (by decide) ?_ ?_
        · unfold fn_L_best fn_X11_best
          rw [zr_codeOf1 q3 q1 hk g1 (zci q2 hk), zb_bx, zci q2 hk, zb_gd, zr_rowOf1 hr, zb_bx, za_row r hr, zb_gd, zk_one0 g3 g2 hD, zb_bxe, zb_bc3e, if_neg (by decide), if_pos rfl]
        · show fn_X12_best I (zn k) (zn r) u = _
          unfold fn_X12_best
          rw [zn_1, zm_dec2 g4 g2 q4 q1 hk hr (Nat.le_refl 1) (fun x => hD x.1), zb_bd2, zn_0, if_pos rfl]
    · refine zO4_er (J := J) (e := 1) h (by decide) ?_ ?_
      · unfold fn_L_best fn_X11_best
        rw [zr_codeOf1 q3 q1 hk g1 (zci q2 hk), zb_bx, zci q2 hk, zb_gd, zr_rowOf0 hq, zb_bxe, zb_bc3e, if_pos rfl]
      · show fn_X12_best I (zn k) q u = _
        unfold fn_X12_best
        rw [zm_dec1r q4 q1 hk hq, zb_bd2, zn_0, if_pos rfl]
  · refine zO4_er (J := J) (e := 1) h (by decide) ?_ ?_
    · unfold fn_L_best fn_X11_best
      rw [zr_codeOf0 q3 q1 hp, zb_bxe, zb_bc3e, if_pos rfl]
    · show fn_X12_best I p q u = _
      unfold fn_X12_best
      rw [zm_dec1 q4 q1 hp, zb_bd2, zn_0, if_pos rfl]
theorem zo_list {I : pd_I} {J : pd_J} {Z : pd_R} {n : Nat} {p q u v : Int32} (h : zCI I Z n) : zO4 (fn_L_list I J Z n p q u v) (fun I1 => fn_X12_list I1 p q u v) n := by
  obtain ⟨cnt, cd, q1, q2, q3, q4, q5⟩ := id h.2.2.1
  have hn133 : 133 ≤ n := by omega
  by_cases hp : zin p cnt
  · obtain ⟨k, rfl, hk⟩ := hp
    obtain ⟨g1, g2, g3, g4⟩ := q5 k hk
    by_cases hq : zin q 16
    · obtain ⟨r, rfl, hr⟩ := hq
      obtain ⟨m, f, b1, b2, b3⟩ := zr_rowI h.1 hr
      obtain ⟨T, t1, t2⟩ := id h.2.1
      by_cases hD : cd k 0 ≠ 5
      · by_cases hu : zrg u 1 200
        · obtain ⟨nn, rfl, hn1, hn2⟩ := hu
          by_cases hv : zrg v 1 8
          · obtain ⟨mo, rfl, hm1, hm8⟩ := hv
            obtain ⟨I0, I1, Z1, e0, e1, f1, z1, z2, w1⟩ := zk_find h hn133 g3 g2 b2 t1 hn1 hn2 hm1 hm8
            obtain ⟨I2, e2, f2, j2, j0, w2⟩ := zm_find (k := k) f1 g4 g2 b3 b2 t1 t2 hn1 hn2 hm1 hm8
            obtain ⟨c1, c2, c3, c4, c5, c6⟩ := w1
            obtain ⟨d1, d2, d3, d4⟩ := w2
            have h1M := zCm_F (L := zLw) (by decide) f1 g4
            generalize hX : zfl (cd k) (zPp (cd k) (zmc m f T)) mo nn (zBg (cd k)) = X at c1 c3 c5 c6 d1 d2 d3 d4
            have hcount : fn_X10_count I1 = some (zn X.1) := by unfold fn_X10_count; rw [c1]
            refine ⟨0, I1, pd_uj J 132 (0 : Int32).toNatClampNeg (zn X.1).toInt64, Z1, zn X.1, I2, ?_, ?_, by rw [j0, zn_0], fun _ => by rw [zb_j], ?_⟩
            · unfold fn_L_list fn_X11_list
              rw [zr_codeOf1 q3 q1 hk g1 (zci q2 hk), zb_bx, zci q2 hk, zb_gd, zr_rowOf1 hr, zb_bx, za_row r hr, zb_gd, zk_one1 g3 g2 hD, zb_bx, zr_bits1 ⟨nn, rfl, hn1, hn2⟩, zb_bx, zn_1, zn_8, (zrg_t (by omega) ⟨mo, rfl, hm1, hm8⟩).2, zb_bd, if_pos rfl, e0, zb_bd, e1, zb_bd2, hcount, zb_bd, zb_bc3, zb_in1, zb_gd]
              rfl
            · show fn_X12_list I1 (zn k) (zn r) (zn nn) (zn mo) = _
              unfold fn_X12_list
              rw [zn_1, zm_dec h1M g2 (by rw [f1 92 (by decide)]; exact q4) q1 hk hr (Nat.le_refl 1) ⟨hD, fun c => by omega⟩ ⟨nn, rfl, hn1, hn2⟩, zb_bd2, zb_jn, zn_0, if_neg zn_p0, zn_8, (zrg_t (by omega) ⟨mo, rfl, hm1, hm8⟩).1, zb_bd, if_pos rfl, zb_bd, zr_ok z92_0, zb_bd2, if_neg zn_p0, e2, zb_bd, d1]
            · exact zCI_ways (m := X.1) (W := X.2) (nn := fun _ => nn) h f1 f2 (fun j a1 a2 => by rw [j2 j a1 a2, f1 92 (by decide)]) z1 z2 c4 (by omega) c1 d1 (fun j hj => ⟨hn2, c6 j hj, c5 j hj, d3 j hj⟩)
          · refine zO4_er (J := J) (e := 3) h (by decide) ?_ ?_
            · unfold fn_L_list fn_X11_list
              rw [zr_codeOf1 q3 q1 hk g1 (zci q2 hk), zb_bx, zci q2 hk, zb_gd, zr_rowOf1 hr, zb_bx, za_row r hr, zb_gd, zk_one1 g3 g2 hD, zb_bx, zr_bits1 ⟨nn, rfl, hn1, hn2⟩, zb_bx, zn_1, zn_8, (zrg_f (by omega) (by omega) hv).2, zb_bd, if_neg (by decide), zb_bc3e, if_neg (by decide), if_neg (by decide), if_pos rfl]
            · show fn_X12_list I (zn k) (zn r) (zn nn) v = _
              unfold fn_X12_list
              rw [zn_1, zm_dec g4 g2 q4 q1 hk hr (Nat.le_refl 1) ⟨hD, fun c => by omega⟩ ⟨nn, rfl, hn1, hn2⟩, zb_bd2, zb_jn, zn_0, if_neg zn_p0, zn_8, (zrg_f (by omega) (by omega) hv).1, zb_bd, if_neg (by decide), zb_bd, zr_noL z92_0 (by decide), zb_bd2, if_pos rfl]
        · refine zO4_er (J := J) (e := 3) h (by decide) ?_ ?_
          · unfold fn_L_list fn_X11_list
            rw [zr_codeOf1 q3 q1 hk g1 (zci q2 hk), zb_bx, zci q2 hk, zb_gd, zr_rowOf1 hr, zb_bx, za_row r hr, zb_gd, zk_one1 g3 g2 hD, zb_bx, zr_bits0 hu, zb_bxe, zb_bc3e, if_neg (by decide), if_neg (by decide), if_pos rfl]
          · show fn_X12_list I (zn k) (zn r) u v = _
            unfold fn_X12_list
            rw [zn_1, zm_dec3 g4 g2 q4 q1 hk hr (Nat.le_refl 1) ⟨hD, fun c => by omega⟩ hu, zb_bd2, zb_jn, zn_0, if_pos rfl]
      · refine zO4_er (J := J) (e := 2) h (by decide) ?_ ?_
        · unfold fn_L_list fn_X11_list
          rw [zr_codeOf1 q3 q1 hk g1 (zci q2 hk), zb_bx, zci q2 hk, zb_gd, zr_rowOf1 hr, zb_bx, za_row r hr, zb_gd, zk_one0 g3 g2 hD, zb_bxe, zb_bc3e, if_neg (by decide), if_pos rfl]
        · show fn_X12_list I (zn k) (zn r) u v = _
          unfold fn_X12_list
          rw [zn_1, zm_dec2 g4 g2 q4 q1 hk hr (Nat.le_refl 1) (fun x => hD x.1), zb_bd2, zb_jn, zn_0, if_pos rfl]
    · refine zO4_er (J := J) (e := 1) h (by decide) ?_ ?_
      · unfold fn_L_list fn_X11_list
        rw [zr_codeOf1 q3 q1 hk g1 (zci q2 hk), zb_bx, zci q2 hk, zb_gd, zr_rowOf0 hq, zb_bxe, zb_bc3e, if_pos rfl]
      · show fn_X12_list I (zn k) q u v = _
        unfold fn_X12_list
        rw [zm_dec1r q4 q1 hk hq, zb_bd2, zb_jn, zn_0, if_pos rfl]
  · refine zO4_er (J := J) (e := 1) h (by decide) ?_ ?_
    · unfold fn_L_list fn_X11_list
      rw [zr_codeOf0 q3 q1 hp, zb_bxe, zb_bc3e, if_pos rfl]
    · show fn_X12_list I p q u v = _
      unfold fn_X12_list
      rw [zm_dec1 q4 q1 hp, zb_bd2, zb_jn, zn_0, if_pos rfl]
/-- few: the class behind its demands -/
theorem zk_few {I : pd_I} {Z : pd_R} {n k r m nn w : Nat} {cd f : Nat → Nat} {T : Nat → Nat → Nat} (K : zCI I Z n) (hn : 133 ≤ n) (h : zCo I (133 + 3 * k) cd) (hv : zCv cd) (hr : zRow I (60 + 2 * r) m f) (hT : zTab I T) (hn1 : 1 ≤ nn) (hn2 : nn ≤ 200) (hw : 1 ≤ w) (hw64 : w ≤ 64) : ∃ I0 I1 Z1, fn_X11_prepare I (133 + 3 * k) (60 + 2 * r) (zn nn) = some I0 ∧ fn_X5_findByFew I0 Z n (133 + 3 * k) (zn nn) (zn w) = some (I1, Z1) ∧ zF zLw I I1 ∧ (∃ na la nc lc, zZs Z1 na la nc lc) ∧ (∀ b, b ≠ 36 → b ≠ 17 → Z1 b = Z b) ∧ zZw Z1 ∧ I1 16 1 = zn 1 ∧ ∃ w0, Z1 17 0 = some w0 ∧ zWr I1 w0 (zfw cd (zPp cd (zmc m f T)) nn w) nn := by
  obtain ⟨⟨na, la, nc, lc, p1⟩, -⟩ := K.2.2.2.2.2.2.1
  have hZw := K.2.2.2.1.1
  obtain ⟨I0, e0, f0, l0⟩ := zq_prepare (n := nn) (show 133 ≤ 133 + 3 * k by omega) (show 60 ≤ 60 + 2 * r by omega) h hv hr hT hn2
  have hst := zst_le (n := nn) hv
  obtain ⟨⟨I1, Z1⟩, e1, g1, g2, g3, g4, g5, g6⟩ := zq_few (w := w) (P := zPp cd (zmc m f T)) hn (show 133 ≤ 133 + 3 * k by omega) (zCo_F (L := [9, 10, 11, 12, 13, 15]) (by decide) (by omega) f0 h) p1 hZw hv l0 (by omega) (Nat.le_refl _) hn1 hn2 hw hw64 (fun t e => zPp_le hv (zmc_b hr hT) t e)
  exact ⟨I0, I1, Z1, e0, e1, zF_tr (zF_sub f0 (by decide)) (zF_sub g3 (by decide)), g1, g2, g4, g5, g6⟩
theorem zk_kind {cd : Nat → Nat} (hv : zCv cd) : (if zn (cd 0) = zn 4 then some false else (if zn (cd 0) = zn 5 then some false else (some true))) = some (decide (cd 0 ≠ 5 ∧ cd 0 ≠ 4)) := by
  have v0 := hv.1
  rw [zi_eq (by omega) (by omega), zi_eq (by omega) (by omega)]
  by_cases a : cd 0 = 4
  · rw [if_pos a, decide_eq_false (fun p => p.2 a)]
  · rw [if_neg a]
    by_cases b : cd 0 = 5
    · rw [if_pos b, decide_eq_false (fun p => p.1 b)]
    · rw [if_neg b, decide_eq_true ⟨b, a⟩]
theorem zo_few {I : pd_I} {J : pd_J} {Z : pd_R} {n : Nat} {p q u v : Int32} (h : zCI I Z n) : zO4 (fn_L_few I J Z n p q u v) (fun I1 => fn_X12_few I1 p q u v) n := by
  obtain ⟨cnt, cd, q1, q2, q3, q4, q5⟩ := id h.2.2.1
  have hn133 : 133 ≤ n := by omega
  by_cases hp : zin p cnt
  · obtain ⟨k, rfl, hk⟩ := hp
    obtain ⟨g1, g2, g3, g4⟩ := q5 k hk
    by_cases hq : zin q 16
    · obtain ⟨r, rfl, hr⟩ := hq
      obtain ⟨m, f, b1, b2, b3⟩ := zr_rowI h.1 hr
      obtain ⟨T, t1, t2⟩ := id h.2.1
      by_cases hD : cd k 0 ≠ 5 ∧ cd k 0 ≠ 4
      · have hD' : zdD (cd k) 0 := ⟨hD.1, fun _ => hD.2⟩
        by_cases hu : zrg u 1 200
        · obtain ⟨nn, rfl, hn1, hn2⟩ := hu
          by_cases hv : zrg v 1 64
          · obtain ⟨mo, rfl, hm1, hm8⟩ := hv
            obtain ⟨I0, I1, Z1, e0, e1, f1, z1, z2, c4, c1, w0, x1, x2⟩ := zk_few h hn133 g3 g2 b2 t1 hn1 hn2 hm1 hm8
            have h1M := zCm_F (L := zLw) (by decide) f1 g4
            have hF1 : zF (zLw ++ [92]) I (pd_ui I1 92 0 (zn 0)) := zF_u (by decide) (zF_sub f1 (by decide))
            have hPb : ∀ t e, zPp (cd k) (zmc m f T) t e ≤ 10000 := fun t e => zPp_le g2 (zmc_b b2 t1) t e
            obtain ⟨⟨vv, I2⟩, e2, rfl, f2, j2, d1, y1⟩ := zq_fewM (c := k) (r := r) (nn := nn) (w := mo) (zCm_F (by decide) hF1 g4) g2 (zRom_F (by decide) (by decide) hF1 b3) (zTam_F (by decide) (by decide) hF1 t2) hn1 hn2 hm1 hm8 hPb
            simp only [] at f2 j2 d1 y1
            have hw : pd_isWay w0 = true := by obtain ⟨w', e, q⟩ := c4.1 0 (by omega); rw [x1] at e; cases e; exact q
            have hcount : fn_X10_count I1 = some (zn 1) := by unfold fn_X10_count; rw [c1]
            have hwa : fn_X10_wayAt Z1 n (zn 0) = some w0 := by
              unfold fn_X10_wayAt
              rw [zn_in2 (show 0 < 9 by omega) (by omega), zb_gd, zn_nat (by omega), x1, zb_bd, hw, zb_gd]
            obtain ⟨v1, v2, v3⟩ := zfw_b (w := mo) (P := zPp (cd k) (zmc m f T)) g2 hm1 hn2 hPb
            have hst := zst_le (n := nn) g2
            generalize hX : zfw (cd k) (zPp (cd k) (zmc m f T)) nn mo = X at x2 e2 y1 v1 v2 v3
            refine ⟨0, I1, pd_uj J 132 (0 : Int32).toNatClampNeg (zn X.1).toInt64, Z1, zn X.1, I2, ?_, ?_, ?_, fun _ => by rw [zb_j], ?_⟩
            · unfold fn_L_few fn_X11_few
              rw [zr_codeOf1 q3 q1 hk g1 (zci q2 hk), zb_bx, zci q2 hk, zb_gd, zr_rowOf1 hr, zb_bx, za_row r hr, zb_gd, g3.1, zn_4, zn_5, zk_kind g2, decide_eq_true hD, zb_bd, if_pos rfl, zr_bits1 ⟨nn, rfl, hn1, hn2⟩, zb_bx, zn_1, zn_64, (zrg_t (by omega) ⟨mo, rfl, hm1, hm8⟩).2, zb_bd, if_pos rfl, e0, zb_bd, e1, zb_bd2, hcount, zb_bd, zn_0, zi_le (by omega) (by omega), if_neg (by omega), hwa, zb_bd, hw, zb_gd, x2.1, zb_bd, zb_bc3, ← zn_0, zb_in1, zb_gd]
              rfl
            · show fn_X12_few I1 (zn k) (zn r) (zn nn) (zn mo) = _
              unfold fn_X12_few
              rw [zn_0, zm_dec (w := 0) h1M g2 (by rw [f1 92 (by decide)]; exact q4) q1 hk hr (by omega) hD' ⟨nn, rfl, hn1, hn2⟩, zb_bd2, zb_jn, if_neg zn_p0, zn_1, zn_64, (zrg_t (by omega) ⟨mo, rfl, hm1, hm8⟩).1, zb_bd, if_pos rfl, zb_bd, zr_ok z92_0, zb_bd2, if_neg zn_p0]
              exact e2
            · rw [j2 0 (by decide), z92_0, zn_0]
            · refine zCI_ways (m := 1) (W := fun _ => (X.1, fun t => if t < nn then X.2.1 t else 0, X.2.2)) (nn := fun _ => nn) h f1 (fun b hb => ?_) (fun j a1 a2 => ?_) z1 z2 c4 (by omega) c1 d1 (fun j hj => ⟨hn2, ⟨v1, fun t => ?_, v3⟩, ⟨w0, ?_, ?_⟩, ?_⟩)
              · rw [f2 b (fun hh => hb ((by decide : ∀ x ∈ zLN, x ∈ zLx) b hh)), z92_b (fun hh => hb (by rw [hh]; decide))]
              · rw [j2 j a2, z92_j a1, f1 92 (by decide)]
              · show (if t < nn then X.2.1 t else 0) < 2
                by_cases c : t < nn
                · rw [if_pos c]; exact v2 t (by omega)
                · rw [if_neg c]; omega
              · rw [show j = 0 by omega, x1]
              · obtain ⟨s1, s2, s3, s4⟩ := x2
                refine ⟨s1, s2, s3, fun t ht => ?_⟩
                show I1 (w0 + 1) t = zn (if t < nn then X.2.1 t else 0)
                rw [if_pos ht]; exact s4 t ht
              · rw [show j = 0 by omega]
                obtain ⟨s1, s2, s3, s4⟩ := y1
                refine ⟨s1, s2, s3, fun t ht => ?_⟩
                show I2 105 (200 * 0 + t) = zn (if t < nn then X.2.1 t else 0)
                rw [if_pos ht]; exact s4 t ht
          · refine zO4_er (J := J) (e := 3) h (by decide) ?_ ?_
            · unfold fn_L_few fn_X11_few
              rw [zr_codeOf1 q3 q1 hk g1 (zci q2 hk), zb_bx, zci q2 hk, zb_gd, zr_rowOf1 hr, zb_bx, za_row r hr, zb_gd, g3.1, zn_4, zn_5, zk_kind g2, decide_eq_true hD, zb_bd, if_pos rfl, zr_bits1 ⟨nn, rfl, hn1, hn2⟩, zb_bx, zn_1, zn_64, (zrg_f (by omega) (by omega) hv).2, zb_bd, if_neg (by decide), zb_bc3e, if_neg (by decide), if_neg (by decide), if_pos rfl]
            · show fn_X12_few I (zn k) (zn r) (zn nn) v = _
              unfold fn_X12_few
              rw [zn_0, zm_dec g4 g2 q4 q1 hk hr (by omega) hD' ⟨nn, rfl, hn1, hn2⟩, zb_bd2, zb_jn, if_neg zn_p0, zn_1, zn_64, (zrg_f (by omega) (by omega) hv).1, zb_bd, if_neg (by decide), zb_bd, zr_noL z92_0 (by decide), zb_bd2, if_pos rfl]
        · refine zO4_er (J := J) (e := 3) h (by decide) ?_ ?_
          · unfold fn_L_few fn_X11_few
            rw [zr_codeOf1 q3 q1 hk g1 (zci q2 hk), zb_bx, zci q2 hk, zb_gd, zr_rowOf1 hr, zb_bx, za_row r hr, zb_gd, g3.1, zn_4, zn_5, zk_kind g2, decide_eq_true hD, zb_bd, if_pos rfl, zr_bits0 hu, zb_bxe, zb_bc3e, if_neg (by decide), if_neg (by decide), if_pos rfl]
          · show fn_X12_few I (zn k) (zn r) u v = _
            unfold fn_X12_few
            rw [zn_0, zm_dec3 g4 g2 q4 q1 hk hr (by omega) hD' hu, zb_bd2, zb_jn, if_pos rfl]
      · refine zO4_er (J := J) (e := 2) h (by decide) ?_ ?_
        · unfold fn_L_few fn_X11_few
          rw [zr_codeOf1 q3 q1 hk g1 (zci q2 hk), zb_bx, zci q2 hk, zb_gd, zr_rowOf1 hr, zb_bx, za_row r hr, zb_gd, g3.1, zn_4, zn_5, zk_kind g2, decide_eq_false hD, zb_bd, if_neg (by decide), zb_bc3e, if_neg (by decide), if_pos rfl]
        · show fn_X12_few I (zn k) (zn r) u v = _
          unfold fn_X12_few
          rw [zn_0, zm_dec2 g4 g2 q4 q1 hk hr (by omega) (fun x => hD ⟨x.1, x.2 rfl⟩), zb_bd2, zb_jn, if_pos rfl]
    · refine zO4_er (J := J) (e := 1) h (by decide) ?_ ?_
      · unfold fn_L_few fn_X11_few
        rw [zr_codeOf1 q3 q1 hk g1 (zci q2 hk), zb_bx, zci q2 hk, zb_gd, zr_rowOf0 hq, zb_bxe, zb_bc3e, if_pos rfl]
      · show fn_X12_few I (zn k) q u v = _
        unfold fn_X12_few
        rw [zm_dec1r q4 q1 hk hq, zb_bd2, zb_jn, zn_0, if_pos rfl]
  · refine zO4_er (J := J) (e := 1) h (by decide) ?_ ?_
    · unfold fn_L_few fn_X11_few
      rw [zr_codeOf0 q3 q1 hp, zb_bxe, zb_bc3e, if_pos rfl]
    · show fn_X12_few I p q u v = _
      unfold fn_X12_few
      rw [zm_dec1 q4 q1 hp, zb_bd2, zb_jn, zn_0, if_pos rfl]
