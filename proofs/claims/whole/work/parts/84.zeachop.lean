/-! the operations each, talk -/
theorem zCI_seen {I I1 I2 : pd_I} {Z Z' : pd_R} {n : Nat} (K : zCI I Z n) (h1 : zF zLT I I1) (h2 : zF zLU I1 I2) (h0 : ∀ j, j ≠ 12 → j ≠ 13 → I1 0 j = I 0 j) (h92 : ∀ j, j ≠ 0 → j ≠ 14 → j ≠ 19 → j ≠ 21 → I2 92 j = I 92 j) (hP : ∃ ow ft, zZe Z' ow ft) (hZ : ∀ b, b ≠ 43 → Z' b = Z b) (hS : zCS I2) (hA : zCA I2) (hW : zCW I2 Z') : zCI I2 Z' n := by
  obtain ⟨a1, a2, a3, a4, a5, a6, ⟨⟨na, la, nc, lc, p1⟩, -⟩, a8⟩ := K
  have h133 : 133 ≤ n := by obtain ⟨cnt, cd, q1, q2, -⟩ := a3; omega
  have hF : zF (zLT ++ zLU) I I2 := zF_tr (zF_sub h1 (by decide)) (zF_sub h2 (by decide))
  have e : ∀ b, b ∉ zLT → b ∉ zLU → I2 b = I b := fun b b1 b2 => by rw [h2 b b2, h1 b b1]
  have hP' : zCP Z' := ⟨⟨na, la, nc, lc, by unfold zZs; rw [hZ 36 (by decide)]; exact p1⟩, hP⟩
  exact ⟨zCR_F (fun b b1 b2 b3 => e b (by simp [zLT]; omega) (by simp [zLU]; omega)) a1, zCT_F (e 7 (by decide) (by decide)) (e 8 (by decide) (by decide)) (e 95 (by decide) (by decide)) (e 96 (by decide) (by decide)) a2, zCC_F (L := zLT ++ zLU) (by decide) (by decide) hF (by rw [h2 0 (by decide), h0 2 (by decide) (by decide)]) (h92 5 (by decide) (by decide) (by decide) (by decide)) (hZ 2 (by decide)) a3, hW, hS, hA, hP', zfr_Z h133 a8 hP' hW.1 (hZ 2 (by decide))⟩
theorem zo_each {I : pd_I} {J : pd_J} {Z : pd_R} {n : Nat} {p q u : Int32} (h : zCI I Z n) : zO4 (fn_L_each I J Z n p q u) (fun I1 => fn_X12_each I1 p q u) n := by
  obtain ⟨cnt, cd, q1, q2, q3, q4, q5⟩ := id h.2.2.1
  have hn133 : 133 ≤ n := by omega
  by_cases hp : zin p cnt
  · obtain ⟨k, rfl, hk⟩ := hp
    obtain ⟨g1, g2, g3, g4⟩ := q5 k hk
    by_cases hq : zin q 16
    · obtain ⟨r, rfl, hr⟩ := hq
      obtain ⟨m, f, b1, b2, b3⟩ := zr_rowI h.1 hr
      obtain ⟨T, t1, t2⟩ := id h.2.1
      by_cases hD : cd k 0 ≠ 5
      · by_cases hu : zrg u 1 200
        · obtain ⟨nn, rfl, hn1, hn2⟩ := hu
          obtain ⟨-, ow, ft, p2⟩ := h.2.2.2.2.2.2.1
          have hPb : ∀ t e, zPp (cd k) (zmc m f T) t e ≤ 10000 := fun t e => zPp_le g2 (zmc_b b2 t1) t e
          obtain ⟨x, eC, hC⟩ := zq_eachC (n := n) hn133 (show 133 ≤ 133 + 3 * k by omega) (show 60 ≤ 60 + 2 * r by omega) g3 g2 b2 t1 p2 hn1 hn2 hPb
          rcases x with er | ⟨c, I1, Z1⟩
          · exact hC.elim
          obtain ⟨rfl, z1, z2, f1, j1, s1, s2⟩ := hC
          simp only [] at z1 z2 f1 j1 s1 s2
          have h1M := zCm_F (L := zLE) (by decide) f1 g4
          have hF1 : zF (zLE ++ [92]) I (pd_ui I1 92 0 (zn 0)) := zF_u (by decide) (zF_sub f1 (by decide))
          obtain ⟨⟨c, I2⟩, eR, rfl, f2, j2, s3, s4⟩ := zq_eachM (c := k) (r := r) (nn := nn) (zCm_F (by decide) hF1 g4) g2 (zRom_F (by decide) (by decide) hF1 b3) (zTam_F (by decide) (by decide) hF1 t2) hn1 hn2 hPb
          simp only [] at f2 j2 s3 s4
          refine ⟨0, I1, pd_uj J 132 (0 : Int32).toNatClampNeg (zn (zcn (fun t => zsay (zsd (cd k) (zPp (cd k) (zmc m f T)) nn t)) nn)).toInt64, Z1, _, I2, ?_, ?_, ?_, fun _ => by rw [zb_j], ?_⟩
          · unfold fn_L_each fn_X11_each
            rw [zr_codeOf1 q3 q1 hk g1 (zci q2 hk), zb_bx, zci q2 hk, zb_gd, zr_rowOf1 hr, zb_bx, za_row r hr, zb_gd, zk_one1 g3 g2 hD, zb_bx, zr_bits1 ⟨nn, rfl, hn1, hn2⟩, zb_bx, eC, zb_bc3, zb_in1, zb_gd]
            rfl
          · show fn_X12_each I1 (zn k) (zn r) (zn nn) = _
            unfold fn_X12_each
            rw [zn_1, zm_dec h1M g2 (by rw [f1 92 (by decide)]; exact q4) q1 hk hr (Nat.le_refl 1) ⟨hD, fun c => by omega⟩ ⟨nn, rfl, hn1, hn2⟩, zb_bd2, zn_0, if_neg zn_p0]
            exact eR
          · rw [j2 0 (by decide), z92_0, zn_0]
          · have f2' : zF zLU I1 I2 := fun b hb => by rw [f2 b (fun hh => hb ((by decide : ∀ x ∈ zLF, x ∈ zLU) b hh)), z92_b (fun hh => hb (by rw [hh]; decide))]
            have e : ∀ b, b ∉ zLE → b ∉ zLF → b ≠ 92 → I2 b = I b := fun b b1 b2 b3 => by rw [f2 b b2, z92_b b3, f1 b b1]
            have j3 : ∀ j, j ≠ 0 → j ≠ 19 → I2 92 j = I 92 j := fun j a1 a2 => by rw [j2 j a2, z92_j a1, f1 92 (by decide)]
            refine zCI_seen h (zF_sub f1 (by decide)) f2' (fun j a1 a2 => j1 j a1) (fun j a1 a2 a3 a4 => j3 j a1 a3) z1 z2 ⟨nn, hn2, ?_, s3, fun t ht => ?_⟩ (zCA_F ?_ (j3 21 (by decide) (by decide)) h.2.2.2.2.2.1) (zCW_F (fun b a1 a2 => e b (by simp [zLE]; omega) (by simp [zLF]; omega) (by omega)) (by rw [e 16 (by decide) (by decide) (by decide)]) (j3 14 (by decide) (by decide)) (e 105 (by decide) (by decide) (by decide)) (e 106 (by decide) (by decide) (by decide)) (e 107 (by decide) (by decide) (by decide)) (e 108 (by decide) (by decide) (by decide)) (z2 17 (by decide)) h.2.2.2.1)
            · rw [f2' 0 (by decide), s1]
            · rw [f2' 59 (by decide), s2 t ht, s4 t ht]
            · rw [f2' 0 (by decide), j1 13 (by decide)]
        · refine zO4_er (J := J) (e := 3) h (by decide) ?_ ?_
          · unfold fn_L_each fn_X11_each
            rw [zr_codeOf1 q3 q1 hk g1 (zci q2 hk), zb_bx, zci q2 hk, zb_gd, zr_rowOf1 hr, zb_bx, za_row r hr, zb_gd, zk_one1 g3 g2 hD, zb_bx, zr_bits0 hu, zb_bxe, zb_bc3e, if_neg (by decide), if_neg (by decide), if_pos rfl]
          · show fn_X12_each I (zn k) (zn r) u = _
            unfold fn_X12_each
            rw [zn_1, zm_dec3 g4 g2 q4 q1 hk hr (Nat.le_refl 1) ⟨hD, fun c => by omega⟩ hu, zb_bd2, zn_0, if_pos rfl]
      · refine zO4_er (J := J) (e := 2) h (by decide) ?_ ?_
        · unfold fn_L_each fn_X11_each
          rw [zr_codeOf1 q3 q1 hk g1 (zci q2 hk), zb_bx, zci q2 hk, zb_gd, zr_rowOf1 hr, zb_bx, za_row r hr, zb_gd, zk_one0 g3 g2 hD, zb_bxe, zb_bc3e, if_neg (by decide), if_pos rfl]
        · show fn_X12_each I (zn k) (zn r) u = _
          unfold fn_X12_each
          rw [zn_1, zm_dec2 g4 g2 q4 q1 hk hr (Nat.le_refl 1) (fun x => hD x.1), zb_bd2, zn_0, if_pos rfl]
    · refine zO4_er (J := J) (e := 1) h (by decide) ?_ ?_
      · unfold fn_L_each fn_X11_each
        rw [zr_codeOf1 q3 q1 hk g1 (zci q2 hk), zb_bx, zci q2 hk, zb_gd, zr_rowOf0 hq, zb_bxe, zb_bc3e, if_pos rfl]
      · show fn_X12_each I (zn k) q u = _
        unfold fn_X12_each
        rw [zm_dec1r q4 q1 hk hq, zb_bd2, zn_0, if_pos rfl]
  · refine zO4_er (J := J) (e := 1) h (by decide) ?_ ?_
    · unfold fn_L_each fn_X11_each
      rw [zr_codeOf0 q3 q1 hp, zb_bxe, zb_bc3e, if_pos rfl]
    · show fn_X12_each I p q u = _
      unfold fn_X12_each
      rw [zm_dec1 q4 q1 hp, zb_bd2, zn_0, if_pos rfl]
theorem zn_10 : (10 : Int32) = zn 10 := (rfl)
/-- the reference's demands for talk, up to isOrder -/
theorem zm_talkP {I : pd_I} {k cnt r nn mo : Nat} {cd : Nat → Nat} {b : Nat} (h : zCm I k cd) (hv : zCv cd) (hc : I 92 5 = zn cnt) (hc12 : cnt ≤ 12) (hk : k < cnt) (hr : r < 16) (h5 : cd 0 = 5) (hn : zrg (zn nn) 1 200) (hm : zrg (zn mo) 1 10) (hb : fn_X12_isOrder (pd_ui I 92 0 (zn 0)) (zn k) (zn nn) = some (zn b)) : fn_X12_talk I (zn k) (zn r) (zn nn) (zn mo) = if zn b = zn 0 then some (-1, pd_ui I 92 0 (zn 0)) else (fl_X12_talk_91 (zn k) (zn r) (zn nn) (fun zI8 => pd_let (pd_ui zI8 92 21 0) fun zI13 => fl_X12_talk_183 (zn k) (zn r) (zn nn) (zn mo) (fun zx7 zI15 => pd_let (pd_ui zI15 92 19 (zn nn)) fun zI25 => pd_let (pd_ui zI25 92 14 1) fun zI26 => pd_gd (pd_in 0 8) (pd_let (pd_ui zI26 106 (0 : Int32).toNatClampNeg 0) fun zI27 => pd_gd (pd_in 0 8) (pd_let (pd_ui zI27 107 (0 : Int32).toNatClampNeg 0) fun zI28 => pd_gd (pd_in 0 8) (pd_let (pd_ui zI28 108 (0 : Int32).toNatClampNeg (zn nn)) fun zI29 => fl_X12_talk_351 (zn nn) (fun zI31 => some (zx7, zI31)) pd_FU 0 zI29)))) pd_FU 0 zI13) pd_FU 0 (pd_ui I 92 0 (zn 0))) := by
  have h1 : zCm (pd_ui I 92 0 (zn 0)) k cd := zCm_F (L := [92]) (by decide) (zF_u (by decide) zF_rfl) h
  unfold fn_X12_talk
  rw [zr_code1 hc hc12 ⟨k, rfl, hk⟩, zb_bd2, zb_jn, zn_0, if_neg zn_p0, zr_row1 z92_0 ⟨r, rfl, hr⟩, zb_bd2, if_neg zn_p0, zn_in2 (show k < 12 by omega) (by omega), zb_gd, zn_nat (show k < 2147483648 by omega), h1.2.1, h5, zn_5, if_pos rfl, zb_bd, zr_ok1 z92_0, zb_bd2, if_neg zn_p0, zr_n1 z92_0 hn, zb_bd2, if_neg zn_p0, zn_10, show (if zn mo < 1 then some false else if zn 10 < zn mo then some false else some true) = some true from (zrg_t (a := 1) (by omega) hm).1, zb_bd, if_pos rfl, zb_bd, zr_ok1 z92_0, zb_bd2, if_neg zn_p0, hb, zb_bd]
theorem zo_talk {I : pd_I} {J : pd_J} {Z : pd_R} {n : Nat} {p q u v : Int32} (h : zCI I Z n) : zO4 (fn_L_talk I J Z n p q u v) (fun I1 => fn_X12_talk I1 p q u v) n := by
  obtain ⟨cnt, cd, q1, q2, q3, q4, q5⟩ := id h.2.2.1
  have hn133 : 133 ≤ n := by omega
  by_cases hp : zin p cnt
  · obtain ⟨k, rfl, hk⟩ := hp
    obtain ⟨g1, g2, g3, g4⟩ := q5 k hk
    have v0 := g2.1
    have hM0 : zCm (pd_ui I 92 0 (zn 0)) k (cd k) := zCm_F (L := [92]) (by decide) (zF_u (by decide) zF_rfl) g4
    by_cases hq : zin q 16
    · obtain ⟨r, rfl, hr⟩ := hq
      obtain ⟨m, f, b1, b2, b3⟩ := zr_rowI h.1 hr
      obtain ⟨T, t1, t2⟩ := id h.2.1
      by_cases hD : cd k 0 = 5
      · have hk5 : I (133 + 3 * k) 0 = 5 := by rw [g3.1, hD]; rfl
        by_cases hu : zrg u 1 200
        · obtain ⟨nn, rfl, hn1, hn2⟩ := hu
          by_cases hv : zrg v 1 10
          · obtain ⟨mo, rfl, hm1, hm10⟩ := hv
            have hv' : zrg (zn mo) 1 10 := ⟨mo, rfl, hm1, hm10⟩
            have hx : ∀ y x : Option (Except String (Int32 × pd_I × pd_R)), (if zn mo < 1 then y else if zn mo ≤ 10 then x else y) = x := fun y x => zrg_x (a := 1) (b := 10) (by omega) hv' y x
            obtain ⟨b, hb1, o1, o2, o3⟩ := zc_orders (n := nn) g3 hM0 g2 hn1 hn2
            by_cases hb : b = 1
            · obtain ⟨-, ow, ft, p2⟩ := h.2.2.2.2.2.2.1
              have hinj := o3.mp hb
              obtain ⟨x, eC, hC⟩ := zq_talkC (n := n) (mo := mo) hn133 (show 133 ≤ 133 + 3 * k by omega) (show 60 ≤ 60 + 2 * r by omega) g3 g2 hD b2 t1 p2 h.2.2.2.1.1 hn1 hn2 hm1 hm10 hinj (zmc_b b2 t1)
              rcases x with er | ⟨c, I1, Z1⟩
              · exact hC.elim
              obtain ⟨rfl, z1, z2, f1, j1, s1, s2, s3, w1, w0, w2, w3, w4⟩ := hC
              simp only [] at z1 z2 f1 j1 s1 s2 s3 w1 w2 w4
              have h1M := zCm_F (L := zLT) (by decide) f1 g4
              have hF1 : zF (zLT ++ [92]) I (pd_ui I1 92 0 (zn 0)) := zF_u (by decide) (zF_sub f1 (by decide))
              have h1M' := zCm_F (L := zLT ++ [92]) (by decide) hF1 g4
              obtain ⟨b', hb1', o2', o3'⟩ := zc_isOrder (n := nn) h1M' g2 hn1 hn2
              have hb' : b' = 1 := o3'.mpr hinj
              subst hb'
              obtain ⟨⟨c, I2⟩, eR, rfl, f2, j2, r1, r2, r3, r4, r5⟩ := zq_talkM (c := k) (r := r) (n := nn) (mo := mo) h1M' g2 hD (zRom_F (by decide) (by decide) hF1 b3) (zTam_F (by decide) (by decide) hF1 t2) hn1 hn2 hm1 hm10 hinj (zmc_b b2 t1)
              simp only [] at f2 j2 r1 r2 r3 r4 r5
              refine ⟨0, I1, pd_uj J 132 (0 : Int32).toNatClampNeg (zn (zru (cd k) (zmc m f T) nn mo).1).toInt64, Z1, _, I2, ?_, ?_, ?_, fun _ => by rw [zb_j], ?_⟩
              · unfold fn_L_talk fn_X11_talk
                rw [zr_codeOf1 q3 q1 hk g1 (zci q2 hk), zb_bx, zci q2 hk, zb_gd, zr_rowOf1 hr, zb_bx, za_row r hr, zb_gd, if_pos hk5, zr_bits1 ⟨nn, rfl, hn1, hn2⟩, zb_bx, zb_jn, hx, o1, zb_bd, hb, if_neg (show ¬ zn 1 = 0 from zn_p0), eC, zb_bc3, zb_in1, zb_gd]
                rfl
              · show fn_X12_talk I1 (zn k) (zn r) (zn nn) (zn mo) = _
                rw [zm_talkP h1M g2 (by rw [f1 92 (by decide)]; exact q4) q1 hk hr hD ⟨nn, rfl, hn1, hn2⟩ hv' o2', if_neg zn_p0, eR]
              · rw [j2 0 (by decide) (by decide) (by decide), z92_0, zn_0]
              · have f2' : zF zLU I1 I2 := fun b hb => by rw [f2 b hb, z92_b (fun hh => hb (by rw [hh]; decide))]
                obtain ⟨y1, y2, y3⟩ := zw_way w3
                have hga : (zru (cd k) (zmc m f T) nn mo).2 ≤ 1 := (zru_le mo).1
                refine zCI_seen h f1 f2' j1 (fun j a1 a2 a3 a4 => by rw [j2 j a2 a3 a4, z92_j a1, f1 92 (by decide)]) z1 z2 ⟨nn, hn2, ?_, r2, fun t ht => ?_⟩ ⟨_, hga, ?_, r3⟩ ⟨zZw_Z (z2 17 (by decide)) h.2.2.2.1.1, 1, fun _ => (0, fun t => zsay (zE1 (cd k) (zmc m f T) nn ((zru (cd k) (zmc m f T) nn mo).1 - 1) t), 0), fun _ => nn, by omega, ?_, r1, fun j hj => ⟨hn2, ⟨by show 0 < 2147483648; omega, fun t => zsay_lt, by show 0 < 64; omega⟩, ⟨w0, ?_, ?_⟩, ?_⟩⟩
                · rw [f2' 0 (by decide), s1]
                · rw [f2' 59 (by decide), s3 t ht, r4 t ht]
                · rw [f2' 0 (by decide), s2]
                · rw [f2' 16 (by decide), w1]
                · rw [show j = 0 by omega, w2]
                · unfold zWr
                  rw [f2' w0 (by simp [zLU]; omega), f2' (w0 + 1) (by simp [zLU]; omega)]
                  exact w4
                · rw [show j = 0 by omega]
                  exact r5
            · have hb0 : b = 0 := by omega
              refine ⟨0, I, pd_uj J 132 (0 : Int32).toNatClampNeg (-1 : Int32).toInt64, Z, -1, pd_ui I 92 0 (zn 0), ?_, ?_, by rw [z92_0, zn_0], fun _ => by rw [zb_j], zCI_0 h⟩
              · unfold fn_L_talk fn_X11_talk
                rw [zr_codeOf1 q3 q1 hk g1 (zci q2 hk), zb_bx, zci q2 hk, zb_gd, zr_rowOf1 hr, zb_bx, za_row r hr, zb_gd, if_pos hk5, zr_bits1 ⟨nn, rfl, hn1, hn2⟩, zb_bx, zb_jn, hx, o1, zb_bd, hb0, if_pos (show zn 0 = 0 from rfl), zb_bc3, zb_in1, zb_gd]
                rfl
              · show fn_X12_talk I (zn k) (zn r) (zn nn) (zn mo) = _
                rw [zm_talkP g4 g2 q4 q1 hk hr hD ⟨nn, rfl, hn1, hn2⟩ hv' o2, hb0, if_pos rfl]
          · refine zO4_er (J := J) (e := 3) h (by decide) ?_ ?_
            · unfold fn_L_talk fn_X11_talk
              rw [zr_codeOf1 q3 q1 hk g1 (zci q2 hk), zb_bx, zci q2 hk, zb_gd, zr_rowOf1 hr, zb_bx, za_row r hr, zb_gd, if_pos hk5, zr_bits1 ⟨nn, rfl, hn1, hn2⟩, zb_bx, zb_jn, zn_1, zn_10, zrg_y (by omega) (by omega) hv, zb_bc3e, if_neg (by decide), if_neg (by decide), if_pos rfl]
            · show fn_X12_talk I (zn k) (zn r) (zn nn) v = _
              unfold fn_X12_talk
              rw [zr_code1 q4 q1 ⟨k, rfl, hk⟩, zb_bd2, zb_jn, zn_0, if_neg zn_p0, zr_row1 z92_0 ⟨r, rfl, hr⟩, zb_bd2, if_neg zn_p0, zn_in2 (show k < 12 by omega) (by omega), zb_gd, zn_nat (show k < 2147483648 by omega), hM0.2.1, hD, zn_5, if_pos rfl, zb_bd, zr_ok1 z92_0, zb_bd2, if_neg zn_p0, zr_n1 z92_0 ⟨nn, rfl, hn1, hn2⟩, zb_bd2, if_neg zn_p0, zn_10, zn_1, (zrg_f (by omega) (by omega) hv).1, zb_bd, if_neg (by decide), zb_bd, zr_noL z92_0 (by decide), zb_bd2, if_pos rfl]
        · refine zO4_er (J := J) (e := 3) h (by decide) ?_ ?_
          · unfold fn_L_talk fn_X11_talk
            rw [zr_codeOf1 q3 q1 hk g1 (zci q2 hk), zb_bx, zci q2 hk, zb_gd, zr_rowOf1 hr, zb_bx, za_row r hr, zb_gd, if_pos hk5, zr_bits0 hu, zb_bxe, zb_bc3e, if_neg (by decide), if_neg (by decide), if_pos rfl]
          · show fn_X12_talk I (zn k) (zn r) u v = _
            unfold fn_X12_talk
            rw [zr_code1 q4 q1 ⟨k, rfl, hk⟩, zb_bd2, zb_jn, zn_0, if_neg zn_p0, zr_row1 z92_0 ⟨r, rfl, hr⟩, zb_bd2, if_neg zn_p0, zn_in2 (show k < 12 by omega) (by omega), zb_gd, zn_nat (show k < 2147483648 by omega), hM0.2.1, hD, zn_5, if_pos rfl, zb_bd, zr_ok1 z92_0, zb_bd2, if_neg zn_p0, zr_nL z92_0 (by decide) hu, zb_bd2, if_pos rfl]
      · have hk5 : ¬ I (133 + 3 * k) 0 = 5 := by rw [g3.1, zn_5, zn_eq (by omega) (by omega)]; exact hD
        refine zO4_er (J := J) (e := 2) h (by decide) ?_ ?_
        · unfold fn_L_talk fn_X11_talk
          rw [zr_codeOf1 q3 q1 hk g1 (zci q2 hk), zb_bx, zci q2 hk, zb_gd, zr_rowOf1 hr, zb_bx, za_row r hr, zb_gd, if_neg hk5, zb_bc3e, if_neg (by decide), if_pos rfl]
        · show fn_X12_talk I (zn k) (zn r) u v = _
          unfold fn_X12_talk
          rw [zr_code1 q4 q1 ⟨k, rfl, hk⟩, zb_bd2, zb_jn, zn_0, if_neg zn_p0, zr_row1 z92_0 ⟨r, rfl, hr⟩, zb_bd2, if_neg zn_p0, zn_in2 (show k < 12 by omega) (by omega), zb_gd, zn_nat (show k < 2147483648 by omega), hM0.2.1, zn_5, zi_eq (by omega) (by omega), if_neg hD, zb_bd, zr_noL z92_0 (by decide), zb_bd2, if_pos rfl]
    · refine zO4_er (J := J) (e := 1) h (by decide) ?_ ?_
      · unfold fn_L_talk fn_X11_talk
        rw [zr_codeOf1 q3 q1 hk g1 (zci q2 hk), zb_bx, zci q2 hk, zb_gd, zr_rowOf0 hq, zb_bxe, zb_bc3e, if_pos rfl]
      · show fn_X12_talk I (zn k) q u v = _
        unfold fn_X12_talk
        rw [zr_code1 q4 q1 ⟨k, rfl, hk⟩, zb_bd2, zb_jn, zn_0, if_neg zn_p0, zr_rowL z92_0 (by decide) hq, zb_bd2, if_pos rfl]
  · refine zO4_er (J := J) (e := 1) h (by decide) ?_ ?_
    · unfold fn_L_talk fn_X11_talk
      rw [zr_codeOf0 q3 q1 hp, zb_bxe, zb_bc3e, if_pos rfl]
    · show fn_X12_talk I p q u v = _
      unfold fn_X12_talk
      rw [zr_codeL q4 q1 hp, zb_bd2, zb_jn, zn_0, if_pos rfl]
