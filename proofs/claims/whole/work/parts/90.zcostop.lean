/-! the operation cost -/
theorem zo_cost {I : pd_I} {J : pd_J} {Z : pd_R} {n : Nat} {p q u v : Int32} (h : zCI I Z n) : zO3 (fn_L_cost I J Z n p q u v) (fun I1 => fn_X12_cost I1 p q u v) Z n := by
  obtain ⟨cnt, cd, q1, q2, q3, q4, q5⟩ := id h.2.2.1
  by_cases hp : zin p cnt
  · obtain ⟨k, rfl, hk⟩ := hp
    obtain ⟨g1, g2, g3, g4⟩ := q5 k hk
    by_cases hq : zin q 16
    · obtain ⟨r, rfl, hr⟩ := hq
      obtain ⟨m, f, b1, b2, b3⟩ := zr_rowI h.1 hr
      by_cases hw : zin v 16
      · obtain ⟨r3, rfl, hr3⟩ := hw
        obtain ⟨m3, f3, d1, d2, d3⟩ := zr_rowI h.1 hr3
        obtain ⟨T, t1, t2⟩ := id h.2.1
        by_cases hu : zrg u 1 200
        · obtain ⟨nn, rfl, hn1, hn2⟩ := hu
          obtain ⟨o, o1, o2, o3⟩ := zsn_or (m := m) (f := f) g3 g4 g2 hn1 hn2
          have hst := zst_le (n := nn) g2
          have hB := zpl_B g2 hn2
          rcases o3 with ⟨b, hb, ho⟩ | hno
          · obtain ⟨⟨w, I1⟩, eC, rfl, f1, f2⟩ := zk_encode (show 133 ≤ 133 + 3 * k by omega) (show 60 ≤ 60 + 2 * r by omega) g3 g2 b2 hn1 hn2 hb o1 ho
            simp only [] at f1 f2
            have c1 := zCo_F (by decide) (by omega) f1 g3
            have hgo : ∀ t o, zgo (cd k) (zxb m f) nn b t o < 2 := fun t o => zgo_lt (fun t => zxb_lt)
            obtain ⟨I2, eD, k1, k2⟩ := zq_read (n := nn) (show 133 ≤ 133 + 3 * k by omega) (show 60 ≤ 60 + 2 * r3 by omega) c1 g2 (zRow_F (by simp; omega) (by simp; omega) f1 d2) (zTab_F (by decide) (by decide) f1 t1) hn2
            have c2 := zCo_F (by decide) (by omega) k1 c1
            have eV := zq_costOf (g := zgo (cd k) (zxb m f) nn b) c2 g2 hn2 k2 (fun t ht o ho => ⟨by rw [k1 5 (by decide)]; exact f2 t ht o ho, hgo t o⟩)
            have hF0 : zF [4, 5, 9, 10, 92] I (pd_ui I2 92 0 (zn 0)) := zF_u (by decide) (zF_tr (zF_sub f1 (by decide)) (zF_sub k1 (by decide)))
            obtain ⟨I4, eT, m1, m2⟩ := zq_takes (n := nn) (zRom_F (by decide) (by decide) hF0 b3) hn2
            have hM4 := zCm_F (by decide) m1 (zCm_F (by decide) hF0 g4)
            obtain ⟨⟨w, I5⟩, eS, rfl, s1, s2⟩ := zq_sent (x := zxb m f) hM4 g2 hn1 hn2 (fun t => zxb_lt) m2 hb (o2 I4 hM4) ho
            simp only [] at s1 s2
            have r5 : zRom I5 r3 m3 f3 := zRom_F (by decide) (by decide) s1 (zRom_F (by decide) (by decide) m1 (zRom_F (by decide) (by decide) hF0 d3))
            have T5 : zTam I5 T := zTam_F (by decide) (by decide) s1 (zTam_F (by decide) (by decide) m1 (zTam_F (by decide) (by decide) hF0 t2))
            refine ⟨0, I2, pd_uj J 132 (0 : Int32).toNatClampNeg (zn (zcx (cd k) (zmc m3 f3 T) (zgo (cd k) (zxb m f) nn b) (zst (cd k) nn))).toInt64, zn (zcx (cd k) (zmc m3 f3 T) (zgo (cd k) (zxb m f) nn b) (zst (cd k) nn)), I5, ?_, ?_, ?_, fun _ => by rw [zb_j], ?_⟩
            · unfold fn_L_cost fn_X11_cost
              rw [zr_codeOf1 q3 q1 hk g1 (zci q2 hk), zb_bx, zci q2 hk, zb_gd, zr_rowOf1 hr, zb_bx, za_row r hr, zb_gd, zr_rowOf1 hr3, zb_bx, za_row r3 hr3, zb_gd, zr_bits1 ⟨nn, rfl, hn1, hn2⟩, zb_bx, eC, zb_bd2, if_neg (show ¬ zn 1 = 0 from zn_p0), eD, zb_bd, eV, zb_bd, zb_bc2, zb_in1, zb_gd]
              rfl
            · show fn_X12_cost I2 (zn k) (zn r) (zn nn) (zn r3) = _
              rw [zm_costP (by rw [k1 92 (by decide), f1 92 (by decide)]; exact q4) q1 hk hr hr3 hn1 hn2, eT, zb_bd, eS, zb_bd2, if_neg (zn_m1e (by omega)), zq_cost66 r5 T5 hB (fun i hi => ⟨s2 i hi, zsq_lt hgo _⟩), zcx_y]
            · rw [s1 92 (by decide), m1 92 (by decide), z92_0, zn_0]
            · refine zCI_F4 (zCI_0 (x := zn 0) h) (fun b hb => ?_)
              simp only [zL4, List.mem_cons, List.not_mem_nil, or_false, not_or] at hb
              rw [s1 b (by simp; omega), m1 b (by simp; omega)]
              by_cases c : b = 92
              · subst c; rw [zu_same, zu_same, k1 92 (by decide), f1 92 (by decide)]
              · rw [z92_b c, z92_b c, k1 b (by simp; omega), f1 b (by simp; omega)]
          · obtain ⟨⟨w, I1⟩, eC, rfl, f1⟩ := zk_encode0 (show 133 ≤ 133 + 3 * k by omega) (show 60 ≤ 60 + 2 * r by omega) g3 g2 b2 hn1 hn2 o1 hno
            simp only [] at f1
            have hF0 : zF [4, 5, 92] I (pd_ui I1 92 0 (zn 0)) := zF_u (by decide) (zF_sub f1 (by decide))
            obtain ⟨I4, eT, m1, m2⟩ := zq_takes (n := nn) (zRom_F (by decide) (by decide) hF0 b3) hn2
            have hM4 := zCm_F (by decide) m1 (zCm_F (by decide) hF0 g4)
            have eS := zq_sent0 (x := zxb m f) hM4 g2 hn2 (fun t => zxb_lt) m2 (o2 I4 hM4) hno
            refine ⟨0, I1, pd_uj J 132 (0 : Int32).toNatClampNeg (-1 : Int32).toInt64, -1, I4, ?_, ?_, ?_, fun _ => by rw [zb_j], ?_⟩
            · unfold fn_L_cost fn_X11_cost
              rw [zr_codeOf1 q3 q1 hk g1 (zci q2 hk), zb_bx, zci q2 hk, zb_gd, zr_rowOf1 hr, zb_bx, za_row r hr, zb_gd, zr_rowOf1 hr3, zb_bx, za_row r3 hr3, zb_gd, zr_bits1 ⟨nn, rfl, hn1, hn2⟩, zb_bx, eC, zb_bd2, if_pos (show zn 0 = 0 from rfl), zb_bc2, zb_in1, zb_gd]
              rfl
            · show fn_X12_cost I1 (zn k) (zn r) (zn nn) (zn r3) = _
              rw [zm_costP (by rw [f1 92 (by decide)]; exact q4) q1 hk hr hr3 hn1 hn2, eT, zb_bd, eS, zb_bd2, if_pos rfl]
            · rw [m1 92 (by decide), z92_0, zn_0]
            · refine zCI_F4 (zCI_0 (x := zn 0) h) (fun b hb => ?_)
              simp only [zL4, List.mem_cons, List.not_mem_nil, or_false, not_or] at hb
              rw [m1 b (by simp; omega)]
              by_cases c : b = 92
              · subst c; rw [zu_same, zu_same, f1 92 (by decide)]
              · rw [z92_b c, z92_b c, f1 b (by simp; omega)]
        · refine zO3_er (J := J) (e := 2) h (by decide) ?_ ?_
          · unfold fn_L_cost fn_X11_cost
            rw [zr_codeOf1 q3 q1 hk g1 (zci q2 hk), zb_bx, zci q2 hk, zb_gd, zr_rowOf1 hr, zb_bx, za_row r hr, zb_gd, zr_rowOf1 hr3, zb_bx, za_row r3 hr3, zb_gd, zr_bits0 hu, zb_bxe, zb_bc2e, if_neg (by decide), if_pos rfl]
          · show fn_X12_cost I (zn k) (zn r) u (zn r3) = _
            unfold fn_X12_cost
            rw [zr_code1 q4 q1 ⟨k, rfl, hk⟩, zb_bd2, zb_jn, zn_0, if_neg zn_p0, zr_row1 z92_0 ⟨r, rfl, hr⟩, zb_bd2, if_neg zn_p0, zr_row1 z92_0 ⟨r3, rfl, hr3⟩, zb_bd2, if_neg zn_p0, zr_nL z92_0 (by decide) hu, zb_bd2, if_pos rfl]
      · refine zO3_er (J := J) (e := 1) h (by decide) ?_ ?_
        · unfold fn_L_cost fn_X11_cost
          rw [zr_codeOf1 q3 q1 hk g1 (zci q2 hk), zb_bx, zci q2 hk, zb_gd, zr_rowOf1 hr, zb_bx, za_row r hr, zb_gd, zr_rowOf0 hw, zb_bxe, zb_bc2e, if_pos rfl]
        · show fn_X12_cost I (zn k) (zn r) u v = _
          unfold fn_X12_cost
          rw [zr_code1 q4 q1 ⟨k, rfl, hk⟩, zb_bd2, zb_jn, zn_0, if_neg zn_p0, zr_row1 z92_0 ⟨r, rfl, hr⟩, zb_bd2, if_neg zn_p0, zr_rowL z92_0 (by decide) hw, zb_bd2, if_pos rfl]
    · refine zO3_er (J := J) (e := 1) h (by decide) ?_ ?_
      · unfold fn_L_cost fn_X11_cost
        rw [zr_codeOf1 q3 q1 hk g1 (zci q2 hk), zb_bx, zci q2 hk, zb_gd, zr_rowOf0 hq, zb_bxe, zb_bc2e, if_pos rfl]
      · show fn_X12_cost I (zn k) q u v = _
        unfold fn_X12_cost
        rw [zr_code1 q4 q1 ⟨k, rfl, hk⟩, zb_bd2, zb_jn, zn_0, if_neg zn_p0, zr_rowL z92_0 (by decide) hq, zb_bd2, if_pos rfl]
  · refine zO3_er (J := J) (e := 1) h (by decide) ?_ ?_
    · unfold fn_L_cost fn_X11_cost
      rw [zr_codeOf0 q3 q1 hp, zb_bxe, zb_bc2e, if_pos rfl]
    · show fn_X12_cost I p q u v = _
      unfold fn_X12_cost
      rw [zr_codeL q4 q1 hp, zb_bd2, zb_jn, zn_0, if_pos rfl]
