/-! the operations bad, free -/
def zL5 : List Nat := [11, 12, 13, 54, 55, 56, 57, 124]
theorem zCI_F5 {I I' : pd_I} {Z : pd_R} {n : Nat} (K : zCI I Z n) (h : zF zL5 I I') : zCI I' Z n := by
  obtain ⟨a1, a2, a3, a4, a5, a6, a7, a8⟩ := K
  refine ⟨zCR_F (fun b b1 b2 b3 => h b (by simp [zL5]; omega)) a1, zCT_F (h 7 (by decide)) (h 8 (by decide)) (h 95 (by decide)) (h 96 (by decide)) a2, zCC_F (L := zL5) (by decide) (by decide) h (by rw [h 0 (by decide)]) (by rw [h 92 (by decide)]) rfl a3, zCW_F (fun b b1 b2 => h b (by simp [zL5]; omega)) (by rw [h 16 (by decide)]) (by rw [h 92 (by decide)]) (h 105 (by decide)) (h 106 (by decide)) (h 107 (by decide)) (h 108 (by decide)) rfl a4, zCS_F (by rw [h 0 (by decide)]) (by rw [h 92 (by decide)]) (h 59 (by decide)) (h 109 (by decide)) a5, zCA_F (by rw [h 0 (by decide)]) (by rw [h 92 (by decide)]) a6, a7, a8⟩
/-- the class, then 92 0 := 0, then the reference -/
theorem zCI_sp {I I1 I2 : pd_I} {Z : pd_R} {n : Nat} (K : zCI I Z n) (h1 : zF zL5 I I1) (h2 : zF zL5 (pd_ui I1 92 0 (zn 0)) I2) : zCI I2 Z n := by
  refine zCI_F5 (zCI_0 (x := zn 0) K) (fun b hb => ?_)
  rw [h2 b hb]
  by_cases c : b = 92
  · subst c; rw [zu_same, zu_same, h1 92 (by decide)]
  · rw [z92_b c, z92_b c, h1 b hb]
theorem zk_cw1 {I : pd_I} {Z : pd_R} {n k cnt : Nat} {cd : Nat → Nat} (h : zCo I (133 + 3 * k) cd) (hv : zCv cd) (hc : I 0 2 = zn cnt) (hc12 : cnt ≤ 12) (hk : k < cnt) (hz : Z 2 k = some (133 + 3 * k)) (hn : n = 133 + 3 * cnt) (h1 : cd 0 ≤ 1) : fn_X11_codeWithWeight I Z n (zn k) = some (.ok (133 + 3 * k)) := by
  unfold fn_X11_codeWithWeight
  rw [zr_codeOf1 hc hc12 hk hz (zci hn hk), zb_bx, zci hn hk, zb_gd, h.1, zn_0, zn_1, zi_eq (by omega) (by omega), zi_eq (by omega) (by omega)]
  by_cases c : cd 0 = 0
  · rw [if_pos c, zb_bd, if_neg (by decide)]
  · rw [if_neg c, if_pos (by omega), zb_bd, if_neg (by decide)]
theorem zk_cw2 {I : pd_I} {Z : pd_R} {n k cnt : Nat} {cd : Nat → Nat} (h : zCo I (133 + 3 * k) cd) (hv : zCv cd) (hc : I 0 2 = zn cnt) (hc12 : cnt ≤ 12) (hk : k < cnt) (hz : Z 2 k = some (133 + 3 * k)) (hn : n = 133 + 3 * cnt) (h1 : ¬ cd 0 ≤ 1) : fn_X11_codeWithWeight I Z n (zn k) = some (.error "java/util/NoSuchElementException") := by
  have := hv.1
  unfold fn_X11_codeWithWeight
  rw [zr_codeOf1 hc hc12 hk hz (zci hn hk), zb_bx, zci hn hk, zb_gd, h.1, zn_0, zn_1, zi_eq (by omega) (by omega), zi_eq (by omega) (by omega), if_neg (by omega), if_neg (by omega), zb_bd, if_pos rfl]
theorem zk_cw0 {I : pd_I} {Z : pd_R} {n cnt : Nat} {p : Int32} (hc : I 0 2 = zn cnt) (hc12 : cnt ≤ 12) (hp : ¬ zin p cnt) : fn_X11_codeWithWeight I Z n p = some (.error "java/lang/IndexOutOfBoundsException") := by
  unfold fn_X11_codeWithWeight
  rw [zr_codeOf0 hc hc12 hp, zb_bxe]
theorem zm_op1 {I : pd_I} {k cnt : Nat} {cd : Nat → Nat} (h : zCm I k cd) (hv : zCv cd) (hc : I 92 5 = zn cnt) (hc12 : cnt ≤ 12) (hk : k < cnt) (h1 : cd 0 ≤ 1) : fn_X12_isOpen I (zn k) = some (zn 1, pd_ui I 92 0 (zn 0)) := by
  have hM : zCm (pd_ui I 92 0 (zn 0)) k cd := zCm_F (L := [92]) (by decide) (zF_u (by decide) zF_rfl) h
  unfold fn_X12_isOpen
  rw [zr_code1 hc hc12 ⟨k, rfl, hk⟩, zb_bd2, zn_0, if_neg zn_p0, zn_in2 (show k < 12 by omega) (by omega), zb_gd, zn_nat (by omega), hM.2.1, zn_1, zi_lt (by omega) (by omega), if_neg (by omega), zb_bd, zr_ok z92_0, zb_bd2, if_neg zn_p0, zb_bd2, zn_bo1, zb_gd]
theorem zm_op2 {I : pd_I} {k cnt : Nat} {cd : Nat → Nat} (h : zCm I k cd) (hv : zCv cd) (hc : I 92 5 = zn cnt) (hc12 : cnt ≤ 12) (hk : k < cnt) (h1 : ¬ cd 0 ≤ 1) : fn_X12_isOpen I (zn k) = some (zn 0, pd_ui (pd_ui I 92 0 (zn 0)) 92 0 2) := by
  have v0 := hv.1
  have hM : zCm (pd_ui I 92 0 (zn 0)) k cd := zCm_F (L := [92]) (by decide) (zF_u (by decide) zF_rfl) h
  unfold fn_X12_isOpen
  rw [zr_code1 hc hc12 ⟨k, rfl, hk⟩, zb_bd2, zn_0, if_neg zn_p0, zn_in2 (show k < 12 by omega) (by omega), zb_gd, zn_nat (by omega), hM.2.1, zn_1, zi_lt (by omega) (by omega), if_pos (by omega), zb_bd, zr_noL z92_0 (by decide), zb_bd2, if_pos rfl, zb_bd2, zn_bo0, zb_gd]
theorem zm_op0 {I : pd_I} {cnt : Nat} {p : Int32} (hc : I 92 5 = zn cnt) (hc12 : cnt ≤ 12) (hp : ¬ zin p cnt) : fn_X12_isOpen I p = some (zn 0, pd_ui (pd_ui I 92 0 (zn 0)) 92 0 1) := by
  unfold fn_X12_isOpen
  rw [zr_codeL hc hc12 hp, zb_bd2, zn_0, if_pos rfl, zb_bd2, zn_bo0, zb_gd]
/-- BAD by both -/
theorem zk_bad {I : pd_I} {k : Nat} {cd : Nat → Nat} (h : zCo I (133 + 3 * k) cd) (hM : zCm I k cd) (hv : zCv cd) : ∃ I1 I2 cnt ord, fn_X7_read I (133 + 3 * k) = some I1 ∧ fn_X7_isBad I1 = some (zn (if 2 ^ cd 1 ≤ cnt then 0 else 1)) ∧ zF zLq I I1 ∧ I1 11 3 = zn (2 ^ cd 1) ∧ zLD I1 cd (2 * 2 ^ cd 1) ∧ I1 54 2 = zn cnt ∧ (∀ j, j < cnt → I1 55 j = zn (ord j)) ∧ zKr cd cnt ord ∧ (∀ I', zF zL5 I I' → zT (fn_X12_isBad (pd_ui I' 92 0 (zn 0)) (zn k)) (fun x => x.1 = zn (if 2 ^ cd 1 ≤ cnt then 0 else 1) ∧ zF [124] (pd_ui I' 92 0 (zn 0)) x.2)) ∧ I2 = I1 := by
  have hS := zCv_S hv
  obtain ⟨I1, e1, f1, e3, hD, cnt, ord, ec, eo, hK⟩ := zq_readX (show 133 ≤ 133 + 3 * k by omega) h hv
  have hc : cnt ≤ 2 ^ cd 1 := by
    by_cases c : 2 ^ cd 1 ≤ cnt
    · exact Nat.le_of_eq (zKr_po hK c).1
    · omega
  refine ⟨I1, I1, cnt, ord, e1, zq_isBadC hv e3 ec (by omega), f1, e3, hD, ec, eo, hK, fun I' hI' => ?_, rfl⟩
  have hF : zF (zL5 ++ [92]) I (pd_ui I' 92 0 (zn 0)) := zF_u (by decide) (zF_sub hI' (by decide))
  refine zT_mono (zq_isBadM (zCm_F (by decide) hF hM) hv) (fun x ⟨g1, kp, g2, g3⟩ => ⟨?_, g1⟩)
  rw [g3, zbad_eq g2 hK]
theorem zo_bad {I : pd_I} {J : pd_J} {Z : pd_R} {n : Nat} {p : Int32} (h : zCI I Z n) : zOb (fn_L_bad I J Z n p) (fun I1 => fn_X12_bad I1 p) Z n := by
  obtain ⟨cnt, cd, q1, q2, q3, q4, q5⟩ := id h.2.2.1
  by_cases hp : zin p cnt
  · obtain ⟨k, rfl, hk⟩ := hp
    obtain ⟨g1, g2, g3, g4⟩ := q5 k hk
    by_cases hD : cd k 0 ≤ 1
    · obtain ⟨I1, -, c, ord, e1, e2, f1, -, -, -, -, -, hM, -⟩ := zk_bad g3 g4 g2
      obtain ⟨⟨v, I2⟩, e3, rfl, f2⟩ := hM I1 (zF_sub f1 (by decide))
      simp only [] at f2
      have h1M := zCm_F (L := zLq) (by decide) f1 g4
      generalize hb : (if 2 ^ cd k 1 ≤ c then 0 else 1) = b at e2 e3
      have hb1 : b ≤ 1 := by rw [← hb]; split <;> omega
      refine ⟨0, I1, pd_uj J 132 (0 : Int32).toNatClampNeg (if zn b = 0 then 0 else 1), zn b, I2, ?_, ?_, by rw [f2 92 (by decide), z92_0, zn_0], fun _ => ⟨?_, ?_⟩, zCI_sp h (zF_sub f1 (by decide)) (zF_sub f2 (by decide))⟩
      · unfold fn_L_bad fn_X11_bad
        rw [zk_cw1 g3 g2 q3 q1 hk g1 q2 hD, zb_bx, zci q2 hk, zb_gd, e1, zb_bd, e2, zb_bd, zc_bo hb1, zb_gd, zb_bc2]
        by_cases d : b = 0
        · rw [d, if_pos (show zn 0 = 0 from rfl), if_pos (show zn 0 = 0 from rfl), zb_bd, zb_in1, zb_gd]; rfl
        · rw [show b = 1 by omega, if_neg (show ¬ zn 1 = 0 from zn_p0), if_neg (show ¬ zn 1 = 0 from zn_p0), zb_bd, zb_in1, zb_gd]; rfl
      · show fn_X12_bad I1 (zn k) = _
        unfold fn_X12_bad
        rw [zm_op1 h1M g2 (by rw [f1 92 (by decide)]; exact q4) q1 hk hD, zb_bd2, zn_0, if_neg zn_p0, e3, zb_bd2]
        by_cases d : b = 0
        · rw [d, if_pos rfl, zb_bd2, zn_bo0, zb_gd]
        · rw [show b = 1 by omega, if_neg zn_p0, zb_bd2, zn_1, zn_bo1, zb_gd]
      · have : b = 0 ∨ b = 1 := by omega
        rcases this with e | e
        · rw [e]; exact Or.inl rfl
        · rw [e]; exact Or.inr rfl
      · rw [zb_j]
        have : b = 0 ∨ b = 1 := by omega
        rcases this with e | e
        · rw [e]; decide
        · rw [e]; decide
    · refine zOb_er (J := J) (e := 2) h (by decide) ?_ ?_
      · unfold fn_L_bad fn_X11_bad
        rw [zk_cw2 g3 g2 q3 q1 hk g1 q2 hD, zb_bxe, zb_bc2e, if_neg (by decide), if_pos rfl]
      · show fn_X12_bad I (zn k) = _
        unfold fn_X12_bad
        rw [zm_op2 g4 g2 q4 q1 hk hD, zb_bd2, zn_0, if_pos rfl, zb_bd2, zn_bo0, zb_gd]
  · refine zOb_er (J := J) (e := 1) h (by decide) ?_ ?_
    · unfold fn_L_bad fn_X11_bad
      rw [zk_cw0 q3 q1 hp, zb_bxe, zb_bc2e, if_pos rfl]
    · show fn_X12_bad I p = _
      unfold fn_X12_bad
      rw [zm_op0 q4 q1 hp, zb_bd2, zn_0, if_pos rfl, zb_bd2, zn_bo0, zb_gd]
theorem zo_free {I : pd_I} {J : pd_J} {Z : pd_R} {n : Nat} {p : Int32} (h : zCI I Z n) : zO3 (fn_L_free I J Z n p) (fun I1 => fn_X12_free I1 p) Z n := by
  obtain ⟨cnt, cd, q1, q2, q3, q4, q5⟩ := id h.2.2.1
  by_cases hp : zin p cnt
  · obtain ⟨k, rfl, hk⟩ := hp
    obtain ⟨g1, g2, g3, g4⟩ := q5 k hk
    have hS := zCv_S g2
    by_cases hD : cd k 0 ≤ 1
    · obtain ⟨I1, -, c, ord, e1, e2, f1, l1, l2, -, -, -, hM, -⟩ := zk_bad g3 g4 g2
      have h1M := zCm_F (L := zLq) (by decide) f1 g4
      by_cases hb : 2 ^ cd k 1 ≤ c
      · rw [if_pos hb] at e2 hM
        obtain ⟨⟨w, I2⟩, eL, f2, rfl⟩ := zq_leastC g2 l1 l2
        simp only [] at f2
        have F2 : zF zL5 I I2 := zF_tr (zF_sub f1 (by decide)) (zF_sub f2 (by decide))
        obtain ⟨⟨v, I3⟩, e3, rfl, f3⟩ := hM I2 F2
        simp only [] at f3
        have h2M := zCm_F (by decide) f3 (zCm_F (L := [92]) (by decide) (zF_u (by decide) zF_rfl) (zCm_F (by decide) F2 g4))
        obtain ⟨⟨w, I4⟩, eF, f4, rfl⟩ := zm_free h2M g2
        simp only [] at f4
        have hne : (zfr (cd k) (2 ^ cd k 1)).1 ≠ 0 := by
          have := zfr_p g2 (2 ^ cd k 1 - 1)
          rw [show 2 ^ cd k 1 - 1 + 1 = 2 ^ cd k 1 by omega] at this
          exact this
        rw [zen_S hne] at eL eF
        refine ⟨0, I2, pd_uj J 132 (0 : Int32).toNatClampNeg (zn ((zfr (cd k) (2 ^ cd k 1)).1 - 1)).toInt64, zn ((zfr (cd k) (2 ^ cd k 1)).1 - 1), I4, ?_, ?_, by rw [f4 92 (by decide), f3 92 (by decide), z92_0, zn_0], fun _ => by rw [zb_j], zCI_sp h F2 (zF_tr (zF_sub f3 (by decide)) (zF_sub f4 (by decide)))⟩
        · unfold fn_L_free fn_X11_free
          rw [zk_cw1 g3 g2 q3 q1 hk g1 q2 hD, zb_bx, zci q2 hk, zb_gd, e1, zb_bd, e2, zb_bd, if_pos (show zn 0 = 0 from rfl), eL, zb_bd2, zb_bd2, zb_bc2, zb_in1, zb_gd]
          rfl
        · show fn_X12_free I2 (zn k) = _
          unfold fn_X12_free
          rw [zm_op1 (zCm_F (by decide) F2 g4) g2 (by rw [F2 92 (by decide)]; exact q4) q1 hk hD, zb_bd2, zn_0, if_neg zn_p0, e3, zb_bd2, if_pos rfl, zn_in2 (show k < 12 by omega) (by omega), zb_gd, zn_nat (by omega), h2M.2.2.1, show (1 : Int32) <<< (zn (cd k 1) &&& 31) = zn (2 ^ cd k 1) by rw [zn_1, zn_31, zn_1shl _ (by have := g2.2.2.1; omega)], zb_let]
          exact eF
      · rw [if_neg hb] at e2 hM
        obtain ⟨⟨v, I2⟩, e3, rfl, f2⟩ := hM I1 (zF_sub f1 (by decide))
        simp only [] at f2
        refine ⟨0, I1, pd_uj J 132 (0 : Int32).toNatClampNeg (-1 : Int32).toInt64, -1, I2, ?_, ?_, by rw [f2 92 (by decide), z92_0, zn_0], fun _ => by rw [zb_j], zCI_sp h (zF_sub f1 (by decide)) (zF_sub f2 (by decide))⟩
        · unfold fn_L_free fn_X11_free
          rw [zk_cw1 g3 g2 q3 q1 hk g1 q2 hD, zb_bx, zci q2 hk, zb_gd, e1, zb_bd, e2, zb_bd, if_neg (show ¬ zn 1 = 0 from zn_p0), zb_bd2, zb_bc2, zb_in1, zb_gd]
          rfl
        · show fn_X12_free I1 (zn k) = _
          unfold fn_X12_free
          rw [zm_op1 h1M g2 (by rw [f1 92 (by decide)]; exact q4) q1 hk hD, zb_bd2, zn_0, if_neg zn_p0, e3, zb_bd2, if_neg zn_p0]
    · refine zO3_er (J := J) (e := 2) h (by decide) ?_ ?_
      · unfold fn_L_free fn_X11_free
        rw [zk_cw2 g3 g2 q3 q1 hk g1 q2 hD, zb_bxe, zb_bc2e, if_neg (by decide), if_pos rfl]
      · show fn_X12_free I (zn k) = _
        unfold fn_X12_free
        rw [zm_op2 g4 g2 q4 q1 hk hD, zb_bd2, zn_0, if_pos rfl]
  · refine zO3_er (J := J) (e := 1) h (by decide) ?_ ?_
    · unfold fn_L_free fn_X11_free
      rw [zk_cw0 q3 q1 hp, zb_bxe, zb_bc2e, if_pos rfl]
    · show fn_X12_free I p = _
      unfold fn_X12_free
      rw [zm_op0 q4 q1 hp, zb_bd2, zn_0, if_pos rfl]
