/-! code: the operation -/
theorem zur_ne {Z : pd_R} {a j b : Nat} {x : Option Nat} (h : b ≠ a) : pd_ur Z a j x b = Z b := if_neg h
theorem zur_at {Z : pd_R} {a j i : Nat} {x : Option Nat} : pd_ur Z a j x a i = if i = j then x else Z a i := by
  unfold pd_ur
  rw [if_pos rfl]
  rfl
theorem zk_codeE {I : pd_I} {J : pd_J} {Z : pd_R} {n : Nat} {p q r : Int32} (h : ¬ (zrg p 0 5 ∧ zrg q 1 6 ∧ zrg r 2 4)) : fn_X11_code I J Z n p q r = some (.error "java/lang/IllegalArgumentException") := by
  unfold fn_X11_code
  rw [zb_jn, zn_0, zn_5]
  by_cases a : zrg p 0 5
  · rw [zrg_x (by omega) a, zb_jn, zn_1, zn_6]
    by_cases b : zrg q 1 6
    · rw [zrg_x (by omega) b, zb_jn, zn_2, zn_4, zrg_y (by omega) (by omega) (fun c => h ⟨a, b, c⟩)]
    · rw [zrg_y (by omega) (by omega) b]
  · rw [zrg_y (by omega) (by omega) a]
theorem zm_codeE {I : pd_I} {p q r : Int32} (h : ¬ (zrg p 0 5 ∧ zrg q 1 6 ∧ zrg r 2 4)) : fn_X12_code I p q r = some (zn 0, pd_ui (pd_ui I 92 0 (zn 0)) 92 0 1) := by
  have e : (if p < zn 0 then some false else (if zn 5 < p then some false else (if q < zn 1 then some false else (if zn 6 < q then some false else (if r < zn 2 then some false else (if zn 4 < r then some false else (some true))))))) = some false := by
    by_cases a : zrg p 0 5
    · rw [zrg_v (by omega) a]
      by_cases b : zrg q 1 6
      · rw [zrg_v (by omega) b, zrg_u (by omega) (by omega) (fun c => h ⟨a, b, c⟩)]
      · rw [zrg_u (by omega) (by omega) b]
    · rw [zrg_u (by omega) (by omega) a]
  unfold fn_X12_code
  rw [zn_0, zb_let, zn_1, zn_2, zn_4, zn_5, zn_6, e, zb_bd, if_neg (by decide), zb_bd, zr_noL z92_0 (by decide), zb_bd2, if_pos rfl]
theorem zk_codeN {I : pd_I} {J : pd_J} {Z : pd_R} {n c kd cl ou : Nat} (hc : I 0 2 = zn c) (hn : n = 133 + 3 * c) (hc12 : c < 12) (h1 : kd ≤ 5) (h2 : 1 ≤ cl) (h3 : cl ≤ 6) (h4 : 2 ≤ ou) (h5 : ou ≤ 4) : fn_X11_code I J Z n (zn kd) (zn cl) (zn ou) = some (.ok (zn c, pd_ui (ic_X0_init n (zn kd) (zn cl) (zn ou) (pd_zi I n)) 0 2 (zn (c + 1)), jc_X0_init n (pd_zj J n), pd_ur Z 2 c (some n), n + 3)) := by
  have e0 : ic_X0_init n (zn kd) (zn cl) (zn ou) (pd_zi I n) 0 2 = zn c := by rw [(zic (I := I) (n := n) (cl := cl) h1 h4 h5).1 0 (by omega) (by omega) (by omega), hc]
  unfold fn_X11_code
  rw [zb_jn, zn_0, zn_5, zrg_x (by omega) ⟨kd, rfl, by omega, h1⟩, zb_jn, zn_1, zn_6, zrg_x (by omega) ⟨cl, rfl, h2, h3⟩, zb_jn, zn_2, zn_4, zrg_x (by omega) ⟨ou, rfl, h4, h5⟩, hc, zn_12, zi_lt (by omega) (by omega), if_pos hc12, zn_in2 (show c < 12 by omega) (by omega), zb_gd, zb_let, zb_let, zn_nat (by omega), zb_let, zb_let, e0, zn_add, zb_let, zu_same, zu_at, zn_sub (by omega), Nat.add_sub_cancel]
theorem zk_codeF {I : pd_I} {J : pd_J} {Z : pd_R} {n kd cl ou : Nat} (hc : I 0 2 = zn 12) (h1 : kd ≤ 5) (h2 : 1 ≤ cl) (h3 : cl ≤ 6) (h4 : 2 ≤ ou) (h5 : ou ≤ 4) : fn_X11_code I J Z n (zn kd) (zn cl) (zn ou) = some (.ok (-1, I, J, Z, n)) := by
  unfold fn_X11_code
  rw [zb_jn, zn_0, zn_5, zrg_x (by omega) ⟨kd, rfl, by omega, h1⟩, zb_jn, zn_1, zn_6, zrg_x (by omega) ⟨cl, rfl, h2, h3⟩, zb_jn, zn_2, zn_4, zrg_x (by omega) ⟨ou, rfl, h4, h5⟩, hc, zn_12, zi_lt (by omega) (by omega), if_neg (by omega)]
theorem zm_codeF {I : pd_I} {kd cl ou : Nat} (hc : I 92 5 = zn 12) (h1 : kd ≤ 5) (h2 : 1 ≤ cl) (h3 : cl ≤ 6) (h4 : 2 ≤ ou) (h5 : ou ≤ 4) : fn_X12_code I (zn kd) (zn cl) (zn ou) = some (-1, pd_ui I 92 0 (zn 0)) := by
  unfold fn_X12_code
  rw [zn_0, zb_let, zn_1, zn_2, zn_4, zn_5, zrg_v (by omega) ⟨kd, rfl, by omega, h1⟩, zn_6, zrg_v (by omega) ⟨cl, rfl, h2, h3⟩, zrg_v (by omega) ⟨ou, rfl, h4, h5⟩, zb_bd, if_pos rfl, zb_bd, zr_ok z92_0, zb_bd2, if_neg zn_p0, z92_j (by omega), hc, zn_12, if_pos rfl]
theorem zfr_code {Z : pd_R} {n c : Nat} (hn : n = 133 + 3 * c) (h : pd_fr (pd_RF Z) n) : pd_fr (pd_RF (pd_ur Z 2 c (some n))) (n + 3) := by
  intro b j k hb e
  unfold pd_RF at e
  by_cases d : pd_dy b j = true
  · rw [if_pos d] at e
    have hb2 : b < n := by
      rcases of_decide_eq_true d with x | x | ⟨x, -⟩ | ⟨x, -⟩ <;> omega
    by_cases b2 : b = 2
    · subst b2
      rw [zur_at] at e
      by_cases j2 : j = c
      · rw [if_pos j2] at e; cases e; omega
      · rw [if_neg j2] at e
        have := h 2 j k hb2 (by unfold pd_RF; rw [if_pos d]; exact e)
        omega
    · rw [zur_ne b2] at e
      have := h b j k hb2 (by unfold pd_RF; rw [if_pos d]; exact e)
      omega
  · rw [if_neg d] at e
    by_cases hb2 : b < n
    · have := h b j k hb2 (by unfold pd_RF; rw [if_neg d]; exact e)
      omega
    · unfold pd_R0 at e
      rw [if_neg (show ¬ b < 133 by omega)] at e
      by_cases m : (b - 133) % 3 = 0
      · rw [if_pos m] at e
        by_cases j3 : j = 3
        · rw [if_pos j3] at e; cases e; omega
        · rw [if_neg j3] at e
          by_cases j7 : j = 7
          · rw [if_pos j7] at e; cases e; omega
          · rw [if_neg j7] at e; cases e
      · rw [if_neg m] at e; cases e
theorem zo_code {I : pd_I} {J : pd_J} {Z : pd_R} {n : Nat} {p q r : Int32} (h : zCI I Z n) : zO5 (fn_L_code I J Z n p q r) (fun I1 => fn_X12_code I1 p q r) := by
  obtain ⟨cnt, cd, q1, q2, q3, q4, q5⟩ := id h.2.2.1
  have hgn : decide (133 ≤ n) = true := decide_eq_true (by omega)
  have hgn3 : decide (133 ≤ n + 3) = true := decide_eq_true (by omega)
  by_cases hA : zrg p 0 5 ∧ zrg q 1 6 ∧ zrg r 2 4
  · obtain ⟨⟨kd, rfl, -, h1⟩, ⟨cl, rfl, h2, h3⟩, ⟨ou, rfl, h4, h5⟩⟩ := hA
    by_cases hc : cnt = 12
    · subst hc
      refine ⟨0, I, pd_uj J 132 (0 : Int32).toNatClampNeg (-1 : Int32).toInt64, Z, n, -1, _, ?_, zm_codeF q4 h1 h2 h3 h4 h5, by rw [z92_0, zn_0], fun _ => by rw [zb_j], zCI_0 h⟩
      unfold fn_L_code
      rw [zk_codeF q3 h1 h2 h3 h4 h5, zb_bc5, hgn, zb_gd, zb_in1, zb_gd]
      rfl
    · have hc12 : cnt < 12 := by omega
      obtain ⟨z1, z2⟩ := zic (I := I) (n := n) (cl := cl) h1 h4 h5
      obtain ⟨I0, hI0⟩ : ∃ I0, I0 = ic_X0_init n (zn kd) (zn cl) (zn ou) (pd_zi I n) := ⟨_, rfl⟩
      have hN := zk_codeN (J := J) (Z := Z) q3 q2 hc12 h1 h2 h3 h4 h5
      rw [← hI0] at z1 z2 hN
      have hx : ∀ b, b ≠ 0 → b < n → pd_ui I0 0 2 (zn (cnt + 1)) b = I b := fun b hb hb2 => by rw [zu_ne hb, z1 b (by omega) (by omega) (by omega)]
      have hx0 : pd_ui I0 0 2 (zn (cnt + 1)) 0 = upd (I 0) 2 (zn (cnt + 1)) := by rw [zu_same, z1 0 (by omega) (by omega) (by omega)]
      obtain ⟨⟨v, I2⟩, eR, rfl, m1, m2, m3, m4, m5, m6, m7, m8⟩ := zm_code (I := pd_ui I0 0 2 (zn (cnt + 1))) (c := cnt) (by rw [hx 92 (by omega) (by omega)]; exact q4) hc12 h1 h2 h3 h4 h5
      simp only [] at m1 m2 m3 m4 m5 m6 m7 m8
      refine ⟨0, _, pd_uj (jc_X0_init n (pd_zj J n)) 132 (0 : Int32).toNatClampNeg (zn cnt).toInt64, pd_ur Z 2 cnt (some n), n + 3, _, I2, ?_, eR, by rw [m3, zn_0], fun _ => by rw [zb_j], ?_⟩
      · unfold fn_L_code
        rw [hN, zb_bc5, hgn3, zb_gd, zb_in1, zb_gd]
        rfl
      · obtain ⟨a1, a2, a3, a4, a5, a6, ⟨⟨na, la, nc, lc, p1⟩, ⟨ow, ft, p2⟩⟩, a8⟩ := h
        have hy : ∀ b, b ≠ 0 → b < 97 ∨ 104 < b → b ≠ 92 → b < n → I2 b = I b := fun b b1 b2 b3 b4 => by rw [m1 b (by simp; omega), hx b b1 b4]
        have hy0 : ∀ j, j ≠ 2 → I2 0 j = I 0 j := fun j hj => by rw [m1 0 (by decide), hx0, zu_nat hj]
        have hy2 : ∀ j, j ≠ 0 → j ≠ 5 → I2 92 j = I 92 j := fun j j1 j2 => by rw [m2 j j1 j2, hx 92 (by omega) (by omega)]
        refine ⟨zCR_F (fun b b1 b2 b3 => hy b (by omega) (by omega) b3 (by omega)) a1, zCT_F (hy 7 (by omega) (by omega) (by omega) (by omega)) (hy 8 (by omega) (by omega) (by omega) (by omega)) (hy 95 (by omega) (by omega) (by omega) (by omega)) (hy 96 (by omega) (by omega) (by omega) (by omega)) a2, ?_, zCW_F (fun b b1 b2 => hy b (by omega) (by omega) (by omega) (by omega)) (by rw [hy 16 (by omega) (by omega) (by omega) (by omega)]) (hy2 14 (by omega) (by omega)) (hy 105 (by omega) (by omega) (by omega) (by omega)) (hy 106 (by omega) (by omega) (by omega) (by omega)) (hy 107 (by omega) (by omega) (by omega) (by omega)) (hy 108 (by omega) (by omega) (by omega) (by omega)) (zur_ne (by omega)) a4, zCS_F (hy0 12 (by omega)) (hy2 19 (by omega) (by omega)) (hy 59 (by omega) (by omega) (by omega) (by omega)) (hy 109 (by omega) (by omega) (by omega) (by omega)) a5, zCA_F (hy0 13 (by omega)) (hy2 21 (by omega) (by omega)) a6, ⟨⟨na, la, nc, lc, ?_⟩, ⟨ow, ft, ?_⟩⟩, zfr_code q2 a8⟩
        · refine ⟨cnt + 1, fun j => if j = cnt then zcd kd cl ou else cd j, by omega, by omega, by rw [m1 0 (by decide), hx0, zu_at], m4, fun j hj => ?_⟩
          by_cases e : j = cnt
          · subst e
            show pd_ur Z 2 j (some n) 2 j = _ ∧ zCv (if j = j then zcd kd cl ou else cd j) ∧ zCo I2 (133 + 3 * j) (if j = j then zcd kd cl ou else cd j) ∧ zCm I2 j (if j = j then zcd kd cl ou else cd j)
            rw [if_pos rfl, zur_at, if_pos rfl, ← q2]
            refine ⟨rfl, zCv_cd h1 h2 h3 h4 h5, ?_, m8⟩
            exact zCo_F (L := [0, 92, 97, 98, 99, 100, 101, 102, 103, 104]) (by decide) (by omega) (fun b hb => by
              simp only [List.mem_cons, List.not_mem_nil, or_false, not_or] at hb
              rw [m1 b (by simp; omega), zu_ne (by omega)]) z2
          · show pd_ur Z 2 cnt (some n) 2 j = _ ∧ zCv (if j = cnt then zcd kd cl ou else cd j) ∧ zCo I2 (133 + 3 * j) (if j = cnt then zcd kd cl ou else cd j) ∧ zCm I2 j (if j = cnt then zcd kd cl ou else cd j)
            rw [if_neg e, zur_at, if_neg e]
            obtain ⟨g1, g2, g3, g4⟩ := q5 j (by omega)
            refine ⟨g1, g2, ?_, ?_⟩
            · unfold zCo
              rw [hy (133 + 3 * j) (by omega) (by omega) (by omega) (by omega), hy (133 + 3 * j + 1) (by omega) (by omega) (by omega) (by omega), hy (133 + 3 * j + 2) (by omega) (by omega) (by omega) (by omega)]
              exact g3
            · have w : ∀ b, b ≠ 0 → b < n → pd_ui I0 0 2 (zn (cnt + 1)) b = I b := hx
              obtain ⟨f0, f1, f2, f3, f4, f5, f6, f7, f8⟩ := g4
              refine ⟨f0, by rw [m5 97 (by omega) (by omega) j e, hx 97 (by omega) (by omega), f1], by rw [m5 98 (by omega) (by omega) j e, hx 98 (by omega) (by omega), f2], by rw [m5 99 (by omega) (by omega) j e, hx 99 (by omega) (by omega), f3], by rw [m5 100 (by omega) (by omega) j e, hx 100 (by omega) (by omega), f4], by rw [m5 101 (by omega) (by omega) j e, hx 101 (by omega) (by omega), f5], by rw [m5 102 (by omega) (by omega) j e, hx 102 (by omega) (by omega), f6], fun o ho => by rw [m6 _ (by omega), hx 103 (by omega) (by omega), f7 o ho], fun i hi => by rw [m7 _ (by omega), hx 104 (by omega) (by omega), f8 i hi]⟩
        · unfold zZs
          rw [zur_ne (by omega)]
          exact p1
        · unfold zZe
          rw [zur_ne (by omega)]
          exact p2
  · refine ⟨1, I, J, Z, n, zn 0, _, ?_, zm_codeE hA, by rw [zu_same, zu_at], fun hh => absurd hh (by decide), zCI_0 (zCI_0 h)⟩
    unfold fn_L_code
    rw [zk_codeE hA, zb_bc5e, if_pos rfl]
