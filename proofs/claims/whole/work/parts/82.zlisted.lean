/-! best, list, few -/
def zdD (cd : Nat → Nat) (w : Nat) : Prop := cd 0 ≠ 5 ∧ (w = 0 → cd 0 ≠ 4)
theorem zdk {cd : Nat → Nat} {w : Nat} (hv : zCv cd) (hw : w ≤ 1) (P : Prop) [Decidable P] (hP : P ↔ zdD cd w) : (if zn (cd 0) = zn 5 then some false else (if zn w = zn 0 then (if zn (cd 0) = zn 4 then some false else (some true)) else (some true))) = some (decide P) := by
  have v0 := hv.1
  rw [zi_eq (by omega) (by omega), zi_eq (by omega) (by omega), zi_eq (by omega) (by omega)]
  unfold zdD at hP
  by_cases a : cd 0 = 5
  · rw [if_pos a, decide_eq_false (fun p => (hP.mp p).1 a)]
  · rw [if_neg a]
    by_cases b : w = 0
    · rw [if_pos b]
      by_cases c : cd 0 = 4
      · rw [if_pos c, decide_eq_false (fun p => (hP.mp p).2 b c)]
      · rw [if_neg c, decide_eq_true (hP.mpr ⟨a, fun _ => c⟩)]
    · rw [if_neg b, decide_eq_true (hP.mpr ⟨a, fun h => absurd h b⟩)]
theorem zm_decP {I : pd_I} {k cnt r w : Nat} {cd : Nat → Nat} {q : Int32} (h : zCm I k cd) (hv : zCv cd) (hc : I 92 5 = zn cnt) (hc12 : cnt ≤ 12) (hk : k < cnt) (hr : r < 16) (hw : w ≤ 1) (hD : zdD cd w) : fn_X12_isDecoding I (zn k) (zn r) q (zn w) = pd_bd2 (pd_bd2 (fn_X12_isN (pd_ui I 92 0 (zn 0)) q 3) fun zr4 zI6 => if zr4 = zn 0 then some (zn 0, zI6) else (some (1, zI6))) fun (zx2 : Int32) (zI5 : pd_I) => pd_gd (pd_bo zx2) (some (zx2, zI5)) := by
  have h1 : zCm (pd_ui I 92 0 (zn 0)) k cd := zCm_F (L := [92]) (by decide) (zF_u (by decide) zF_rfl) h
  unfold fn_X12_isDecoding
  rw [zr_code1 hc hc12 ⟨k, rfl, hk⟩, zb_bd2, zb_jn, zn_0, if_neg zn_p0, zr_row1 z92_0 ⟨r, rfl, hr⟩, zb_bd2, if_neg zn_p0, zn_in2 (show k < 12 by omega) (by omega), zb_gd, zb_gd, zn_nat (show k < 2147483648 by omega), h1.2.1, zn_4, zn_5, zdk hv hw True ⟨fun _ => hD, fun _ => trivial⟩, zb_bd, if_pos (by decide), zb_bd, zr_ok1 z92_0, zb_bd2, if_neg zn_p0]
theorem zm_dec {I : pd_I} {k cnt r w nn : Nat} {cd : Nat → Nat} (h : zCm I k cd) (hv : zCv cd) (hc : I 92 5 = zn cnt) (hc12 : cnt ≤ 12) (hk : k < cnt) (hr : r < 16) (hw : w ≤ 1) (hD : zdD cd w) (hn : zrg (zn nn) 1 200) : fn_X12_isDecoding I (zn k) (zn r) (zn nn) (zn w) = some (zn 1, pd_ui I 92 0 (zn 0)) := by
  rw [zm_decP h hv hc hc12 hk hr hw hD, zr_n1 z92_0 hn, zb_bd2, if_neg zn_p0, zb_bd2, zn_1, zn_bo1, zb_gd]
theorem zm_dec3 {I : pd_I} {k cnt r w : Nat} {cd : Nat → Nat} {q : Int32} (h : zCm I k cd) (hv : zCv cd) (hc : I 92 5 = zn cnt) (hc12 : cnt ≤ 12) (hk : k < cnt) (hr : r < 16) (hw : w ≤ 1) (hD : zdD cd w) (hn : ¬ zrg q 1 200) : fn_X12_isDecoding I (zn k) (zn r) q (zn w) = some (zn 0, pd_ui (pd_ui I 92 0 (zn 0)) 92 0 3) := by
  rw [zm_decP h hv hc hc12 hk hr hw hD, zr_nL z92_0 (by decide) hn, zb_bd2, if_pos rfl, zb_bd2, zn_bo0, zb_gd]
theorem zm_dec2 {I : pd_I} {k cnt r w : Nat} {cd : Nat → Nat} {q : Int32} (h : zCm I k cd) (hv : zCv cd) (hc : I 92 5 = zn cnt) (hc12 : cnt ≤ 12) (hk : k < cnt) (hr : r < 16) (hw : w ≤ 1) (hD : ¬ zdD cd w) : fn_X12_isDecoding I (zn k) (zn r) q (zn w) = some (zn 0, pd_ui (pd_ui I 92 0 (zn 0)) 92 0 2) := by
  have h1 : zCm (pd_ui I 92 0 (zn 0)) k cd := zCm_F (L := [92]) (by decide) (zF_u (by decide) zF_rfl) h
  unfold fn_X12_isDecoding
  rw [zr_code1 hc hc12 ⟨k, rfl, hk⟩, zb_bd2, zb_jn, zn_0, if_neg zn_p0, zr_row1 z92_0 ⟨r, rfl, hr⟩, zb_bd2, if_neg zn_p0, zn_in2 (show k < 12 by omega) (by omega), zb_gd, zb_gd, zn_nat (show k < 2147483648 by omega), h1.2.1, zn_4, zn_5, zdk hv hw False ⟨fun x => x.elim, hD⟩, zb_bd, if_neg (by decide), zb_bd, zr_noL z92_0 (by decide), zb_bd2, if_pos rfl, zb_bd2, zn_bo0, zb_gd]
theorem zm_dec1 {I : pd_I} {cnt : Nat} {p r q w : Int32} (hc : I 92 5 = zn cnt) (hc12 : cnt ≤ 12) (hp : ¬ zin p cnt) : fn_X12_isDecoding I p r q w = some (zn 0, pd_ui (pd_ui I 92 0 (zn 0)) 92 0 1) := by
  unfold fn_X12_isDecoding
  rw [zr_codeL hc hc12 hp, zb_bd2, zb_jn, zn_0, if_pos rfl]
theorem zm_dec1r {I : pd_I} {k cnt : Nat} {r q w : Int32} (hc : I 92 5 = zn cnt) (hc12 : cnt ≤ 12) (hk : k < cnt) (hr : ¬ zin r 16) : fn_X12_isDecoding I (zn k) r q w = some (zn 0, pd_ui (pd_ui I 92 0 (zn 0)) 92 0 1) := by
  unfold fn_X12_isDecoding
  rw [zr_code1 hc hc12 ⟨k, rfl, hk⟩, zb_bd2, zb_jn, zn_0, if_neg zn_p0, zr_rowL z92_0 (by decide) hr, zb_bd2, if_pos rfl]
theorem zk_one1 {I : pd_I} {a : Nat} {cd : Nat → Nat} (h : zCo I a cd) (hv : zCv cd) (h5 : cd 0 ≠ 5) : fn_X11_demandOneWay I a = some (.ok ()) := by
  have := hv.1
  unfold fn_X11_demandOneWay
  rw [h.1, zn_5, zi_eq (by omega) (by omega), if_neg h5]
theorem zk_one0 {I : pd_I} {a : Nat} {cd : Nat → Nat} (h : zCo I a cd) (hv : zCv cd) (h5 : ¬ cd 0 ≠ 5) : fn_X11_demandOneWay I a = some (.error "java/util/NoSuchElementException") := by
  have := hv.1
  unfold fn_X11_demandOneWay
  rw [h.1, zn_5, zi_eq (by omega) (by omega), if_pos (by omega)]
def zLw : List Nat := [9, 10, 11, 12, 13, 14, 15, 16, 18, 19, 20, 21, 22, 23, 24, 25, 26, 27, 28, 29, 30, 31, 32, 33, 34, 35, 37, 38, 39, 40, 41, 42]
def zLx : List Nat := [92, 105, 106, 107, 108, 110, 111, 112, 113, 114, 124, 125, 126, 127, 128]
theorem zCI_ways {I I1 I2 : pd_I} {Z Z' : pd_R} {n m : Nat} {W : Nat → Nat × (Nat → Nat) × Nat} {nn : Nat → Nat} (K : zCI I Z n) (h1 : zF zLw I I1) (h2 : zF zLx I1 I2) (h92 : ∀ j, j ≠ 0 → j ≠ 14 → I2 92 j = I 92 j) (hP : ∃ na la nc lc, zZs Z' na la nc lc) (hZ : ∀ b, b ≠ 36 → b ≠ 17 → Z' b = Z b) (hW : zZw Z') (hm : m ≤ 8) (e1 : I1 16 1 = zn m) (e2 : I2 92 14 = zn m) (hj : ∀ j, j < m → nn j ≤ 200 ∧ zWb (W j) ∧ (∃ w, Z' 17 j = some w ∧ zWr I1 w (W j) (nn j)) ∧ zWm I2 j (W j) (nn j)) : zCI I2 Z' n := by
  obtain ⟨a1, a2, a3, a4, a5, a6, ⟨⟨na, la, nc, lc, p1⟩, ⟨ow, ft, p2⟩⟩, a8⟩ := K
  have h133 : 133 ≤ n := by obtain ⟨cnt, cd, q1, q2, -⟩ := a3; omega
  have hF : zF (zLw ++ zLx) I I2 := zF_tr (zF_sub h1 (by decide)) (zF_sub h2 (by decide))
  have e : ∀ b, b ∉ zLw → b ∉ zLx → I2 b = I b := fun b b1 b2 => by rw [h2 b b2, h1 b b1]
  have hP' : zCP Z' := ⟨hP, ow, ft, by unfold zZe; rw [hZ 43 (by decide) (by decide)]; exact p2⟩
  refine ⟨zCR_F (fun b b1 b2 b3 => e b (by simp [zLw]; omega) (by simp [zLx]; omega)) a1, zCT_F (e 7 (by decide) (by decide)) (e 8 (by decide) (by decide)) (e 95 (by decide) (by decide)) (e 96 (by decide) (by decide)) a2, zCC_F (L := zLw ++ zLx) (by decide) (by decide) hF (by rw [e 0 (by decide) (by decide)]) (h92 5 (by decide) (by decide)) (hZ 2 (by decide) (by decide)) a3, ⟨hW, m, W, nn, hm, by rw [h2 16 (by decide), e1], e2, fun j hj' => ?_⟩, zCS_F (by rw [e 0 (by decide) (by decide)]) (h92 19 (by decide) (by decide)) (e 59 (by decide) (by decide)) (e 109 (by decide) (by decide)) a5, zCA_F (by rw [e 0 (by decide) (by decide)]) (h92 21 (by decide) (by decide)) a6, hP', zfr_Z h133 a8 hP' hW (hZ 2 (by decide) (by decide))⟩
  obtain ⟨r1, r2, ⟨w, r3, r4⟩, r5⟩ := hj j hj'
  have hww : pd_isWay w = true := by obtain ⟨w', e, q⟩ := hW.1 j (by omega); rw [r3] at e; cases e; exact q
  obtain ⟨w1, w2, w3⟩ := zw_way hww
  refine ⟨r1, r2, ⟨w, r3, ?_⟩, r5⟩
  unfold zWr
  rw [h2 w (by simp [zLx]; omega), h2 (w + 1) (by simp [zLx]; omega)]
  exact r4
/-- what the class finds, behind its demands -/
theorem zk_find {I : pd_I} {Z : pd_R} {n k r m nn mo : Nat} {cd f : Nat → Nat} {T : Nat → Nat → Nat} (K : zCI I Z n) (hn : 133 ≤ n) (h : zCo I (133 + 3 * k) cd) (hv : zCv cd) (hr : zRow I (60 + 2 * r) m f) (hT : zTab I T) (hn1 : 1 ≤ nn) (hn2 : nn ≤ 200) (hk : 1 ≤ mo) (hk8 : mo ≤ 8) : ∃ I0 I1 Z1, fn_X11_prepare I (133 + 3 * k) (60 + 2 * r) (zn nn) = some I0 ∧ fn_X5_findLeast I0 Z n (133 + 3 * k) (zn nn) (zn mo) = some (I1, Z1) ∧ zF zLw I I1 ∧ (∃ na la nc lc, zZs Z1 na la nc lc) ∧ (∀ b, b ≠ 36 → b ≠ 17 → Z1 b = Z b) ∧ zCl I1 Z1 nn mo (zfl cd (zPp cd (zmc m f T)) mo nn (zBg cd)).1 (zfl cd (zPp cd (zmc m f T)) mo nn (zBg cd)).2 := by
  obtain ⟨⟨na, la, nc, lc, p1⟩, -⟩ := K.2.2.2.2.2.2.1
  have hZw := K.2.2.2.1.1
  obtain ⟨I0, e0, f0, l0⟩ := zq_prepare (n := nn) (show 133 ≤ 133 + 3 * k by omega) (show 60 ≤ 60 + 2 * r by omega) h hv hr hT hn2
  have hst := zst_le (n := nn) hv
  obtain ⟨⟨I1, Z1⟩, e1, g1, g2, g3, g4⟩ := zq_find (k := mo) (P := zPp cd (zmc m f T)) hn (show 133 ≤ 133 + 3 * k by omega) (zCo_F (L := [9, 10, 11, 12, 13, 15]) (by decide) (by omega) f0 h) p1 hZw hv l0 (by omega) (Nat.le_refl _) hn1 hn2 hk hk8 (fun t e => zPp_le hv (zmc_b hr hT) t e)
  exact ⟨I0, I1, Z1, e0, e1, zF_tr (zF_sub f0 (by decide)) (zF_sub g3 (by decide)), g1, g2, g4⟩
theorem zm_find {I I1 : pd_I} {k r m nn mo : Nat} {cd f : Nat → Nat} {T : Nat → Nat → Nat} (hF : zF zLw I I1) (h : zCm I k cd) (hv : zCv cd) (hr : zRom I r m f) (hr2 : zRow I (60 + 2 * r) m f) (hT2 : zTab I T) (hT : zTam I T) (hn1 : 1 ≤ nn) (hn2 : nn ≤ 200) (hk : 1 ≤ mo) (hk8 : mo ≤ 8) : ∃ I2, fn_X12_lists (pd_ui I1 92 0 (zn 0)) (zn k) (zn r) (zn nn) (zn mo) = some I2 ∧ zF zLx I1 I2 ∧ (∀ j, j ≠ 0 → j ≠ 14 → I2 92 j = I1 92 j) ∧ I2 92 0 = zn 0 ∧ zMl I2 nn mo (zfl cd (zPp cd (zmc m f T)) mo nn (zBg cd)).1 (zfl cd (zPp cd (zmc m f T)) mo nn (zBg cd)).2 := by
  have hF1 : zF (zLw ++ [92]) I (pd_ui I1 92 0 (zn 0)) := zF_u (by decide) (zF_sub hF (by decide))
  obtain ⟨I2, e2, g1, g2, g3⟩ := zq_lists (c := k) (r := r) (nn := nn) (k := mo) (zCm_F (by decide) hF1 h) hv (zRom_F (by decide) (by decide) hF1 hr) (zTam_F (by decide) (by decide) hF1 hT) hn1 hn2 hk hk8 (fun t e => zPp_le hv (zmc_b hr2 hT2) t e)
  refine ⟨I2, e2, fun b hb => ?_, fun j j1 j2 => by rw [g2 j j2, z92_j j1], by rw [g2 0 (by decide), z92_0], g3⟩
  rw [g1 b (fun hh => hb ((by decide : ∀ x ∈ zLM, x ∈ zLx) b hh)), z92_b (fun hh => hb (by rw [hh]; decide))]
