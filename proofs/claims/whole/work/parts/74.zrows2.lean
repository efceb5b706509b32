/-! put, at, tear -/
theorem zin_tz {p : Int32} {N : Nat} (hN : N < 2147483648) (h : zin p N) : (if p < zn 0 then some false else (if zn N ≤ p then some false else (some true))) = some true := zin_t hN h
theorem zin_fz {p : Int32} {N : Nat} (hN : N < 2147483648) (h : ¬ zin p N) : (if p < zn 0 then some false else (if zn N ≤ p then some false else (some true))) = some false := zin_f hN h
theorem zr_there0 {I : pd_I} {Z : pd_R} {n r : Nat} (hr : r < 16) (hm : I (60 + 2 * r) 1 = -1) : fn_X11_rowThere I Z n (zn r) = some (.error "java/util/NoSuchElementException") := by
  unfold fn_X11_rowThere
  rw [zr_rowOf1 hr, zb_bx, za_row r hr, zb_gd, zr_missing, zb_bd, if_pos hm, zn_0, if_neg zn_p0]
theorem zr_there1 {I : pd_I} {Z : pd_R} {n r : Nat} (hr : r < 16) (hm : ¬ I (60 + 2 * r) 1 = -1) : fn_X11_rowThere I Z n (zn r) = some (.ok (60 + 2 * r)) := by
  unfold fn_X11_rowThere
  rw [zr_rowOf1 hr, zb_bx, za_row r hr, zb_gd, zr_missing, zb_bd, if_neg hm, zn_0, if_pos rfl]
theorem zr_thereX {I : pd_I} {Z : pd_R} {n : Nat} {p : Int32} (hp : ¬ zin p 16) : fn_X11_rowThere I Z n p = some (.error "java/lang/IndexOutOfBoundsException") := by
  unfold fn_X11_rowThere
  rw [zr_rowOf0 hp, zb_bxe]
theorem zr_has1 {I : pd_I} {b m : Nat} {p : Int32} (e : I b 1 = zn m) (hm : m ≤ 600) (hp : zin p m) : fn_X4_has I b p = some (zn 1) := by
  unfold fn_X4_has
  rw [e, zin_t (by omega) hp, zb_bd, if_pos rfl, zb_bd, zn_1, zn_bo1, zb_gd]
theorem zr_has0 {I : pd_I} {b m : Nat} {p : Int32} (e : I b 1 = zn m) (hm : m ≤ 600) (hp : ¬ zin p m) : fn_X4_has I b p = some (zn 0) := by
  unfold fn_X4_has
  rw [e, zin_f (by omega) hp, zb_bd, if_neg (by decide), zb_bd, zn_0, zn_bo0, zb_gd]
theorem zr_with1 {I : pd_I} {Z : pd_R} {n r m : Nat} {i : Int32} (hr : r < 16) (e : I (60 + 2 * r) 1 = zn m) (hm : m ≤ 600) (hi : zin i m) : fn_X11_rowWithNumber I Z n (zn r) i = some (.ok (60 + 2 * r)) := by
  unfold fn_X11_rowWithNumber
  rw [zr_there1 hr (by rw [e]; exact zn_m1e (by omega)), zb_bx, za_row r hr, zb_gd, zr_has1 e hm hi, zb_bd, zn_0, if_neg zn_p0]
theorem zr_with0 {I : pd_I} {Z : pd_R} {n r m : Nat} {i : Int32} (hr : r < 16) (e : I (60 + 2 * r) 1 = zn m) (hm : m ≤ 600) (hi : ¬ zin i m) : fn_X11_rowWithNumber I Z n (zn r) i = some (.error "java/lang/IndexOutOfBoundsException") := by
  unfold fn_X11_rowWithNumber
  rw [zr_there1 hr (by rw [e]; exact zn_m1e (by omega)), zb_bx, za_row r hr, zb_gd, zr_has0 e hm hi, zb_bd, zn_0, if_pos rfl]
theorem zr_withM {I : pd_I} {Z : pd_R} {n r : Nat} {i : Int32} (hr : r < 16) (hm : I (60 + 2 * r) 1 = -1) : fn_X11_rowWithNumber I Z n (zn r) i = some (.error "java/util/NoSuchElementException") := by
  unfold fn_X11_rowWithNumber
  rw [zr_there0 hr hm, zb_bxe]
theorem zr_withX {I : pd_I} {Z : pd_R} {n : Nat} {p i : Int32} (hp : ¬ zin p 16) : fn_X11_rowWithNumber I Z n p i = some (.error "java/lang/IndexOutOfBoundsException") := by
  unfold fn_X11_rowWithNumber
  rw [zr_thereX hp, zb_bxe]
def zmk (v : Int32) : Prop := ∃ u, u < 64 ∧ v + 32 = zn u
theorem zmk_all : ∀ u < 64, ¬ (zn u - 32 < -32) ∧ (zn u - 32 ≤ 31) ∧ ¬ (31 < zn u - 32) ∧ (zn u - 32).toInt16.toInt32.toInt16.toInt32 = zn u - 32 := by decide +kernel
theorem zmk_v {v : Int32} {u : Nat} (h : v + 32 = zn u) : v = zn u - 32 := by rw [← h, Int32.add_sub_cancel]
theorem zmk_t {v : Int32} (h : zmk v) : (if v < (-32) then some false else (if v ≤ 31 then some true else (some false))) = some true ∧ (if v < (-32) then some false else (if 31 < v then some false else (some true))) = some true ∧ v.toInt16.toInt32.toInt16.toInt32 = v := by
  obtain ⟨u, hu, e⟩ := h
  rw [zmk_v e]
  obtain ⟨q1, q2, q3, q4⟩ := zmk_all u hu
  rw [if_neg q1, if_pos q2, if_neg q1, if_neg q3]
  exact ⟨rfl, rfl, q4⟩
theorem zmk_of {v : Int32} (c : ¬ v < -32) (d : v ≤ 31) : zmk v := by
  have h1 : -32 ≤ v.toInt := by
    have := Int32.le_iff_toInt_le.mp (Int32.not_lt.mp c)
    rwa [show (-32 : Int32).toInt = -32 by decide] at this
  have h2 : v.toInt ≤ 31 := by
    have := Int32.le_iff_toInt_le.mp d
    rwa [show (31 : Int32).toInt = 31 by decide] at this
  refine ⟨(v.toInt + 32).toNat, by omega, Int32.toInt_inj.mp ?_⟩
  rw [zn_int (by omega), Int32.toInt_add, show (32 : Int32).toInt = 32 by decide, Int.bmod_eq_of_le (by omega) (by omega)]
  omega
theorem zmk_f {v : Int32} (h : ¬ zmk v) : (if v < (-32) then some false else (if v ≤ 31 then some true else (some false))) = some false ∧ (if v < (-32) then some false else (if 31 < v then some false else (some true))) = some false := by
  by_cases c : v < -32
  · rw [if_pos c, if_pos c]; exact ⟨rfl, rfl⟩
  · rw [if_neg c, if_neg c]
    by_cases d : v ≤ 31
    · exact absurd (zmk_of c d) h
    · rw [if_neg d, if_pos (Int32.not_le.mp d)]; exact ⟨rfl, rfl⟩
theorem zk_mark1 {v : Int32} (h : zmk v) : fn_X12_isMark v = some (zn 1) := by
  unfold fn_X12_isMark
  rw [(zmk_t h).2.1, zb_bd, if_pos rfl, zb_bd, zn_1, zn_bo1, zb_gd]
theorem zk_mark0 {v : Int32} (h : ¬ zmk v) : fn_X12_isMark v = some (zn 0) := by
  unfold fn_X12_isMark
  rw [(zmk_f h).2, zb_bd, if_neg (by decide), zb_bd, zn_0, zn_bo0, zb_gd]
theorem zr_change {I : pd_I} {b m i : Nat} {v : Int32} (e : I b 1 = zn m) (hm : m ≤ 600) (hi : i < m) (hv : zmk v) : fn_X4_change I b (zn i) v = some (pd_ui I (b + 1) i v) := by
  unfold fn_X4_change
  rw [zr_has1 e hm ⟨i, rfl, hi⟩, zb_bd, zn_0, if_neg zn_p0, zn_in2 (show i < 600 by omega) (by omega), zb_gd, zn_nat (by omega), zb_let, zb_bd, (zmk_t hv).2.2]
/-- the size of a row, once it isn't missing -/
theorem zr_size {I : pd_I} {b m : Nat} {f : Nat → Nat} (h : zRow I b m f) (hm : ¬ I b 1 = -1) : I b 1 = zn m := by
  rcases h.1 with e | ⟨e, -⟩
  · exact e
  · exact absurd e hm
theorem zr_row93 {I : pd_I} {r m : Nat} {f : Nat → Nat} (h : I (60 + 2 * r) 1 = I 93 r) (q : I (60 + 2 * r) 1 = zn m) : pd_ui I 92 0 (zn 0) 93 r = zn m := by rw [z92_b (by decide), ← h, q]
theorem zo_put {I : pd_I} {J : pd_J} {Z : pd_R} {n : Nat} {p q v : Int32} (h : zCI I Z n) : zO3 (fn_L_put I J Z n p q v) (fun I1 => fn_X12_put I1 p q v) Z n := by
  by_cases hv : zmk v
  · by_cases hp : zin p 16
    · obtain ⟨r, rfl, hr⟩ := hp
      obtain ⟨m, f, b1, b2, b3⟩ := zr_rowI h.1 hr
      by_cases hm : I (60 + 2 * r) 1 = -1
      · have hm2 : pd_ui I 92 0 (zn 0) 93 r = -1 := by rw [z92_b (by decide), ← b1, hm]
        refine zO3_er (J := J) (e := 3) h (by decide) ?_ ?_
        · unfold fn_L_put fn_X11_put
          rw [(zmk_t hv).1, zb_bd, if_pos rfl, zr_withM hr hm, zb_bxe, zb_bc2e, if_neg (by decide), if_neg (by decide), if_pos rfl]
        · show fn_X12_put I (zn r) q v = _
          unfold fn_X12_put
          rw [zn_0, zb_let, zk_mark1 hv, zb_bd, zr_ok z92_0, zb_bd2, zb_jn, if_neg zn_p0, zr_row1 z92_0 ⟨r, rfl, hr⟩, zb_bd2, if_neg zn_p0, zn_in2 hr (by omega), zb_gd, zn_nat (by omega), zm1n, if_pos hm2, zb_bd, zr_noL z92_0 (by decide), zb_bd2, if_pos rfl]
      · have hs := zr_size b2 hm
        have hm6 := b2.2.1
        have hs2 : pd_ui I 92 0 (zn 0) 93 r = zn m := by rw [z92_b (by decide), ← b1, hs]
        have hm2 : ¬ pd_ui I 92 0 (zn 0) 93 r = -1 := by rw [hs2]; exact zn_m1e (by omega)
        by_cases hq : zin q m
        · obtain ⟨i, rfl, hi⟩ := hq
          obtain ⟨u, hu, eu⟩ := id hv
          have d1 := (b2.2.2 i hi).1
          have d2 := (b3.2.2.2 i hi).1
          have d3 : I (60 + 2 * r + 1) i = I 94 (600 * r + i) := by rw [zmk_v d1, zmk_v d2]
          refine ⟨0, pd_ui I (60 + 2 * r + 1) i v, pd_uj J 132 (0 : Int32).toNatClampNeg (I (60 + 2 * r + 1) i).toInt64, I 94 (600 * r + i), pd_ui (pd_ui (pd_ui I (60 + 2 * r + 1) i v) 92 0 (zn 0)) 94 (600 * r + i) v, ?_, ?_, ?_, fun _ => ?_, ?_⟩
          · unfold fn_L_put fn_X11_put
            rw [(zmk_t hv).1, zb_bd, if_pos rfl, zr_with1 hr hs hm6 ⟨i, rfl, hi⟩, zb_bx, za_row r hr, zb_gd, zr_numberAt b2 (by omega), zb_bd, if_pos hi, zr_change hs hm6 hi hv, zb_bd, zb_bc2, zb_in1, zb_gd]
            rfl
          · show fn_X12_put (pd_ui I (60 + 2 * r + 1) i v) (zn r) (zn i) v = _
            have hs3 : pd_ui (pd_ui I (60 + 2 * r + 1) i v) 92 0 (zn 0) 93 r = zn m := by rw [z92_b (by decide), zu_ne (by omega), ← b1, hs]
            have hm3 : ¬ pd_ui (pd_ui I (60 + 2 * r + 1) i v) 92 0 (zn 0) 93 r = -1 := by rw [hs3]; exact zn_m1e (by omega)
            unfold fn_X12_put
            rw [zn_0, zb_let, zk_mark1 hv, zb_bd, zr_ok z92_0, zb_bd2, zb_jn, if_neg zn_p0, zr_row1 z92_0 ⟨r, rfl, hr⟩, zb_bd2, if_neg zn_p0, zn_in2 hr (by omega), zb_gd, zn_nat (by omega), zm1n, if_neg hm3, zb_bd, zr_ok z92_0, zb_bd2, if_neg zn_p0, zb_gd, hs3, zin_tz (by omega) ⟨i, rfl, hi⟩, zb_bd, if_pos rfl, zb_bd, zr_ok1 z92_0, zb_bd2, if_neg zn_p0, zn_600, zn_mul, zn_add, zn_in2 (show 600 * r + i < 9600 by omega) (by omega), zb_gd, zb_let, zb_gd, zb_let, zn_nat (by omega), z92_b (by decide), zu_ne (by omega)]
          · rw [zu_ne (by decide), z92_0, zn_0]
          · rw [zb_j, d3]
          · refine zCI_row (m0 := m) (f0 := fun j => if j = i then u else f j) h hr ?_ ?_ ?_ ?_ ?_ ?_ ?_
            · exact zF_u (by simp) (zF_u (by simp) (zF_u (by simp) zF_rfl))
            · intro j hj; rw [zu_ne (by decide), z92_j hj, zu_ne (by omega)]
            · intro j hj; rw [zu_ne (by decide), z92_b (by decide), zu_ne (by omega)]
            · intro j hj; rw [zu_same, zu_nat (by omega), z92_b (by decide), zu_ne (by omega)]
            · rw [zu_ne (by omega), z92_b (by omega), zu_ne (by omega), zu_ne (by decide), z92_b (by decide), zu_ne (by omega), b1]
            · refine ⟨Or.inl (by rw [zu_ne (by omega), z92_b (by omega), zu_ne (by omega), hs]), hm6, fun j hj => ?_⟩
              rw [zu_ne (by omega), z92_b (by omega), zu_same, zu_app]
              by_cases c : j = i
              · rw [if_pos c]; show v + 32 = zn (if j = i then u else f j) ∧ (if j = i then u else f j) < 64; rw [if_pos c]; exact ⟨eu, hu⟩
              · rw [if_neg c]; show I (60 + 2 * r + 1) j + 32 = zn (if j = i then u else f j) ∧ (if j = i then u else f j) < 64; rw [if_neg c]; exact b2.2.2 j hj
            · refine ⟨hr, Or.inl (by rw [zu_ne (by decide), z92_b (by decide), zu_ne (by omega), ← b1, hs]), hm6, fun j hj => ?_⟩
              rw [zu_same, zu_app, z92_b (by decide), zu_ne (by omega)]
              by_cases c : j = i
              · rw [if_pos (by rw [c])]; show v + 32 = zn (if j = i then u else f j) ∧ (if j = i then u else f j) < 64; rw [if_pos c]; exact ⟨eu, hu⟩
              · rw [if_neg (by omega)]; show I 94 (600 * r + j) + 32 = zn (if j = i then u else f j) ∧ (if j = i then u else f j) < 64; rw [if_neg c]; exact b3.2.2.2 j hj
        · refine zO3_er (J := J) (e := 2) h (by decide) ?_ ?_
          · unfold fn_L_put fn_X11_put
            rw [(zmk_t hv).1, zb_bd, if_pos rfl, zr_with0 hr hs hm6 hq, zb_bxe, zb_bc2e, if_neg (by decide), if_pos rfl]
          · show fn_X12_put I (zn r) q v = _
            unfold fn_X12_put
            rw [zn_0, zb_let, zk_mark1 hv, zb_bd, zr_ok z92_0, zb_bd2, zb_jn, if_neg zn_p0, zr_row1 z92_0 ⟨r, rfl, hr⟩, zb_bd2, if_neg zn_p0, zn_in2 hr (by omega), zb_gd, zn_nat (by omega), zm1n, if_neg hm2, zb_bd, zr_ok z92_0, zb_bd2, if_neg zn_p0, zb_gd, hs2, zin_fz (by omega) hq, zb_bd, if_neg (by decide), zb_bd, zr_noL z92_0 (by decide), zb_bd2, if_pos rfl]
    · refine zO3_er (J := J) (e := 2) h (by decide) ?_ ?_
      · unfold fn_L_put fn_X11_put
        rw [(zmk_t hv).1, zb_bd, if_pos rfl, zr_withX hp, zb_bxe, zb_bc2e, if_neg (by decide), if_pos rfl]
      · show fn_X12_put I p q v = _
        unfold fn_X12_put
        rw [zn_0, zb_let, zk_mark1 hv, zb_bd, zr_ok z92_0, zb_bd2, zb_jn, if_neg zn_p0, zr_rowL z92_0 (by decide) hp, zb_bd2, if_pos rfl]
  · refine zO3_er (J := J) (e := 1) h (by decide) ?_ ?_
    · unfold fn_L_put fn_X11_put
      rw [(zmk_f hv).1, zb_bd, if_neg (by decide), zb_bc2e, if_pos rfl]
    · show fn_X12_put I p q v = _
      unfold fn_X12_put
      rw [zn_0, zb_let, zk_mark0 hv, zb_bd, zr_noL z92_0 (by decide), zb_bd2, zb_jn, if_pos rfl]
theorem zo_at {I : pd_I} {J : pd_J} {Z : pd_R} {n : Nat} {p q : Int32} (h : zCI I Z n) : zOi (fn_L_at I J Z n p q) (fn_X12_at I p q) Z n := by
  by_cases hp : zin p 16
  · obtain ⟨r, rfl, hr⟩ := hp
    obtain ⟨m, f, b1, b2, b3⟩ := zr_rowI h.1 hr
    by_cases hm : I (60 + 2 * r) 1 = -1
    · have hm2 : pd_ui I 92 0 (zn 0) 93 r = -1 := by rw [z92_b (by decide), ← b1, hm]
      refine zOi_er (J := J) (e := 2) h (by decide) ?_ ?_
      · unfold fn_L_at fn_X11_at
        rw [zr_withM hr hm, zb_bxe, zb_bce, if_neg (by decide), if_pos rfl]
      · unfold fn_X12_at
        rw [zn_0, zb_let, zr_row1 z92_0 ⟨r, rfl, hr⟩, zb_bd2, zb_jn, if_neg zn_p0, zn_in2 hr (by omega), zb_gd, zn_nat (by omega), zm1n, if_pos hm2, zb_bd, zr_noL z92_0 (by decide), zb_bd2, if_pos rfl]
    · have hs := zr_size b2 hm
      have hm6 := b2.2.1
      have hs2 : pd_ui I 92 0 (zn 0) 93 r = zn m := by rw [z92_b (by decide), ← b1, hs]
      have hm2 : ¬ pd_ui I 92 0 (zn 0) 93 r = -1 := by rw [hs2]; exact zn_m1e (by omega)
      by_cases hq : zin q m
      · obtain ⟨i, rfl, hi⟩ := hq
        have d1 := (b2.2.2 i hi).1
        have d2 := (b3.2.2.2 i hi).1
        have d3 : I (60 + 2 * r + 1) i = I 94 (600 * r + i) := by rw [zmk_v d1, zmk_v d2]
        refine ⟨0, pd_uj J 132 (0 : Int32).toNatClampNeg (I (60 + 2 * r + 1) i).toInt64, I 94 (600 * r + i), pd_ui I 92 0 (zn 0), ?_, ?_, by rw [z92_0, zn_0], fun _ => by rw [zb_j, d3], zCI_0 h⟩
        · unfold fn_L_at fn_X11_at
          rw [zr_with1 hr hs hm6 ⟨i, rfl, hi⟩, zb_bx, za_row r hr, zb_gd, zr_numberAt b2 (by omega), zb_bd, if_pos hi, zb_bc, zb_in1, zb_gd]
          rfl
        · unfold fn_X12_at
          rw [zn_0, zb_let, zr_row1 z92_0 ⟨r, rfl, hr⟩, zb_bd2, zb_jn, if_neg zn_p0, zn_in2 hr (by omega), zb_gd, zn_nat (by omega), zm1n, if_neg hm2, zb_bd, zr_ok z92_0, zb_bd2, if_neg zn_p0, zb_gd, hs2, zin_tz (by omega) ⟨i, rfl, hi⟩, zb_bd, if_pos rfl, zb_bd, zr_ok1 z92_0, zb_bd2, if_neg zn_p0, zn_600, zn_mul, zn_add, zn_in2 (show 600 * r + i < 9600 by omega) (by omega), zb_gd, zn_nat (by omega), z92_b (by decide)]
      · refine zOi_er (J := J) (e := 1) h (by decide) ?_ ?_
        · unfold fn_L_at fn_X11_at
          rw [zr_with0 hr hs hm6 hq, zb_bxe, zb_bce, if_pos rfl]
        · unfold fn_X12_at
          rw [zn_0, zb_let, zr_row1 z92_0 ⟨r, rfl, hr⟩, zb_bd2, zb_jn, if_neg zn_p0, zn_in2 hr (by omega), zb_gd, zn_nat (by omega), zm1n, if_neg hm2, zb_bd, zr_ok z92_0, zb_bd2, if_neg zn_p0, zb_gd, hs2, zin_fz (by omega) hq, zb_bd, if_neg (by decide), zb_bd, zr_noL z92_0 (by decide), zb_bd2, if_pos rfl]
  · refine zOi_er (J := J) (e := 1) h (by decide) ?_ ?_
    · unfold fn_L_at fn_X11_at
      rw [zr_withX hp, zb_bxe, zb_bce, if_pos rfl]
    · unfold fn_X12_at
      rw [zn_0, zb_let, zr_rowL z92_0 (by decide) hp, zb_bd2, zb_jn, if_pos rfl]
def ztr (x q : Int32) : Int32 := if 0 ≤ q then (if x ≤ q then x else q) else -1
theorem ztr_ok {m : Nat} {q : Int32} (hm : m ≤ 600) : ∃ k, k ≤ m ∧ (ztr (zn m) q = zn k ∨ ztr (zn m) q = -1 ∧ k = 0) := by
  unfold ztr
  by_cases c : 0 ≤ q
  · obtain ⟨i, rfl, hi⟩ := zn_of c
    rw [if_pos c, zi_le (by omega) hi]
    by_cases d : m ≤ i
    · rw [if_pos d]; exact ⟨m, Nat.le_refl _, Or.inl rfl⟩
    · rw [if_neg d]; exact ⟨i, by omega, Or.inl rfl⟩
  · rw [if_neg c]; exact ⟨0, by omega, Or.inr ⟨rfl, rfl⟩⟩
theorem zr_shorten {I : pd_I} {b : Nat} {q : Int32} : ∃ I', fn_X4_shorten I b q = some I' ∧ zF [b] I I' ∧ I' b 1 = ztr (I b 1) q ∧ ∀ j, j ≠ 1 → I' b j = I b j := by
  unfold fn_X4_shorten ztr
  by_cases c : 0 ≤ q
  · rw [if_pos c, if_pos c]
    by_cases d : I b 1 ≤ q
    · rw [if_pos d, if_pos d]; exact ⟨I, rfl, zF_rfl, rfl, fun _ _ => rfl⟩
    · rw [if_neg d, if_neg d]; exact ⟨_, rfl, zF_u (by simp) zF_rfl, by rw [zu_same, zu_at], fun j hj => by rw [zu_same, zu_nat hj]⟩
  · rw [if_neg c, if_neg c]; exact ⟨_, rfl, zF_u (by simp) zF_rfl, by rw [zu_same, zu_at], fun j hj => by rw [zu_same, zu_nat hj]⟩
theorem zm_tear {I : pd_I} {r : Nat} {q : Int32} (hr : r < 16) (hm : ¬ I 93 r = -1) : fn_X12_tear I (zn r) q = some (I 93 r, pd_ui (pd_ui I 92 0 (zn 0)) 93 r (ztr (I 93 r) q)) := by
  have hm2 : ¬ pd_ui I 92 0 (zn 0) 93 r = -1 := by rw [z92_b (by decide)]; exact hm
  unfold fn_X12_tear
  rw [zn_0, zb_let, zr_row1 z92_0 ⟨r, rfl, hr⟩, zb_bd2, zb_jn, if_neg zn_p0, zn_in2 hr (by omega), zb_gd, zn_nat (by omega), zm1n, if_neg hm2, zb_bd, zr_ok z92_0, zb_bd2, if_neg zn_p0, zb_gd, zb_let, z92_b (by decide)]
  have e : (if zn 0 ≤ q then if I 93 r ≤ q then some (I 93 r) else some q else some (-1)) = some (ztr (I 93 r) q) := by
    unfold ztr
    rw [zn_0]
    by_cases c : zn 0 ≤ q
    · rw [if_pos c, if_pos c]
      by_cases d : I 93 r ≤ q
      · rw [if_pos d, if_pos d]
      · rw [if_neg d, if_neg d]
    · rw [if_neg c, if_neg c]
  rw [e, zb_bd, zb_gd]
  rfl
theorem zo_tear {I : pd_I} {J : pd_J} {Z : pd_R} {n : Nat} {p q : Int32} (h : zCI I Z n) : zO3 (fn_L_tear I J Z n p q) (fun I1 => fn_X12_tear I1 p q) Z n := by
  by_cases hp : zin p 16
  · obtain ⟨r, rfl, hr⟩ := hp
    obtain ⟨m, f, b1, b2, b3⟩ := zr_rowI h.1 hr
    by_cases hm : I (60 + 2 * r) 1 = -1
    · have hm2 : pd_ui I 92 0 (zn 0) 93 r = -1 := by rw [z92_b (by decide), ← b1, hm]
      refine zO3_er (J := J) (e := 2) h (by decide) ?_ ?_
      · unfold fn_L_tear fn_X11_tear
        rw [zr_there0 hr hm, zb_bxe, zb_bc2e, if_neg (by decide), if_pos rfl]
      · show fn_X12_tear I (zn r) q = _
        unfold fn_X12_tear
        rw [zn_0, zb_let, zr_row1 z92_0 ⟨r, rfl, hr⟩, zb_bd2, zb_jn, if_neg zn_p0, zn_in2 hr (by omega), zb_gd, zn_nat (by omega), zm1n, if_pos hm2, zb_bd, zr_noL z92_0 (by decide), zb_bd2, if_pos rfl]
    · have hs := zr_size b2 hm
      have hm6 := b2.2.1
      obtain ⟨I1, e1, f1, f2, f3⟩ := zr_shorten (I := I) (b := 60 + 2 * r) (q := q)
      have d93 : I1 93 r = zn m := by rw [f1 93 (by simp; omega), ← b1, hs]
      have d94 : I1 94 = I 94 := f1 94 (by simp; omega)
      have e2 := zm_tear (I := I1) (q := q) hr (by rw [d93]; exact zn_m1e (by omega))
      rw [hs] at f2
      rw [d93] at e2
      obtain ⟨k, k1, k2⟩ := ztr_ok (q := q) hm6
      refine ⟨0, I1, pd_uj J 132 (0 : Int32).toNatClampNeg (zn m).toInt64, zn m, _, ?_, e2, by rw [zu_ne (by decide), z92_0, zn_0], fun _ => by rw [zb_j], ?_⟩
      · unfold fn_L_tear fn_X11_tear fn_X4_size
        rw [zr_there1 hr hm, zb_bx, za_row r hr, zb_gd, zb_bd, e1, zb_bd, zb_bc2, zb_in1, zb_gd, hs]
        rfl
      · have c0 : pd_ui (pd_ui I1 92 0 (zn 0)) 93 r (ztr (zn m) q) (60 + 2 * r) 1 = ztr (zn m) q := by rw [zu_ne (by omega), z92_b (by omega), f2]
        have c1 : pd_ui (pd_ui I1 92 0 (zn 0)) 93 r (ztr (zn m) q) (60 + 2 * r + 1) = I (60 + 2 * r + 1) := by rw [zu_ne (by omega), z92_b (by omega), f1 _ (by simp)]
        have c2 : pd_ui (pd_ui I1 92 0 (zn 0)) 93 r (ztr (zn m) q) 93 r = ztr (zn m) q := by rw [zu_same, zu_at]
        have c3 : pd_ui (pd_ui I1 92 0 (zn 0)) 93 r (ztr (zn m) q) 94 = I 94 := by rw [zu_ne (by decide), z92_b (by decide), d94]
        refine zCI_row (m0 := k) (f0 := f) h hr (zF_u (by simp) (zF_u (by simp) (zF_sub f1 (by simp)))) (fun j hj => ?_) (fun j hj => ?_) (fun j _ => by rw [c3]) (by rw [c0, c2]) ⟨by rw [c0]; exact k2, by omega, fun i hi => by rw [c1]; exact b2.2.2 i (by omega)⟩ ⟨hr, by rw [c2]; exact k2, by omega, fun i hi => by rw [c3]; exact b3.2.2.2 i (by omega)⟩
        · rw [zu_ne (by decide), z92_j hj, f1 92 (by simp; omega)]
        · rw [zu_same, zu_nat hj, z92_b (by decide), f1 93 (by simp; omega)]
  · refine zO3_er (J := J) (e := 1) h (by decide) ?_ ?_
    · unfold fn_L_tear fn_X11_tear
      rw [zr_thereX hp, zb_bxe, zb_bc2e, if_pos rfl]
    · show fn_X12_tear I p q = _
      unfold fn_X12_tear
      rw [zn_0, zb_let, zr_rowL z92_0 (by decide) hp, zb_bd2, zb_jn, if_pos rfl]
