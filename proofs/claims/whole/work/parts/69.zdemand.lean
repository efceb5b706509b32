/-! what is demanded of arguments: in the class (errors) and in the reference (object 92, place 0) -/
def zin (p : Int32) (N : Nat) : Prop := ∃ k, p = zn k ∧ k < N
theorem zin_t {p : Int32} {N : Nat} (hN : N < 2147483648) (h : zin p N) : (if p < 0 then some false else (if zn N ≤ p then some false else (some true))) = some true := by
  obtain ⟨k, rfl, hk⟩ := h
  rw [zn_0, zi_lt (by omega) (by omega), if_neg (by omega), zi_le (by omega) (by omega), if_neg (by omega)]
theorem zin_f {p : Int32} {N : Nat} (hN : N < 2147483648) (h : ¬ zin p N) : (if p < 0 then some false else (if zn N ≤ p then some false else (some true))) = some false := by
  by_cases c : p < 0
  · rw [if_pos c]
  · rw [if_neg c]
    by_cases d : zn N ≤ p
    · rw [if_pos d]
    · exact absurd (zn_rng c d hN) h
def zrg (p : Int32) (a b : Nat) : Prop := ∃ k, p = zn k ∧ a ≤ k ∧ k ≤ b
theorem zrg_of {p : Int32} {a b : Nat} (ha : a < 2147483648) (hb : b < 2147483648) (h1 : ¬ p < zn a) (h2 : p ≤ zn b) : zrg p a b := by
  have h0 : (0 : Int32) ≤ p := by
    have e := Int32.not_lt.mp h1
    exact Int32.le_trans (by rw [zn_0, zn_le (by omega) ha]; omega) e
  obtain ⟨k, rfl, hk⟩ := zn_of h0
  exact ⟨k, rfl, by rw [zn_lt hk ha] at h1; omega, by rw [zn_le hk hb] at h2; exact h2⟩
theorem zrg_t {p : Int32} {a b : Nat} (hb : b < 2147483648) (h : zrg p a b) : (if p < zn a then some false else (if zn b < p then some false else (some true))) = some true ∧ (if p < zn a then some false else (if p ≤ zn b then some true else (some false))) = some true := by
  obtain ⟨k, rfl, hk, hk2⟩ := h
  constructor
  · rw [zi_lt (by omega) (by omega), if_neg (by omega), zi_lt (by omega) (by omega), if_neg (by omega)]
  · rw [zi_lt (by omega) (by omega), if_neg (by omega), zi_le (by omega) (by omega), if_pos (by omega)]
theorem zrg_f {p : Int32} {a b : Nat} (ha : a < 2147483648) (hb : b < 2147483648) (h : ¬ zrg p a b) : (if p < zn a then some false else (if zn b < p then some false else (some true))) = some false ∧ (if p < zn a then some false else (if p ≤ zn b then some true else (some false))) = some false := by
  by_cases c : p < zn a
  · rw [if_pos c, if_pos c]; exact ⟨rfl, rfl⟩
  · rw [if_neg c, if_neg c]
    by_cases d : p ≤ zn b
    · exact absurd (zrg_of ha hb c d) h
    · rw [if_neg d, if_pos (Int32.not_le.mp d)]; exact ⟨rfl, rfl⟩
theorem zr_ok {I : pd_I} {e : Int32} (h : I 92 0 = zn 0) : fn_X12_right I (zn 1) e = some (zn 1, I) := by
  unfold fn_X12_right
  rw [h, zn_0, zi_eq (by omega) (by omega), if_pos rfl, zi_eq (by omega) (by omega), if_neg (by omega), zb_bd, if_neg (by decide), zb_bd, h, zi_eq (by omega) (by omega), if_pos rfl, zb_bd, zn_1, zn_bo1, zb_gd]
theorem zr_no {I : pd_I} {e : Nat} (h : I 92 0 = zn 0) (he : 0 < e) (he2 : e < 100) : fn_X12_right I (zn 0) (zn e) = some (zn 0, pd_ui I 92 0 (zn e)) := by
  unfold fn_X12_right
  rw [h, zn_0, zi_eq (by omega) (by omega), if_pos rfl, zi_eq (by omega) (by omega), if_pos rfl, zb_bd, if_pos rfl, zb_let, zb_bd, zu_same, zu_at, zi_eq (by omega) (by omega), if_neg (by omega), zb_bd, zn_bo0, zb_gd]
theorem zr_row1 {I : pd_I} {p e : Int32} (h : I 92 0 = zn 0) (hp : zin p 16) : fn_X12_isRow I p e = some (zn 1, I) := by
  unfold fn_X12_isRow
  rw [zn_16, zin_t (by omega) hp, zb_bd, if_pos rfl, zb_bd, zn_1, zr_ok h]
  rfl
theorem zr_row0 {I : pd_I} {p : Int32} {e : Nat} (h : I 92 0 = zn 0) (he : 0 < e) (he2 : e < 100) (hp : ¬ zin p 16) : fn_X12_isRow I p (zn e) = some (zn 0, pd_ui I 92 0 (zn e)) := by
  unfold fn_X12_isRow
  rw [zn_16, zin_f (by omega) hp, zb_bd, if_neg (by decide), zb_bd, zn_0, zr_no h he he2]
  rfl
theorem zr_n1 {I : pd_I} {p e : Int32} (h : I 92 0 = zn 0) (hp : zrg p 1 200) : fn_X12_isN I p e = some (zn 1, I) := by
  unfold fn_X12_isN
  rw [zn_1, zn_200, (zrg_t (by omega) hp).1, zb_bd, if_pos rfl, zb_bd, zr_ok h]
  rfl
theorem zr_n0 {I : pd_I} {p : Int32} {e : Nat} (h : I 92 0 = zn 0) (he : 0 < e) (he2 : e < 100) (hp : ¬ zrg p 1 200) : fn_X12_isN I p (zn e) = some (zn 0, pd_ui I 92 0 (zn e)) := by
  unfold fn_X12_isN
  rw [zn_1, zn_200, (zrg_f (by omega) (by omega) hp).1, zb_bd, if_neg (by decide), zb_bd, zn_0, zr_no h he he2]
  rfl
theorem zr_bits1 {p : Int32} (hp : zrg p 1 200) : fn_X11_demandBitCount p = some (.ok ()) := by
  unfold fn_X11_demandBitCount
  rw [zn_1, zn_200, (zrg_t (by omega) hp).2, zb_bd, if_pos rfl]
theorem zr_bits0 {p : Int32} (hp : ¬ zrg p 1 200) : fn_X11_demandBitCount p = some (.error "java/lang/IllegalArgumentException") := by
  unfold fn_X11_demandBitCount
  rw [zn_1, zn_200, (zrg_f (by omega) (by omega) hp).2, zb_bd, if_neg (by decide)]
theorem zR0_row : ∀ r < 16, pd_R0 1 r = some (60 + 2 * r) := by decide +kernel
theorem za_row : ∀ r < 16, pd_isRow (60 + 2 * r) = true := by decide +kernel
theorem zr_rowOf1 {Z : pd_R} {n r : Nat} (hr : r < 16) : fn_X11_rowOf Z n (zn r) = some (.ok (60 + 2 * r)) := by
  unfold fn_X11_rowOf
  rw [zn_16, zin_t (by omega) ⟨r, rfl, hr⟩, zb_bd, if_pos rfl, zn_in2 hr (by omega), zb_gd, zn_nat (by omega), zR0_row r hr, zb_bd]
  simp only []
  rw [za_row r hr, zb_gd]
theorem zr_rowOf0 {Z : pd_R} {n : Nat} {p : Int32} (hp : ¬ zin p 16) : fn_X11_rowOf Z n p = some (.error "java/lang/IndexOutOfBoundsException") := by
  unfold fn_X11_rowOf
  rw [zn_16, zin_f (by omega) hp, zb_bd, if_neg (by decide), zb_bd]
theorem zr_code1 {I : pd_I} {p : Int32} {cnt : Nat} (hc : I 92 5 = zn cnt) (hc12 : cnt ≤ 12) (hp : zin p cnt) : fn_X12_isCode I p = some (zn 1, pd_ui I 92 0 (zn 0)) := by
  unfold fn_X12_isCode
  rw [zn_0, zb_let, zu_same, zu_nat (by omega), hc, ← zn_0, zin_t (by omega) hp, zb_bd, if_pos rfl, zb_bd, zn_1, zr_ok (by rw [zu_same, zu_at, zn_0])]
  rfl
theorem zr_code0 {I : pd_I} {p : Int32} {cnt : Nat} (hc : I 92 5 = zn cnt) (hc12 : cnt ≤ 12) (hp : ¬ zin p cnt) : fn_X12_isCode I p = some (zn 0, pd_ui (pd_ui I 92 0 (zn 0)) 92 0 (zn 1)) := by
  unfold fn_X12_isCode
  rw [zn_0, zb_let, zu_same, zu_nat (by omega), hc, ← zn_0, zin_f (by omega) hp, zb_bd, if_neg (by decide), zb_bd, zn_1, zn_0, zr_no (by rw [zu_same, zu_at]) (by omega) (by omega)]
  rfl
theorem zr_codeOf1 {I : pd_I} {Z : pd_R} {n k cnt : Nat} (hc : I 0 2 = zn cnt) (hc12 : cnt ≤ 12) (hk : k < cnt) (hz : Z 2 k = some (133 + 3 * k)) (hi : pd_isCode (133 + 3 * k) n = true) : fn_X11_codeOf I Z n (zn k) = some (.ok (133 + 3 * k)) := by
  unfold fn_X11_codeOf
  rw [hc, zin_t (by omega) ⟨k, rfl, hk⟩, zb_bd, if_pos rfl, zn_in2 (show k < 12 by omega) (by omega), zb_gd, zn_nat (by omega), hz, zb_bd]
  simp only []
  rw [hi, zb_gd]
theorem zr_codeOf0 {I : pd_I} {Z : pd_R} {n cnt : Nat} {p : Int32} (hc : I 0 2 = zn cnt) (hc12 : cnt ≤ 12) (hp : ¬ zin p cnt) : fn_X11_codeOf I Z n p = some (.error "java/lang/IndexOutOfBoundsException") := by
  unfold fn_X11_codeOf
  rw [hc, zin_f (by omega) hp, zb_bd, if_neg (by decide), zb_bd]
