/-! length; what is sent: bits, states, signs; the class's encode -/
theorem zo_length {I : pd_I} {J : pd_J} {Z : pd_R} {n : Nat} {p q : Int32} (h : zCI I Z n) : zOi (fn_L_length I J Z n p q) (fn_X12_length I p q) Z n := by
  obtain ⟨cnt, cd, q1, q2, q3, q4, q5⟩ := id h.2.2.1
  by_cases hp : zin p cnt
  · obtain ⟨k, rfl, hk⟩ := hp
    obtain ⟨g1, g2, g3, g4⟩ := q5 k hk
    have hM0 : zCm (pd_ui I 92 0 (zn 0)) k (cd k) := zCm_F (L := [92]) (by decide) (zF_u (by decide) zF_rfl) g4
    by_cases hu : zrg q 1 200
    · obtain ⟨nn, rfl, hn1, hn2⟩ := hu
      have hst := zst_le (n := nn) g2
      refine ⟨0, pd_uj J 132 (0 : Int32).toNatClampNeg (zn (zsa (cd k) (zst (cd k) nn))).toInt64, zn (zsa (cd k) (zst (cd k) nn)), pd_ui I 92 0 (zn 0), ?_, ?_, by rw [z92_0, zn_0], fun _ => by rw [zb_j], zCI_0 h⟩
      · unfold fn_L_length fn_X11_length
        rw [zr_codeOf1 q3 q1 hk g1 (zci q2 hk), zb_bx, zci q2 hk, zb_gd, zr_bits1 ⟨nn, rfl, hn1, hn2⟩, zb_bx, zc_sentBy g3 g2 (by omega), zb_bd, zb_bc, zb_in1, zb_gd]
        rfl
      · unfold fn_X12_length
        rw [zr_code1 q4 q1 ⟨k, rfl, hk⟩, zb_bd2, zn_0, if_neg zn_p0, zr_n1 z92_0 ⟨nn, rfl, hn1, hn2⟩, zb_bd2, if_neg zn_p0, zc_stepsM hM0 g2, zb_bd, zc_sentAhead hM0 g2 (by omega), zb_bd, zb_bd2]
    · refine zOi_er (J := J) (e := 2) h (by decide) ?_ ?_
      · unfold fn_L_length fn_X11_length
        rw [zr_codeOf1 q3 q1 hk g1 (zci q2 hk), zb_bx, zci q2 hk, zb_gd, zr_bits0 hu, zb_bxe, zb_bce, if_neg (by decide), if_pos rfl]
      · unfold fn_X12_length
        rw [zr_code1 q4 q1 ⟨k, rfl, hk⟩, zb_bd2, zn_0, if_neg zn_p0, zr_nL z92_0 (by decide) hu, zb_bd2, if_pos rfl, zb_bd2]
  · refine zOi_er (J := J) (e := 1) h (by decide) ?_ ?_
    · unfold fn_L_length fn_X11_length
      rw [zr_codeOf0 q3 q1 hp, zb_bxe, zb_bce, if_pos rfl]
    · unfold fn_X12_length
      rw [zr_codeL q4 q1 hp, zb_bd2, zn_0, if_pos rfl, zb_bd2]
def zxb (m : Nat) (f : Nat → Nat) (t : Nat) : Nat := if t < m then f t % 2 else 0
theorem zxb_lt {m t : Nat} {f : Nat → Nat} : zxb m f t < 2 := by unfold zxb; split <;> omega
def zs1 (cd x : Nat → Nat) (n b : Nat) : Nat → Nat
  | 0 => b
  | t + 1 => znx cd (zs1 cd x n b t) (if t < n then x t else zfb cd (zs1 cd x n b t))
def zxx (cd x : Nat → Nat) (n b t : Nat) : Nat := if t < n then x t else zfb cd (zs1 cd x n b t)
def zs2 (cd x : Nat → Nat) (n : Nat) : Nat → Nat
  | 0 => 0
  | t + 1 => znx cd (zs2 cd x n t) (x (t * cd 5 % n))
def zgo (cd x : Nat → Nat) (n b t o : Nat) : Nat := if o < cd 2 then zsg cd (zs1 cd x n b t) (zxx cd x n b t) o else zsg cd (zs2 cd x n t) (x (t * cd 5 % n)) (o - cd 2 + 1)
theorem zxx_lt {cd x : Nat → Nat} {n b t : Nat} (hx : ∀ t, x t < 2) : zxx cd x n b t < 2 := by
  unfold zxx
  split
  · exact hx t
  · exact zfb_lt _ _
theorem zs1_lt {cd x : Nat → Nat} {n b t : Nat} (hv : zCv cd) (hb : b < 64) : zs1 cd x n b t < 64 := by
  have := zCv_S hv
  cases t with
  | zero => exact hb
  | succ t =>
    have h := znx_lt (cd := cd) (s := zs1 cd x n b t) (x := if t < n then x t else zfb cd (zs1 cd x n b t))
    show znx cd _ _ < 64
    omega
theorem zs2_lt {cd x : Nat → Nat} {n t : Nat} (hv : zCv cd) : zs2 cd x n t < 64 := by
  have := zCv_S hv
  cases t with
  | zero => show 0 < 64; omega
  | succ t =>
    have h := znx_lt (cd := cd) (s := zs2 cd x n t) (x := x (t * cd 5 % n))
    show znx cd _ _ < 64
    omega
theorem zgo_lt {cd x : Nat → Nat} {n b t o : Nat} (hx : ∀ t, x t < 2) : zgo cd x n b t o < 2 := by
  unfold zgo
  split
  · exact zsg_lt (zxx_lt hx)
  · exact zsg_lt (hx _)
theorem zbit32 : ∀ u < 64, (zn u - 32) &&& 1 = zn (u % 2) := by decide +kernel
theorem zr_bitAt {I : pd_I} {b m t : Nat} {f : Nat → Nat} (h : zRow I b m f) (ht : t < 2147483648) : fn_X4_bitAt I b (zn t) = some (zn (zxb m f t)) := by
  unfold fn_X4_bitAt zxb
  rw [zr_numberAt h ht, zb_bd]
  by_cases c : t < m
  · obtain ⟨e1, e2⟩ := h.2.2 t c
    rw [if_pos c, if_pos c, zmk_v e1, zbit32 _ e2]
  · rw [if_neg c, if_neg c]; rfl
theorem zq_encode3 {O : Type} {Q : O → Prop} {I : pd_I} {b m n : Nat} {f : Nat → Nat} {kont : pd_I → Option O} (hb : 60 ≤ b) (h : zRow I b m f) (hn : n ≤ 200) (hK : ∀ I', zF [4] I I' → (∀ t, t < n → I' 4 t = zn (zxb m f t)) → zT (kont I') Q) : zT (fl_X2_encode_3 b (zn n) kont pd_FU (zn 0) I) Q := by
  refine zl_loop (fun fu j (s : pd_I) => fl_X2_encode_3 b (zn n) kont fu j s) n (fun j s => zF [4] I s ∧ ∀ t, t < j → s 4 t = zn (zxb m f t)) ?_ ?_ pd_FU 0 _ (by omega) (zFU (by omega)) ⟨zF_rfl, fun i hi => by omega⟩
  · rintro fu s ⟨h1, h2⟩
    rw [fl_X2_encode_3, if_pos (Int32.le_refl _)]
    exact hK s h1 h2
  · rintro fu j s hj ⟨h1, h2⟩ ih
    rw [fl_X2_encode_3, zi_le (by omega) (by omega), if_neg (by omega), zr_bitAt (zRow_F (by simp; omega) (by simp; omega) h1 h) (by omega), zb_bd, zn_in2 (show j < 200 by omega) (by omega), zb_gd, zn_nat (by omega), zb_let, zb_let, zn_1, zn_add]
    refine ih _ ⟨zF_u (by simp) h1, fun t ht => ?_⟩
    rw [zu_same, zu_app]
    by_cases c : t = j
    · rw [if_pos c, c]
    · rw [if_neg c]; exact h2 t (by omega)
theorem zq_encF53 {O : Type} {Q : O → Prop} {I : pd_I} {a t w : Nat} {cd : Nat → Nat} {kont : pd_I → Option O} (ha : 133 ≤ a) (h : zCo I a cd) (hv : zCv cd) (ht : t < 206) (hw : w < 128) (hK : ∀ I', zF [5] I I' → (∀ o, o < cd 2 → I' 5 (t * 7 + o) = zn (w / 2 ^ o % 2)) → (∀ p, p < t * 7 → I' 5 p = I 5 p) → zT (kont I') Q) : zT (fl_X2_encodeFirst_53 a (zn t) (zn w) kont pd_FU (zn 0) I) Q := by
  have h24 := hv.2.2.2.2.1
  refine zl_loop (fun fu j (s : pd_I) => fl_X2_encodeFirst_53 a (zn t) (zn w) kont fu j s) (cd 2) (fun j s => zF [5] I s ∧ (∀ o, o < j → s 5 (t * 7 + o) = zn (w / 2 ^ o % 2)) ∧ ∀ p, p < t * 7 → s 5 p = I 5 p) ?_ ?_ pd_FU 0 _ (by omega) (zFU (by omega)) ⟨zF_rfl, fun i hi => by omega, fun _ _ => rfl⟩
  · rintro fu s ⟨h1, h2, h3⟩
    rw [fl_X2_encodeFirst_53, (zCo_F (by decide) ha h1 h).2.2.1, if_pos (Int32.le_refl _)]
    exact hK s h1 h2 h3
  · rintro fu j s hj ⟨h1, h2, h3⟩ ih
    rw [fl_X2_encodeFirst_53, (zCo_F (by decide) ha h1 h).2.2.1, zi_le (by omega) (by omega), if_neg (by omega), zn_7, zn_mul, zn_add, zn_in2 (show t * 7 + j < 1442 by omega) (by omega), zb_gd, zn_nat (by omega), zb_let, zb_let, zn_31, zn_1, zc_kbit w hw j (by omega), zn_add]
    refine ih _ ⟨zF_u (by simp) h1, fun o ho => ?_, fun p hp => ?_⟩
    · rw [zu_same, zu_app]
      by_cases c : o = j
      · rw [if_pos (by rw [c]), c]
      · rw [if_neg (by omega)]; exact h2 o (by omega)
    · rw [zu_same, zu_nat (by omega)]; exact h3 p hp
theorem zwo_128 {cd : Nat → Nat} {s x : Nat} (hv : zCv cd) (hx : x < 2) : zwo cd s x (cd 2) < 128 := by
  have h24 := hv.2.2.2.2.1
  have := zwo_lt (cd := cd) (s := s) hx (cd 2)
  have := zp7 (show cd 2 ≤ 7 by omega)
  omega
theorem zq_encF {I : pd_I} {a n b : Nat} {cd x : Nat → Nat} (ha : 133 ≤ a) (h : zCo I a cd) (hv : zCv cd) (hn : n ≤ 200) (hb : b < 64) (hx : ∀ t, x t < 2) (hI : ∀ t, t < n → I 4 t = zn (x t)) : zT (fn_X2_encodeFirst I a (zn n) (zn b)) (fun I' => zF [5] I I' ∧ ∀ t, t < zst cd n → ∀ o, o < cd 2 → I' 5 (t * 7 + o) = zn (zsg cd (zs1 cd x n b t) (zxx cd x n b t) o)) := by
  have hst := zst_le (n := n) hv
  have h24 := hv.2.2.2.2.1
  unfold fn_X2_encodeFirst
  refine zl_loop (fun fu j (s : Int32 × pd_I) => fl_X2_encodeFirst_6 a (zn n) (fun zI2 => some zI2) fu s.1 j s.2) (zst cd n) (fun j s => s.1 = zn (zs1 cd x n b j) ∧ zF [5] I s.2 ∧ ∀ t, t < j → ∀ o, o < cd 2 → s.2 5 (t * 7 + o) = zn (zsg cd (zs1 cd x n b t) (zxx cd x n b t) o)) ?_ ?_ pd_FU 0 (zn b, I) (by omega) (zFU (by omega)) ⟨rfl, zF_rfl, fun i hi => by omega⟩
  · rintro fu ⟨s, I'⟩ ⟨rfl, h1, h2⟩
    try simp only [] at h1 h2 ⊢
    rw [fl_X2_encodeFirst_6, zc_steps (zCo_F (by decide) ha h1 h) hv, zb_bd, if_pos (Int32.le_refl _)]
    exact ⟨_, rfl, h1, h2⟩
  · rintro fu j ⟨s, I'⟩ hj ⟨rfl, h1, h2⟩ ih
    try simp only [] at h1 h2 ih ⊢
    have hcd := zCo_F (by decide) ha h1 h
    have hs := zs1_lt (x := x) (n := n) (t := j) hv hb
    have hxx := zxx_lt (cd := cd) (n := n) (b := b) (t := j) hx
    have e : (if zn n ≤ zn j then pd_bd (fn_X0_fedBack I' a (zn (zs1 cd x n b j))) fun zr4 => some zr4 else pd_gd (pd_in (zn j) 200) (some (I' 4 (zn j).toNatClampNeg))) = some (zn (zxx cd x n b j)) := by
      unfold zxx
      rw [zi_le (by omega) (by omega)]
      by_cases c : n ≤ j
      · rw [if_pos c, if_neg (by omega), zc_fedBack hcd hv, zb_bd]
      · rw [if_neg c, if_pos (by omega), zn_in2 (show j < 200 by omega) (by omega), zb_gd, zn_nat (by omega), h1 4 (by simp), hI j (by omega)]
    rw [fl_X2_encodeFirst_6, zc_steps hcd hv, zb_bd, zi_le (by omega) (by omega), if_neg (by omega), e, zb_bd, zc_outsOf hcd hv hs hxx, zb_bd]
    refine zq_encF53 ha hcd hv (by omega) (zwo_128 hv hxx) (fun I2 f1 f2 f3 => ?_)
    rw [zc_stateAfter (zCo_F (by decide) ha f1 hcd) hv hs hxx, zb_bd, zb_let, zn_1, zn_add]
    refine ih (zn (zs1 cd x n b (j + 1)), I2) ⟨rfl, zF_tr h1 f1, fun t ht o ho => ?_⟩
    show I2 5 (t * 7 + o) = _
    by_cases c : t = j
    · subst c
      rw [f2 o ho, zwo_bit hxx (cd 2) h24 o ho]
    · rw [f3 _ (by omega)]; exact h2 t (by omega) o ho
theorem zq_encS37 {O : Type} {Q : O → Prop} {I : pd_I} {a t w : Nat} {cd : Nat → Nat} {kont : pd_I → Option O} (ha : 133 ≤ a) (h : zCo I a cd) (hv : zCv cd) (ht : t < 200) (hw : w < 128) (hK : ∀ I', zF [5] I I' → (∀ o, 1 ≤ o → o < cd 2 → I' 5 (t * 7 + cd 2 - 1 + o) = zn (w / 2 ^ o % 2)) → (∀ p, p < t * 7 + cd 2 ∨ t * 7 + 7 ≤ p → I' 5 p = I 5 p) → zT (kont I') Q) : zT (fl_X2_encodeSecond_37 a (zn t) (zn w) kont pd_FU (zn 1) I) Q := by
  have h24 := hv.2.2.2.2.1
  have h22 := hv.2.2.2.1
  refine zl_loop (fun fu j (s : pd_I) => fl_X2_encodeSecond_37 a (zn t) (zn w) kont fu j s) (cd 2) (fun j s => 1 ≤ j ∧ zF [5] I s ∧ (∀ o, 1 ≤ o → o < j → s 5 (t * 7 + cd 2 - 1 + o) = zn (w / 2 ^ o % 2)) ∧ ∀ p, p < t * 7 + cd 2 ∨ t * 7 + 7 ≤ p → s 5 p = I 5 p) ?_ ?_ pd_FU 1 _ (by omega) (zFU (by omega)) ⟨by omega, zF_rfl, fun i hi => by omega, fun _ _ => rfl⟩
  · rintro fu s ⟨-, h1, h2, h3⟩
    rw [fl_X2_encodeSecond_37, (zCo_F (by decide) ha h1 h).2.2.1, if_pos (Int32.le_refl _)]
    exact hK s h1 h2 h3
  · rintro fu j s hj ⟨h0, h1, h2, h3⟩ ih
    rw [fl_X2_encodeSecond_37, (zCo_F (by decide) ha h1 h).2.2.1, zi_le (by omega) (by omega), if_neg (by omega), zn_7, zn_31, zn_1, zn_mul, zn_add, zn_sub (by omega), zn_add, zn_in2 (show t * 7 + cd 2 - 1 + j < 1442 by omega) (by omega), zb_gd, zn_nat (by omega), zb_let, zb_let, zc_kbit w hw j (by omega), zn_add]
    refine ih _ ⟨by omega, zF_u (by simp) h1, fun o ho1 ho => ?_, fun p hp => ?_⟩
    · rw [zu_same, zu_app]
      by_cases c : o = j
      · rw [if_pos (by rw [c]), c]
      · rw [if_neg (by omega)]; exact h2 o ho1 (by omega)
    · rw [zu_same, zu_nat (by omega)]; exact h3 p hp
theorem zmod_200 {t s n : Nat} (hn : 1 ≤ n) (hn2 : n ≤ 200) : t * s % n < 200 := Nat.lt_of_lt_of_le (Nat.mod_lt _ hn) hn2
theorem zq_encS {I : pd_I} {a n : Nat} {cd x : Nat → Nat} (ha : 133 ≤ a) (h : zCo I a cd) (hv : zCv cd) (hn1 : 1 ≤ n) (hn : n ≤ 200) (hx : ∀ t, x t < 2) (hI : ∀ t, t < n → I 4 t = zn (x t)) : zT (fn_X2_encodeSecond I a (zn n)) (fun I' => zF [5] I I' ∧ (∀ t, t < n → ∀ o, 1 ≤ o → o < cd 2 → I' 5 (t * 7 + cd 2 - 1 + o) = zn (zsg cd (zs2 cd x n t) (x (t * cd 5 % n)) o)) ∧ ∀ t, t < n → ∀ o, o < cd 2 → I' 5 (t * 7 + o) = I 5 (t * 7 + o)) := by
  have h24 := hv.2.2.2.2.1
  have h22 := hv.2.2.2.1
  unfold fn_X2_encodeSecond
  refine zl_loop (fun fu j (s : Int32 × pd_I) => fl_X2_encodeSecond_5 a (zn n) (fun zI2 => some zI2) fu s.1 j s.2) n (fun j s => s.1 = zn (zs2 cd x n j) ∧ zF [5] I s.2 ∧ (∀ t, t < j → ∀ o, 1 ≤ o → o < cd 2 → s.2 5 (t * 7 + cd 2 - 1 + o) = zn (zsg cd (zs2 cd x n t) (x (t * cd 5 % n)) o)) ∧ ∀ t, t < n → ∀ o, o < cd 2 → s.2 5 (t * 7 + o) = I 5 (t * 7 + o)) ?_ ?_ pd_FU 0 (zn 0, I) (by omega) (zFU (by omega)) ⟨rfl, zF_rfl, fun i hi => by omega, fun _ _ _ _ => rfl⟩
  · rintro fu ⟨s, I'⟩ ⟨rfl, h1, h2, h3⟩
    try simp only [] at h1 h2 h3 ⊢
    rw [fl_X2_encodeSecond_5, if_pos (Int32.le_refl _)]
    exact ⟨_, rfl, h1, h2, h3⟩
  · rintro fu j ⟨s, I'⟩ hj ⟨rfl, h1, h2, h3⟩ ih
    try simp only [] at h1 h2 h3 ih ⊢
    have hcd := zCo_F (by decide) ha h1 h
    have hs := zs2_lt (x := x) (n := n) (t := j) hv
    have hm : j * cd 5 % n < n := Nat.mod_lt _ hn1
    have hxj := hx (j * cd 5 % n)
    rw [fl_X2_encodeSecond_5, zi_le (by omega) (by omega), if_neg (by omega), zc_orderOf hcd hv (by omega) hn1 hn, zb_bd, zn_in2 (show j * cd 5 % n < 200 by omega) (by omega), zb_gd, zn_nat (by omega), h1 4 (by simp), hI _ hm, zb_let, zc_outsOf hcd hv hs hxj, zb_bd]
    refine zq_encS37 ha hcd hv (by omega) (zwo_128 hv hxj) (fun I2 f1 f2 f3 => ?_)
    rw [zc_stateAfter (zCo_F (by decide) ha f1 hcd) hv hs hxj, zb_bd, zb_let, zn_1, zn_add]
    refine ih (zn (zs2 cd x n (j + 1)), I2) ⟨rfl, zF_tr h1 f1, fun t ht o ho1 ho => ?_, fun t ht o ho => ?_⟩
    · show I2 5 (t * 7 + cd 2 - 1 + o) = _
      by_cases c : t = j
      · subst c
        rw [f2 o ho1 ho, zwo_bit hxj (cd 2) h24 o ho]
      · rw [f3 _ (by omega)]; exact h2 t (by omega) o ho1 ho
    · show I2 5 (t * 7 + o) = _
      rw [f3 _ (by omega)]; exact h3 t ht o ho
