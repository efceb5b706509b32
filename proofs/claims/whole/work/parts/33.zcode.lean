/-! a CODE in numbers: 0 kind, 1 cells, 2 outs, 3 feed, 4 period, 5 stride, 7 .. 10 taps, 11 .. 18 keeps -/
def zpar (v : Nat) : Nat := (v + v / 2 + v / 4 + v / 8 + v / 16 + v / 32 + v / 64) % 2
def zCo (I : pd_I) (a : Nat) (cd : Nat → Nat) : Prop := I a 0 = zn (cd 0) ∧ I a 1 = zn (cd 1) ∧ I a 2 = zn (cd 2) ∧ I a 4 = zn (cd 3) ∧ I a 5 = zn (cd 4) ∧ I a 6 = zn (cd 5) ∧ (∀ o, o < 4 → I (a + 1) o = zn (cd (7 + o))) ∧ (∀ k, k < 8 → I (a + 2) k = zn (cd (11 + k)))
def zCm (I : pd_I) (c : Nat) (cd : Nat → Nat) : Prop := c < 12 ∧ I 97 c = zn (cd 0) ∧ I 98 c = zn (cd 1) ∧ I 99 c = zn (cd 2) ∧ I 100 c = zn (cd 3) ∧ I 101 c = zn (cd 4) ∧ I 102 c = zn (cd 5) ∧ (∀ o, o < 4 → I 103 (4 * c + o) = zn (cd (7 + o))) ∧ (∀ k, k < 8 → I 104 (8 * c + k) = zn (cd (11 + k)))
def zCv (cd : Nat → Nat) : Prop := cd 0 ≤ 5 ∧ 1 ≤ cd 1 ∧ cd 1 ≤ 6 ∧ 2 ≤ cd 2 ∧ cd 2 ≤ 4 ∧ cd 3 < 64 ∧ 1 ≤ cd 4 ∧ cd 4 ≤ 8 ∧ 1 ≤ cd 5 ∧ cd 5 ≤ 199 ∧ (∀ o, o < 4 → cd (7 + o) < 128) ∧ (∀ k, k < 8 → cd (11 + k) < 128)
theorem zCo_F {L : List Nat} {I I' : pd_I} {a : Nat} {cd : Nat → Nat} (hL : ∀ x ∈ L, x < 133) (ha : 133 ≤ a) (h : zF L I I') (k : zCo I a cd) : zCo I' a cd := by
  have e0 : I' a = I a := h a (fun m => by have := hL a m; omega)
  have e1 : I' (a + 1) = I (a + 1) := h (a + 1) (fun m => by have := hL _ m; omega)
  have e2 : I' (a + 2) = I (a + 2) := h (a + 2) (fun m => by have := hL _ m; omega)
  unfold zCo
  rw [e0, e1, e2]
  exact k
theorem zCm_F {L : List Nat} {I I' : pd_I} {c : Nat} {cd : Nat → Nat} (hL : ∀ x ∈ [97, 98, 99, 100, 101, 102, 103, 104], x ∉ L) (h : zF L I I') (k : zCm I c cd) : zCm I' c cd := by
  have e : ∀ x ∈ [97, 98, 99, 100, 101, 102, 103, 104], I' x = I x := fun x hx => h x (hL x hx)
  unfold zCm
  rw [e 97 (by decide), e 98 (by decide), e 99 (by decide), e 100 (by decide), e 101 (by decide), e 102 (by decide), e 103 (by decide), e 104 (by decide)]
  exact k
def zfb (cd : Nat → Nat) (s : Nat) : Nat := zpar (s &&& cd 3)
def znx (cd : Nat → Nat) (s x : Nat) : Nat := (2 * s + (x ^^^ zfb cd s)) % 2 ^ cd 1
def zsg (cd : Nat → Nat) (s x o : Nat) : Nat := if o = 0 ∧ 1 ≤ cd 0 then x else zpar ((2 * s + (x ^^^ zfb cd s)) &&& cd (7 + o))
def zst (cd : Nat → Nat) (n : Nat) : Nat := if cd 0 = 3 then n + cd 1 else n
def zwd (cd : Nat → Nat) : Nat := if cd 0 = 5 then 2 * cd 2 - 1 else cd 2
def zse (cd : Nat → Nat) (t o : Nat) : Nat := if cd 0 < 2 then 1 else cd (11 + t % cd 4) / 2 ^ o % 2
def zsn (cd : Nat → Nat) (t : Nat) : Nat → Nat
  | 0 => 0
  | k + 1 => zsn cd t k + zse cd t k
def zsa (cd : Nat → Nat) : Nat → Nat
  | 0 => 0
  | t + 1 => zsa cd t + zsn cd t (zwd cd)
def zwo (cd : Nat → Nat) (s x : Nat) : Nat → Nat
  | 0 => 0
  | k + 1 => zwo cd s x k + zsg cd s x k * 2 ^ k
theorem zpar_lt (v : Nat) : zpar v < 2 := Nat.mod_lt _ (by decide)
theorem zfb_lt (cd : Nat → Nat) (s : Nat) : zfb cd s < 2 := zpar_lt _
theorem zx2 : ∀ x < 2, ∀ y < 2, x ^^^ y < 2 := by decide
theorem zxor_lt {cd : Nat → Nat} {s x : Nat} (hx : x < 2) : x ^^^ zfb cd s < 2 := zx2 x hx _ (zfb_lt cd s)
theorem zsg_lt {cd : Nat → Nat} {s x o : Nat} (hx : x < 2) : zsg cd s x o < 2 := by
  unfold zsg; split
  · exact hx
  · exact zpar_lt _
theorem zse_lt {cd : Nat → Nat} {t o : Nat} : zse cd t o < 2 := by
  unfold zse; split
  · decide
  · exact Nat.mod_lt _ (by decide)
theorem znx_lt {cd : Nat → Nat} {s x : Nat} : znx cd s x < 2 ^ cd 1 := Nat.mod_lt _ (Nat.two_pow_pos _)
theorem zS_le : ∀ c ≤ 6, 2 ^ c ≤ 64 := by decide
theorem zS_ge : ∀ c ≤ 6, 1 ≤ c → 2 ≤ 2 ^ c := by decide
theorem zCv_S {cd : Nat → Nat} (h : zCv cd) : 2 ≤ 2 ^ cd 1 ∧ 2 ^ cd 1 ≤ 64 := ⟨zS_ge _ h.2.2.1 h.2.1, zS_le _ h.2.2.1⟩
theorem zwd_le {cd : Nat → Nat} (h : zCv cd) : 2 ≤ zwd cd ∧ zwd cd ≤ 7 ∧ cd 2 ≤ zwd cd := by
  obtain ⟨-, -, -, h1, h2, -⟩ := h
  unfold zwd; split <;> omega
theorem zst_le {cd : Nat → Nat} {n : Nat} (h : zCv cd) : n ≤ zst cd n ∧ zst cd n ≤ n + 6 := by
  obtain ⟨-, -, h1, -⟩ := h
  unfold zst; split <;> omega
/-! leaves -/
theorem zc_parO : ∀ v < 128, fn_X11_parity (zn v) = some (zn (zpar v)) := by decide +kernel
theorem zc_parM : ∀ v < 128, fn_X12_parity (zn v) = some (zn (zpar v)) := by decide +kernel
theorem zc_or1 : ∀ s < 64, ∀ b < 2, 2 * s ||| b = 2 * s + b := by decide +kernel
theorem zand_lt {a b N : Nat} (h : b < N) : a &&& b < N := Nat.lt_of_le_of_lt Nat.and_le_right h
theorem zc_fedBack {I : pd_I} {a : Nat} {cd : Nat → Nat} {s : Nat} (h : zCo I a cd) (hv : zCv cd) : fn_X0_fedBack I a (zn s) = some (zn (zfb cd s)) := by
  have h4 : cd 3 < 64 := hv.2.2.2.2.2.1
  unfold fn_X0_fedBack
  rw [h.2.2.2.1, zn_and, zc_parO _ (zand_lt (by omega))]
  rfl
theorem zc_fed {I : pd_I} {c : Nat} {cd : Nat → Nat} {s : Nat} (h : zCm I c cd) (hv : zCv cd) : fn_X12_fed I (zn c) (zn s) = some (zn (zfb cd s)) := by
  have h4 : cd 3 < 64 := hv.2.2.2.2.2.1
  obtain ⟨hc, -, -, -, e, -⟩ := h
  unfold fn_X12_fed
  rw [zn_in hc (by decide), zb_gd, zn_nat (by omega), e, zn_and, zc_parM _ (zand_lt (by omega))]
  rfl
theorem zc_states {I : pd_I} {a : Nat} {cd : Nat → Nat} (h : zCo I a cd) (hv : zCv cd) : fn_X0_states I a = some (zn (2 ^ cd 1)) := by
  have h4 : cd 1 ≤ 6 := hv.2.2.1
  unfold fn_X0_states
  rw [h.2.1, zn_1, zn_31, zn_1shl _ (by omega)]
theorem zc_stateAfter {I : pd_I} {a : Nat} {cd : Nat → Nat} {s x : Nat} (h : zCo I a cd) (hv : zCv cd) (hs : s < 64) (hx : x < 2) : fn_X0_stateAfter I a (zn s) (zn x) = some (zn (znx cd s x)) := by
  unfold fn_X0_stateAfter
  rw [zc_fedBack h hv, zb_bd, zc_states h hv, zb_bd, zn_1, zn_31, zn_shl1 s (by omega), zn_xor, zn_or, zc_or1 s hs _ (zxor_lt hx), zn_sub (Nat.two_pow_pos _), zn_and, Nat.and_two_pow_sub_one_eq_mod]
  rfl
theorem zc_next {I : pd_I} {c : Nat} {cd : Nat → Nat} {s x : Nat} (h : zCm I c cd) (hv : zCv cd) (hx : x < 2) : fn_X12_next I (zn c) (zn s) (zn x) = some (zn (znx cd s x)) := by
  have h4 : cd 1 ≤ 6 := hv.2.2.1
  unfold fn_X12_next
  rw [zc_fed h hv, zb_bd, zn_in h.1 (by decide), zb_gd, zn_nat (by have := h.1; omega), h.2.2.1, zn_1, zn_31, zn_2, zn_1shl _ (by omega), zn_mul, zn_xor, zn_add, zn_sub (Nat.two_pow_pos _), zn_and, Nat.and_two_pow_sub_one_eq_mod]
  rfl
theorem zc_isFed {I : pd_I} {a : Nat} {cd : Nat → Nat} (h : zCo I a cd) (hv : zCv cd) : fn_X0_isFed I a = some (zn (if 1 ≤ cd 0 then 1 else 0)) := by
  have h4 : cd 0 ≤ 5 := hv.1
  unfold fn_X0_isFed
  rw [h.1, zn_1, zi_lt (by omega) (by decide)]
  by_cases hc : cd 0 < 1
  · rw [if_pos hc, if_neg (by omega)]; rfl
  · rw [if_neg hc, if_pos (by omega)]; rfl
theorem zc_isCut {I : pd_I} {a : Nat} {cd : Nat → Nat} (h : zCo I a cd) (hv : zCv cd) : fn_X0_isCut I a = some (zn (if 2 ≤ cd 0 then 1 else 0)) := by
  have h4 : cd 0 ≤ 5 := hv.1
  unfold fn_X0_isCut
  rw [h.1, zn_2, zi_lt (by omega) (by decide)]
  by_cases hc : cd 0 < 2
  · rw [if_pos hc, if_neg (by omega)]; rfl
  · rw [if_neg hc, if_pos (by omega)]; rfl
theorem zc_width {I : pd_I} {a : Nat} {cd : Nat → Nat} (h : zCo I a cd) (hv : zCv cd) : fn_X0_width I a = some (zn (zwd cd)) := by
  obtain ⟨h4, -, -, h5, h6, -⟩ := hv
  unfold fn_X0_width zwd
  rw [h.1, h.2.2.1, zn_5, zi_eq (by omega) (by decide)]
  by_cases hc : cd 0 = 5
  · rw [if_pos hc, if_pos hc, zn_2, zn_1, zn_mul, zn_sub (by omega)]; rfl
  · rw [if_neg hc, if_neg hc]; rfl
theorem zc_wide {I : pd_I} {c : Nat} {cd : Nat → Nat} (h : zCm I c cd) (hv : zCv cd) : fn_X12_wide I (zn c) = some (zn (zwd cd)) := by
  obtain ⟨h4, -, -, h5, h6, -⟩ := hv
  obtain ⟨hc, e0, e1, e2, -⟩ := h
  unfold fn_X12_wide zwd
  rw [zn_in hc (by decide), zb_gd, zb_gd, zb_gd, zn_nat (by omega), e0, e2, zn_5, zi_eq (by omega) (by decide)]
  by_cases hc : cd 0 = 5
  · rw [if_pos hc, if_pos hc, zn_2, zn_1, zn_mul, zn_sub (by omega)]; rfl
  · rw [if_neg hc, if_neg hc]; rfl
theorem zc_steps {I : pd_I} {a : Nat} {cd : Nat → Nat} {n : Nat} (h : zCo I a cd) (hv : zCv cd) : fn_X0_steps I a (zn n) = some (zn (zst cd n)) := by
  have h4 : cd 0 ≤ 5 := hv.1
  unfold fn_X0_steps zst
  rw [h.1, h.2.1, zn_3, zi_eq (by omega) (by decide)]
  by_cases hc : cd 0 = 3
  · rw [if_pos hc, if_pos hc, zn_add]; rfl
  · rw [if_neg hc, if_neg hc]; rfl
theorem zc_stepsM {I : pd_I} {c : Nat} {cd : Nat → Nat} {n : Nat} (h : zCm I c cd) (hv : zCv cd) : fn_X12_steps I (zn c) (zn n) = some (zn (zst cd n)) := by
  have h4 : cd 0 ≤ 5 := hv.1
  obtain ⟨hc, e0, e1, e2, -⟩ := h
  unfold fn_X12_steps zst
  rw [zn_in hc (by decide), zb_gd, zb_gd, zn_nat (by omega), e0, e1, zn_3, zi_eq (by omega) (by decide)]
  by_cases hc : cd 0 = 3
  · rw [if_pos hc, if_pos hc, zn_add]; rfl
  · rw [if_neg hc, if_neg hc]; rfl
theorem zc_kbit : ∀ v < 128, ∀ o < 7, ((zn v >>> (zn o &&& zn 31)) &&& zn 1) = zn (v / 2 ^ o % 2) := by decide +kernel
theorem zmod_lt {t p : Nat} (h : 1 ≤ p) (h8 : p ≤ 8) : t % p < 8 := Nat.lt_of_lt_of_le (Nat.mod_lt _ h) h8
theorem zc_isSent {I : pd_I} {a : Nat} {cd : Nat → Nat} {t o : Nat} (h : zCo I a cd) (hv : zCv cd) (ht : t < 2000) (ho : o < 7) : fn_X0_isSent I a (zn t) (zn o) = some (zn (zse cd t o)) := by
  have hp1 : 1 ≤ cd 4 := hv.2.2.2.2.2.2.1
  have hp8 : cd 4 ≤ 8 := hv.2.2.2.2.2.2.2.1
  have hk : ∀ k, k < 8 → cd (11 + k) < 128 := hv.2.2.2.2.2.2.2.2.2.2.2
  have hcut := zc_isCut h hv
  obtain ⟨e0, -, -, -, e5, -, -, e8⟩ := h
  have hm := zmod_lt (t := t) hp1 hp8
  unfold fn_X0_isSent zse
  rw [hcut, zb_bd]
  by_cases hc : cd 0 < 2
  · have h2 : ¬ 2 ≤ cd 0 := by omega
    rw [if_pos hc, if_neg h2]; rfl
  · have h2 : 2 ≤ cd 0 := by omega
    rw [if_neg hc, if_pos h2, zn_0, if_neg zn_p0, e5, zn_ne0 hp1 (by omega), zb_gd, zn_mod (by omega) (by omega), zn_in hm (by decide), zb_gd, zn_nat (by omega), e8 _ hm, zn_31, zn_1, zc_kbit _ (hk _ hm) o ho]
    have h2 := Nat.mod_lt (cd (11 + t % cd 4) / 2 ^ o) (by decide : 2 > 0)
    rw [zi_eq (by omega) (by decide)]
    by_cases hb : cd (11 + t % cd 4) / 2 ^ o % 2 = 1
    · rw [if_pos hb, hb]; rfl
    · rw [if_neg hb, show cd (11 + t % cd 4) / 2 ^ o % 2 = 0 by omega]; rfl
theorem zc_isKept {I : pd_I} {c : Nat} {cd : Nat → Nat} {t o : Nat} (h : zCm I c cd) (hv : zCv cd) (ht : t < 2000) (ho : o < 7) : fn_X12_isKept I (zn c) (zn t) (zn o) = some (zn (zse cd t o)) := by
  have hp1 : 1 ≤ cd 4 := hv.2.2.2.2.2.2.1
  have hp8 : cd 4 ≤ 8 := hv.2.2.2.2.2.2.2.1
  have hk : ∀ k, k < 8 → cd (11 + k) < 128 := hv.2.2.2.2.2.2.2.2.2.2.2
  have h0 : cd 0 ≤ 5 := hv.1
  obtain ⟨hc, e0, -, -, -, e5, -, -, e8⟩ := h
  have hm := zmod_lt (t := t) hp1 hp8
  unfold fn_X12_isKept zse
  rw [zn_in hc (by decide), zb_gd, zb_gd, zn_nat (by omega), e0, e5, zn_2, zi_lt (by omega) (by decide)]
  by_cases hc2 : cd 0 < 2
  · rw [if_pos hc2, if_pos hc2]; rfl
  · rw [if_neg hc2, if_neg hc2, zn_0, zn_ne0 hp1 (by omega), zb_gd, zn_8, zn_mul, zn_mod (by omega) (by omega), zn_add, zn_in (by omega) (by decide), zb_gd, zn_nat (by omega), e8 _ hm, zn_31, zn_1, zc_kbit _ (hk _ hm) o ho]
    have h2 := Nat.mod_lt (cd (11 + t % cd 4) / 2 ^ o) (by decide : 2 > 0)
    rw [zi_eq (by omega) (by decide)]
    by_cases hb : cd (11 + t % cd 4) / 2 ^ o % 2 = 1
    · rw [if_pos hb, hb]; rfl
    · rw [if_neg hb, show cd (11 + t % cd 4) / 2 ^ o % 2 = 0 by omega]; rfl
/-! words -/
theorem zwo_lt {cd : Nat → Nat} {s x : Nat} (hx : x < 2) : ∀ k, zwo cd s x k < 2 ^ k
  | 0 => Nat.one_pos
  | k + 1 => by
    have h1 := zwo_lt (cd := cd) (s := s) hx k
    have h2 := zsg_lt (cd := cd) (s := s) (o := k) hx
    unfold zwo
    rw [Nat.pow_succ]
    have : zsg cd s x k * 2 ^ k ≤ 1 * 2 ^ k := Nat.mul_le_mul_right _ (by omega)
    omega
theorem zc_orw : ∀ k < 4, ∀ w < 2 ^ k, ∀ b < 2, zn w ||| (zn b <<< (zn k &&& zn 31)) = zn (w + b * 2 ^ k) := by decide +kernel
theorem zc_outsOf {I : pd_I} {a : Nat} {cd : Nat → Nat} {s x : Nat} (h : zCo I a cd) (hv : zCv cd) (hs : s < 64) (hx : x < 2) : fn_X0_outsOf I a (zn s) (zn x) = some (zn (zwo cd s x (cd 2))) := by
  have ht : ∀ o, o < 4 → cd (7 + o) < 128 := hv.2.2.2.2.2.2.2.2.2.2.1
  have h22 : 2 ≤ cd 2 := hv.2.2.2.1
  have h24 : cd 2 ≤ 4 := hv.2.2.2.2.1
  have hf := zc_isFed h hv
  have hfb := zc_fedBack (s := s) h hv
  obtain ⟨-, -, e2, -, -, -, e7, -⟩ := h
  have key : ∀ o, o < 4 → fn_X11_parity (zn (2 * s + (x ^^^ zfb cd s)) &&& I (a + 1) o) = some (zn (zpar ((2 * s + (x ^^^ zfb cd s)) &&& cd (7 + o)))) := fun o ho => by
    rw [e7 o ho, zn_and, zc_parO _ (zand_lt (ht o ho))]
  unfold fn_X0_outsOf
  rw [hfb, zb_bd, zb_let, hf, zb_bd, zn_1, zn_31, zn_shl1 s (by omega), zn_xor, zn_or, zc_or1 s hs _ (zxor_lt hx)]
  have hL : fl_X0_outsOf_39 a (zn (2 * s + (x ^^^ zfb cd s))) I (fun zx4 => some zx4) pd_FU (zn (zwo cd s x 1)) (zn 1) = some (zn (zwo cd s x (cd 2))) := by
    refine zl_eq (fun fu k (w : Int32) => fl_X0_outsOf_39 a (zn (2 * s + (x ^^^ zfb cd s))) I (fun zx4 => some zx4) fu w k) (cd 2) 1 (fun k => zn (zwo cd s x k)) _ (fun fu => ?_) (fun fu k hk1 hk => ?_) pd_FU 1 (by omega) (by omega) (zFU (by omega))
    · try simp only []
      rw [fl_X0_outsOf_39, e2, if_pos (by rw [zn_le (by omega) (by omega)]; omega)]
    · try simp only []
      rw [fl_X0_outsOf_39, e2, if_neg (by rw [zn_le (by omega) (by omega)]; omega), zn_in (by omega) (by decide), zb_gd, zn_nat (by omega), key k (by omega), zb_bd, zb_let, zb_let, zn_31, zc_orw k (by omega) _ (zwo_lt hx k) _ (zpar_lt _), zn_1, zn_add]
      congr 2
      show _ = zwo cd s x k + zsg cd s x k * 2 ^ k
      unfold zsg
      rw [if_neg (by omega)]
  have hz1 : zwo cd s x 1 = zsg cd s x 0 := by simp [zwo]
  rw [hz1] at hL
  by_cases hc : 1 ≤ cd 0
  · rw [if_pos hc, zn_0, if_neg zn_p0, zb_bd]
    rw [show zsg cd s x 0 = x by unfold zsg; rw [if_pos ⟨rfl, hc⟩]] at hL
    exact hL
  · rw [if_neg hc, zn_0, if_pos rfl, zn_in (by omega) (by decide), zb_gd, zn_nat (by omega), key 0 (by omega), zb_bd, zb_bd]
    rw [show zsg cd s x 0 = zpar ((2 * s + (x ^^^ zfb cd s)) &&& cd (7 + 0)) by unfold zsg; rw [if_neg (by omega)]] at hL
    exact hL
theorem zc_out {I : pd_I} {c : Nat} {cd : Nat → Nat} {s x o : Nat} (h : zCm I c cd) (hv : zCv cd) (hs : s < 64) (hx : x < 2) (ho : o < 4) : fn_X12_out I (zn c) (zn s) (zn x) (zn o) = some (zn (zsg cd s x o)) := by
  have ht : ∀ o, o < 4 → cd (7 + o) < 128 := hv.2.2.2.2.2.2.2.2.2.2.1
  have h0 : cd 0 ≤ 5 := hv.1
  have hfb := zc_fed (s := s) h hv
  obtain ⟨hc, e0, -, -, -, -, -, e7, -⟩ := h
  have key : fn_X12_parity ((zn 2 * zn s ||| (zn x ^^^ zn (zfb cd s))) &&& I 103 (4 * c + o)) = some (zn (zpar ((2 * s + (x ^^^ zfb cd s)) &&& cd (7 + o)))) := by
    rw [e7 o ho, zn_mul, zn_xor, zn_or, zc_or1 s hs _ (zxor_lt hx), zn_and, zc_parM _ (zand_lt (ht o ho))]
  have rest : (pd_bd (fn_X12_fed I (zn c) (zn s)) fun zr1 => pd_gd (pd_in ((zn 4 * zn c) + zn o) 48) (pd_bd (fn_X12_parity (((zn 2 * zn s) ||| (zn x ^^^ zr1)) &&& (I 103 ((zn 4 * zn c) + zn o).toNatClampNeg))) fun zr2 => some zr2)) = some (zn (zpar ((2 * s + (x ^^^ zfb cd s)) &&& cd (7 + o)))) := by
    rw [hfb, zb_bd, zn_mul, zn_add, zn_in (by omega) (by decide), zb_gd, zn_nat (by omega), key]
    rfl
  unfold fn_X12_out zsg
  rw [zn_0, zn_1, zn_2, zn_4, zi_eq (by omega) (by omega), zn_in hc (by decide), zb_gd, zn_nat (by omega), e0, zi_lt (by omega) (by omega)]
  by_cases ho0 : o = 0
  · rw [if_pos ho0]
    by_cases h1 : cd 0 < 1
    · rw [if_pos h1, zb_bd, if_neg (by decide), if_neg (by omega)]
      exact rest
    · rw [if_neg h1, zb_bd, if_pos rfl, if_pos (by omega)]
  · rw [if_neg ho0, zb_bd, if_neg (by decide), if_neg (by omega)]
    exact rest
/-! how many are sent -/
theorem zsn_le {cd : Nat → Nat} {t : Nat} : ∀ k, zsn cd t k ≤ k
  | 0 => Nat.le_refl 0
  | k + 1 => by
    have := zsn_le (cd := cd) (t := t) k
    have := zse_lt (cd := cd) (t := t) (o := k)
    unfold zsn; omega
theorem zsa_le {cd : Nat → Nat} (hv : zCv cd) : ∀ t, zsa cd t ≤ 7 * t
  | 0 => Nat.le_refl 0
  | t + 1 => by
    have := zsa_le hv t
    have := zsn_le (cd := cd) (t := t) (zwd cd)
    have := zwd_le hv
    unfold zsa; omega
theorem zc_b01 {b : Nat} (h : b < 2) : (if zn b = 0 then some (0 : Int32) else some 1) = some (zn b) := by
  rw [zn_0, zi_eq (by omega) (by omega)]
  by_cases hb : b = 0
  · rw [if_pos hb, hb]
  · rw [if_neg hb, show b = 1 by omega]; rfl
theorem zc_sentBy {I : pd_I} {a : Nat} {cd : Nat → Nat} {n : Nat} (h : zCo I a cd) (hv : zCv cd) (hn : n ≤ 1000) : fn_X0_sentBy I a (zn n) = some (zn (zsa cd (zst cd n))) := by
  have hw := zwd_le hv
  have hst := zst_le (n := n) hv
  have hin : ∀ (t acc : Nat), t < 1010 → ∀ kont : Int32 → Option Int32, fl_X0_sentBy_16 a (zn t) I kont pd_FU (zn acc) (zn 0) = kont (zn (acc + zsn cd t (zwd cd))) := fun t acc ht kont => by
    refine zl_eq (fun fu k (w : Int32) => fl_X0_sentBy_16 a (zn t) I kont fu w k) (zwd cd) 0 (fun k => zn (acc + zsn cd t k)) _ (fun fu => ?_) (fun fu k _ hk => ?_) pd_FU 0 (by omega) (by omega) (zFU (by omega))
    · try simp only []
      rw [fl_X0_sentBy_16, zc_width h hv, zb_bd, if_pos (by rw [zn_le (by omega) (by omega)]; omega)]
    · try simp only []
      rw [fl_X0_sentBy_16, zc_width h hv, zb_bd, if_neg (by rw [zn_le (by omega) (by omega)]; omega), zc_isSent h hv (by omega) (by omega), zb_bd, zc_b01 zse_lt, zb_bd, zb_let, zb_let, zn_1, zn_add, zn_add, Nat.add_assoc]
      rfl
  unfold fn_X0_sentBy
  refine zl_eq (fun fu k (w : Int32) => fl_X0_sentBy_4 a (zn n) I (fun zx3 => some zx3) fu w k) (zst cd n) 0 (fun k => zn (zsa cd k)) _ (fun fu => ?_) (fun fu k _ hk => ?_) pd_FU 0 (by omega) (by omega) (zFU (by omega))
  · try simp only []
    rw [fl_X0_sentBy_4, zc_steps h hv, zb_bd, if_pos (by rw [zn_le (by omega) (by omega)]; omega)]
  · try simp only []
    rw [fl_X0_sentBy_4, zc_steps h hv, zb_bd, if_neg (by rw [zn_le (by omega) (by omega)]; omega), zn_0, hin k _ (by omega), zb_let, zn_1, zn_add]
    rfl
theorem zc_sends {I : pd_I} {c : Nat} {cd : Nat → Nat} {t : Nat} (h : zCm I c cd) (hv : zCv cd) (ht : t < 2000) : fn_X12_sends I (zn c) (zn t) = some (zn (zsn cd t (zwd cd))) := by
  have hw := zwd_le hv
  unfold fn_X12_sends
  refine zl_eq (fun fu k (w : Int32) => fl_X12_sends_5 (zn c) (zn t) I (fun zx3 => some zx3) fu w k) (zwd cd) 0 (fun k => zn (zsn cd t k)) _ (fun fu => ?_) (fun fu k _ hk => ?_) pd_FU 0 (by omega) (by omega) (zFU (by omega))
  · try simp only []
    rw [fl_X12_sends_5, zc_wide h hv, zb_bd, if_pos (by rw [zn_le (by omega) (by omega)]; omega)]
  · try simp only []
    rw [fl_X12_sends_5, zc_wide h hv, zb_bd, if_neg (by rw [zn_le (by omega) (by omega)]; omega), zc_isKept h hv ht (by omega), zb_bd, zc_b01 zse_lt, zb_bd, zb_let, zb_let, zn_1, zn_add, zn_add]
    rfl
theorem zc_sentAhead {I : pd_I} {c : Nat} {cd : Nat → Nat} {t : Nat} (h : zCm I c cd) (hv : zCv cd) (ht : t < 2000) : fn_X12_sentAhead I (zn c) (zn t) = some (zn (zsa cd t)) := by
  unfold fn_X12_sentAhead
  refine zl_eq (fun fu k (w : Int32) => fl_X12_sentAhead_5 (zn c) (zn t) I (fun zx3 => some zx3) fu w k) t 0 (fun k => zn (zsa cd k)) _ (fun fu => ?_) (fun fu k _ hk => ?_) pd_FU 0 (by omega) (by omega) (zFU (by omega))
  · try simp only []
    rw [fl_X12_sentAhead_5, if_pos (by rw [zn_le (by omega) (by omega)]; omega)]
  · try simp only []
    rw [fl_X12_sentAhead_5, if_neg (by rw [zn_le (by omega) (by omega)]; omega), zc_sends h hv (by omega), zb_bd, zb_let, zb_let, zn_1, zn_add, zn_add]
    rfl
theorem zc_orderOf {I : pd_I} {a : Nat} {cd : Nat → Nat} {t n : Nat} (h : zCo I a cd) (hv : zCv cd) (ht : t < 2000) (hn : 1 ≤ n) (hn2 : n ≤ 200) : fn_X0_orderOf I a (zn t) (zn n) = some (zn (t * cd 5 % n)) := by
  have h5 : cd 5 ≤ 199 := hv.2.2.2.2.2.2.2.2.2.1
  obtain ⟨-, -, -, -, -, e6, -⟩ := h
  have hm : t * cd 5 ≤ 2000 * 199 := Nat.mul_le_mul (by omega) h5
  unfold fn_X0_orderOf
  rw [zn_0, zn_ne0 (by omega) (by omega), zb_gd, e6, zn_mul, zn_mod (by omega) (by omega)]
theorem zc_order {I : pd_I} {c : Nat} {cd : Nat → Nat} {t n : Nat} (h : zCm I c cd) (hv : zCv cd) (ht : t < 2000) (hn : 1 ≤ n) (hn2 : n ≤ 200) : fn_X12_order I (zn c) (zn n) (zn t) = some (zn (t * cd 5 % n)) := by
  have h5 : cd 5 ≤ 199 := hv.2.2.2.2.2.2.2.2.2.1
  obtain ⟨hc, -, -, -, -, -, e6, -⟩ := h
  have hm : t * cd 5 ≤ 2000 * 199 := Nat.mul_le_mul (by omega) h5
  unfold fn_X12_order
  rw [zn_in hc (by decide), zb_gd, zn_0, zn_ne0 (by omega) (by omega), zb_gd, zn_nat (by omega), e6, zn_mul, zn_mod (by omega) (by omega)]
