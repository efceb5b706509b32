/-! sent; the class's write; costs -/
theorem zq_sent {I : pd_I} {k n b o : Nat} {cd x : Nat → Nat} (h : zCm I k cd) (hv : zCv cd) (hn1 : 1 ≤ n) (hn : n ≤ 200) (hx : ∀ t, x t < 2) (hI : ∀ t, t < n → I 120 t = zn (x t)) (hB : zBe cd x n b) (hO : fn_X12_isOrder I (zn k) (zn n) = some (zn o)) (ho : cd 0 = 5 → o = 1) : zT (fn_X12_sent I (zn k) (zn n)) (fun r => r.1 = zn (zsa cd (zst cd n)) ∧ zF [119] I r.2 ∧ ∀ i, i < zsa cd (zst cd n) → r.2 119 i = zn (zsq cd (zgo cd x n b) (zst cd n) i)) := by
  have hS := zCv_S hv
  have v0 := hv.1
  have hb := zBe_lt hv hB
  have hin := zn_in2 (show k < 12 from h.1) (by have := h.1; omega)
  have hna := zn_nat (show k < 2147483648 by have := h.1; omega)
  have e5 : (if I 97 k = 5 then pd_bd (fn_X12_isOrder I (zn k) (zn n)) fun zr10 => if zr10 = 0 then some true else some false else some false) = some false := by
    rw [h.2.1, zn_5, zi_eq (by omega) (by omega)]
    by_cases c : cd 0 = 5
    · rw [if_pos c, hO, ho c, zb_bd, if_neg (show ¬ zn 1 = 0 from zn_p0)]
    · rw [if_neg c]
  have hsh : (1 : Int32) <<< (I 98 k &&& 31) = zn (2 ^ cd 1) := by rw [h.2.2.1, zn_1, zn_31, zn_1shl _ (by have := hv.2.2.1; omega)]
  have fin := zq_sent85 h hv hn1 hn hb hx hI
  unfold fn_X12_sent
  rw [hin, zb_gd, zb_jn, hna]
  have e97 : (I 97 k = 4) = (cd 0 = 4) := by rw [h.2.1, zn_4, zn_eq (by omega) (by omega)]
  rcases hB with ⟨c, rfl⟩ | ⟨c, h1, h2, h3⟩
  · rw [if_neg (by rw [e97]; exact c)]
    simp only []
    rw [zb_gd, e5, zb_bd, if_neg (by decide)]
    exact fin
  · rw [if_pos (by rw [e97]; exact c), zn_0, zq_sent12 h hv hn hx hI (by omega) h3 (fun _ => h2)]
    simp only []
    rw [zn_0] at e5
    rw [zb_gd, hsh, zi_eq (by omega) (by omega), if_neg (by omega), zb_gd, e5, zb_bd, if_neg (by decide)]
    exact fin
theorem zq_sent0 {I : pd_I} {k n o : Nat} {cd x : Nat → Nat} (h : zCm I k cd) (hv : zCv cd) (hn : n ≤ 200) (hx : ∀ t, x t < 2) (hI : ∀ t, t < n → I 120 t = zn (x t)) (hO : fn_X12_isOrder I (zn k) (zn n) = some (zn o)) (hB : zBn cd x n ∨ cd 0 = 5 ∧ o = 0) : fn_X12_sent I (zn k) (zn n) = some (-1, I) := by
  have hS := zCv_S hv
  have v0 := hv.1
  have hin := zn_in2 (show k < 12 from h.1) (by have := h.1; omega)
  have hna := zn_nat (show k < 2147483648 by have := h.1; omega)
  have hsh : (1 : Int32) <<< (I 98 k &&& 31) = zn (2 ^ cd 1) := by rw [h.2.2.1, zn_1, zn_31, zn_1shl _ (by have := hv.2.2.1; omega)]
  have e97 : (I 97 k = 4) = (cd 0 = 4) := by rw [h.2.1, zn_4, zn_eq (by omega) (by omega)]
  have e95 : (I 97 k = 5) = (cd 0 = 5) := by rw [h.2.1, zn_5, zn_eq (by omega) (by omega)]
  unfold fn_X12_sent
  rw [hin, zb_gd, zb_jn, hna]
  rcases hB with ⟨c, h1⟩ | ⟨c, ho⟩
  · rw [if_pos (by rw [e97]; exact c), zn_0, zq_sent12 (b := 2 ^ cd 1) h hv hn hx hI (Nat.le_refl _) h1 (fun hh => absurd hh (Nat.lt_irrefl _))]
    simp only []
    rw [zb_gd, hsh, if_pos rfl]
  · rw [if_neg (by rw [e97]; omega)]
    simp only []
    rw [zb_gd, if_pos (by rw [e95]; exact c), hO, ho, zb_bd, if_pos (show zn 0 = 0 from rfl), zb_bd, if_pos rfl]
def zvv (s : Nat) : Int32 := if s = 0 then 16 else -16
theorem zvv_mk (s : Nat) : zmk (zvv s) := by
  unfold zvv
  by_cases c : s = 0
  · rw [if_pos c]; exact ⟨48, by omega, by decide⟩
  · rw [if_neg c]; exact ⟨16, by omega, by decide⟩
theorem zq_write19 {O : Type} {Q : O → Prop} {I : pd_I} {a b t n : Nat} {cd : Nat → Nat} {g : Nat → Nat → Nat} {kont : Int32 → pd_I → Option O} (ha : 133 ≤ a) (hb : 60 ≤ b) (hb2 : b < 92) (h : zCo I a cd) (hv : zCv cd) (hn : n ≤ 200) (ht : t < zst cd n) (h6 : zsa cd (zst cd n) ≤ 600) (e : I b 1 = zn (zsa cd (zst cd n))) (hg : ∀ o, o < zwd cd → I 5 (t * 7 + o) = zn (g t o) ∧ g t o < 2) (hI : ∀ i, i < zsa cd t → I (b + 1) i = zvv (zsq cd g t i)) (hK : ∀ I', zF [b + 1] I I' → (∀ i, i < zsa cd (t + 1) → I' (b + 1) i = zvv (zsq cd g (t + 1) i)) → zT (kont (zn (zsa cd (t + 1))) I') Q) : zT (fl_X2_write_19 a b (zn t) kont pd_FU (zn (zsa cd t)) (zn 0) I) Q := by
  have hst := zst_le (n := n) hv
  have hwd := zwd_le hv
  refine zl_loop (fun fu j (s' : Int32 × pd_I) => fl_X2_write_19 a b (zn t) kont fu s'.1 j s'.2) (zwd cd) (fun j s' => s'.1 = zn (zsa cd t + zsn cd t j) ∧ zF [b + 1] I s'.2 ∧ ∀ i, i < zsa cd t + zsn cd t j → s'.2 (b + 1) i = zvv (zsk cd g t (zsq cd g t) j i)) ?_ ?_ pd_FU 0 (zn (zsa cd t), I) (by omega) (zFU (by omega)) ⟨rfl, zF_rfl, hI⟩
  · rintro fu ⟨c, I'⟩ ⟨rfl, h1, h2⟩
    try simp only [] at h1 h2 ⊢
    have hcd := zCo_F (by simp; omega) ha h1 h
    rw [fl_X2_write_19, zc_width hcd hv, zb_bd, if_pos (Int32.le_refl _)]
    exact hK I' h1 h2
  · rintro fu j ⟨c, I'⟩ hj ⟨rfl, h1, h2⟩ ih
    try simp only [] at h1 h2 ih ⊢
    have hcd := zCo_F (by simp; omega) ha h1 h
    have hse := zse_lt (cd := cd) (t := t) (o := j)
    have hpl := zpl ht hj
    rw [zsn_S] at hpl
    have e' : I' b 1 = zn (zsa cd (zst cd n)) := by rw [h1 b (by simp), e]
    obtain ⟨g1, g2⟩ := hg j hj
    rw [fl_X2_write_19, zc_width hcd hv, zb_bd, zi_le (by omega) (by omega), if_neg (by omega), zc_isSent hcd hv (by omega) (by omega), zb_bd]
    by_cases c : zse cd t j = 1
    · have ev : (if I' 5 (t * 7 + j) = 0 then some (16 : Int32) else some (-16)) = some (zvv (g t j)) := by
        unfold zvv
        rw [h1 5 (by simp; omega), g1, zn_0, zi_eq (by omega) (by omega)]
        by_cases d : g t j = 0
        · rw [if_pos d, if_pos d]
        · rw [if_neg d, if_neg d]
      rw [c, if_neg (show ¬ zn 1 = 0 from zn_p0), zn_7, zn_mul, zn_add, zn_in2 (show t * 7 + j < 1442 by omega) (by omega), zb_gd, zn_nat (by omega), ev, zb_bd, zr_change e' h6 (show zsa cd t + zsn cd t j < zsa cd (zst cd n) by omega) (zvv_mk _), zb_bd, zb_let, zb_bd2, zb_let, zn_1, zn_add, zn_add]
      refine ih (zn (zsa cd t + zsn cd t j + 1), pd_ui I' (b + 1) (zsa cd t + zsn cd t j) (zvv (g t j))) ⟨by rw [zsn_S, c]; rfl, zF_u (by simp) h1, fun i hi => ?_⟩
      show pd_ui I' (b + 1) (zsa cd t + zsn cd t j) (zvv (g t j)) (b + 1) i = _
      rw [zsn_S, c] at hi
      rw [zsk_1 c, zu_same, zu_app]
      by_cases d : i = zsa cd t + zsn cd t j
      · rw [if_pos d, if_pos d]
      · rw [if_neg d, if_neg d]; exact h2 i (by omega)
    · have c0 : zse cd t j = 0 := by omega
      rw [c0, if_pos (show zn 0 = 0 from rfl), zb_bd2, zb_let, zn_1, zn_add]
      refine ih (zn (zsa cd t + zsn cd t j), I') ⟨by rw [zsn_S, c0]; rfl, h1, fun i hi => ?_⟩
      show I' (b + 1) i = _
      rw [zsn_S, c0] at hi
      rw [zsk_0 c]
      exact h2 i (by omega)
theorem zq_write {I : pd_I} {a b n : Nat} {cd : Nat → Nat} {g : Nat → Nat → Nat} (ha : 133 ≤ a) (hb : 60 ≤ b) (hb2 : b < 92) (h : zCo I a cd) (hv : zCv cd) (hn : n ≤ 200) (h6 : zsa cd (zst cd n) ≤ 600) (e : I b 1 = zn (zsa cd (zst cd n))) (hg : ∀ t, t < zst cd n → ∀ o, o < zwd cd → I 5 (t * 7 + o) = zn (g t o) ∧ g t o < 2) : zT (fn_X2_write I a (zn n) b) (fun I' => zF [b + 1] I I' ∧ ∀ i, i < zsa cd (zst cd n) → I' (b + 1) i = zvv (zsq cd g (zst cd n) i)) := by
  have hst := zst_le (n := n) hv
  unfold fn_X2_write
  refine zl_loop (fun fu j (s' : Int32 × pd_I) => fl_X2_write_6 a (zn n) b (fun zI2 => some zI2) fu s'.1 j s'.2) (zst cd n) (fun j s' => s'.1 = zn (zsa cd j) ∧ zF [b + 1] I s'.2 ∧ ∀ i, i < zsa cd j → s'.2 (b + 1) i = zvv (zsq cd g j i)) ?_ ?_ pd_FU 0 (zn 0, I) (by omega) (zFU (by omega)) ⟨rfl, zF_rfl, fun i hi => absurd hi (Nat.not_lt_zero i)⟩
  · rintro fu ⟨c, I'⟩ ⟨rfl, h1, h2⟩
    try simp only [] at h1 h2 ⊢
    rw [fl_X2_write_6, zc_steps (zCo_F (by simp; omega) ha h1 h) hv, zb_bd, if_pos (Int32.le_refl _)]
    exact ⟨_, rfl, h1, h2⟩
  · rintro fu j ⟨c, I'⟩ hj ⟨rfl, h1, h2⟩ ih
    try simp only [] at h1 h2 ih ⊢
    have hcd := zCo_F (by simp; omega) ha h1 h
    rw [fl_X2_write_6, zc_steps hcd hv, zb_bd, zi_le (by omega) (by omega), if_neg (by omega)]
    refine zq_write19 (n := n) (g := g) ha hb hb2 hcd hv hn hj h6 (by rw [h1 b (by simp), e]) (fun o ho => by rw [h1 5 (by simp; omega)]; exact hg j hj o ho) h2 (fun I2 f1 f2 => ?_)
    rw [zb_let, zn_1, zn_add]
    exact ih (zn (zsa cd (j + 1)), I2) ⟨rfl, zF_tr h1 f1, f2⟩
/-! what a message costs -/
def zcw (cd : Nat → Nat) (mc : Nat → Nat → Nat) (g : Nat → Nat → Nat) (t : Nat) : Nat → Nat
  | 0 => 0
  | k + 1 => zcw cd mc g t k + zrc cd mc (g t k) t k
def zcx (cd : Nat → Nat) (mc : Nat → Nat → Nat) (g : Nat → Nat → Nat) : Nat → Nat
  | 0 => 0
  | t + 1 => zcx cd mc g t + zcw cd mc g t (zwd cd)
def zcy (F : Nat → Nat) : Nat → Nat
  | 0 => 0
  | i + 1 => zcy F i + F i
theorem zcy_c {F G : Nat → Nat} : ∀ n, (∀ i, i < n → F i = G i) → zcy F n = zcy G n
  | 0, _ => rfl
  | n + 1, h => by
    show zcy F n + F n = zcy G n + G n
    rw [zcy_c n (fun i hi => h i (by omega)), h n (by omega)]
theorem zcw_y {cd : Nat → Nat} {mc : Nat → Nat → Nat} {g : Nat → Nat → Nat} {t : Nat} (h : zcx cd mc g t = zcy (fun i => mc (zsq cd g t i) i) (zsa cd t)) : ∀ k, zcx cd mc g t + zcw cd mc g t k = zcy (fun i => mc (zsk cd g t (zsq cd g t) k i) i) (zsa cd t + zsn cd t k)
  | 0 => h
  | k + 1 => by
    have hse := zse_lt (cd := cd) (t := t) (o := k)
    have ih := zcw_y h k
    show zcx cd mc g t + (zcw cd mc g t k + zrc cd mc (g t k) t k) = _
    rw [← Nat.add_assoc, ih, zsn_S]
    by_cases c : zse cd t k = 1
    · rw [c, ← Nat.add_assoc]
      show _ = zcy _ (zsa cd t + zsn cd t k) + mc (zsk cd g t (zsq cd g t) (k + 1) (zsa cd t + zsn cd t k)) (zsa cd t + zsn cd t k)
      rw [zsk_1 c, if_pos rfl]
      unfold zrc
      rw [if_pos c]
      congr 1
      refine zcy_c _ (fun i hi => ?_)
      show mc (zsk cd g t (zsq cd g t) k i) i = mc (zsk cd g t (zsq cd g t) (k + 1) i) i
      rw [zsk_1 c, if_neg (by omega)]
    · rw [show zse cd t k = 0 by omega, Nat.add_zero]
      unfold zrc
      rw [if_neg c, Nat.add_zero]
      refine zcy_c _ (fun i hi => ?_)
      show mc (zsk cd g t (zsq cd g t) k i) i = mc (zsk cd g t (zsq cd g t) (k + 1) i) i
      rw [zsk_0 c]
theorem zcx_y {cd : Nat → Nat} {mc : Nat → Nat → Nat} {g : Nat → Nat → Nat} : ∀ t, zcx cd mc g t = zcy (fun i => mc (zsq cd g t i) i) (zsa cd t)
  | 0 => rfl
  | t + 1 => zcw_y (zcx_y t) (zwd cd)
theorem zq_cost19 {O : Type} {I : pd_I} {a t n acc : Nat} {cd : Nat → Nat} {mc g : Nat → Nat → Nat} {kont : Int32 → Option O} (h : zCo I a cd) (hv : zCv cd) (hn : n ≤ 200) (ht : t < zst cd n) (hD : zRD I cd mc (zst cd n) 0) (hg : ∀ o, o < zwd cd → I 5 (t * 7 + o) = zn (g t o) ∧ g t o < 2) : fl_X3_costOf_19 a (zn t) I kont pd_FU (zn acc) (zn 0) = kont (zn (acc + zcw cd mc g t (zwd cd))) := by
  have hst := zst_le (n := n) hv
  have hwd := zwd_le hv
  refine zl_eq (fun fu k (w : Int32) => fl_X3_costOf_19 a (zn t) I kont fu w k) (zwd cd) 0 (fun k => zn (acc + zcw cd mc g t k)) _ (fun fu => ?_) (fun fu k _ hk => ?_) pd_FU 0 (by omega) (by omega) (zFU (by omega))
  · try simp only []
    rw [fl_X3_costOf_19, zc_width h hv, zb_bd, if_pos (Int32.le_refl _)]
  · try simp only []
    obtain ⟨g1, g2⟩ := hg k hk
    obtain ⟨d1, d2⟩ := hD t k hk (Or.inl ht)
    have ev : (if I 5 (t * 7 + k) = 0 then some (I 9 (t * 7 + k)) else some (I 10 (t * 7 + k))) = some (zn (zrc cd mc (g t k) t k)) := by
      rw [g1, d1, d2, zn_0, zi_eq (by omega) (by omega)]
      by_cases d : g t k = 0
      · rw [if_pos d, d]
      · rw [if_neg d, show g t k = 1 by omega]
    rw [fl_X3_costOf_19, zc_width h hv, zb_bd, zi_le (by omega) (by omega), if_neg (by omega), zn_7, zn_mul, zn_add, zb_let, zn_in2 (show t * 7 + k < 1442 by omega) (by omega), zb_gd, zb_gd, zb_gd, zn_nat (by omega), ev, zb_bd, zb_let, zb_let, zn_1, zn_add, zn_add, Nat.add_assoc]
    rfl
theorem zq_costOf {I : pd_I} {a n : Nat} {cd : Nat → Nat} {mc g : Nat → Nat → Nat} (h : zCo I a cd) (hv : zCv cd) (hn : n ≤ 200) (hD : zRD I cd mc (zst cd n) 0) (hg : ∀ t, t < zst cd n → ∀ o, o < zwd cd → I 5 (t * 7 + o) = zn (g t o) ∧ g t o < 2) : fn_X3_costOf I a (zn n) = some (zn (zcx cd mc g (zst cd n))) := by
  have hst := zst_le (n := n) hv
  unfold fn_X3_costOf
  refine zl_eq (fun fu k (w : Int32) => fl_X3_costOf_6 a (zn n) I (fun zx3 => some zx3) fu w k) (zst cd n) 0 (fun k => zn (zcx cd mc g k)) _ (fun fu => ?_) (fun fu k _ hk => ?_) pd_FU 0 (by omega) (by omega) (zFU (by omega))
  · try simp only []
    rw [fl_X3_costOf_6, zc_steps h hv, zb_bd, if_pos (Int32.le_refl _)]
  · try simp only []
    rw [fl_X3_costOf_6, zc_steps h hv, zb_bd, zi_le (by omega) (by omega), if_neg (by omega), zn_0, zq_cost19 h hv hn hk hD (hg k hk), zb_let, zn_1, zn_add]
    rfl
theorem zq_markCost {I : pd_I} {r m i b : Nat} {f : Nat → Nat} {T : Nat → Nat → Nat} (h : zRom I r m f) (hT : zTam I T) (hi : i < 2147483648) (hb : b < 2) : fn_X12_markCost I (zn r) (zn i) (zn b) = some (zn (zmc m f T b i)) := by
  obtain ⟨hr, k1, k2, k3⟩ := h
  unfold fn_X12_markCost zmc
  rw [zn_in2 hr (by omega), zb_gd, zn_nat (show r < 2147483648 by omega)]
  by_cases c : i < m
  · obtain ⟨e1, e2⟩ := k3 i c
    obtain ⟨t0, t1, -⟩ := hT (f i) e2
    have em : I 93 r = zn m := by
      rcases k1 with e | ⟨-, e⟩
      · exact e
      · omega
    rw [em, zi_lt (by omega) (by omega), if_pos c, if_pos c, zn_600, zn_mul, zn_add, zn_in2 (show 600 * r + i < 9600 by omega) (by omega), zb_gd, zn_nat (by omega), e1, zb_let, zn_in2 e2 (by omega), zb_gd, zb_gd, zn_nat (by omega), t0, t1, zn_1, zi_eq (by omega) (by omega)]
    by_cases d : b = 1
    · rw [if_pos d, zb_bd, d]
    · rw [if_neg d, zb_bd, show b = 0 by omega]
  · rw [if_neg c]
    rcases k1 with e | ⟨e, -⟩
    · rw [e, zi_lt (by omega) (by omega), if_neg c]; rfl
    · rw [e, if_neg (fun hh => Int32.lt_irrefl (Int32.lt_trans hh (zn_m1 hi)))]; rfl
theorem zq_cost66 {O : Type} {I : pd_I} {r m N : Nat} {f g : Nat → Nat} {T : Nat → Nat → Nat} {kont : Int32 → Option O} (h : zRom I r m f) (hT : zTam I T) (hN : N ≤ 1400) (hg : ∀ i, i < N → I 119 i = zn (g i) ∧ g i < 2) : fl_X12_cost_66 (zn r) (zn N) I kont pd_FU (zn 0) (zn 0) = kont (zn (zcy (fun i => zmc m f T (g i) i) N)) := by
  refine zl_eq (fun fu k (w : Int32) => fl_X12_cost_66 (zn r) (zn N) I kont fu w k) N 0 (fun k => zn (zcy (fun i => zmc m f T (g i) i) k)) _ (fun fu => ?_) (fun fu k _ hk => ?_) pd_FU 0 (by omega) (by omega) (zFU (by omega))
  · try simp only []
    rw [fl_X12_cost_66, if_pos (Int32.le_refl _)]
  · try simp only []
    obtain ⟨g1, g2⟩ := hg k hk
    rw [fl_X12_cost_66, zi_le (by omega) (by omega), if_neg (by omega), zn_in2 (show k < 1400 by omega) (by omega), zb_gd, zn_nat (by omega), g1, zq_markCost h hT (by omega) g2, zb_bd, zb_let, zb_let, zn_1, zn_add, zn_add]
    rfl
theorem zsk_lt {cd f : Nat → Nat} {g : Nat → Nat → Nat} {t i : Nat} (hg : ∀ t o, g t o < 2) (hf : f i < 2) : ∀ k, zsk cd g t f k i < 2
  | 0 => hf
  | k + 1 => by
    show (if _ then _ else _) < 2
    split
    · exact hg _ _
    · exact zsk_lt hg hf k
theorem zsq_lt {cd : Nat → Nat} {g : Nat → Nat → Nat} {i : Nat} (hg : ∀ t o, g t o < 2) : ∀ t, zsq cd g t i < 2
  | 0 => by show 0 < 2; omega
  | t + 1 => zsk_lt hg (zsq_lt hg t) _
