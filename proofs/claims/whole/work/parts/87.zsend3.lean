/-! the signs that are sent, one behind the other -/
def zsk (cd : Nat → Nat) (g : Nat → Nat → Nat) (t : Nat) (f : Nat → Nat) : Nat → Nat → Nat
  | 0 => f
  | k + 1 => fun i => if zse cd t k = 1 ∧ i = zsa cd t + zsn cd t k then g t k else zsk cd g t f k i
def zsq (cd : Nat → Nat) (g : Nat → Nat → Nat) : Nat → Nat → Nat
  | 0 => fun _ => 0
  | t + 1 => zsk cd g t (zsq cd g t) (zwd cd)
theorem zsk_1 {cd f : Nat → Nat} {g : Nat → Nat → Nat} {t k i : Nat} (h : zse cd t k = 1) : zsk cd g t f (k + 1) i = if i = zsa cd t + zsn cd t k then g t k else zsk cd g t f k i := by
  show (if zse cd t k = 1 ∧ i = zsa cd t + zsn cd t k then g t k else zsk cd g t f k i) = _
  by_cases c : i = zsa cd t + zsn cd t k
  · rw [if_pos c, if_pos ⟨h, c⟩]
  · rw [if_neg c, if_neg (fun x => c x.2)]
theorem zsk_0 {cd f : Nat → Nat} {g : Nat → Nat → Nat} {t k i : Nat} (h : ¬ zse cd t k = 1) : zsk cd g t f (k + 1) i = zsk cd g t f k i := if_neg (fun x => h x.1)
theorem zsn_S {cd : Nat → Nat} {t k : Nat} : zsn cd t (k + 1) = zsn cd t k + zse cd t k := rfl
theorem zsa_S {cd : Nat → Nat} {t : Nat} : zsa cd (t + 1) = zsa cd t + zsn cd t (zwd cd) := rfl
theorem zsa_w {cd : Nat → Nat} : ∀ t, zsa cd t ≤ zwd cd * t
  | 0 => Nat.le_refl 0
  | t + 1 => by
    have := zsa_w (cd := cd) t
    have := zsn_le (cd := cd) (t := t) (zwd cd)
    rw [zsa_S, Nat.mul_succ]
    omega
theorem zsn_mono {cd : Nat → Nat} {t k : Nat} : ∀ d, zsn cd t k ≤ zsn cd t (k + d)
  | 0 => Nat.le_refl _
  | d + 1 => by
    have := zsn_mono (cd := cd) (t := t) (k := k) d
    rw [← Nat.add_assoc, zsn_S]
    omega
theorem zsa_mono {cd : Nat → Nat} {t : Nat} : ∀ d, zsa cd t ≤ zsa cd (t + d)
  | 0 => Nat.le_refl _
  | d + 1 => by
    have := zsa_mono (cd := cd) (t := t) d
    rw [← Nat.add_assoc, zsa_S]
    omega
theorem zpl {cd : Nat → Nat} {t T k : Nat} (ht : t < T) (hk : k < zwd cd) : zsa cd t + zsn cd t (k + 1) ≤ zsa cd T := by
  have h1 := zsn_mono (cd := cd) (t := t) (k := k + 1) (zwd cd - (k + 1))
  rw [show k + 1 + (zwd cd - (k + 1)) = zwd cd by omega] at h1
  have h2 := zsa_mono (cd := cd) (t := t + 1) (T - (t + 1))
  rw [show t + 1 + (T - (t + 1)) = T by omega, zsa_S] at h2
  omega
theorem zpl_B {cd : Nat → Nat} {n : Nat} (hv : zCv cd) (hn : n ≤ 200) : zsa cd (zst cd n) ≤ 1400 := by
  have h := zsa_w (cd := cd) (zst cd n)
  have h24 := hv.2.2.2.2.1
  have h16 := hv.2.2.1
  by_cases c : cd 0 = 5
  · have e1 : zst cd n = n := by unfold zst; rw [if_neg (by omega)]
    have e2 : zwd cd ≤ 7 := (zwd_le hv).2.1
    have := Nat.mul_le_mul e2 (show zst cd n ≤ 200 by omega)
    omega
  · have e1 := zst_le (n := n) hv
    have e2 : zwd cd ≤ 4 := by unfold zwd; rw [if_neg c]; exact h24
    have := Nat.mul_le_mul e2 (show zst cd n ≤ 206 by omega)
    omega
/-- one sign of the reference -/
theorem zq_sent123 {O : Type} {Q : O → Prop} {I : pd_I} {k s t xx n : Nat} {cd : Nat → Nat} {g : Nat → Nat → Nat} {kont : Int32 → pd_I → Option O} (h : zCm I k cd) (hv : zCv cd) (hn : n ≤ 200) (ht : t < zst cd n) (hs : s < 64) (hxx : xx < 2) (hg : ∀ o, o < cd 2 → g t o = zsg cd s xx o) (hI : ∀ i, i < zsa cd t → I 119 i = zn (zsq cd g t i)) (hK : ∀ I', zF [119] I I' → (∀ i, i < zsa cd t + zsn cd t (cd 2) → I' 119 i = zn (zsk cd g t (zsq cd g t) (cd 2) i)) → zT (kont (zn (zsa cd t + zsn cd t (cd 2))) I') Q) : zT (fl_X12_sent_123 (zn k) (zn s) (zn t) (zn xx) kont pd_FU (zn (zsa cd t)) (zn 0) I) Q := by
  have hst := zst_le (n := n) hv
  have h24 := hv.2.2.2.2.1
  have hwd := zwd_le hv
  have hB := zpl_B hv hn
  refine zl_loop (fun fu j (s' : Int32 × pd_I) => fl_X12_sent_123 (zn k) (zn s) (zn t) (zn xx) kont fu s'.1 j s'.2) (cd 2) (fun j s' => s'.1 = zn (zsa cd t + zsn cd t j) ∧ zF [119] I s'.2 ∧ ∀ i, i < zsa cd t + zsn cd t j → s'.2 119 i = zn (zsk cd g t (zsq cd g t) j i)) ?_ ?_ pd_FU 0 (zn (zsa cd t), I) (by omega) (zFU (by omega)) ⟨rfl, zF_rfl, hI⟩
  · rintro fu ⟨c, I'⟩ ⟨rfl, h1, h2⟩
    try simp only [] at h1 h2 ⊢
    have hcd := zCm_F (by decide) h1 h
    rw [fl_X12_sent_123, zn_in2 (show k < 12 from h.1) (by have := h.1; omega), zb_gd, zn_nat (by have := h.1; omega), hcd.2.2.2.1, if_pos (Int32.le_refl _)]
    exact hK I' h1 h2
  · rintro fu j ⟨c, I'⟩ hj ⟨rfl, h1, h2⟩ ih
    try simp only [] at h1 h2 ih ⊢
    have hcd := zCm_F (by decide) h1 h
    have hse := zse_lt (cd := cd) (t := t) (o := j)
    have hpl := zpl ht (show j < zwd cd by omega)
    rw [zsn_S] at hpl
    rw [fl_X12_sent_123, zn_in2 (show k < 12 from h.1) (by have := h.1; omega), zb_gd, zn_nat (by have := h.1; omega), hcd.2.2.2.1, zi_le (by omega) (by omega), if_neg (by omega), zc_isKept hcd hv (by omega) (by omega), zb_bd]
    by_cases c : zse cd t j = 1
    · rw [c, if_neg (show ¬ zn 1 = 0 from zn_p0), zc_out hcd hv hs hxx (by omega), zb_bd, zn_in2 (show zsa cd t + zsn cd t j < 1400 by omega) (by omega), zb_gd, zn_nat (by omega), zb_let, zb_let, zb_bd2, zb_let, zn_1, zn_add, zn_add]
      refine ih (zn (zsa cd t + zsn cd t j + 1), pd_ui I' 119 (zsa cd t + zsn cd t j) (zn (zsg cd s xx j))) ⟨by rw [zsn_S, c]; rfl, zF_u (by simp) h1, fun i hi => ?_⟩
      show pd_ui I' 119 (zsa cd t + zsn cd t j) (zn (zsg cd s xx j)) 119 i = _
      rw [zsn_S, c] at hi
      rw [zsk_1 c, zu_same, zu_app]
      by_cases d : i = zsa cd t + zsn cd t j
      · rw [if_pos d, if_pos d, hg j hj]
      · rw [if_neg d, if_neg d]; exact h2 i (by omega)
    · have c0 : zse cd t j = 0 := by omega
      rw [c0, if_pos (show zn 0 = 0 from rfl), zb_bd2, zb_let, zn_1, zn_add]
      refine ih (zn (zsa cd t + zsn cd t j), I') ⟨by rw [zsn_S, c0]; rfl, h1, fun i hi => ?_⟩
      show I' 119 i = _
      rw [zsn_S, c0] at hi
      rw [zsk_0 c]
      exact h2 i (by omega)
theorem zq_sent215 {O : Type} {Q : O → Prop} {I : pd_I} {k s t xx n : Nat} {cd : Nat → Nat} {g : Nat → Nat → Nat} {kont : Int32 → pd_I → Option O} (h : zCm I k cd) (hv : zCv cd) (h5 : cd 0 = 5) (hn : n ≤ 200) (ht : t < zst cd n) (hs : s < 64) (hxx : xx < 2) (hg : ∀ o, 1 ≤ o → o < cd 2 → g t (cd 2 + o - 1) = zsg cd s xx o) (hI : ∀ i, i < zsa cd t + zsn cd t (cd 2) → I 119 i = zn (zsk cd g t (zsq cd g t) (cd 2) i)) (hK : ∀ I', zF [119] I I' → (∀ i, i < zsa cd (t + 1) → I' 119 i = zn (zsq cd g (t + 1) i)) → zT (kont (zn (zsa cd (t + 1))) I') Q) : zT (fl_X12_sent_215 (zn k) (zn s) (zn t) (zn xx) kont pd_FU (zn (zsa cd t + zsn cd t (cd 2))) (zn 1) I) Q := by
  have hst := zst_le (n := n) hv
  have h24 := hv.2.2.2.2.1
  have h22 := hv.2.2.2.1
  have hwd := zwd_le hv
  have hB := zpl_B hv hn
  have ew : zwd cd = 2 * cd 2 - 1 := by unfold zwd; rw [if_pos h5]
  refine zl_loop (fun fu j (s' : Int32 × pd_I) => fl_X12_sent_215 (zn k) (zn s) (zn t) (zn xx) kont fu s'.1 j s'.2) (cd 2) (fun j s' => 1 ≤ j ∧ s'.1 = zn (zsa cd t + zsn cd t (cd 2 + j - 1)) ∧ zF [119] I s'.2 ∧ ∀ i, i < zsa cd t + zsn cd t (cd 2 + j - 1) → s'.2 119 i = zn (zsk cd g t (zsq cd g t) (cd 2 + j - 1) i)) ?_ ?_ pd_FU 1 (zn (zsa cd t + zsn cd t (cd 2)), I) (by omega) (zFU (by omega)) ⟨by omega, by rw [Nat.add_sub_cancel], zF_rfl, by rw [Nat.add_sub_cancel]; exact hI⟩
  · rintro fu ⟨c, I'⟩ ⟨-, rfl, h1, h2⟩
    try simp only [] at h1 h2 ⊢
    have hcd := zCm_F (by decide) h1 h
    rw [show cd 2 + cd 2 - 1 = zwd cd by omega] at h2 ⊢
    rw [fl_X12_sent_215, zn_in2 (show k < 12 from h.1) (by have := h.1; omega), zb_gd, zn_nat (by have := h.1; omega), hcd.2.2.2.1, if_pos (Int32.le_refl _)]
    exact hK I' h1 h2
  · rintro fu j ⟨c, I'⟩ hj ⟨h0, rfl, h1, h2⟩ ih
    try simp only [] at h1 h2 ih ⊢
    have hcd := zCm_F (by decide) h1 h
    obtain ⟨K, hK'⟩ : ∃ K, K = cd 2 + j - 1 := ⟨_, rfl⟩
    rw [← hK'] at h2 ⊢
    rw [show cd 2 + (j + 1) - 1 = K + 1 by omega] at ih
    have hse := zse_lt (cd := cd) (t := t) (o := K)
    have hpl := zpl ht (show K < zwd cd by omega)
    rw [zsn_S] at hpl
    rw [fl_X12_sent_215, zn_in2 (show k < 12 from h.1) (by have := h.1; omega), zb_gd, zn_nat (by have := h.1; omega), hcd.2.2.2.1, zi_le (by omega) (by omega), if_neg (by omega), zb_gd, zn_add, zn_1, zn_sub (by omega), ← hK', zc_isKept hcd hv (by omega) (by omega), zb_bd]
    by_cases c : zse cd t K = 1
    · rw [c, if_neg (show ¬ zn 1 = 0 from zn_p0), zc_out hcd hv hs hxx (by omega), zb_bd, zn_in2 (show zsa cd t + zsn cd t K < 1400 by omega) (by omega), zb_gd, zn_nat (by omega), zb_let, zb_let, zb_bd2, zb_let, zn_add, zn_add]
      refine ih (zn (zsa cd t + zsn cd t K + 1), pd_ui I' 119 (zsa cd t + zsn cd t K) (zn (zsg cd s xx j))) ⟨by omega, by rw [zsn_S, c]; rfl, zF_u (by simp) h1, fun i hi => ?_⟩
      show pd_ui I' 119 (zsa cd t + zsn cd t K) (zn (zsg cd s xx j)) 119 i = _
      rw [zsn_S, c] at hi
      rw [zsk_1 c, zu_same, zu_app]
      by_cases d : i = zsa cd t + zsn cd t K
      · rw [if_pos d, if_pos d, hK', hg j h0 hj]
      · rw [if_neg d, if_neg d]; exact h2 i (by omega)
    · have c0 : zse cd t K = 0 := by omega
      rw [c0, if_pos (show zn 0 = 0 from rfl), zb_bd2, zb_let, zn_add]
      refine ih (zn (zsa cd t + zsn cd t K), I') ⟨by omega, by rw [zsn_S, c0]; rfl, h1, fun i hi => ?_⟩
      show I' 119 i = _
      rw [zsn_S, c0] at hi
      rw [zsk_0 c]
      exact h2 i (by omega)
theorem zq_sent85 {I : pd_I} {k n b : Nat} {cd x : Nat → Nat} (h : zCm I k cd) (hv : zCv cd) (hn1 : 1 ≤ n) (hn : n ≤ 200) (hb : b < 64) (hx : ∀ t, x t < 2) (hI : ∀ t, t < n → I 120 t = zn (x t)) : zT (fl_X12_sent_85 (zn k) (zn n) (fun zx6 zI2 => some (zx6, zI2)) pd_FU (zn b) (zn 0) (zn 0) (zn 0) I) (fun r => r.1 = zn (zsa cd (zst cd n)) ∧ zF [119] I r.2 ∧ ∀ i, i < zsa cd (zst cd n) → r.2 119 i = zn (zsq cd (zgo cd x n b) (zst cd n) i)) := by
  have hst := zst_le (n := n) hv
  have h24 := hv.2.2.2.2.1
  have v0 := hv.1
  refine zl_loop (fun fu j (s : Int32 × Int32 × Int32 × pd_I) => fl_X12_sent_85 (zn k) (zn n) (fun zx6 zI2 => some (zx6, zI2)) fu s.1 s.2.1 s.2.2.1 j s.2.2.2) (zst cd n) (fun j s => s.1 = zn (zs1 cd x n b j) ∧ s.2.1 = zn (if cd 0 = 5 then zs2 cd x n j else 0) ∧ s.2.2.1 = zn (zsa cd j) ∧ zF [119] I s.2.2.2 ∧ ∀ i, i < zsa cd j → s.2.2.2 119 i = zn (zsq cd (zgo cd x n b) j i)) ?_ ?_ pd_FU 0 (zn b, zn 0, zn 0, I) (by omega) (zFU (by omega)) ⟨rfl, by show zn 0 = zn (if cd 0 = 5 then 0 else 0); split <;> rfl, rfl, zF_rfl, fun i hi => absurd hi (Nat.not_lt_zero i)⟩
  · rintro fu ⟨s, s2, c, I'⟩ ⟨rfl, rfl, rfl, h1, h2⟩
    try simp only [] at h1 h2 ⊢
    rw [fl_X12_sent_85, zc_stepsM (zCm_F (by decide) h1 h) hv, zb_bd, if_pos (Int32.le_refl _)]
    exact ⟨_, rfl, rfl, h1, h2⟩
  · rintro fu j ⟨s, s2, c, I'⟩ hj ⟨rfl, rfl, rfl, h1, h2⟩ ih
    try simp only [] at h1 h2 ih ⊢
    have hcd := zCm_F (by decide) h1 h
    have hs := zs1_lt (x := x) (n := n) (t := j) hv hb
    have hxx := zxx_lt (cd := cd) (n := n) (b := b) (t := j) hx
    have e : (if zn n ≤ zn j then pd_bd (fn_X12_fed I' (zn k) (zn (zs1 cd x n b j))) fun zr9 => some zr9 else pd_gd (pd_in (zn j) 200) (some (I' 120 (zn j).toNatClampNeg))) = some (zn (zxx cd x n b j)) := by
      unfold zxx
      rw [zi_le (by omega) (by omega)]
      by_cases c : n ≤ j
      · rw [if_pos c, if_neg (by omega), zc_fed hcd hv, zb_bd]
      · rw [if_neg c, if_pos (by omega), zn_in2 (show j < 200 by omega) (by omega), zb_gd, zn_nat (by omega), h1 120 (by simp), hI j (by omega)]
    rw [fl_X12_sent_85, zc_stepsM hcd hv, zb_bd, zi_le (by omega) (by omega), if_neg (by omega), e, zb_bd]
    refine zq_sent123 (n := n) (g := zgo cd x n b) hcd hv hn hj hs hxx (fun o ho => by unfold zgo; rw [if_pos ho]) h2 (fun I2 f1 f2 => ?_)
    have h3 := zF_tr h1 f1
    have hcd2 := zCm_F (by decide) f1 hcd
    rw [zc_next hcd2 hv hxx, zb_bd, zn_in2 (show k < 12 from h.1) (by have := h.1; omega), zb_gd, zb_jn, zn_nat (by have := h.1; omega), hcd2.2.1, zn_5, zi_eq (by omega) (by omega)]
    by_cases c : cd 0 = 5
    · have est : zst cd n = n := by unfold zst; rw [if_neg (by omega)]
      have hm : j * cd 5 % n < n := Nat.mod_lt _ hn1
      have hs2 := zs2_lt (x := x) (n := n) (t := j) hv
      rw [if_pos c, if_pos c, zc_order hcd2 hv (by omega) hn1 hn, zb_bd, zn_in2 (show j * cd 5 % n < 200 by omega) (by omega), zb_gd, zn_nat (by omega), h3 120 (by simp), hI _ hm, zb_let]
      refine zq_sent215 (n := n) (g := zgo cd x n b) hcd2 hv c hn hj hs2 (hx _) (fun o ho1 ho => by unfold zgo; rw [if_neg (by omega), show cd 2 + o - 1 - cd 2 + 1 = o by omega]) f2 (fun I3 f3 f4 => ?_)
      rw [zc_next (zCm_F (by decide) f3 hcd2) hv (hx _), zb_bd]
      simp only []
      rw [zb_let, zn_1, zn_add]
      refine ih (zn (zs1 cd x n b (j + 1)), zn (zs2 cd x n (j + 1)), zn (zsa cd (j + 1)), I3) ⟨rfl, by show _ = zn (if cd 0 = 5 then _ else 0); rw [if_pos c], rfl, zF_tr h3 f3, f4⟩
    · have ew : zwd cd = cd 2 := by unfold zwd; rw [if_neg c]
      rw [if_neg c, if_neg c]
      simp only []
      rw [zb_let, zn_1, zn_add]
      rw [← ew] at f2 ⊢
      refine ih (zn (zs1 cd x n b (j + 1)), zn 0, zn (zsa cd (j + 1)), I2) ⟨rfl, by show _ = zn (if cd 0 = 5 then _ else 0); rw [if_neg c], rfl, h3, f2⟩
