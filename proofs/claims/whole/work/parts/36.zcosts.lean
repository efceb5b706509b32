/-! what steps cost, in the reference -/
theorem zr_markCost {I : pd_I} {r m i b : Nat} {f : Nat → Nat} {T : Nat → Nat → Nat} (h : zRom I r m f) (hT : zTam I T) (hi : i < 2000) (hb : b < 2) : fn_X12_markCost I (zn r) (zn i) (zn b) = some (zn (zmc m f T b i)) := by
  obtain ⟨hr, h1, h2, h3⟩ := h
  have key : (if zn i < I 93 r then (pd_gd (pd_in ((600 * zn r) + zn i) 9600) (pd_let ((I 94 ((600 * zn r) + zn i).toNatClampNeg) + 32) fun zv1 => pd_bd (if zn b = 1 then pd_gd (pd_in zv1 64) (some (I 96 zv1.toNatClampNeg)) else (pd_gd (pd_in zv1 64) (some (I 95 zv1.toNatClampNeg)))) fun (zx1 : Int32) => some zx1)) else (some 0)) = (if i < m then some (zn (T b (f i))) else some (zn 0)) := by
    by_cases c : i < m
    · obtain ⟨q1, q2⟩ := h3 i c
      obtain ⟨q3, q4, -⟩ := hT _ q2
      rw [if_pos c, if_pos (by rcases h1 with e | ⟨e, em⟩; (· rw [e, zn_lt (by omega) (by omega)]; exact c); omega)]
      have e1 : ((600 : Int32) * zn r) + zn i = zn (600 * r + i) := by rw [zn_600, zn_mul, zn_add]
      rw [e1, zn_in (by omega) (by decide), zb_gd, zn_nat (by omega), q1, zb_let, zn_in q2 (by decide), zn_nat (by omega), zn_1, zi_eq (by omega) (by omega), q3, q4]
      by_cases hb1 : b = 1
      · rw [if_pos hb1, hb1]; rfl
      · rw [if_neg hb1, show b = 0 by omega]; rfl
    · rw [if_neg c, if_neg (by rcases h1 with e | ⟨e, em⟩; (· rw [e, zn_lt (by omega) (by omega)]; exact c); rw [e]; exact fun h => absurd (Int32.lt_trans (zn_m1 (by omega)) h) (by decide))]
      rfl
  unfold fn_X12_markCost
  rw [zn_in hr (by decide), zb_gd, zn_nat (by omega), key]
  unfold zmc
  by_cases c : i < m
  · rw [if_pos c, if_pos c]
  · rw [if_neg c, if_neg c]
theorem zmc_le {m : Nat} {f : Nat → Nat} {T : Nat → Nat → Nat} {b i : Nat} (hf : ∀ i, i < m → f i < 64) (hT : ∀ v, v < 64 → T 0 v ≤ 1000 ∧ T 1 v ≤ 1000) (hb : b < 2) : zmc m f T b i ≤ 1000 := by
  unfold zmc
  by_cases c : i < m
  · rw [if_pos c]
    have := hT _ (hf i c)
    rcases (show b = 0 ∨ b = 1 by omega) with e | e
    · subst e; exact this.1
    · subst e; exact this.2
  · rw [if_neg c]; exact Nat.zero_le _
theorem zrc_le {cd : Nat → Nat} {mc : Nat → Nat → Nat} {b t o B : Nat} (h : ∀ i, mc b i ≤ B) : zrc cd mc b t o ≤ B := by
  unfold zrc; split
  · exact h _
  · exact Nat.zero_le _
/-- what a step costs by an edge -/
def zPp (cd : Nat → Nat) (mc : Nat → Nat → Nat) (t e : Nat) : Nat := zps (fun o b => zrc cd mc b t o) cd (e / 2) (e % 2) (cd 2)
theorem zq_costs52 {O : Type} {kont : Int32 → Option O} {I : pd_I} {c r m t s x : Nat} {cd f : Nat → Nat} {T : Nat → Nat → Nat} (h : zCm I c cd) (hv : zCv cd) (hr : zRom I r m f) (hT : zTam I T) (ht : t < 206) (hs : s < 64) (hx : x < 2) :
    fl_X12_costs_52 (zn c) (zn r) (zn t) (zn s) (zn x) I kont pd_FU (zn 0) (zn (zsa cd t)) (zn 0) = kont (zn (zps (fun o b => zrc cd (zmc m f T) b t o) cd s x (cd 2))) := by
  have hw := zwd_le hv
  have hc4 : cd 2 ≤ 4 := hv.2.2.2.2.1
  have hsa := zsa_le hv t
  refine zl_eq (fun fu k (s1 : Int32 × Int32) => fl_X12_costs_52 (zn c) (zn r) (zn t) (zn s) (zn x) I kont fu s1.1 s1.2 k) (cd 2) 0 (fun k => (zn (zps (fun o b => zrc cd (zmc m f T) b t o) cd s x k), zn (zsa cd t + zsn cd t k))) _ (fun fu => ?_) (fun fu k _ hk => ?_) pd_FU 0 (by omega) (by omega) (zFU (by omega))
  · try simp only []
    rw [fl_X12_costs_52, zn_in h.1 (by decide), zb_gd, zn_nat (by have := h.1; omega), h.2.2.2.1, if_pos (by rw [zn_le (by omega) (by omega)]; omega)]
  · try simp only []
    have hsn := zsn_le (cd := cd) (t := t) k
    have hse := zse_lt (cd := cd) (t := t) (o := k)
    rw [fl_X12_costs_52, zn_in h.1 (by decide), zb_gd, zn_nat (by have := h.1; omega), h.2.2.2.1, if_neg (by rw [zn_le (by omega) (by omega)]; omega), zc_isKept h hv (by omega) (by omega), zb_bd, zn_0, zi_eq (by omega) (by omega)]
    by_cases c1 : zse cd t k = 0
    · rw [if_pos c1, zb_bd2, zb_let, zn_1, zn_add]
      have e1 : zps (fun o b => zrc cd (zmc m f T) b t o) cd s x (k + 1) = zps (fun o b => zrc cd (zmc m f T) b t o) cd s x k := by
        show _ + zrc cd (zmc m f T) (zsg cd s x k) t k = _
        unfold zrc; rw [c1]; rfl
      have e2 : zsn cd t (k + 1) = zsn cd t k := by show _ + zse cd t k = _; rw [c1]; rfl
      rw [e1, e2]
    · have c2 : zse cd t k = 1 := by omega
      rw [if_neg c1, zc_out h hv hs hx (by omega), zb_bd, zr_markCost hr hT (by omega) (zsg_lt hx), zb_bd, zb_let, zb_let, zb_bd2, zb_let, zn_1, zn_add, zn_add, zn_add]
      have e1 : zps (fun o b => zrc cd (zmc m f T) b t o) cd s x (k + 1) = zps (fun o b => zrc cd (zmc m f T) b t o) cd s x k + zmc m f T (zsg cd s x k) (zsa cd t + zsn cd t k) := by
        show _ + zrc cd (zmc m f T) (zsg cd s x k) t k = _
        unfold zrc; rw [if_pos c2]
      have e2 : zsn cd t (k + 1) = zsn cd t k + 1 := by show _ + zse cd t k = _; rw [c2]
      rw [e1, e2, Nat.add_assoc (zsa cd t)]
def zMD (I : pd_I) (P : Nat → Nat → Nat) (E t e : Nat) : Prop := ∀ t' e', e' < E → (t' < t ∨ t' = t ∧ e' < e) → I 110 (128 * t' + e') = zn (P t' e')
theorem zMD_u {I : pd_I} {P : Nat → Nat → Nat} {E t e : Nat} (hE : E ≤ 128) (he : e < E) (h : zMD I P E t e) : zMD (pd_ui I 110 (128 * t + e) (zn (P t e))) P E t (e + 1) := by
  intro t' e' he' hc
  rw [zu_same, zu_app]
  by_cases c : 128 * t' + e' = 128 * t + e
  · have e1 : t' = t := by omega
    have e2 : e' = e := by omega
    subst e1 e2
    rw [if_pos rfl]
  · rw [if_neg c]; exact h t' e' he' (by omega)
theorem zq_costs36 {O : Type} {Q : O → Prop} {kont : pd_I → Option O} {I : pd_I} {c r m t s : Nat} {cd f : Nat → Nat} {T : Nat → Nat → Nat} {at0 : Int32} (h : zCm I c cd) (hv : zCv cd) (hr : zRom I r m f) (hT : zTam I T) (ht : t < 206) (hs : s < 2 ^ cd 1) (hat : at0 = zn (zsa cd t))
    {I1 : pd_I} (hF1 : zF [110] I I1) (hD1 : zMD I1 (zPp cd (zmc m f T)) (2 * 2 ^ cd 1) t (2 * s))
    (hK : ∀ I2, zF [110] I I2 → zMD I2 (zPp cd (zmc m f T)) (2 * 2 ^ cd 1) t (2 * (s + 1)) → zT (kont I2) Q) :
    zT (fl_X12_costs_36 (zn c) (zn r) at0 (zn t) (zn s) kont pd_FU (zn 0) I1) Q := by
  subst hat
  have hS := zCv_S hv
  refine zl_loop (fun fu k (s1 : pd_I) => fl_X12_costs_36 (zn c) (zn r) (zn (zsa cd t)) (zn t) (zn s) kont fu k s1) 2 (fun k s1 => zF [110] I s1 ∧ zMD s1 (zPp cd (zmc m f T)) (2 * 2 ^ cd 1) t (2 * s + k)) ?_ ?_ pd_FU 0 I1 (by omega) (zFU (by omega)) ⟨hF1, hD1⟩
  · rintro fu I' ⟨hF, hD⟩
    try simp only []
    rw [fl_X12_costs_36]
    simp (disch := omega) only [zb_gd, zb_bd, zb_bd2, zb_let, zb_jn, zn_0, zn_1, zn_2, zn_3, zn_4, zn_5, zn_6, zn_7, zn_8, zn_11, zn_12, zn_15, zn_16, zn_18, zn_30, zn_31, zn_32, zn_64, zn_128, zn_199, zn_200, zn_512, zn_600, zn_1000, zn_2048, zn_add, zn_mul, zn_sub, zn_in2, zn_nat, zn_le, zn_lt, zn_eq, if_pos, if_neg, Bool.false_eq_true, ↓reduceIte]
    exact hK I' hF hD
  · rintro fu k I' hk ⟨hF, hD⟩ ih
    try simp only [] at ih ⊢
    have hcd := zCm_F (by decide) hF h
    have hrw := zRom_F (by decide) (by decide) hF hr
    have htb := zTam_F (by decide) (by decide) hF hT
    rw [fl_X12_costs_36, zn_0, zq_costs52 hcd hv hrw htb ht (by omega) hk]
    simp (disch := omega) only [zb_gd, zb_bd, zb_bd2, zb_let, zb_jn, zn_0, zn_1, zn_2, zn_3, zn_4, zn_5, zn_6, zn_7, zn_8, zn_11, zn_12, zn_15, zn_16, zn_18, zn_30, zn_31, zn_32, zn_64, zn_128, zn_199, zn_200, zn_512, zn_600, zn_1000, zn_2048, zn_add, zn_mul, zn_sub, zn_in2, zn_nat, zn_le, zn_lt, zn_eq, if_pos, if_neg, Bool.false_eq_true, ↓reduceIte]
    refine ih _ ⟨zF_u (by decide) hF, ?_⟩
    have hz := zMD_u (by omega) (by omega) hD
    have e1 : (2 * s + k) / 2 = s := by omega
    have e2 : (2 * s + k) % 2 = k := by omega
    have e3 : zPp cd (zmc m f T) t (2 * s + k) = zps (fun o b => zrc cd (zmc m f T) b t o) cd s k (cd 2) := by unfold zPp; rw [e1, e2]
    rw [e3] at hz
    have e4 : 128 * t + 2 * s + k = 128 * t + (2 * s + k) := by omega
    rw [e4]
    exact hz
theorem zq_costs20 {O : Type} {Q : O → Prop} {kont : pd_I → Option O} {I : pd_I} {c r m t : Nat} {cd f : Nat → Nat} {T : Nat → Nat → Nat} {at0 : Int32} (h : zCm I c cd) (hv : zCv cd) (hr : zRom I r m f) (hT : zTam I T) (ht : t < 206) (hat : at0 = zn (zsa cd t))
    {I1 : pd_I} (hF1 : zF [110] I I1) (hD1 : zMD I1 (zPp cd (zmc m f T)) (2 * 2 ^ cd 1) t 0)
    (hK : ∀ I2, zF [110] I I2 → zMD I2 (zPp cd (zmc m f T)) (2 * 2 ^ cd 1) (t + 1) 0 → zT (kont I2) Q) :
    zT (fl_X12_costs_20 (zn c) (zn r) at0 (zn t) kont pd_FU (zn 0) I1) Q := by
  have hS := zCv_S hv
  have h6 : cd 1 ≤ 6 := hv.2.2.1
  refine zl_loop (fun fu k (s1 : pd_I) => fl_X12_costs_20 (zn c) (zn r) at0 (zn t) kont fu k s1) (2 ^ cd 1) (fun k s1 => zF [110] I s1 ∧ zMD s1 (zPp cd (zmc m f T)) (2 * 2 ^ cd 1) t (2 * k)) ?_ ?_ pd_FU 0 I1 (by omega) (zFU (by omega)) ⟨hF1, hD1⟩
  · rintro fu I' ⟨hF, hD⟩
    have hcd := zCm_F (by decide) hF h
    try simp only []
    rw [fl_X12_costs_20, zn_in h.1 (by decide), zb_gd, zn_nat (by have := h.1; omega), hcd.2.2.1, zn_1, zn_31, zn_1shl _ (by omega), if_pos (by rw [zn_le (by omega) (by omega)]; omega)]
    exact hK I' hF (fun t' e' he' hc => hD t' e' he' (by omega))
  · rintro fu k I' hk ⟨hF, hD⟩ ih
    try simp only [] at ih ⊢
    have hcd := zCm_F (by decide) hF h
    rw [fl_X12_costs_20, zn_in h.1 (by decide), zb_gd, zn_nat (by have := h.1; omega), hcd.2.2.1, zn_1, zn_31, zn_1shl _ (by omega), if_neg (by rw [zn_le (by omega) (by omega)]; omega)]
    refine zq_costs36 h hv hr hT ht hk hat hF hD (fun I2 hF2 hD2 => ?_)
    rw [zb_let, zn_add]
    exact ih _ ⟨hF2, hD2⟩
/-- the lattice of the reference -/
def zMa (I : pd_I) (cd : Nat → Nat) (T : Nat) (P : Nat → Nat → Nat) : Prop := ∀ t, t < T → ∀ e, e < 2 * 2 ^ cd 1 → I 110 (128 * t + e) = zn (P t e)
theorem zMa_F {L : List Nat} {I I' : pd_I} {cd : Nat → Nat} {T : Nat} {P : Nat → Nat → Nat} (h1 : 110 ∉ L) (h : zF L I I') (k : zMa I cd T P) : zMa I' cd T P := by
  unfold zMa; rw [h 110 h1]; exact k
theorem zq_costs {I : pd_I} {c r m n : Nat} {cd f : Nat → Nat} {T : Nat → Nat → Nat} (h : zCm I c cd) (hv : zCv cd) (hr : zRom I r m f) (hT : zTam I T) (hn : n ≤ 200) :
    zT (fn_X12_costs I (zn c) (zn r) (zn n)) (fun I' => zF [110] I I' ∧ zMa I' cd (zst cd n) (zPp cd (zmc m f T))) := by
  have hst := zst_le (n := n) hv
  have hw := zwd_le hv
  unfold fn_X12_costs
  refine zl_loop (fun fu k (s : Int32 × pd_I) => fl_X12_costs_6 (zn c) (zn r) (zn n) (fun zI2 => some zI2) fu s.1 k s.2) (zst cd n) (fun k s => s.1 = zn (zsa cd k) ∧ zF [110] I s.2 ∧ zMD s.2 (zPp cd (zmc m f T)) (2 * 2 ^ cd 1) k 0) ?_ ?_ pd_FU 0 (zn 0, I) (by omega) (zFU (by omega)) ⟨rfl, zF_rfl, fun t' o' _ hc => by omega⟩
  · rintro fu ⟨mk, I'⟩ ⟨rfl, hF, hD⟩
    try simp only [] at hF hD ⊢
    have hcd := zCm_F (by decide) hF h
    rw [fl_X12_costs_6, zc_stepsM hcd hv, zb_bd, if_pos (by rw [zn_le (by omega) (by omega)]; omega)]
    exact ⟨_, rfl, hF, fun t ht e he => hD t e he (by omega)⟩
  · rintro fu k ⟨mk, I'⟩ hk ⟨rfl, hF, hD⟩ ih
    try simp only [] at hF hD ih ⊢
    have hcd := zCm_F (by decide) hF h
    have hsa := zsa_le hv k
    have hsn := zsn_le (cd := cd) (t := k) (zwd cd)
    rw [fl_X12_costs_6, zc_stepsM hcd hv, zb_bd, if_neg (by rw [zn_le (by omega) (by omega)]; omega), zn_0]
    refine zq_costs20 h hv hr hT (by omega) rfl hF hD (fun I2 hF2 hD2 => ?_)
    have hcd2 := zCm_F (by decide) hF2 h
    rw [zc_sends hcd2 hv (by omega), zb_bd, zb_let, zb_let, zn_1, zn_add, zn_add]
    exact ih (zn (zsa cd (k + 1)), I2) ⟨rfl, hF2, hD2⟩
