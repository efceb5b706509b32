/-! the memory ahead of the law's loop -/
def ztI (b v : Nat) : Nat := if b = 0 then (if v < 32 then 32 - v else 0) else (if v < 32 then 0 else v - 32)
theorem ztI_all : ∀ k < 64, ¬ (31 < zn k - 32) ∧ ¬ (32 ≤ zn k - 32) ∧ (zn k - 32) - (-32) = zn k ∧ (zn k - 32) + 32 = zn k ∧ (zn k - 32) + 1 = zn (k + 1) - 32 ∧ (if 0 ≤ zn k - 32 then some 0 else some (-(zn k - 32))) = some (zn (ztI 0 k)) ∧ (if 0 ≤ zn k - 32 then some (zn k - 32) else some 0) = some (zn (ztI 1 k)) := by decide +kernel
theorem ztI_le : ∀ v < 64, ztI 0 v ≤ 1000 ∧ ztI 1 v ≤ 1000 := by decide
theorem zq_init41 {I : pd_I} : zT (lf_X3_init I) (fun I' => zF [7, 8] I I' ∧ ∀ v, v < 64 → I' 7 v = zn (ztI 0 v) ∧ I' 8 v = zn (ztI 1 v)) := by
  unfold lf_X3_init
  rw [show (-32 : Int32) = zn 0 - 32 by decide]
  refine zl_gen (fun fu j (s : pd_I) => fl_X3_init_41 (fun zI2 => some zI2) fu j s) (fun k => zn k - 32) 64 (fun j s => zF [7, 8] I s ∧ ∀ v, v < j → s 7 v = zn (ztI 0 v) ∧ s 8 v = zn (ztI 1 v)) ?_ ?_ pd_FU 0 _ (by omega) (zFU (by omega)) ⟨zF_rfl, fun v hv => by omega⟩
  · rintro fu s ⟨h1, h2⟩
    rw [fl_X3_init_41, if_pos (by decide)]
    exact ⟨s, rfl, h1, h2⟩
  · rintro fu j s hj ⟨h1, h2⟩ ih
    obtain ⟨q1, -, q3, -, q5, q6, q7⟩ := ztI_all j hj
    rw [fl_X3_init_41, if_neg q1, q6, zb_bd, q3, zn_in2 hj (by omega), zb_gd, zn_nat (by omega), zb_let, q7, zb_bd, zb_gd, zb_let, zb_let, q5]
    refine ih _ ⟨zF_u (by simp) (zF_u (by simp) h1), fun v hv => ?_⟩
    rw [zu_ne (show (7 : Nat) ≠ 8 by decide), zu_same, zu_same, zu_ne (show (8 : Nat) ≠ 7 by decide), zu_app, zu_app]
    by_cases c : v = j
    · rw [if_pos c, if_pos c, c]; exact ⟨rfl, rfl⟩
    · rw [if_neg c, if_neg c]; exact h2 v (by omega)
theorem zq_init336 {O : Type} {Q : O → Prop} {I : pd_I} {kont : pd_I → Option O} (hK : ∀ I', zF [93] I I' → (∀ r, r < 16 → I' 93 r = -1) → zT (kont I') Q) : zT (fl_X12_init_336 kont pd_FU (zn 0) I) Q := by
  refine zl_loop (fun fu j (s : pd_I) => fl_X12_init_336 kont fu j s) 16 (fun j s => zF [93] I s ∧ ∀ r, r < j → s 93 r = -1) ?_ ?_ pd_FU 0 _ (by omega) (zFU (by omega)) ⟨zF_rfl, fun v hv => by omega⟩
  · rintro fu s ⟨h1, h2⟩
    rw [fl_X12_init_336, zn_16, if_pos (Int32.le_refl _)]
    exact hK s h1 h2
  · rintro fu j s hj ⟨h1, h2⟩ ih
    rw [fl_X12_init_336, zn_16, zi_le (by omega) (by omega), if_neg (by omega), zn_in2 hj (by omega), zb_gd, zn_nat (by omega), zb_let, zb_let]
    rw [show zn j + 1 = zn (j + 1) from zn_add]
    refine ih _ ⟨zF_u (by simp) h1, fun v hv => ?_⟩
    rw [zu_same, zu_app]
    by_cases c : v = j
    · rw [if_pos c]
    · rw [if_neg c]; exact h2 v (by omega)
theorem zq_initM {I : pd_I} : zT (lf_X12_init I) (fun I' => zF [93, 95, 96] I I' ∧ (∀ r, r < 16 → I' 93 r = -1) ∧ ∀ v, v < 64 → I' 95 v = zn (ztI 0 v) ∧ I' 96 v = zn (ztI 1 v)) := by
  unfold lf_X12_init
  refine zq_init336 (fun I1 f1 g1 => ?_)
  rw [show (-32 : Int32) = zn 0 - 32 by decide]
  refine zl_gen (fun fu j (s : pd_I) => fl_X12_init_358 (fun zI2 => some zI2) fu j s) (fun k => zn k - 32) 64 (fun j s => zF [95, 96] I1 s ∧ ∀ v, v < j → s 95 v = zn (ztI 0 v) ∧ s 96 v = zn (ztI 1 v)) ?_ ?_ pd_FU 0 _ (by omega) (zFU (by omega)) ⟨zF_rfl, fun v hv => by omega⟩
  · rintro fu s ⟨h1, h2⟩
    rw [fl_X12_init_358, if_pos (by decide)]
    exact ⟨s, rfl, zF_tr (zF_sub f1 (by decide)) (zF_sub h1 (by decide)), fun r hr => by rw [h1 93 (by decide)]; exact g1 r hr, h2⟩
  · rintro fu j s hj ⟨h1, h2⟩ ih
    obtain ⟨-, q2, -, q4, q5, q6, q7⟩ := ztI_all j hj
    rw [fl_X12_init_358, if_neg q2, q6, zb_bd, q4, zn_in2 hj (by omega), zb_gd, zn_nat (by omega), zb_let, q7, zb_bd, zb_gd, zb_let, zb_let, q5]
    refine ih _ ⟨zF_u (by simp) (zF_u (by simp) h1), fun v hv => ?_⟩
    rw [zu_ne (show (95 : Nat) ≠ 96 by decide), zu_same, zu_same, zu_ne (show (96 : Nat) ≠ 95 by decide), zu_app, zu_app]
    by_cases c : v = j
    · rw [if_pos c, if_pos c, c]; exact ⟨rfl, rfl⟩
    · rw [if_neg c, if_neg c]; exact h2 v (by omega)
theorem zi11_row (Iz : pd_I) : ∀ r, r < 16 → ic_X11_init Iz (60 + 2 * r) 1 = -1
  | 0, _ => rfl
  | 1, _ => rfl
  | 2, _ => rfl
  | 3, _ => rfl
  | 4, _ => rfl
  | 5, _ => rfl
  | 6, _ => rfl
  | 7, _ => rfl
  | 8, _ => rfl
  | 9, _ => rfl
  | 10, _ => rfl
  | 11, _ => rfl
  | 12, _ => rfl
  | 13, _ => rfl
  | 14, _ => rfl
  | 15, _ => rfl
  | _ + 16, h => absurd h (by omega)
theorem zi11_7 (Iz : pd_I) : ic_X11_init Iz 7 = Iz 7 := rfl
theorem zi11_8 (Iz : pd_I) : ic_X11_init Iz 8 = Iz 8 := rfl
theorem zi11_16 (Iz : pd_I) : ic_X11_init Iz 16 1 = 0 := rfl
theorem zi11_2 (Iz : pd_I) : ic_X11_init Iz 0 2 = Iz 0 2 := rfl
theorem zi11_12 (Iz : pd_I) : ic_X11_init Iz 0 12 = 0 := rfl
theorem zi11_13 (Iz : pd_I) : ic_X11_init Iz 0 13 = 0 := rfl
theorem zzi {I : pd_I} {m b : Nat} : pd_zi I m b = if b = m then fun _ => 0 else I b := rfl
theorem zi12_lo (I : pd_I) {b : Nat} (h : b < 93) : ic_X12_init I b = I b := by
  unfold ic_X12_init
  simp only [zzi]
  repeat rw [if_neg (by omega)]
theorem zFb_17 : ∀ j < 9, pd_Fb 17 j = some (18 + 2 * j) := by decide +kernel
set_option maxRecDepth 1000000 in
theorem zFb_17n (j : Nat) : pd_Fb 17 (j + 9) = none := by
  have e : pd_Fb 17 (j + 9) = (if j + 9 = 8 then some 34 else if j + 9 = 7 then some 32 else if j + 9 = 6 then some 30 else if j + 9 = 5 then some 28 else if j + 9 = 4 then some 26 else if j + 9 = 3 then some 24 else if j + 9 = 2 then some 22 else if j + 9 = 1 then some 20 else if j + 9 = 0 then some 18 else none) := rfl
  rw [e, if_neg (by omega), if_neg (by omega), if_neg (by omega), if_neg (by omega), if_neg (by omega), if_neg (by omega), if_neg (by omega), if_neg (by omega), if_neg (by omega)]
theorem zFb_Zs : zZs pd_Fb 37 38 39 40 := ⟨by decide +kernel, by decide +kernel, by decide +kernel, by decide +kernel, Or.inl ⟨rfl, rfl⟩, Or.inl ⟨rfl, rfl⟩⟩
theorem zFb_Ze : zZe pd_Fb 45 46 := ⟨by decide +kernel, by decide +kernel, Or.inl ⟨rfl, rfl⟩⟩
theorem zFb_Zw : zZw pd_Fb := by
  refine ⟨fun j hj => ⟨18 + 2 * j, zFb_17 j hj, decide_eq_true ⟨by omega, by omega, by omega⟩⟩, fun i j hi hj e => ?_, fun j hj => ?_⟩
  · rw [zFb_17 i hi, zFb_17 j hj] at e
    have := Option.some.inj e
    omega
  · have := zFb_17n (j - 9)
    rw [show j - 9 + 9 = j by omega] at this
    exact this
/-- the memory that the law's loop begins with -/
theorem zbegin : ∃ Iz Im, lf_X3_init (ic_X3_init (pd_zi (ic_X2_init (pd_zi (pd_ui (pd_zi (pd_zi (pd_zi (fun _ _ => 0) 0) 1) 2) 0 2 0) 3)) 6)) = some Iz ∧ lf_X12_init (ic_X12_init (pd_zi (ic_X11_init Iz) 92)) = some Im ∧ zCI (pd_zi Im 132) pd_Fb 133 := by
  obtain ⟨Iz, e1, f1, g1⟩ := zq_init41 (I := ic_X3_init (pd_zi (ic_X2_init (pd_zi (pd_ui (pd_zi (pd_zi (pd_zi (fun _ _ => 0) 0) 1) 2) 0 2 0) 3)) 6))
  obtain ⟨Im, e2, f2, r2, g2⟩ := zq_initM (I := ic_X12_init (pd_zi (ic_X11_init Iz) 92))
  have z2 : Iz 0 2 = 0 := by rw [f1 0 (by decide)]; rfl
  have hb : ∀ b, b < 92 → pd_zi Im 132 b = ic_X11_init Iz b := fun b hb => by
    rw [zzi, if_neg (by omega), f2 b (by simp; omega), zi12_lo _ (by omega), zzi, if_neg (by omega)]
  have h92 : ∀ j, pd_zi Im 132 92 j = 0 := fun j => by
    rw [zzi, if_neg (by omega), f2 92 (by decide), zi12_lo _ (by omega), zzi, if_pos rfl]
  have hm : ∀ b, b ≠ 132 → pd_zi Im 132 b = Im b := fun b hb => by rw [zzi, if_neg hb]
  refine ⟨Iz, Im, e1, e2, ⟨fun _ => 0, fun _ _ => 0, fun r hr => ?_⟩, ⟨ztI, fun v hv => ?_, fun v hv => ?_⟩, ⟨0, fun _ _ => 0, by omega, rfl, ?_, ?_, fun k hk => absurd hk (Nat.not_lt_zero k)⟩, ⟨zFb_Zw, 0, fun _ => (0, fun _ => 0, 0), fun _ => 0, by omega, ?_, ?_, fun k hk => absurd hk (Nat.not_lt_zero k)⟩, ⟨0, by omega, ?_, ?_, fun k hk => absurd hk (Nat.not_lt_zero k)⟩, ⟨0, by omega, ?_, ?_⟩, ⟨⟨37, 38, 39, 40, zFb_Zs⟩, 45, 46, zFb_Ze⟩, pd_fr_RFb⟩
  · have a := zi11_row Iz r hr
    have b := r2 r hr
    refine ⟨by rw [hb _ (by omega), hm 93 (by decide), a, b], ⟨Or.inr ⟨by rw [hb _ (by omega), a], rfl⟩, Nat.zero_le _, fun i hi => absurd hi (Nat.not_lt_zero i)⟩, ⟨hr, Or.inr ⟨by rw [hm 93 (by decide), b], rfl⟩, Nat.zero_le _, fun i hi => absurd hi (Nat.not_lt_zero i)⟩⟩
  · obtain ⟨a, b⟩ := g1 v hv
    obtain ⟨c, d⟩ := ztI_le v hv
    rw [hb 7 (by omega), hb 8 (by omega), zi11_7, zi11_8]
    exact ⟨a, b, c, d⟩
  · obtain ⟨a, b⟩ := g2 v hv
    obtain ⟨c, d⟩ := ztI_le v hv
    rw [hm 95 (by decide), hm 96 (by decide)]
    exact ⟨a, b, c, d⟩
  · rw [hb 0 (by omega), zi11_2, z2, zn_0]
  · rw [h92, zn_0]
  · rw [hb 16 (by omega), zi11_16, zn_0]
  · rw [h92, zn_0]
  · rw [hb 0 (by omega), zi11_12, zn_0]
  · rw [h92, zn_0]
  · rw [hb 0 (by omega), zi11_13, zn_0]
  · rw [h92, zn_0]
