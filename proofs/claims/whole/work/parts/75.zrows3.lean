/-! five, take -/
theorem zw_place {w : Int64} {m : Nat} (h1 : ¬ lg_cmp w 0 < 0) (h2 : ¬ 0 ≤ lg_cmp w (zn m).toInt64) (hm : m ≤ 600) : ∃ k, k < m ∧ w.toInt32 = zn k := by
  rw [lg_cmp_lt, Int64.lt_iff_toInt_lt, show (0 : Int64).toInt = 0 by decide] at h1
  rw [lg_cmp_ge, Int64.le_iff_toInt_le, Int32.toInt_toInt64, zn_int (by omega)] at h2
  refine ⟨w.toInt.toNat, by omega, Int32.toInt_inj.mp ?_⟩
  rw [zn_int (by omega), Int64.toInt_toInt32, Int.bmod_eq_of_le (by omega) (by omega)]
  omega
def zbv (x : Int32) : Int32 := if -32 ≤ x then (if x ≤ 31 then x else 31) else -32
theorem zbv_mk (x : Int32) : zmk (zbv x) := by
  unfold zbv
  by_cases c : -32 ≤ x
  · rw [if_pos c]
    by_cases d : x ≤ 31
    · rw [if_pos d]; exact zmk_of (Int32.not_lt.mpr c) d
    · rw [if_neg d]; exact ⟨63, by decide, by decide⟩
  · rw [if_neg c]; exact ⟨0, by decide, by decide⟩
theorem zbv_c (x : Int32) : fn_X11_bounded x (-32) 31 = some (zbv x) := by
  unfold fn_X11_bounded pd_max pd_min zbv
  by_cases d : 31 < x
  · rw [if_neg (show ¬ x < 31 from Int32.not_lt.mpr (Int32.le_of_lt d)), if_pos (by decide), if_pos (Int32.le_trans (by decide) (Int32.le_of_lt d)), if_neg (Int32.not_le.mpr d)]
  · have d2 := Int32.not_lt.mp d
    have e : (if x < 31 then x else 31) = x := by
      by_cases c : x < 31
      · rw [if_pos c]
      · rw [if_neg c]; exact Int32.le_antisymm (Int32.not_lt.mp c) d2
    rw [e, if_pos d2]
    by_cases c : -32 < x
    · rw [if_pos c, if_pos (Int32.le_of_lt c)]
    · rw [if_neg c]
      by_cases c2 : -32 ≤ x
      · rw [if_pos c2, Int32.le_antisymm c2 (Int32.not_lt.mp c)]
      · rw [if_neg c2]
def zx8 (p2 p3 : Int32) (j : Nat) : Int32 := (if j = 4 then p3 else p2 >>> ((24 - (8 * zn j)) &&& 31)).toInt8.toInt32
def zfi5 (p2 p3 : Int32) (j : Nat) : Nat := (zbv (zx8 p2 p3 j) + 32).toNatClampNeg
theorem zfi5_e (p2 p3 : Int32) (j : Nat) : zbv (zx8 p2 p3 j) + 32 = zn (zfi5 p2 p3 j) ∧ zfi5 p2 p3 j < 64 := by
  obtain ⟨u, hu, e⟩ := zbv_mk (zx8 p2 p3 j)
  unfold zfi5
  rw [e, zn_nat (by omega)]
  exact ⟨rfl, hu⟩
def zfs (p1 p2 p3 : Int32) (m : Nat) (f : Nat → Nat) : Nat → Nat × (Nat → Nat)
  | 0 => (0, f)
  | j + 1 => if lg_cmp (p1.toInt64 + (zn j).toInt64) 0 < 0 ∨ 0 ≤ lg_cmp (p1.toInt64 + (zn j).toInt64) (zn m).toInt64 then zfs p1 p2 p3 m f j else ((zfs p1 p2 p3 m f j).1 + 1, fun i => if i = (p1.toInt64 + (zn j).toInt64).toInt32.toNatClampNeg then zfi5 p2 p3 j else (zfs p1 p2 p3 m f j).2 i)
theorem zfs_no {p1 p2 p3 : Int32} {m j : Nat} {f : Nat → Nat} (h : lg_cmp (p1.toInt64 + (zn j).toInt64) 0 < 0 ∨ 0 ≤ lg_cmp (p1.toInt64 + (zn j).toInt64) (zn m).toInt64) : zfs p1 p2 p3 m f (j + 1) = zfs p1 p2 p3 m f j := if_pos h
theorem zfs_yes {p1 p2 p3 : Int32} {m j : Nat} {f : Nat → Nat} (h1 : ¬ lg_cmp (p1.toInt64 + (zn j).toInt64) 0 < 0) (h2 : ¬ 0 ≤ lg_cmp (p1.toInt64 + (zn j).toInt64) (zn m).toInt64) : zfs p1 p2 p3 m f (j + 1) = ((zfs p1 p2 p3 m f j).1 + 1, fun i => if i = (p1.toInt64 + (zn j).toInt64).toInt32.toNatClampNeg then zfi5 p2 p3 j else (zfs p1 p2 p3 m f j).2 i) := if_neg (fun h => h.elim h1 h2)
theorem zfs_lt {p1 p2 p3 : Int32} {m : Nat} {f : Nat → Nat} (hf : ∀ i, i < m → f i < 64) : ∀ j i, i < m → (zfs p1 p2 p3 m f j).2 i < 64
  | 0, i, hi => hf i hi
  | j + 1, i, hi => by
    by_cases c : lg_cmp (p1.toInt64 + (zn j).toInt64) 0 < 0 ∨ 0 ≤ lg_cmp (p1.toInt64 + (zn j).toInt64) (zn m).toInt64
    · rw [zfs_no c]; exact zfs_lt hf j i hi
    · rw [zfs_yes (fun h => c (Or.inl h)) (fun h => c (Or.inr h))]
      show (if _ then _ else _) < 64
      split
      · exact (zfi5_e p2 p3 j).2
      · exact zfs_lt hf j i hi
theorem zq_five13 {O : Type} {Q : O → Prop} {I : pd_I} {b m : Nat} {f : Nat → Nat} {p1 p2 p3 : Int32} {kont : Int32 → pd_I → Option O} (e : I b 1 = zn m) (hm : m ≤ 600) (hf : ∀ i, i < m → I (b + 1) i + 32 = zn (f i)) (hK : ∀ I', zF [b + 1] I I' → (∀ i, i < m → I' (b + 1) i + 32 = zn ((zfs p1 p2 p3 m f 5).2 i)) → zT (kont (zn (zfs p1 p2 p3 m f 5).1) I') Q) : zT (fl_X11_five_13 p1 p2 p3 b kont pd_FU (zn 0) (zn 0) I) Q := by
  refine zl_loop (fun fu j (s : Int32 × pd_I) => fl_X11_five_13 p1 p2 p3 b kont fu s.1 j s.2) 5 (fun j s => s.1 = zn (zfs p1 p2 p3 m f j).1 ∧ zF [b + 1] I s.2 ∧ ∀ i, i < m → s.2 (b + 1) i + 32 = zn ((zfs p1 p2 p3 m f j).2 i)) ?_ ?_ pd_FU 0 (zn 0, I) (by omega) (zFU (by omega)) ⟨rfl, zF_rfl, hf⟩
  · rintro fu ⟨c, I'⟩ ⟨rfl, h1, h2⟩
    try simp only [] at h1 h2 ⊢
    rw [fl_X11_five_13, zn_5, if_pos (Int32.le_refl _)]
    exact hK I' h1 h2
  · rintro fu j ⟨c, I'⟩ hj ⟨rfl, h1, h2⟩ ih
    try simp only [] at h1 h2 ih ⊢
    have e' : I' b 1 = zn m := by rw [h1 b (by simp), e]
    have hs : fn_X4_size I' b = some (zn m) := by unfold fn_X4_size; rw [e']
    rw [fl_X11_five_13, zn_5, zi_le (by omega) (by omega), if_neg (by omega), zb_let]
    by_cases A : lg_cmp (p1.toInt64 + (zn j).toInt64) 0 < 0
    · rw [if_pos A, zb_bd2, zb_let, zn_1, zn_add]
      exact ih (zn (zfs p1 p2 p3 m f j).1, I') ⟨congrArg (fun s => zn s.1) (zfs_no (Or.inl A)).symm, h1, by rw [zfs_no (Or.inl A)]; exact h2⟩
    · rw [if_neg A, hs, zb_bd]
      by_cases B : 0 ≤ lg_cmp (p1.toInt64 + (zn j).toInt64) (zn m).toInt64
      · rw [if_pos B, zb_bd2, zb_let, zn_1, zn_add]
        exact ih (zn (zfs p1 p2 p3 m f j).1, I') ⟨congrArg (fun s => zn s.1) (zfs_no (Or.inr B)).symm, h1, by rw [zfs_no (Or.inr B)]; exact h2⟩
      · obtain ⟨k, hk, ek⟩ := zw_place A B hm
        have ev : (if 4 ≤ zn j then some p3.toInt8.toInt32 else (some ((p2 >>> ((24 - (8 * zn j)) &&& 31)).toInt8.toInt32))) = some (zx8 p2 p3 j) := by
          unfold zx8
          rw [zn_4, zi_le (by omega) (by omega)]
          by_cases c : j = 4
          · rw [if_pos (by omega), if_pos c]
          · rw [if_neg (by omega), if_neg c]
        rw [if_neg B, ev, zb_bd, zbv_c, zb_bd, ek, zr_change e' hm hk (zbv_mk _), zb_bd, zb_let, zb_bd2, zb_let, zn_1, zn_add, zn_add]
        refine ih (zn ((zfs p1 p2 p3 m f j).1 + 1), pd_ui I' (b + 1) k (zbv (zx8 p2 p3 j))) ⟨congrArg (fun s => zn s.1) (zfs_yes A B).symm, zF_u (by simp) h1, fun i hi => ?_⟩
        rw [zfs_yes A B]
        show pd_ui I' (b + 1) k (zbv (zx8 p2 p3 j)) (b + 1) i + 32 = zn (if i = (p1.toInt64 + (zn j).toInt64).toInt32.toNatClampNeg then zfi5 p2 p3 j else (zfs p1 p2 p3 m f j).2 i)
        rw [ek, zn_nat (by omega), zu_same, zu_app]
        by_cases c : i = k
        · rw [if_pos c, if_pos c]; exact (zfi5_e p2 p3 j).1
        · rw [if_neg c, if_neg c]; exact h2 i hi
theorem zq_five45 {O : Type} {Q : O → Prop} {I : pd_I} {r m : Nat} {f : Nat → Nat} {p1 p2 p3 : Int32} {kont : Int32 → pd_I → Option O} (hr : r < 16) (e : I 93 r = zn m) (hm : m ≤ 600) (hf : ∀ i, i < m → I 94 (600 * r + i) + 32 = zn (f i)) (hK : ∀ I', zF [94] I I' → (∀ i, i < m → I' 94 (600 * r + i) + 32 = zn ((zfs p1 p2 p3 m f 5).2 i)) → (∀ i, i < 600 * r ∨ 600 * r + 600 ≤ i → I' 94 i = I 94 i) → zT (kont (zn (zfs p1 p2 p3 m f 5).1) I') Q) : zT (fl_X12_five_45 (zn r) p1 p2 p3 kont pd_FU (zn 0) (zn 0) I) Q := by
  refine zl_loop (fun fu j (s : Int32 × pd_I) => fl_X12_five_45 (zn r) p1 p2 p3 kont fu s.1 j s.2) 5 (fun j s => s.1 = zn (zfs p1 p2 p3 m f j).1 ∧ zF [94] I s.2 ∧ (∀ i, i < m → s.2 94 (600 * r + i) + 32 = zn ((zfs p1 p2 p3 m f j).2 i)) ∧ ∀ i, i < 600 * r ∨ 600 * r + 600 ≤ i → s.2 94 i = I 94 i) ?_ ?_ pd_FU 0 (zn 0, I) (by omega) (zFU (by omega)) ⟨rfl, zF_rfl, hf, fun _ _ => rfl⟩
  · rintro fu ⟨c, I'⟩ ⟨rfl, h1, h2, h3⟩
    try simp only [] at h1 h2 h3 ⊢
    rw [fl_X12_five_45, zn_5, if_pos (Int32.le_refl _)]
    exact hK I' h1 h2 h3
  · rintro fu j ⟨c, I'⟩ hj ⟨rfl, h1, h2, h3⟩ ih
    try simp only [] at h1 h2 h3 ih ⊢
    have e' : I' 93 r = zn m := by rw [h1 93 (by simp), e]
    rw [fl_X12_five_45, zn_5, zi_le (by omega) (by omega), if_neg (by omega), zb_let]
    by_cases A : lg_cmp (p1.toInt64 + (zn j).toInt64) 0 < 0
    · rw [if_pos A, zb_bd2, zb_let, zn_1, zn_add]
      exact ih (zn (zfs p1 p2 p3 m f j).1, I') ⟨congrArg (fun s => zn s.1) (zfs_no (Or.inl A)).symm, h1, by rw [zfs_no (Or.inl A)]; exact h2, h3⟩
    · rw [if_neg A, zn_in2 hr (by omega), zb_gd, zn_nat (by omega), e']
      by_cases B : 0 ≤ lg_cmp (p1.toInt64 + (zn j).toInt64) (zn m).toInt64
      · rw [if_neg (Int32.not_lt.mpr B), zb_bd2, zb_let, zn_1, zn_add]
        exact ih (zn (zfs p1 p2 p3 m f j).1, I') ⟨congrArg (fun s => zn s.1) (zfs_no (Or.inr B)).symm, h1, by rw [zfs_no (Or.inr B)]; exact h2, h3⟩
      · obtain ⟨k, hk, ek⟩ := zw_place A B hm
        have ev : (if zn j = 4 then some p3 else (some (p2 >>> ((24 - (8 * zn j)) &&& 31)))) = some (if j = 4 then p3 else p2 >>> ((24 - (8 * zn j)) &&& 31)) := by
          rw [zn_4, zi_eq (by omega) (by omega)]
          by_cases c : j = 4
          · rw [if_pos c, if_pos c]
          · rw [if_neg c, if_neg c]
        have ew : (if (-32) ≤ zx8 p2 p3 j then if zx8 p2 p3 j ≤ 31 then some (zx8 p2 p3 j) else (some 31) else (some (-32))) = some (zbv (zx8 p2 p3 j)) := by
          unfold zbv
          by_cases c : -32 ≤ zx8 p2 p3 j
          · rw [if_pos c, if_pos c]
            by_cases d : zx8 p2 p3 j ≤ 31
            · rw [if_pos d, if_pos d]
            · rw [if_neg d, if_neg d]
          · rw [if_neg c, if_neg c]
        rw [if_pos (Int32.not_le.mp B), ev, zb_bd, zb_let]
        show zT (pd_bd2 (pd_bd (if (-32) ≤ zx8 p2 p3 j then if zx8 p2 p3 j ≤ 31 then some (zx8 p2 p3 j) else (some 31) else (some (-32))) _) _) Q
        rw [ew, zb_bd, ek, zn_600, zn_mul, zn_add, zn_in2 (show 600 * r + k < 9600 by omega) (by omega), zb_gd, zn_nat (by omega), zb_let, zb_let, zb_bd2, zb_let, zn_1, zn_add, zn_add]
        refine ih (zn ((zfs p1 p2 p3 m f j).1 + 1), pd_ui I' 94 (600 * r + k) (zbv (zx8 p2 p3 j))) ⟨congrArg (fun s => zn s.1) (zfs_yes A B).symm, zF_u (by simp) h1, fun i hi => ?_, fun i hi => by show pd_ui I' 94 (600 * r + k) _ 94 i = I 94 i; rw [zu_same, zu_nat (by omega)]; exact h3 i hi⟩
        rw [zfs_yes A B]
        show pd_ui I' 94 (600 * r + k) (zbv (zx8 p2 p3 j)) 94 (600 * r + i) + 32 = zn (if i = (p1.toInt64 + (zn j).toInt64).toInt32.toNatClampNeg then zfi5 p2 p3 j else (zfs p1 p2 p3 m f j).2 i)
        rw [ek, zn_nat (by omega), zu_same, zu_app]
        by_cases c : i = k
        · rw [if_pos (by rw [c]), if_pos c]; exact (zfi5_e p2 p3 j).1
        · rw [if_neg (by omega), if_neg c]; exact h2 i hi
theorem zo_five {I : pd_I} {J : pd_J} {Z : pd_R} {n : Nat} {p q u v : Int32} (h : zCI I Z n) : zO3 (fn_L_five I J Z n p q u v) (fun I1 => fn_X12_five I1 p q u v) Z n := by
  by_cases hp : zin p 16
  · obtain ⟨r, rfl, hr⟩ := hp
    obtain ⟨m, f, b1, b2, b3⟩ := zr_rowI h.1 hr
    by_cases hm : I (60 + 2 * r) 1 = -1
    · have hm2 : pd_ui I 92 0 (zn 0) 93 r = -1 := by rw [z92_b (by decide), ← b1, hm]
      refine zO3_er (J := J) (e := 2) h (by decide) ?_ ?_
      · unfold fn_L_five fn_X11_five
        rw [zr_there0 hr hm, zb_bxe, zb_bc2e, if_neg (by decide), if_pos rfl]
      · show fn_X12_five I (zn r) q u v = _
        unfold fn_X12_five
        rw [zn_0, zb_let, zr_row1 z92_0 ⟨r, rfl, hr⟩, zb_bd2, zb_jn, if_neg zn_p0, zn_in2 hr (by omega), zb_gd, zn_nat (by omega), zm1n, if_pos hm2, zb_bd, zr_noL z92_0 (by decide), zb_bd2, if_pos rfl]
    · have hs := zr_size b2 hm
      have hm6 := b2.2.1
      have hC : zT (fn_X11_five I Z n (zn r) q u v) (zE (fun _ => False) (fun (x : Int32 × pd_I) => x.1 = zn (zfs q u v m f 5).1 ∧ zF [60 + 2 * r + 1] I x.2 ∧ ∀ i, i < m → x.2 (60 + 2 * r + 1) i + 32 = zn ((zfs q u v m f 5).2 i))) := by
        unfold fn_X11_five
        rw [zr_there1 hr hm, zb_bx, za_row r hr, zb_gd, zn_0]
        exact zq_five13 hs hm6 (fun i hi => (b2.2.2 i hi).1) (fun I' g1 g2 => ⟨_, rfl, rfl, g1, g2⟩)
      obtain ⟨x, eC, hC⟩ := hC
      rcases x with er | ⟨c, I1⟩
      · exact hC.elim
      obtain ⟨rfl, f1, f2⟩ := hC
      simp only [] at f1 f2
      have d93 : I1 93 r = zn m := by rw [f1 93 (by simp; omega), ← b1, hs]
      have d94 : I1 94 = I 94 := f1 94 (by simp; omega)
      have hm2 : ¬ pd_ui I1 92 0 (zn 0) 93 r = -1 := by rw [z92_b (by decide), d93]; exact zn_m1e (by omega)
      have hR : zT (fn_X12_five I1 (zn r) q u v) (fun x => x.1 = zn (zfs q u v m f 5).1 ∧ zF [94] (pd_ui I1 92 0 (zn 0)) x.2 ∧ (∀ i, i < m → x.2 94 (600 * r + i) + 32 = zn ((zfs q u v m f 5).2 i)) ∧ ∀ i, i < 600 * r ∨ 600 * r + 600 ≤ i → x.2 94 i = I 94 i) := by
        unfold fn_X12_five
        rw [zn_0, zb_let, zr_row1 z92_0 ⟨r, rfl, hr⟩, zb_bd2, zb_jn, if_neg zn_p0, zn_in2 hr (by omega), zb_gd, zn_nat (by omega), zm1n, if_neg hm2, zb_bd, zr_ok z92_0, zb_bd2, if_neg zn_p0]
        refine zq_five45 (m := m) (f := f) hr (by rw [z92_b (by decide), d93]) hm6 (fun i hi => by rw [z92_b (by decide), d94]; exact (b3.2.2.2 i hi).1) (fun I' g1 g2 g3 => ⟨_, rfl, rfl, g1, g2, fun i hi => by show I' 94 i = I 94 i; rw [g3 i hi, z92_b (by decide), d94]⟩)
      obtain ⟨⟨c, I2⟩, eR, rfl, g1, g2, g3⟩ := hR
      simp only [] at g1 g2 g3
      refine ⟨0, I1, pd_uj J 132 (0 : Int32).toNatClampNeg (zn (zfs q u v m f 5).1).toInt64, _, I2, ?_, eR, by rw [g1 92 (by decide), z92_0, zn_0], fun _ => by rw [zb_j], ?_⟩
      · unfold fn_L_five
        rw [eC, zb_bc2, zb_in1, zb_gd]
        rfl
      · have c0 : I2 (60 + 2 * r) = I (60 + 2 * r) := by rw [g1 _ (by simp; omega), z92_b (by omega), f1 _ (by simp)]
        have c1 : I2 (60 + 2 * r + 1) = I1 (60 + 2 * r + 1) := by rw [g1 _ (by simp; omega), z92_b (by omega)]
        have c3 : I2 93 = I 93 := by rw [g1 _ (by simp), z92_b (by omega), f1 _ (by simp; omega)]
        have hlt := zfs_lt (p1 := q) (p2 := u) (p3 := v) (fun i hi => (b2.2.2 i hi).2) 5
        refine zCI_row (m0 := m) (f0 := (zfs q u v m f 5).2) h hr (fun b hb => ?_) (fun j hj => ?_) (fun j hj => by rw [c3]) g3 (by rw [c0, c3, b1]) ⟨by rw [c0]; exact Or.inl hs, hm6, fun i hi => ⟨by rw [c1]; exact f2 i hi, hlt i hi⟩⟩ ⟨hr, by rw [c3, ← b1]; exact Or.inl hs, hm6, fun i hi => ⟨g2 i hi, hlt i hi⟩⟩
        · simp only [List.mem_cons, List.not_mem_nil, or_false, not_or] at hb
          rw [g1 b (by simp; omega), z92_b (by omega), f1 b (by simp; omega)]
        · rw [g1 92 (by decide), z92_j hj, f1 92 (by simp; omega)]
  · refine zO3_er (J := J) (e := 1) h (by decide) ?_ ?_
    · unfold fn_L_five fn_X11_five
      rw [zr_thereX hp, zb_bxe, zb_bc2e, if_pos rfl]
    · show fn_X12_five I p q u v = _
      unfold fn_X12_five
      rw [zn_0, zb_let, zr_rowL z92_0 (by decide) hp, zb_bd2, zb_jn, if_pos rfl]
/-! take -/
theorem zr_wayOf1 {I : pd_I} {Z : pd_R} {n m k w : Nat} (hm : I 16 1 = zn m) (hm8 : m ≤ 8) (hk : k < m) (e : Z 17 k = some w) (hw : pd_isWay w = true) : fn_X11_wayOf I Z n (zn k) = some (.ok w) := by
  have hc : fn_X10_count I = some (zn m) := by unfold fn_X10_count; rw [hm]
  have hwa : fn_X10_wayAt Z n (zn k) = some w := by
    unfold fn_X10_wayAt
    rw [zn_in2 (show k < 9 by omega) (by omega), zb_gd, zn_nat (by omega), e, zb_bd, hw, zb_gd]
  unfold fn_X11_wayOf
  rw [zn_0, zi_lt (by omega) (by omega), if_neg (by omega), hc, zb_bd, zi_le (by omega) (by omega), if_neg (by omega), zb_bd, if_pos rfl, hwa, zb_bd, hw, zb_gd, zb_bd]
  simp only []
  rw [hw, zb_gd]
theorem zr_wayOf0 {I : pd_I} {Z : pd_R} {n m : Nat} {p : Int32} (hm : I 16 1 = zn m) (hm8 : m ≤ 8) (hp : ¬ zin p m) : fn_X11_wayOf I Z n p = some (.error "java/util/NoSuchElementException") := by
  have hc : fn_X10_count I = some (zn m) := by unfold fn_X10_count; rw [hm]
  unfold fn_X11_wayOf
  rw [hc, zb_bd, zin_f (by omega) hp, zb_bd, if_neg (by decide), zb_bd]
theorem zq_take25 {O : Type} {Q : O → Prop} {I : pd_I} {b w nn : Nat} {g : Nat → Nat} {kont : pd_I → Option O} (e : I b 1 = zn nn) (hw : w ≠ b ∧ w ≠ b + 1 ∧ w + 1 ≠ b + 1) (hw2 : w + 1 ≠ b) (e2 : I w 2 = zn nn) (hn : nn ≤ 200) (hg : ∀ t, t < nn → I (w + 1) t = zn (g t) ∧ g t < 2) (hK : ∀ I', zF [b + 1] I I' → (∀ i, i < nn → I' (b + 1) i = zn (g i)) → zT (kont I') Q) : zT (fl_X11_take_25 b w kont pd_FU (zn 0) I) Q := by
  refine zl_loop (fun fu j (s : pd_I) => fl_X11_take_25 b w kont fu j s) nn (fun j s => zF [b + 1] I s ∧ ∀ i, i < j → s (b + 1) i = zn (g i)) ?_ ?_ pd_FU 0 _ (by omega) (zFU (by omega)) ⟨zF_rfl, fun i hi => by omega⟩
  · rintro fu s ⟨h1, h2⟩
    rw [fl_X11_take_25, h1 w (by simp; omega), e2, if_pos (Int32.le_refl _)]
    exact hK s h1 h2
  · rintro fu j s hj ⟨h1, h2⟩ ih
    obtain ⟨g1, g2⟩ := hg j hj
    have e' : s b 1 = zn nn := by rw [h1 b (by simp), e]
    rw [fl_X11_take_25, h1 w (by simp; omega), e2, zi_le (by omega) (by omega), if_neg (by omega), zn_in2 (show j < 200 by omega) (by omega), zb_gd, zn_nat (by omega), h1 (w + 1) (by simp; omega), g1, zr_change e' (by omega) hj ⟨g j + 32, by omega, by rw [zn_32, zn_add]⟩, zb_bd, zb_let, zn_1, zn_add]
    refine ih _ ⟨zF_u (by simp) h1, fun i hi => ?_⟩
    rw [zu_same, zu_app]
    by_cases c : i = j
    · rw [if_pos c, c]
    · rw [if_neg c]; exact h2 i (by omega)
theorem zq_take55 {O : Type} {Q : O → Prop} {I : pd_I} {r k nn : Nat} {g : Nat → Nat} {kont : pd_I → Option O} (hr : r < 16) (hk : k < 8) (e2 : I 108 k = zn nn) (hn : nn ≤ 200) (hg : ∀ t, t < nn → I 105 (200 * k + t) = zn (g t)) (hK : ∀ I', zF [94] I I' → (∀ i, i < nn → I' 94 (600 * r + i) = zn (g i)) → (∀ i, i < 600 * r ∨ 600 * r + 600 ≤ i → I' 94 i = I 94 i) → zT (kont I') Q) : zT (fl_X12_take_55 (zn k) (zn r) kont pd_FU (zn 0) I) Q := by
  refine zl_loop (fun fu j (s : pd_I) => fl_X12_take_55 (zn k) (zn r) kont fu j s) 600 (fun j s => zF [94] I s ∧ (∀ i, i < j → i < nn → s 94 (600 * r + i) = zn (g i)) ∧ ∀ i, i < 600 * r ∨ 600 * r + 600 ≤ i → s 94 i = I 94 i) ?_ ?_ pd_FU 0 _ (by omega) (zFU (by omega)) ⟨zF_rfl, fun i hi => by omega, fun _ _ => rfl⟩
  · rintro fu s ⟨h1, h2, h3⟩
    rw [fl_X12_take_55, zn_600, if_pos (Int32.le_refl _)]
    exact hK s h1 (fun i hi => h2 i (by omega) hi) h3
  · rintro fu j s hj ⟨h1, h2, h3⟩ ih
    have ev : (if zn nn ≤ zn j then some (0 : Int32) else (pd_gd (pd_in ((200 * zn k) + zn j) 1600) (some (s 105 ((200 * zn k) + zn j).toNatClampNeg)))) = some (if j < nn then zn (g j) else 0) := by
      rw [zi_le (by omega) (by omega)]
      by_cases c : nn ≤ j
      · rw [if_pos c, if_neg (by omega)]
      · rw [if_neg c, if_pos (by omega), zn_200, zn_mul, zn_add, zn_in2 (show 200 * k + j < 1600 by omega) (by omega), zb_gd, zn_nat (by omega), h1 105 (by simp), hg j (by omega)]
    rw [fl_X12_take_55, zn_600, zi_le (by omega) (by omega), if_neg (by omega), zn_in2 hk (by omega), zb_gd, zn_nat (show k < 2147483648 by omega), h1 108 (by simp), e2, ev, zb_bd, zn_mul, zn_add, zn_in2 (show 600 * r + j < 9600 by omega) (by omega), zb_gd, zn_nat (by omega), zb_let, zb_let, zn_1, zn_add]
    refine ih _ ⟨zF_u (by simp) h1, fun i hi hi2 => ?_, fun i hi => ?_⟩
    · rw [zu_same, zu_app]
      by_cases c : i = j
      · rw [if_pos (by rw [c]), c, if_pos (by omega)]
      · rw [if_neg (by omega)]; exact h2 i (by omega) hi2
    · rw [zu_same, zu_nat (by omega)]; exact h3 i hi
theorem zo_take {I : pd_I} {J : pd_J} {Z : pd_R} {n : Nat} {p q : Int32} (h : zCI I Z n) : zO3 (fn_L_take I J Z n p q) (fun I1 => fn_X12_take I1 p q) Z n := by
  by_cases hq : zin q 16
  · obtain ⟨r, rfl, hr⟩ := hq
    obtain ⟨m, f, b1, b2, b3⟩ := zr_rowI h.1 hr
    obtain ⟨hZw, m, W, nn, w1, w2, w3, w4⟩ := h.2.2.2.1
    by_cases hp : zin p m
    · obtain ⟨k, rfl, hk⟩ := hp
      obtain ⟨x1, x2, ⟨w, x3, x4⟩, x5⟩ := w4 k hk
      have hw : pd_isWay w = true := by obtain ⟨w', e, q⟩ := hZw.1 k (by omega); rw [x3] at e; cases e; exact q
      obtain ⟨y1, y2, y3⟩ := zw_way hw
      obtain ⟨I1, e1, f1, f2, f3⟩ := zq_begin (I := I) (b := 60 + 2 * r) (show nn k ≤ 600 by omega)
      have hC : zT (fn_X11_take I Z n (zn k) (zn r)) (zE (fun _ => False) (fun (x : Int32 × pd_I) => x.1 = zn (nn k) ∧ zF [60 + 2 * r, 60 + 2 * r + 1] I x.2 ∧ x.2 (60 + 2 * r) 1 = zn (nn k) ∧ ∀ i, i < nn k → x.2 (60 + 2 * r + 1) i = zn ((W k).2.1 i))) := by
        unfold fn_X11_take
        rw [zr_rowOf1 hr, zb_bx, za_row r hr, zb_gd, zr_wayOf1 w2 w1 hk x3 hw, zb_bx, hw, zb_gd, x4.2.2.1, e1, zb_bd, zn_0]
        refine zq_take25 (nn := nn k) (g := (W k).2.1) f2 ⟨by omega, by omega, by omega⟩ (by omega) (by rw [f1 w (by simp; omega)]; exact x4.2.2.1) x1 (fun t ht => ⟨by rw [f1 (w + 1) (by simp; omega)]; exact x4.2.2.2 t ht, x2.2.1 t⟩) (fun I' g1 g2 => ⟨_, rfl, ?_, fun b hb => ?_, ?_, g2⟩)
        · show I' w 2 = zn (nn k)
          rw [g1 w (by simp; omega), f1 w (by simp; omega)]; exact x4.2.2.1
        · show I' b = I b
          rw [g1 b (fun hh => hb (List.mem_cons_of_mem _ hh)), f1 b hb]
        · show I' (60 + 2 * r) 1 = _
          rw [g1 _ (by simp), f2]
      obtain ⟨x, eC, hC⟩ := hC
      rcases x with er | ⟨c, I2⟩
      · exact hC.elim
      obtain ⟨rfl, h1, h2, h3⟩ := hC
      simp only [] at h1 h2 h3
      have hx : ∀ b, b < 60 ∨ 92 ≤ b → I2 b = I b := fun b hb => h1 b (by simp; omega)
      have hR : zT (fn_X12_take I2 (zn k) (zn r)) (fun x => x.1 = zn (nn k) ∧ zF [94] (pd_ui (pd_ui I2 92 0 (zn 0)) 93 r (zn (nn k))) x.2 ∧ (∀ i, i < nn k → x.2 94 (600 * r + i) = zn ((W k).2.1 i)) ∧ ∀ i, i < 600 * r ∨ 600 * r + 600 ≤ i → x.2 94 i = I 94 i) := by
        have c8 : pd_ui I2 92 0 (zn 0) 108 k = zn (nn k) := by rw [z92_b (by decide), hx _ (by omega)]; exact x5.2.2.1
        unfold fn_X12_take
        rw [zn_0, zb_let, zr_row1 z92_0 ⟨r, rfl, hr⟩, zb_bd2, zb_jn, if_neg zn_p0, z92_j (by decide), hx 92 (by omega), w3, zin_tz (by omega) ⟨k, rfl, hk⟩, zb_bd, if_pos rfl, zb_bd, zr_ok1 z92_0, zb_bd2, if_neg zn_p0, zn_in2 (show k < 8 by omega) (by omega), zb_gd, zn_in2 hr (by omega), zb_gd, zn_nat (show k < 2147483648 by omega), zn_nat (show r < 2147483648 by omega), c8, zb_let]
        refine zq_take55 (nn := nn k) (g := (W k).2.1) hr (by omega) (by rw [zu_ne (by decide)]; exact c8) x1 (fun t ht => by rw [zu_ne (by decide), z92_b (by decide), hx _ (by omega)]; exact x5.2.2.2 t ht) (fun I' g1 g2 g3 => ?_)
        rw [zb_gd]
        refine ⟨_, rfl, ?_, g1, g2, fun i hi => ?_⟩
        · show I' 108 k = zn (nn k)
          rw [g1 108 (by decide), zu_ne (by decide), c8]
        · show I' 94 i = I 94 i
          rw [g3 i hi, zu_ne (by decide), z92_b (by decide), hx 94 (by omega)]
      obtain ⟨⟨c, I3⟩, eR, rfl, g1, g2, g3⟩ := hR
      simp only [] at g1 g2 g3
      refine ⟨0, I2, pd_uj J 132 (0 : Int32).toNatClampNeg (zn (nn k)).toInt64, _, I3, ?_, eR, by rw [g1 92 (by decide), zu_ne (by decide), z92_0, zn_0], fun _ => by rw [zb_j], ?_⟩
      · unfold fn_L_take
        rw [eC, zb_bc2, zb_in1, zb_gd]
        rfl
      · have c0 : I3 (60 + 2 * r) = I2 (60 + 2 * r) := by rw [g1 _ (by simp; omega), zu_ne (by omega), z92_b (by omega)]
        have c1 : I3 (60 + 2 * r + 1) = I2 (60 + 2 * r + 1) := by rw [g1 _ (by simp; omega), zu_ne (by omega), z92_b (by omega)]
        have c3 : I3 93 = upd (I 93) r (zn (nn k)) := by rw [g1 _ (by simp), zu_same, z92_b (by omega), hx 93 (by omega)]
        refine zCI_row (m0 := nn k) (f0 := fun i => (W k).2.1 i + 32) h hr (fun b hb => ?_) (fun j hj => ?_) (fun j hj => by rw [c3, zu_nat hj]) g3 (by rw [c0, c3, zu_at, h2]) ⟨Or.inl (by rw [c0, h2]), by omega, fun i hi => ⟨by rw [c1, h3 i hi, zn_32, zn_add], by have := x2.2.1 i; show (W k).2.1 i + 32 < 64; omega⟩⟩ ⟨hr, Or.inl (by rw [c3, zu_at]), by omega, fun i hi => ⟨by rw [g2 i hi, zn_32, zn_add], by have := x2.2.1 i; show (W k).2.1 i + 32 < 64; omega⟩⟩
        · simp only [List.mem_cons, List.not_mem_nil, or_false, not_or] at hb
          rw [g1 b (by simp; omega), zu_ne (by omega), z92_b (by omega), h1 b (by simp; omega)]
        · rw [g1 92 (by decide), zu_ne (by decide), z92_j hj, hx 92 (by omega)]
    · refine zO3_er (J := J) (e := 2) h (by decide) ?_ ?_
      · unfold fn_L_take fn_X11_take
        rw [zr_rowOf1 hr, zb_bx, za_row r hr, zb_gd, zr_wayOf0 w2 w1 hp, zb_bxe, zb_bc2e, if_neg (by decide), if_pos rfl]
      · show fn_X12_take I p (zn r) = _
        unfold fn_X12_take
        rw [zn_0, zb_let, zr_row1 z92_0 ⟨r, rfl, hr⟩, zb_bd2, zb_jn, if_neg zn_p0, z92_j (by decide), w3, zin_fz (by omega) hp, zb_bd, if_neg (by decide), zb_bd, zr_noL z92_0 (by decide), zb_bd2, if_pos rfl]
  · refine zO3_er (J := J) (e := 1) h (by decide) ?_ ?_
    · unfold fn_L_take fn_X11_take
      rw [zr_rowOf0 hq, zb_bxe, zb_bc2e, if_pos rfl]
    · show fn_X12_take I p q = _
      unfold fn_X12_take
      rw [zn_0, zb_let, zr_rowL z92_0 (by decide) hq, zb_bd2, zb_jn, if_pos rfl]
