/-! the class finds the least ways, whole -/
theorem zq_would {I : pd_I} {Z : pd_R} {n nn k cnt : Nat} {X : Nat × (Nat → Nat) × Nat} {W : Nat → Nat × (Nat → Nat) × Nat} (hk : 1 ≤ k) (hk8 : k ≤ 8) (hck : cnt ≤ k) (hn : nn ≤ 200) (h1 : I 16 1 = zn cnt) (h2 : I 16 2 = zn k) (hZ : zZw Z) (hR : zRep I Z (zuw W cnt X) (cnt + 1) nn) (hB : ∀ j, j < cnt + 1 → zWb (zuw W cnt X j)) :
    fn_X10_wouldKeepOffered I Z n = some (zn (if cnt < k then 1 else zah nn X (W (k - 1)))) := by
  unfold fn_X10_wouldKeepOffered
  rw [h1, h2, zi_lt (by omega) (by omega)]
  by_cases c : cnt < k
  · rw [if_pos c, if_pos c]; rfl
  · have e : cnt = k := by omega
    subst e
    rw [if_neg c, if_neg c]
    obtain ⟨w1, a1, a2⟩ := hR cnt (by omega)
    obtain ⟨w0, b1, b2⟩ := hR (cnt - 1) (by omega)
    have c1 : pd_isWay w1 = true := by obtain ⟨w, e, q⟩ := hZ.1 cnt (by omega); rw [a1] at e; cases e; exact q
    have c0 : pd_isWay w0 = true := by obtain ⟨w, e, q⟩ := hZ.1 (cnt - 1) (by omega); rw [b1] at e; cases e; exact q
    have hah := zw_ahead a2 b2 (hB _ (by omega)) (hB _ (by omega)) hn
    have f1 : zuw W cnt X cnt = X := by unfold zuw; rw [if_pos rfl]
    have f0 : zuw W cnt X (cnt - 1) = W (cnt - 1) := by unfold zuw; rw [if_neg (by omega)]
    rw [f1, f0] at hah
    have hle := zah_le (n := nn) (X := X) (Y := W (cnt - 1))
    simp (disch := omega) only [zb_gd, zb_bd, zb_bd2, zb_let, zb_jn, zn_0, zn_1, zn_2, zn_3, zn_4, zn_5, zn_6, zn_7, zn_8, zn_11, zn_12, zn_15, zn_16, zn_18, zn_30, zn_31, zn_32, zn_64, zn_128, zn_199, zn_200, zn_512, zn_600, zn_1000, zn_2048, zn_add, zn_mul, zn_sub, zn_in2, zn_nat, zn_le, zn_lt, zn_eq, if_pos, if_neg, Bool.false_eq_true, ↓reduceIte, a1, b1, c1, c0, hah]
    by_cases d : zah nn X (W (cnt - 1)) = 0
    · rw [if_pos d, d]; rfl
    · rw [if_neg d, show zah nn X (W (cnt - 1)) = 1 by omega]; rfl
def zLX : List Nat := [16, 18, 19, 20, 21, 22, 23, 24, 25, 26, 27, 28, 29, 30, 31, 32, 33, 34, 35, 37, 38, 39, 40, 41]
def zLV : List Nat := [14, 16, 18, 19, 20, 21, 22, 23, 24, 25, 26, 27, 28, 29, 30, 31, 32, 33, 34, 35, 37, 38, 39, 40, 41]
theorem zLX_w : ∀ w < 36, 18 ≤ w → w ∈ zLX := by decide
theorem zq_worth {I : pd_I} {Z : pd_R} {n na la nc lc nn k T cnt begin : Nat} {cd E F : Nat → Nat} {P : Nat → Nat → Nat} {W : Nat → Nat × (Nat → Nat) × Nat} (hn : 133 ≤ n) (hZ : zZs Z na la nc lc) (hv : zCv cd) (hla : zLa I cd T P) (hT : T ≤ 206) (hnT : nn ≤ T) (hn1 : 1 ≤ nn) (hn2 : nn ≤ 200) (hk : 1 ≤ k) (hk8 : k ≤ 8) (hE : ∀ s, E s ≤ 1) (hP : ∀ t e, P t e ≤ 10000) (hF1 : ∀ s, F s ≤ 100000)
    (hE14 : ∀ s, s < 2 ^ cd 1 → I 14 s = zn (if E s = 1 then F s else zEE)) (hb : begin < 2 ^ cd 1) (hC : zCl I Z nn k cnt W) :
    zT (fn_X5_isWorthwhile I Z n (zn begin) (zn nn)) (fun r => (∃ na la nc lc, zZs r.2.2 na la nc lc) ∧ (∀ b, b ≠ 36 → r.2.2 b = Z b) ∧ zF zLX I r.2.1 ∧ zCl r.2.1 r.2.2 nn k cnt W ∧ r.1 = zn (if (zLs cd P k nn E F nn begin).1 = 0 then 0 else if cnt < k then 1 else zah nn (zwy cd P k nn E F begin 0) (W (k - 1)))) := by
  have hS := zCv_S hv
  obtain ⟨i1, i2⟩ := zL1 (cd := cd) (E := E) (F := F) (P := P) (n := nn) hk nn begin
  have hN8 : (zLs cd P 1 nn E F nn begin).1 ≤ 8 := Nat.le_trans (zLs_cnt (Nat.le_refl 1) hE _ _) (by omega)
  unfold fn_X5_isWorthwhile
  rw [zT_bd2, zn_1]
  refine zT_mono (zq_come hn hZ hv hla hT hnT hn1 hn2 (Nat.le_refl 1) (by omega) hP hE14 hE hF1) (fun r1 ⟨na, la, nc, lc, hZ1, hZo, hF, hL, hO⟩ => ?_)
  obtain ⟨ha1, ha2, ha3, ha4⟩ := zZs_a hZ1 hn
  have hC1 : zCl r1.1 r1.2 nn k cnt W := zCl_F (by decide) hk8 hF (hZo 17 (by omega)) hC
  rw [hZ1.2.2.2.1, zb_bd, ha4, zb_gd, zn_in2 (by omega) (by omega), zb_gd, zn_nat (by omega), (hL begin hb).1, zn_0, zi_eq (by omega) (by omega)]
  by_cases c : (zLs cd P 1 nn E F nn begin).1 = 0
  · rw [if_pos c]
    refine ⟨_, rfl, ⟨na, la, nc, lc, hZ1⟩, hZo, zF_sub hF (by decide), hC1, ?_⟩
    rw [if_pos (i1.mp c)]
  · have ck : ¬ (zLs cd P k nn E F nn begin).1 = 0 := fun e => c (i1.mpr e)
    rw [if_neg c, zT_bd]
    obtain ⟨w, hw, hw2⟩ := hC1.2.2.2.1.1 cnt (by have := hC.2.2.1; omega)
    have hck := hC.2.2.1
    have hla1 : zLa r1.1 cd T P := zLa_F (by decide) (by decide) (by decide) (by decide) hF hla
    refine zT_mono (zq_follow hn hZ1 hv hla1 hn2 (Nat.le_refl 1) (by omega) hE hL hO hC1.1 (by omega) hw hw2 hb (rank := 0) (by omega)) (fun I3 ⟨hF3, hX3⟩ => ?_)
    have hF3' : zF zLX r1.1 I3 := zF_w hw2 (fun x h1 h2 => zLX_w x h2 h1) hF3
    have e16 : I3 16 = r1.1 16 := hF3 16 (by have := zw_way hw2; simp; omega)
    obtain ⟨x1, x2, x3⟩ := zwy1 (cd := cd) (E := E) (F := F) (P := P) (n := nn) (begin := begin) hk (by omega)
    have hR3 := zRep_w (by omega) hC1.2.2.2.1 hw hw2 hF3 hX3 hC1.2.2.2.2.1
    have hB3 : ∀ j, j < cnt + 1 → zWb (zuw W cnt (zwy cd P 1 nn E F begin 0) j) := by
      intro j hj
      unfold zuw
      by_cases e : j = cnt
      · rw [if_pos e]; exact zwy_b hP hF1 hn2 (by omega) (by omega)
      · rw [if_neg e]; exact hC1.2.2.2.2.2 j (by omega)
    have hwk := zq_would (n := n) hk hk8 hck hn2 (by rw [e16]; exact hC1.1) (by rw [e16]; exact hC1.2.1) hC1.2.2.2.1 hR3 hB3
    have hle := zah_le (n := nn) (X := zwy cd P 1 nn E F begin 0) (Y := W (k - 1))
    rw [hwk, zb_bd, zc_bo (by split <;> omega), zb_gd]
    refine ⟨_, rfl, ⟨na, la, nc, lc, hZ1⟩, hZo, zF_tr (zF_sub hF (by decide)) hF3', ?_, ?_⟩
    · refine ⟨by show I3 16 1 = _; rw [e16]; exact hC1.1, by show I3 16 2 = _; rw [e16]; exact hC1.2.1, hck, hC1.2.2.2.1, ?_, hC1.2.2.2.2.2⟩
      intro j hj
      obtain ⟨v, e1, e2⟩ := hR3 j (by omega)
      refine ⟨v, e1, ?_⟩
      unfold zuw at e2
      rw [if_neg (by omega)] at e2
      exact e2
    · rw [if_neg ck, zah_congr (Y := W (k - 1)) (Y' := W (k - 1)) x1 (fun t _ => x2 t) x3 rfl (fun _ _ => rfl) rfl]
theorem zCl_W {I : pd_I} {Z : pd_R} {n k cnt : Nat} {W W' : Nat → Nat × (Nat → Nat) × Nat} (h : ∀ j, j < cnt → W' j = W j) (q : zCl I Z n k cnt W) : zCl I Z n k cnt W' := by
  obtain ⟨q1, q2, q3, q4, q5, q6⟩ := q
  refine ⟨q1, q2, q3, q4, fun j hj => ?_, fun j hj => ?_⟩
  · rw [h j hj]; exact q5 j hj
  · rw [h j hj]; exact q6 j hj
theorem zof_rej {n k : Nat} {wy W : Nat → Nat × (Nat → Nat) × Nat} {N : Nat} (hk : 1 ≤ k) (hN : 1 ≤ N) (h : zah n (wy 0) (W (k - 1)) = 0) : (zof n k wy k W N).1 = k ∧ ∀ j, j < k → (zof n k wy k W N).2.1 j = W j := by
  obtain ⟨p, rfl⟩ : ∃ p, k = p + 1 := ⟨k - 1, by omega⟩
  rw [Nat.add_sub_cancel] at h
  have f1 : zuw W (p + 1) (wy 0) (p + 1) = wy 0 := by unfold zuw; rw [if_pos rfl]
  have f0 : zuw W (p + 1) (wy 0) p = W p := by unfold zuw; rw [if_neg (by omega)]
  have e1 : zof n (p + 1) wy (p + 1) W 1 = (p + 1, zuw W (p + 1) (wy 0), 0) := by
    show (if (1 : Nat) = 0 then _ else _) = _
    rw [if_neg (by omega)]
    show (if p + 1 ≤ p + 1 then p + 1 else p + 1 + 1, zbb n (p + 1) (zuw W (p + 1) (wy 0)), if p + 1 ≤ zbp n (p + 1) (zuw W (p + 1) (wy 0)) then 0 else 1) = _
    unfold zbb zbp
    have h1 : ¬ zah n (wy 0) (W p) = 1 := by omega
    rw [f1, f0, if_neg h1, if_neg h1, if_pos (Nat.le_refl _), if_pos (Nat.le_refl _)]
  have e2 := zof_stick (n := n) (k := p + 1) (wy := wy) (c0 := p + 1) (W0 := W) (r := 1) (by rw [e1]) (N - 1)
  rw [show 1 + (N - 1) = N by omega, e1] at e2
  rw [e2]
  refine ⟨rfl, fun j hj => ?_⟩
  show zuw W (p + 1) (wy 0) j = W j
  unfold zuw; rw [if_neg (by omega)]
/-- how many and which, after b beginnings -/
def zfl (cd : Nat → Nat) (P : Nat → Nat → Nat) (k n : Nat) : Nat → Nat × (Nat → Nat × (Nat → Nat) × Nat)
  | 0 => (0, fun _ => (0, fun _ => 0, 0))
  | b + 1 => ((zof n k (zwy cd P k n (zEn cd b) (zFn cd P n) b) (zfl cd P k n b).1 (zfl cd P k n b).2 (zLs cd P k n (zEn cd b) (zFn cd P n) n b).1).1, (zof n k (zwy cd P k n (zEn cd b) (zFn cd P n) b) (zfl cd P k n b).1 (zfl cd P k n b).2 (zLs cd P k n (zEn cd b) (zFn cd P n) n b).1).2.1)
def zBg (cd : Nat → Nat) : Nat := if cd 0 = 4 then 2 ^ cd 1 else 1
theorem zc_beginnings {I : pd_I} {a : Nat} {cd : Nat → Nat} (h : zCo I a cd) (hv : zCv cd) : fn_X0_beginnings I a = some (zn (zBg cd)) := by
  have h0 : cd 0 ≤ 5 := hv.1
  unfold fn_X0_beginnings zBg
  rw [h.1, zn_4, zi_eq (by omega) (by omega), zc_states h hv]
  by_cases c : cd 0 = 4
  · rw [if_pos c, if_pos c]; rfl
  · rw [if_neg c, if_neg c]; rfl
theorem zBg_le {cd : Nat → Nat} (hv : zCv cd) : 1 ≤ zBg cd ∧ zBg cd ≤ 2 ^ cd 1 ∧ zBg cd ≤ 64 := by
  have hS := zCv_S hv
  unfold zBg; split <;> omega
theorem zq_find {I : pd_I} {Z : pd_R} {n a na la nc lc nn k T : Nat} {cd : Nat → Nat} {P : Nat → Nat → Nat} (hn : 133 ≤ n) (ha : 133 ≤ a) (h : zCo I a cd) (hZ : zZs Z na la nc lc) (hZw : zZw Z) (hv : zCv cd) (hla : zLa I cd T P) (hT : T ≤ 206) (hnT : zst cd nn ≤ T) (hn1 : 1 ≤ nn) (hn2 : nn ≤ 200) (hk : 1 ≤ k) (hk8 : k ≤ 8) (hP : ∀ t e, P t e ≤ 10000) :
    zT (fn_X5_findLeast I Z n a (zn nn) (zn k)) (fun r => (∃ na la nc lc, zZs r.2 na la nc lc) ∧ (∀ b, b ≠ 36 → b ≠ 17 → r.2 b = Z b) ∧ zF zLV I r.1 ∧ zCl r.1 r.2 nn k (zfl cd P k nn (zBg cd)).1 (zfl cd P k nn (zBg cd)).2) := by
  have hS := zCv_S hv
  have hB := zBg_le hv
  have hst := zst_le (n := nn) hv
  have hFb : ∀ s, zFn cd P nn s ≤ 100000 := fun s => Nat.le_trans (zFn_le hv hP) (by omega)
  unfold fn_X5_findLeast fn_X10_open
  rw [zb_let, zb_let, zb_bd]
  obtain ⟨I1, hI1⟩ : ∃ I1, I1 = pd_ui (pd_ui I 16 1 0) 16 2 (zn k) := ⟨_, rfl⟩
  rw [← hI1]
  have hF1 : zF zLV I I1 := by rw [hI1]; exact zF_u (by decide) (zF_u (by decide) zF_rfl)
  have hC1 : zCl I1 Z nn k 0 (fun _ => (0, fun _ => 0, 0)) := by
    refine ⟨?_, ?_, by omega, hZw, fun j hj => by omega, fun j hj => by omega⟩
    · rw [hI1, zu_same, zu_nat (by omega), zu_same, zu_at]; rfl
    · rw [hI1, zu_same, zu_at]
  rw [zc_beginnings (zCo_F (by decide) ha hF1 h) hv, zb_bd, zn_0]
  refine zl_loop (fun fu b (st : pd_I × pd_R) => fl_X5_findLeast_17 a (zn nn) (zn k) (zn (zBg cd)) n (fun zI3 zZ2 => some (zI3, zZ2)) fu b st.1 st.2) (zBg cd) (fun b st => (∃ na la nc lc, zZs st.2 na la nc lc) ∧ (∀ b, b ≠ 36 → b ≠ 17 → st.2 b = Z b) ∧ zF zLV I st.1 ∧ zCl st.1 st.2 nn k (zfl cd P k nn b).1 (zfl cd P k nn b).2) ?_ ?_ pd_FU 0 (I1, Z) (by omega) (zFU (by omega)) ⟨⟨na, la, nc, lc, hZ⟩, fun _ _ _ => rfl, hF1, hC1⟩
  · rintro fu ⟨I', Z'⟩ hI
    try simp only [] at hI ⊢
    rw [fl_X5_findLeast_17, if_pos (by rw [zn_le (by omega) (by omega)]; omega)]
    exact ⟨_, rfl, hI⟩
  · rintro fu b ⟨I', Z'⟩ hb ⟨⟨na, la, nc, lc, hZ'⟩, hZo, hF, hC⟩ ih
    try simp only [] at hZ' hZo hF hC ih ⊢
    have hcd := zCo_F (by decide) ha hF h
    have hla' : zLa I' cd T P := zLa_F (by decide) (by decide) (by decide) (by decide) hF hla
    rw [fl_X5_findLeast_17, if_neg (by rw [zn_le (by omega) (by omega)]; omega), zT_bd]
    refine zT_mono (zq_setEnds (begin := b) ha hcd hv hla' hnT hT (by omega)) (fun I4 ⟨hF4, hE4⟩ => ?_)
    have hla4 : zLa I4 cd T P := zLa_F (by decide) (by decide) (by decide) (by decide) hF4 hla'
    have hC4 : zCl I4 Z' nn k (zfl cd P k nn b).1 (zfl cd P k nn b).2 := zCl_F (by decide) hk8 hF4 rfl hC
    have full : ∀ (I5 : pd_I) (Z5 : pd_R), (∃ na la nc lc, zZs Z5 na la nc lc) → zLa I5 cd T P → (∀ s, s < 2 ^ cd 1 → I5 14 s = zn (if zEn cd b s = 1 then zFn cd P nn s else zEE)) → zCl I5 Z5 nn k (zfl cd P k nn b).1 (zfl cd P k nn b).2 → zT (pd_bd2 (fn_X5_comeBack I5 Z5 n (zn nn) (zn k)) fun zI9 zZ7 => pd_bd2 (fn_X5_offerAll zI9 zZ7 n (zn b) (zn nn)) fun zI10 zZ8 => some (zI10, zZ8)) (fun p => (∃ na la nc lc, zZs p.2 na la nc lc) ∧ (∀ b, b ≠ 36 → b ≠ 17 → p.2 b = Z5 b) ∧ zF zLV I5 p.1 ∧ zCl p.1 p.2 nn k (zfl cd P k nn (b + 1)).1 (zfl cd P k nn (b + 1)).2) := by
      intro I5 Z5 ⟨na, la, nc, lc, hZ5⟩ hla5 hE5 hC5
      rw [zT_bd2]
      refine zT_mono (zq_come hn hZ5 hv hla5 hT (by omega) hn1 hn2 hk hk8 hP hE5 (fun s => zEn_le) hFb) (fun r1 ⟨na, la, nc, lc, hZ1, hZo1, hFr, hL, hO⟩ => ?_)
      rw [zT_bd2]
      have hla1 : zLa r1.1 cd T P := zLa_F (by decide) (by decide) (by decide) (by decide) hFr hla5
      refine zT_mono (zq_offer hn hZ1 hv hla1 hn2 hk hk8 (fun s => zEn_le) hP hFb hL hO (by omega) (zCl_F (by decide) hk8 hFr (hZo1 17 (by omega)) hC5)) (fun r2 ⟨hF2, hZ2, hC2⟩ => ?_)
      refine ⟨_, rfl, ⟨na, la, nc, lc, zZs_Z (hZ2 36 (by omega)) hZ1⟩, fun x h1 h2 => by rw [hZ2 x h2, hZo1 x h1], zF_tr (zF_sub hFr (by decide)) (zF_sub hF2 (by decide)), hC2⟩
    have cont : ∀ p : pd_I × pd_R, ((∃ na la nc lc, zZs p.2 na la nc lc) ∧ (∀ b, b ≠ 36 → b ≠ 17 → p.2 b = Z' b) ∧ zF zLV I4 p.1 ∧ zCl p.1 p.2 nn k (zfl cd P k nn (b + 1)).1 (zfl cd P k nn (b + 1)).2) → zT (pd_let (zn b + 1) fun zv1 => fl_X5_findLeast_17 a (zn nn) (zn k) (zn (zBg cd)) n (fun zI3 zZ2 => some (zI3, zZ2)) fu zv1 p.1 p.2) (fun r => (∃ na la nc lc, zZs r.2 na la nc lc) ∧ (∀ b, b ≠ 36 → b ≠ 17 → r.2 b = Z b) ∧ zF zLV I r.1 ∧ zCl r.1 r.2 nn k (zfl cd P k nn (zBg cd)).1 (zfl cd P k nn (zBg cd)).2) := by
      intro p ⟨p1, p2, p3, p4⟩
      rw [zb_let, zn_1, zn_add]
      exact ih (p.1, p.2) ⟨p1, fun x h1 h2 => by show p.2 x = _; rw [p2 x h1 h2, hZo x h1 h2], zF_tr hF (zF_tr (zF_sub hF4 (by decide)) p3), p4⟩
    rw [zT_bd2]
    by_cases c : k = 1 ∨ zBg cd = 1
    · have hx : (if zn k = 1 then some false else (if zn (zBg cd) = 1 then some false else (some true))) = some false := by
        rw [zn_1, zi_eq (by omega) (by omega), zi_eq (by omega) (by omega)]
        rcases c with e | e
        · rw [if_pos e]
        · rw [if_pos e]; split <;> rfl
      rw [hx, zb_bd, if_neg (by decide)]
      exact zT_mono (full I4 Z' ⟨na, la, nc, lc, hZ'⟩ hla4 hE4 hC4) cont
    · have hx : (if zn k = 1 then some false else (if zn (zBg cd) = 1 then some false else (some true))) = some true := by
        rw [zn_1, zi_eq (by omega) (by omega), zi_eq (by omega) (by omega), if_neg (fun e => c (Or.inl e)), if_neg (fun e => c (Or.inr e))]
      rw [hx, zb_bd, if_pos rfl, zT_bd3]
      have hck := hC4.2.2.1
      refine zT_mono (zq_worth (E := zEn cd b) (F := zFn cd P nn) hn hZ' hv hla4 hT (by omega) hn1 hn2 hk hk8 (fun s => zEn_le) hP hFb hE4 (by omega) hC4) (fun r6 ⟨s1, s2, s3, s4, s5⟩ => ?_)
      have hle := zah_le (n := nn) (X := zwy cd P k nn (zEn cd b) (zFn cd P nn) b 0) (Y := (zfl cd P k nn b).2 (k - 1))
      rw [s5, zn_0, zi_eq (by split <;> (try split) <;> omega) (by omega)]
      by_cases d : (if (zLs cd P k nn (zEn cd b) (zFn cd P nn) nn b).1 = 0 then 0 else if (zfl cd P k nn b).1 < k then 1 else zah nn (zwy cd P k nn (zEn cd b) (zFn cd P nn) b 0) ((zfl cd P k nn b).2 (k - 1))) = 0
      · rw [if_pos d]
        refine ⟨_, rfl, cont (r6.2.1, r6.2.2) ⟨s1, fun x h1 h2 => s2 x h1, zF_sub s3 (by decide), ?_⟩⟩
        by_cases d0 : (zLs cd P k nn (zEn cd b) (zFn cd P nn) nn b).1 = 0
        · have e1 : (zfl cd P k nn (b + 1)).1 = (zfl cd P k nn b).1 := by
            show (zof _ _ _ _ _ _).1 = _
            rw [d0]; rfl
          have e2 : (zfl cd P k nn (b + 1)).2 = (zfl cd P k nn b).2 := by
            show (zof _ _ _ _ _ _).2.1 = _
            rw [d0]; rfl
          rw [e1, e2]; exact s4
        · rw [if_neg d0] at d
          by_cases d1 : (zfl cd P k nn b).1 < k
          · rw [if_pos d1] at d; omega
          · rw [if_neg d1] at d
            have ek : (zfl cd P k nn b).1 = k := by omega
            obtain ⟨g1, g2⟩ := zof_rej (wy := zwy cd P k nn (zEn cd b) (zFn cd P nn) b) (W := (zfl cd P k nn b).2) (N := (zLs cd P k nn (zEn cd b) (zFn cd P nn) nn b).1) hk (by omega) d
            have e1 : (zfl cd P k nn (b + 1)).1 = k := by
              show (zof _ _ _ _ _ _).1 = _
              rw [ek]; exact g1
            have e2 : (zfl cd P k nn (b + 1)).2 = (zof nn k (zwy cd P k nn (zEn cd b) (zFn cd P nn) b) k (zfl cd P k nn b).2 (zLs cd P k nn (zEn cd b) (zFn cd P nn) nn b).1).2.1 := by
              show (zof _ _ _ _ _ _).2.1 = _
              rw [ek]
            rw [e1, e2]
            rw [ek] at s4
            exact zCl_W g2 s4
      · rw [if_neg d]
        have hla6 : zLa r6.2.1 cd T P := zLa_F (by decide) (by decide) (by decide) (by decide) s3 hla4
        have hE6 : ∀ s, s < 2 ^ cd 1 → r6.2.1 14 s = zn (if zEn cd b s = 1 then zFn cd P nn s else zEE) := by rw [s3 14 (by decide)]; exact hE4
        refine zT_mono (full r6.2.1 r6.2.2 s1 hla6 hE6 s4) (fun p ⟨p1, p2, p3, p4⟩ => cont p ⟨p1, fun x h1 h2 => by rw [p2 x h1 h2, s2 x h1], zF_tr (zF_sub s3 (by decide)) p3, p4⟩)
