/-! the reference's WAYS -/
def zRepM (I : pd_I) (W : Nat → Nat × (Nat → Nat) × Nat) (m n : Nat) : Prop := ∀ j, j < m → zWm I j (W j) n
theorem zRepM_F {L : List Nat} {I I' : pd_I} {W : Nat → Nat × (Nat → Nat) × Nat} {m n : Nat} (h5 : 105 ∉ L) (h6 : 106 ∉ L) (h7 : 107 ∉ L) (h8 : 108 ∉ L) (h : zF L I I') (k : zRepM I W m n) : zRepM I' W m n := by
  unfold zRepM zWm; rw [h 105 h5, h 106 h6, h 107 h7, h 108 h8]; exact k
theorem zq_exchange {I : pd_I} {p m n : Nat} {W : Nat → Nat × (Nat → Nat) × Nat} (hp : p + 1 < m) (hm : m ≤ 8) (hn : n ≤ 200) (hR : zRepM I W m n) :
    zT (fn_X12_exchange I (zn (p + 1)) (zn p)) (fun I' => zF [105, 106, 107] I I' ∧ zRepM I' (zsw W p) m n) := by
  unfold fn_X12_exchange
  generalize hkt : (fun zI2 => pd_gd (pd_in (zn (p + 1)) 8) (pd_let (zI2 106 (zn (p + 1)).toNatClampNeg) fun zv3 => pd_gd (pd_in (zn p) 8) (pd_gd (pd_in (zn (p + 1)) 8) (pd_let (pd_ui zI2 106 (zn (p + 1)).toNatClampNeg (zI2 106 (zn p).toNatClampNeg)) fun zI5 => pd_gd (pd_in (zn p) 8) (pd_let (pd_ui zI5 106 (zn p).toNatClampNeg zv3) fun zI6 => pd_gd (pd_in (zn (p + 1)) 8) (pd_let (zI6 107 (zn (p + 1)).toNatClampNeg) fun zv4 => pd_gd (pd_in (zn p) 8) (pd_gd (pd_in (zn (p + 1)) 8) (pd_let (pd_ui zI6 107 (zn (p + 1)).toNatClampNeg (zI6 107 (zn p).toNatClampNeg)) fun zI7 => pd_gd (pd_in (zn p) 8) (pd_let (pd_ui zI7 107 (zn p).toNatClampNeg zv4) fun zI8 => some zI8))))))))) = kt
  rw [zn_0]
  refine zl_loop (fun fu t (st : pd_I) => fl_X12_exchange_2 (zn (p + 1)) (zn p) kt fu t st) 200 (fun t st => zF [105] I st ∧ ∀ i, st 105 i = if 200 * p + 200 ≤ i ∧ i < 200 * p + 200 + t then I 105 (i - 200) else if 200 * p ≤ i ∧ i < 200 * p + t then I 105 (i + 200) else I 105 i) ?_ ?_ pd_FU 0 I (by omega) (zFU (by omega)) ⟨zF_rfl, fun i => by rw [if_neg (by omega), if_neg (by omega)]⟩
  · rintro fu I' ⟨hF, hD⟩
    try simp only []
    rw [fl_X12_exchange_2]
    simp (disch := omega) only [zb_gd, zb_bd, zb_bd2, zb_let, zb_jn, zn_0, zn_1, zn_2, zn_3, zn_4, zn_5, zn_6, zn_7, zn_8, zn_11, zn_12, zn_15, zn_16, zn_18, zn_30, zn_31, zn_32, zn_64, zn_128, zn_199, zn_200, zn_512, zn_600, zn_1000, zn_2048, zn_add, zn_mul, zn_sub, zn_in2, zn_nat, zn_le, zn_lt, zn_eq, if_pos, if_neg, Bool.false_eq_true, ↓reduceIte]
    rw [← hkt]
    simp (disch := omega) only [zb_gd, zb_bd, zb_bd2, zb_let, zb_jn, zn_0, zn_1, zn_2, zn_3, zn_4, zn_5, zn_6, zn_7, zn_8, zn_11, zn_12, zn_15, zn_16, zn_18, zn_30, zn_31, zn_32, zn_64, zn_128, zn_199, zn_200, zn_512, zn_600, zn_1000, zn_2048, zn_add, zn_mul, zn_sub, zn_in2, zn_nat, zn_le, zn_lt, zn_eq, if_pos, if_neg, Bool.false_eq_true, ↓reduceIte]
    refine ⟨_, rfl, zF_u (by decide) (zF_u (by decide) (zF_u (by decide) (zF_u (by decide) (zF_sub hF (by decide))))), fun j hj => ?_⟩
    have h6 := hF 106 (by decide)
    have h7 := hF 107 (by decide)
    have h8 := hF 108 (by decide)
    simp only [zWm, zu_same, zu_ne (show (106 : Nat) ≠ 107 by decide), zu_ne (show (107 : Nat) ≠ 106 by decide), zu_ne (show (105 : Nat) ≠ 106 by decide), zu_ne (show (105 : Nat) ≠ 107 by decide), zu_ne (show (108 : Nat) ≠ 106 by decide), zu_ne (show (108 : Nat) ≠ 107 by decide), zu_app, h6, h7, h8]
    have r1 := hR (p + 1) hp
    have r0 := hR p (by omega)
    unfold zsw
    by_cases d1 : j = p
    · subst d1
      rw [if_pos rfl, if_pos rfl, if_pos rfl]
      refine ⟨r1.1, r1.2.1, r0.2.2.1, fun t ht => ?_⟩
      rw [hD, if_neg (by omega), if_pos (by omega), show 200 * j + t + 200 = 200 * (j + 1) + t by omega]
      exact r1.2.2.2 t ht
    · rw [if_neg d1, if_neg d1, if_neg d1]
      by_cases d2 : j = p + 1
      · subst d2
        rw [if_pos rfl, if_pos rfl, if_pos rfl]
        refine ⟨r0.1, r0.2.1, r1.2.2.1, fun t ht => ?_⟩
        rw [hD, if_pos (by omega), show 200 * (p + 1) + t - 200 = 200 * p + t by omega]
        exact r0.2.2.2 t ht
      · rw [if_neg d2, if_neg d2, if_neg d2]
        have rj := hR j hj
        refine ⟨rj.1, rj.2.1, rj.2.2.1, fun t ht => ?_⟩
        rw [hD, if_neg (by omega), if_neg (by omega)]
        exact rj.2.2.2 t ht
  · rintro fu t I' ht ⟨hF, hD⟩ ih
    try simp only [] at ih ⊢
    have e1 := hD (200 * (p + 1) + t)
    have e0 := hD (200 * p + t)
    rw [if_neg (by omega), if_neg (by omega)] at e1
    rw [if_neg (by omega), if_neg (by omega)] at e0
    rw [fl_X12_exchange_2]
    simp (disch := omega) only [zb_gd, zb_bd, zb_bd2, zb_let, zb_jn, zn_0, zn_1, zn_2, zn_3, zn_4, zn_5, zn_6, zn_7, zn_8, zn_11, zn_12, zn_15, zn_16, zn_18, zn_30, zn_31, zn_32, zn_64, zn_128, zn_199, zn_200, zn_512, zn_600, zn_1000, zn_2048, zn_add, zn_mul, zn_sub, zn_in2, zn_nat, zn_le, zn_lt, zn_eq, if_pos, if_neg, Bool.false_eq_true, ↓reduceIte]
    refine ih _ ⟨zF_u (by decide) (zF_u (by decide) hF), fun i => ?_⟩
    simp only [zu_same, zu_app]
    by_cases d1 : i = 200 * p + t
    · rw [if_pos d1, if_neg (by omega), if_pos (by omega), d1, show 200 * p + t + 200 = 200 * (p + 1) + t by omega]; exact e1
    · rw [if_neg d1]
      by_cases d2 : i = 200 * (p + 1) + t
      · rw [if_pos d2, if_pos (by omega), show i - 200 = 200 * p + t by omega]; exact e0
      · rw [if_neg d2, hD i]
        by_cases g1 : 200 * p + 200 ≤ i ∧ i < 200 * p + 200 + t
        · rw [if_pos g1, if_pos (show 200 * p + 200 ≤ i ∧ i < 200 * p + 200 + (t + 1) by omega)]
        · have g3 : ¬ (200 * p + 200 ≤ i ∧ i < 200 * p + 200 + (t + 1)) := by omega
          by_cases g2 : 200 * p ≤ i ∧ i < 200 * p + t
          · rw [if_neg g1, if_pos g2, if_neg g3, if_pos (show 200 * p ≤ i ∧ i < 200 * p + (t + 1) by omega)]
          · rw [if_neg g1, if_neg g2, if_neg g3, if_neg (show ¬ (200 * p ≤ i ∧ i < 200 * p + (t + 1)) by omega)]
theorem zq_joins132 {O : Type} {Q : O → Prop} {kont : pd_I → Option O} {m n : Nat} (hm : m ≤ 8) (hn : n ≤ 200) :
    ∀ p fu (I : pd_I) (W : Nat → Nat × (Nat → Nat) × Nat), p < m → p < fu → zRepM I W m n → (∀ j, j < m → zWb (W j)) →
      (∀ I', zF [105, 106, 107] I I' → zRepM I' (zbb n p W) m n → zT (kont I') Q) → zT (fl_X12_joins_132 (zn n) kont fu (zn p) I) Q := by
  intro p
  induction p with
  | zero =>
    intro fu I W h1 h2 hR hB hK
    obtain ⟨fu, rfl⟩ : ∃ f, fu = f + 1 := ⟨fu - 1, by omega⟩
    rw [fl_X12_joins_132, zn_0, if_pos (by rw [zn_le (by omega) (by omega)]; omega), zb_bd, if_neg (by decide)]
    exact hK I zF_rfl hR
  | succ p ih =>
    intro fu I W h1 h2 hR hB hK
    obtain ⟨fu, rfl⟩ : ∃ f, fu = f + 1 := ⟨fu - 1, by omega⟩
    have hah := zw_aheadM (I := I) (p := p + 1) (q := p) (by omega) (by omega) (hR _ h1) (hR p (by omega)) (hB _ h1) (hB _ (by omega)) hn
    have hle := zah_le (n := n) (X := W (p + 1)) (Y := W p)
    have e1 : zn (p + 1) - zn 1 = zn p := by rw [zn_sub (by omega), Nat.add_sub_cancel]
    have e2 : zn (p + 1) + (-1) = zn p := by rw [← Int32.sub_eq_add_neg, zn_1]; exact e1
    rw [fl_X12_joins_132, e2, zn_1, e1, hah, zn_0, if_neg (by rw [zn_le (by omega) (by omega)]; omega), zb_bd, zi_eq (by omega) (by omega)]
    by_cases c : zah n (W (p + 1)) (W p) = 1
    · rw [if_neg (by omega), zb_bd, if_pos rfl, zT_bd]
      refine zT_mono (zq_exchange h1 hm hn hR) (fun I3 ⟨hF3, hR3⟩ => ?_)
      rw [zb_let]
      refine ih fu I3 (zsw W p) (by omega) (by omega) hR3 (fun j hj => ?_) (fun I4 hF4 hR4 => ?_)
      · unfold zsw
        split
        · exact hB _ h1
        · split
          · exact hB _ (by omega)
          · exact hB j hj
      · refine hK I4 (zF_tr hF3 hF4) ?_
        unfold zbb
        rw [if_pos c]; exact hR4
    · rw [if_pos (by omega), zb_bd, if_neg (by decide)]
      refine hK I zF_rfl ?_
      unfold zbb
      rw [if_neg c]; exact hR
theorem zq_isBefore {I : pd_I} {c nn k place begin rank : Nat} {cd E F : Nat → Nat} {P : Nat → Nat → Nat} {Y : Nat × (Nat → Nat) × Nat} (h : zCm I c cd) (hv : zCv cd) (hn2 : nn ≤ 200) (hk : 1 ≤ k) (hk8 : k ≤ 8) (hE : ∀ s, E s ≤ 1)
    (hO : zOnM I cd P k nn E F nn) (hp : place < 8) (hb : begin < 2 ^ cd 1) (hr : rank < (zLs cd P k nn E F nn begin).1) (hY : zWm I place Y nn) (bY : zWb Y) :
    zT (fn_X12_isBefore I (zn c) (zn nn) (zn begin) (zn rank) (zn place)) (fun r => r.1 = zn (zlx (zpb cd P k nn E F begin rank) Y.2.1 (if begin < Y.2.2 then 1 else 0) nn 0) ∧ zF [128] I r.2) := by
  have hS := zCv_S hv
  unfold fn_X12_isBefore
  generalize hkt : (fun zI2 => fl_X12_isBefore_81 (zn nn) (zn place) zI2 (fun _ => pd_gd (pd_in (zn place) 8) (pd_bd (if (zI2 107 (zn place).toNatClampNeg) ≤ zn begin then some 0 else (some 1)) fun (zx6 : Int32) => pd_gd (pd_bo zx6) (some (zx6, zI2)))) pd_FU 0) = kt
  rw [zn_0]
  refine zl_loop (fun fu t (st : Int32 × Int32 × pd_I) => fl_X12_isBefore_10 (zn c) (zn nn) kt fu st.1 st.2.1 t st.2.2) nn (fun t st => st.1 = zn (zph cd P k nn E F begin rank t).1 ∧ st.2.1 = zn (zph cd P k nn E F begin rank t).2 ∧ zF [128] I st.2.2 ∧ (∀ t', t' < t → st.2.2 128 t' = zn (zpb cd P k nn E F begin rank t'))) ?_ ?_ pd_FU 0 (zn begin, zn rank, I) (by omega) (zFU (by omega)) ⟨rfl, rfl, zF_rfl, fun t ht => by omega⟩
  · rintro fu ⟨a, b, I'⟩ ⟨ea, eb, hF, hD⟩
    try simp only [] at ea eb hF hD ⊢
    have e5 := hF 105 (by decide)
    have e7 := hF 107 (by decide)
    rw [fl_X12_isBefore_10, if_pos (by rw [zn_le (by omega) (by omega)]; omega), ← hkt]
    simp only []
    have key : ∀ d fu t, t + d = nn → d < fu → fl_X12_isBefore_81 (zn nn) (zn place) I' (fun _ => pd_gd (pd_in (zn place) 8) (pd_bd (if (I' 107 (zn place).toNatClampNeg) ≤ zn begin then some 0 else (some 1)) fun (zx6 : Int32) => pd_gd (pd_bo zx6) (some (zx6, I')))) fu (zn t) = some (zn (zlx (zpb cd P k nn E F begin rank) Y.2.1 (if begin < Y.2.2 then 1 else 0) d t), I') := by
      have le01 : ∀ a b, a < 2147483648 → b < 2147483648 → (pd_bd (if zn b ≤ zn a then some 0 else some (1 : Int32)) fun (zx2 : Int32) => pd_gd (pd_bo zx2) (some (zx2, I'))) = some (zn (if a < b then 1 else 0), I') := by
        intro a b ha hb
        rw [zi_le hb ha]
        by_cases c : b ≤ a
        · rw [if_pos c, if_neg (by omega)]; rfl
        · rw [if_neg c, if_pos (by omega)]; rfl
      intro d
      induction d with
      | zero =>
        intro fu t h1 h2
        obtain ⟨fu, rfl⟩ : ∃ f, fu = f + 1 := ⟨fu - 1, by omega⟩
        rw [fl_X12_isBefore_81, if_pos (by rw [zn_le (by omega) (by omega)]; omega), zn_in2 (by omega) (by omega), zb_gd, zn_nat (by omega), e7, hY.2.1, le01 _ _ (by omega) (by have := bY.2.2; omega)]
        rfl
      | succ d ih =>
        intro fu t h1 h2
        obtain ⟨fu, rfl⟩ : ∃ f, fu = f + 1 := ⟨fu - 1, by omega⟩
        have q1 := hD t (by omega)
        have q2 := hY.2.2.2 t (by omega)
        have b1 := zLb_lt (cd := cd) (P := P) (k := k) (n := nn) (E := E) (F := F) (d := nn - (t + 1)) (s := (zph cd P k nn E F begin rank t).1) (m := (zph cd P k nn E F begin rank t).2)
        have b2 := bY.2.1 t
        have i2 : (200 : Int32) * zn place + zn t = zn (200 * place + t) := by rw [zn_200, zn_mul, zn_add]
        have b1' : zpb cd P k nn E F begin rank t < 2 := b1
        rw [fl_X12_isBefore_81, if_neg (by rw [zn_le (by omega) (by omega)]; omega), i2, zn_in2 (by omega) (by omega), zb_gd, zn_in2 (by omega) (by omega), zb_gd, zb_gd, zb_gd, zn_nat (by omega), zn_nat (by omega), e5, q1, q2, zi_eq (by omega) (by omega)]
        unfold zlx
        by_cases cc : zpb cd P k nn E F begin rank t = Y.2.1 t
        · rw [if_pos cc, if_pos cc, zb_let, zn_1, zn_add]
          exact ih fu (t + 1) (by omega) (by omega)
        · rw [if_neg cc, if_neg cc]; exact le01 _ _ (by omega) (by omega)
    have hk0 := key nn pd_FU 0 (by omega) (by show nn < 65536; omega)
    rw [← zn_0] at hk0
    exact ⟨_, hk0, rfl, hF⟩
  · rintro fu t ⟨a, b, I'⟩ ht ⟨ea, eb, hF, hD⟩ ih
    try simp only [] at ea eb hF hD ih ⊢
    obtain ⟨h1, h2⟩ := zph_ok hb hr t (by omega)
    rw [show nn - t = (nn - (t + 1)) + 1 by omega] at h2
    have h3 := hO (nn - (t + 1)) (by omega) _ h1 _ h2
    have h4 : (zph cd P k nn E F begin rank t).2 < 8 := Nat.lt_of_lt_of_le h2 (Nat.le_trans (zLs_cnt hk hE _ _) hk8)
    have h5 := zLb_lt (cd := cd) (P := P) (k := k) (n := nn) (E := E) (F := F) (d := nn - (t + 1)) (s := (zph cd P k nn E F begin rank t).1) (m := (zph cd P k nn E F begin rank t).2)
    have e113 : I' 113 = I 113 := hF 113 (by decide)
    have e114 : I' 114 = I 114 := hF 114 (by decide)
    rw [show nn - (nn - (t + 1) + 1) = t by omega, ← e113, ← e114] at h3
    have fin : ∀ I3, I3 = pd_ui I' 128 t (zn (zpb cd P k nn E F begin rank t)) → zT (fl_X12_isBefore_10 (zn c) (zn nn) kt fu (zn (zph cd P k nn E F begin rank (t + 1)).1) (zn (zph cd P k nn E F begin rank (t + 1)).2) (zn (t + 1)) I3) (fun r => r.1 = zn (zlx (zpb cd P k nn E F begin rank) Y.2.1 (if begin < Y.2.2 then 1 else 0) nn 0) ∧ zF [128] I r.2) := by
      intro I3 hI3
      refine ih (_, _, I3) ⟨rfl, rfl, by rw [hI3]; exact zF_u (by simp) hF, fun t' ht' => ?_⟩
      show I3 _ _ = _
      rw [hI3, zu_same, zu_app]
      by_cases cc : t' = t
      · subst cc; rw [if_pos rfl]
      · rw [if_neg (by omega)]; exact hD t' (by omega)
    subst ea eb
    unfold zpb at fin
    rw [show (zph cd P k nn E F begin rank (t + 1)).1 = znx cd (zph cd P k nn E F begin rank t).1 (zLb cd P k nn E F (nn - (t + 1)) (zph cd P k nn E F begin rank t).1 (zph cd P k nn E F begin rank t).2) from rfl, show (zph cd P k nn E F begin rank (t + 1)).2 = zLr cd P k nn E F (nn - (t + 1)) (zph cd P k nn E F begin rank t).1 (zph cd P k nn E F begin rank t).2 from rfl] at fin
    obtain ⟨s, hs⟩ : ∃ s, s = (zph cd P k nn E F begin rank t).1 := ⟨_, rfl⟩
    obtain ⟨m, hm⟩ : ∃ m, m = (zph cd P k nn E F begin rank t).2 := ⟨_, rfl⟩
    rw [← hs, ← hm] at fin h3 h5
    rw [← hs] at h1
    rw [← hm] at h4
    rw [← hs, ← hm]
    obtain ⟨b, hb⟩ : ∃ b, b = zLb cd P k nn E F (nn - (t + 1)) s m := ⟨_, rfl⟩
    obtain ⟨r, hrr⟩ : ∃ r, r = zLr cd P k nn E F (nn - (t + 1)) s m := ⟨_, rfl⟩
    rw [← hb, ← hrr] at h3
    rw [← hb] at h5
    have hcd' : zCm (pd_ui I' 128 t (zn b)) c cd := zCm_F (L := [128]) (by decide) (zF_u (by decide) hF) h
    have q3 : ∀ x, pd_ui I' 128 t x 113 = I' 113 := fun x => zu_ne (by decide)
    have q4 : ∀ x, pd_ui I' 128 t x 114 = I' 114 := fun x => zu_ne (by decide)
    rw [fl_X12_isBefore_10]
    simp (disch := omega) only [zb_gd, zb_bd, zb_bd2, zb_let, zb_jn, zn_0, zn_1, zn_2, zn_3, zn_4, zn_5, zn_6, zn_7, zn_8, zn_11, zn_12, zn_15, zn_16, zn_18, zn_30, zn_31, zn_32, zn_64, zn_128, zn_199, zn_200, zn_512, zn_600, zn_1000, zn_2048, zn_add, zn_mul, zn_sub, zn_in2, zn_nat, zn_le, zn_lt, zn_eq, if_pos, if_neg, Bool.false_eq_true, ↓reduceIte, h3.1, h3.2, q3, q4]
    rw [zc_next hcd' hv h5]
    simp (disch := omega) only [zb_gd, zb_bd, zb_bd2, zb_let, zb_jn, zn_0, zn_1, zn_2, zn_3, zn_4, zn_5, zn_6, zn_7, zn_8, zn_11, zn_12, zn_15, zn_16, zn_18, zn_30, zn_31, zn_32, zn_64, zn_128, zn_199, zn_200, zn_512, zn_600, zn_1000, zn_2048, zn_add, zn_mul, zn_sub, zn_in2, zn_nat, zn_le, zn_lt, zn_eq, if_pos, if_neg, Bool.false_eq_true, ↓reduceIte]
    rw [hb, hrr]
    exact fin _ rfl

/-- the WAYS of the reference are these -/
def zMl (I : pd_I) (n k cnt : Nat) (W : Nat → Nat × (Nat → Nat) × Nat) : Prop := I 92 14 = zn cnt ∧ cnt ≤ k ∧ zRepM I W cnt n ∧ ∀ j, j < cnt → zWb (W j)
theorem zMl_F {L : List Nat} {I I' : pd_I} {n k cnt : Nat} {W : Nat → Nat × (Nat → Nat) × Nat} (h5 : 105 ∉ L) (h6 : 106 ∉ L) (h7 : 107 ∉ L) (h8 : 108 ∉ L) (h9 : 92 ∉ L) (h : zF L I I') (q : zMl I n k cnt W) : zMl I' n k cnt W := by
  obtain ⟨q1, q2, q3, q4⟩ := q
  exact ⟨by rw [h 92 h9]; exact q1, q2, zRepM_F h5 h6 h7 h8 h q3, q4⟩
theorem zMl_W {I : pd_I} {n k cnt : Nat} {W W' : Nat → Nat × (Nat → Nat) × Nat} (h : ∀ j, j < cnt → W' j = W j) (q : zMl I n k cnt W) : zMl I n k cnt W' := by
  obtain ⟨q1, q2, q3, q4⟩ := q
  refine ⟨q1, q2, fun j hj => ?_, fun j hj => ?_⟩
  · rw [h j hj]; exact q3 j hj
  · rw [h j hj]; exact q4 j hj
/-- 92 but for its slot 14 -/
def zG (I I' : pd_I) : Prop := ∀ j, j ≠ 14 → I' 92 j = I 92 j
theorem zRepM_t {I I' : pd_I} {W : Nat → Nat × (Nat → Nat) × Nat} {c n : Nat} {X : Nat × (Nat → Nat) × Nat} (hX : zWm I' c X n) (hn : n ≤ 200) (h1 : ∀ j, j ≠ c → I' 106 j = I 106 j ∧ I' 107 j = I 107 j ∧ I' 108 j = I 108 j) (h2 : ∀ j, (j < 200 * c ∨ 200 * c + 200 ≤ j) → I' 105 j = I 105 j) (m : Nat) (hR : ∀ j, j < m → j ≠ c → zWm I j (W j) n) : ∀ j, j < m ∨ j = c → zWm I' j (zuw W c X j) n := by
  intro j hj
  unfold zuw
  by_cases e : j = c
  · rw [if_pos e, e]; exact hX
  · rw [if_neg e]
    obtain ⟨q1, q2, q3, q4⟩ := hR j (by omega) e
    obtain ⟨g1, g2, g3⟩ := h1 j e
    refine ⟨by rw [g1]; exact q1, by rw [g2]; exact q2, by rw [g3]; exact q3, fun t ht => ?_⟩
    rw [h2 _ (by omega)]; exact q4 t ht
theorem zq_joins {I : pd_I} {c nn k begin rank cnt : Nat} {cd E F : Nat → Nat} {P : Nat → Nat → Nat} {W : Nat → Nat × (Nat → Nat) × Nat} (h : zCm I c cd) (hv : zCv cd) (hn2 : nn ≤ 200) (hk : 1 ≤ k) (hk8 : k ≤ 8) (hE : ∀ s, E s ≤ 1) (hP : ∀ t e, P t e ≤ 10000) (hF1 : ∀ s, F s ≤ 100000)
    (hL : zLvM I 0 (2 ^ cd 1) (zLs cd P k nn E F nn)) (hO : zOnM I cd P k nn E F nn) (hb : begin < 2 ^ cd 1) (hr : rank < (zLs cd P k nn E F nn begin).1) (hM : zMl I nn k cnt W) :
    zT (fn_X12_joins I (zn c) (zn nn) (zn begin) (zn rank) (zn k)) (fun r => r.1 = zn (if k ≤ zbp nn cnt (zuw W cnt (zwy cd P k nn E F begin rank)) then 0 else 1) ∧ zF [92, 105, 106, 107, 108, 128] I r.2 ∧ zG I r.2 ∧ zMl r.2 nn k (if k ≤ cnt then cnt else cnt + 1) (zbb nn cnt (zuw W cnt (zwy cd P k nn E F begin rank)))) := by
  have hS := zCv_S hv
  have hr8 : rank < 8 := Nat.lt_of_lt_of_le hr (Nat.le_trans (zLs_cnt hk hE _ _) hk8)
  have hlr := (hL begin hb).2 rank hr
  rw [show 512 * 0 + 8 * begin + rank = 8 * begin + rank by omega] at hlr
  have hX := zwy_b (k := k) (E := E) (F := F) hP hF1 hn2 (by omega : begin < 64) hr
  obtain ⟨m1, m2, m3, m4⟩ := hM
  have hi : (8 : Int32) * zn begin + zn rank = zn (8 * begin + rank) := by rw [zn_8, zn_mul, zn_add]
  -- the way comes to a place pl, then goes up
  have go : ∀ (I1 : pd_I) (pl cnt' : Nat), zF [92, 105, 106, 107, 108, 128] I I1 → zF [128] I I1 → (cnt < k ∧ pl = cnt ∧ cnt' = cnt + 1 ∨ cnt = k ∧ pl = k - 1 ∧ cnt' = cnt) → (∀ j, j < cnt' → j ≠ pl → j < cnt) →
      (∀ j, j ≤ pl → zbb nn pl (zuw W pl (zwy cd P k nn E F begin rank)) j = zbb nn cnt (zuw W cnt (zwy cd P k nn E F begin rank)) j) → (if k ≤ zbp nn cnt (zuw W cnt (zwy cd P k nn E F begin rank)) then 0 else 1) = 1 → (if k ≤ cnt then cnt else cnt + 1) = cnt' → cnt' = pl + 1 →
      zT (pd_bd (if zn k ≤ I1 92 14 then some (zn k - 1) else (some (I1 92 14))) fun (zx1 : Int32) => pd_bd (fn_X12_tells I1 (zn c) (zn nn) (zn begin) (zn rank) zx1) fun zI2 => pd_bd (if zn k ≤ zI2 92 14 then some zI2 else (pd_let (pd_ui zI2 92 14 ((zI2 92 14) + 1)) fun zI7 => some zI7)) fun (zI3 : pd_I) => fl_X12_joins_132 (zn nn) (fun zI5 => some (1, zI5)) pd_FU zx1 zI3) (fun r => r.1 = zn (if k ≤ zbp nn cnt (zuw W cnt (zwy cd P k nn E F begin rank)) then 0 else 1) ∧ zF [92, 105, 106, 107, 108, 128] I r.2 ∧ zG I r.2 ∧ zMl r.2 nn k (if k ≤ cnt then cnt else cnt + 1) (zbb nn cnt (zuw W cnt (zwy cd P k nn E F begin rank)))) := by
    intro I1 pl cnt' hF1' hF128 hcase hcn hzb hkept hcnt' hpl
    have e14 : I1 92 14 = zn cnt := by rw [hF128 92 (by decide)]; exact m1
    have hcd1 := zCm_F (by decide) hF1' h
    have hL1 : zLvM I1 0 (2 ^ cd 1) (zLs cd P k nn E F nn) := by unfold zLvM; rw [hF128 111 (by decide), hF128 112 (by decide)]; exact hL
    have hO1 : zOnM I1 cd P k nn E F nn := by unfold zOnM; rw [hF128 113 (by decide), hF128 114 (by decide)]; exact hO
    have hR1 : zRepM I1 W cnt nn := zRepM_F (by decide) (by decide) (by decide) (by decide) hF128 m3
    have epl : (if zn k ≤ I1 92 14 then some (zn k - 1) else (some (I1 92 14))) = some (zn pl) := by
      rw [e14, zi_le (by omega) (by omega), zn_1, zn_sub hk]
      rcases hcase with ⟨a1, a2, a3⟩ | ⟨a1, a2, a3⟩
      · rw [if_neg (by omega), a2]
      · rw [if_pos (by omega), a2]
    rw [epl, zb_bd, zT_bd]
    refine zT_mono (zq_tells (place := pl) hcd1 hv hn2 hk hk8 hE hL1 hO1 (by omega) hb hr) (fun I2 ⟨hF2, hX2, hj2, h105⟩ => ?_)
    have e92 : I2 92 = I1 92 := hF2 92 (by decide)
    have hRt := zRepM_t hX2 hn2 hj2 h105 cnt' (W := W) (fun j h1 h2 => hR1 j (hcn j h1 h2))
    obtain ⟨I3, hI3, hI3F, hI3G, hI314⟩ : ∃ I3, (if zn k ≤ I2 92 14 then some I2 else (pd_let (pd_ui I2 92 14 ((I2 92 14) + 1)) fun zI7 => some zI7)) = some I3 ∧ zF [92] I2 I3 ∧ zG I2 I3 ∧ I3 92 14 = zn cnt' := by
      rw [e92, e14, zi_le (by omega) (by omega)]
      rcases hcase with ⟨a1, a2, a3⟩ | ⟨a1, a2, a3⟩
      · rw [if_neg (by omega)]
        refine ⟨_, rfl, zF_u (by decide) zF_rfl, fun j hj => by rw [zu_same, zu_nat hj], ?_⟩
        rw [zu_same, zu_at, zn_1, zn_add, a3]
      · rw [if_pos (by omega)]
        exact ⟨I2, rfl, zF_rfl, fun _ _ => rfl, by rw [e92, e14, a3]⟩
    rw [hI3, zb_bd]
    refine zq_joins132 (m := cnt') (by omega) hn2 pl pd_FU I3 (zuw W pl (zwy cd P k nn E F begin rank)) (by omega) (by show pl < 65536; omega) (zRepM_F (by decide) (by decide) (by decide) (by decide) hI3F (fun j hj => hRt j (Or.inl hj))) (fun j hj => ?_) (fun I4 hF4 hR4 => ?_)
    · unfold zuw
      by_cases e : j = pl
      · rw [if_pos e]; exact hX
      · rw [if_neg e]; exact m4 j (hcn j hj e)
    · have hbd := zbb_all (n := nn) (Pr := zWb) pl (zuw W pl (zwy cd P k nn E F begin rank)) cnt' (by omega) (fun j hj => by
        unfold zuw
        by_cases e : j = pl
        · rw [if_pos e]; exact hX
        · rw [if_neg e]; exact m4 j (hcn j hj e))
      refine ⟨_, rfl, ?_, zF_tr hF1' (zF_tr (zF_sub hF2 (by decide)) (zF_tr (zF_sub hI3F (by decide)) (zF_sub hF4 (by decide)))), fun j hj => ?_, ?_⟩
      · rw [hkept]; rfl
      · show I4 92 j = _
        rw [hF4 92 (by decide), hI3G j hj, e92, hF128 92 (by decide)]
      · rw [hcnt']
        refine zMl_W (W := zbb nn pl (zuw W pl (zwy cd P k nn E F begin rank))) (fun j hj => (hzb j (by omega)).symm) ⟨?_, by omega, hR4, hbd⟩
        show I4 92 14 = _
        rw [hF4 92 (by decide)]; exact hI314
  unfold fn_X12_joins
  rw [hi, zn_in2 (by omega) (by omega), zb_gd, zn_nat (by omega), hlr, zb_let, zb_jn, m1]
  simp only [zn_eq (show cnt < 2147483648 by omega) (show k < 2147483648 by omega)]
  have hzl := zbp_le (n := nn) cnt (zuw W cnt (zwy cd P k nn E F begin rank))
  by_cases ck : cnt = k
  · have f1 : zuw W k (zwy cd P k nn E F begin rank) k = zwy cd P k nn E F begin rank := by unfold zuw; rw [if_pos rfl]
    have f0 : zuw W k (zwy cd P k nn E F begin rank) (k - 1) = W (k - 1) := by unfold zuw; rw [if_neg (by omega)]
    have hW := m3 (k - 1) (by omega)
    have hWb := m4 (k - 1) (by omega)
    have eb : zbb nn k (zuw W k (zwy cd P k nn E F begin rank)) = if zah nn (zwy cd P k nn E F begin rank) (W (k - 1)) = 1 then zbb nn (k - 1) (zsw (zuw W k (zwy cd P k nn E F begin rank)) (k - 1)) else zuw W k (zwy cd P k nn E F begin rank) := by
      obtain ⟨p, rfl⟩ : ∃ p, k = p + 1 := ⟨k - 1, by omega⟩
      rw [Nat.add_sub_cancel] at f0
      conv => lhs; unfold zbb
      rw [f1, f0, Nat.add_sub_cancel]
    have ep : zbp nn k (zuw W k (zwy cd P k nn E F begin rank)) = if zah nn (zwy cd P k nn E F begin rank) (W (k - 1)) = 1 then zbp nn (k - 1) (zsw (zuw W k (zwy cd P k nn E F begin rank)) (k - 1)) else k := by
      obtain ⟨p, rfl⟩ : ∃ p, k = p + 1 := ⟨k - 1, by omega⟩
      rw [Nat.add_sub_cancel] at f0
      conv => lhs; unfold zbp
      rw [f1, f0, Nat.add_sub_cancel]
    -- not kept
    have rej : ∀ I1 : pd_I, zF [128] I I1 → zah nn (zwy cd P k nn E F begin rank) (W (k - 1)) = 0 → zT (some ((0 : Int32), I1)) (fun r => r.1 = zn (if k ≤ zbp nn cnt (zuw W cnt (zwy cd P k nn E F begin rank)) then 0 else 1) ∧ zF [92, 105, 106, 107, 108, 128] I r.2 ∧ zG I r.2 ∧ zMl r.2 nn k (if k ≤ cnt then cnt else cnt + 1) (zbb nn cnt (zuw W cnt (zwy cd P k nn E F begin rank)))) := by
      intro I1 hF128 hz
      have hz1 : ¬ zah nn (zwy cd P k nn E F begin rank) (W (k - 1)) = 1 := by omega
      rw [ck, ep, eb, if_neg hz1, if_neg hz1, if_pos (Nat.le_refl _), if_pos (Nat.le_refl _)]
      refine ⟨_, rfl, rfl, zF_sub hF128 (by decide), fun j _ => by show I1 92 j = _; rw [hF128 92 (by decide)], ?_⟩
      rw [← ck]
      refine zMl_W (W := W) (fun j hj => by unfold zuw; rw [if_neg (by omega)]) ?_
      rw [ck]
      exact zMl_F (by decide) (by decide) (by decide) (by decide) (by decide) hF128 ⟨by rw [m1, ck], by omega, by rw [← ck]; exact m3, by rw [← ck]; exact m4⟩
    have acc : ∀ I1 : pd_I, zF [128] I I1 → zah nn (zwy cd P k nn E F begin rank) (W (k - 1)) = 1 → _ := fun I1 hF128 hz => go I1 (k - 1) cnt (zF_sub hF128 (by decide)) hF128 (Or.inr ⟨ck, rfl, rfl⟩) (fun j h1 _ => h1) (fun j hj => by
        rw [ck, eb, if_pos hz]
        refine zbb_congr _ _ _ (fun i hi => ?_) j hj
        unfold zsw zuw
        by_cases e : i = k - 1
        · rw [if_pos e, if_pos e, if_pos (by omega)]
        · rw [if_neg e, if_neg e, if_neg (by omega), if_neg (by omega)]) (by
        have hle := zbp_le (n := nn) (k - 1) (zsw (zuw W k (zwy cd P k nn E F begin rank)) (k - 1))
        rw [ck, ep, if_pos hz, if_neg (by omega)]) (by rw [if_pos (by omega)]) (by omega)
    have hzd : zah nn (zwy cd P k nn E F begin rank) (W (k - 1)) = if (zLs cd P k nn E F nn begin).2 rank = (W (k - 1)).1 then zlx (zpb cd P k nn E F begin rank) (W (k - 1)).2.1 (if begin < (W (k - 1)).2.2 then 1 else 0) nn 0 else if (zLs cd P k nn E F nn begin).2 rank < (W (k - 1)).1 then 1 else 0 := rfl
    have hc1 := hX.1
    have hc2 := hWb.1
    have hc1' : (zLs cd P k nn E F nn begin).2 rank < 2147483648 := hc1
    rw [if_pos ck, zn_1, zn_sub hk, zn_in2 (by omega) (by omega), zb_gd, zn_nat (by omega), hW.1, zi_le hc1' hc2]
    by_cases d1 : (zLs cd P k nn E F nn begin).2 rank ≤ (W (k - 1)).1
    · rw [if_pos d1, zb_bd, if_neg (by decide), zb_jn, zi_eq hc1' hc2, if_pos ck]
      by_cases d2 : (zLs cd P k nn E F nn begin).2 rank = (W (k - 1)).1
      · rw [if_pos d2, zb_gd, zb_bd, if_pos rfl, zT_bd2]
        refine zT_mono (zq_isBefore (place := k - 1) h hv hn2 hk hk8 hE hO (by omega) hb hr hW hWb) (fun r ⟨s1, s2⟩ => ?_)
        have hl := zlx_le (b1 := zpb cd P k nn E F begin rank) (b2 := (W (k - 1)).2.1) (v := if begin < (W (k - 1)).2.2 then 1 else 0) (by split <;> omega) nn 0
        rw [if_pos d2] at hzd
        rw [s1, zn_0, zi_eq (by omega) (by omega), ← hzd]
        rw [← hzd] at hl
        by_cases d3 : zah nn (zwy cd P k nn E F begin rank) (W (k - 1)) = 0
        · rw [if_pos d3]; exact rej r.2 s2 d3
        · rw [if_neg d3]
          have acc2 := acc r.2 s2 (by omega)
          rw [zn_1, zn_sub hk] at acc2
          exact acc2
      · rw [if_neg d2, zb_gd, zb_bd, if_neg (by decide)]
        rw [if_neg d2, if_pos (by omega)] at hzd
        have acc2 := acc I zF_rfl hzd
        rw [zn_1, zn_sub hk] at acc2
        exact acc2
    · rw [if_neg d1, zb_bd, if_pos rfl]
      rw [if_neg (by omega), if_neg (by omega)] at hzd
      exact rej I zF_rfl hzd
  · rw [if_neg ck, zb_bd, if_neg (by decide), zb_jn, if_neg ck, zb_bd, if_neg (by decide)]
    exact go I cnt (cnt + 1) zF_rfl zF_rfl (Or.inl ⟨by omega, rfl, rfl⟩) (fun j h1 h2 => by omega) (fun _ _ => rfl) (by rw [if_neg (by omega)]) (by rw [if_neg (by omega)]) rfl
