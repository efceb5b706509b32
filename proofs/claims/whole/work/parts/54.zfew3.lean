/-! the class goes back, and finds by few, whole -/
theorem znx_ne {cd : Nat → Nat} {s : Nat} (hv : zCv cd) (hs : s < 64) : znx cd s 0 ≠ znx cd s 1 := by
  intro e
  have h0 := znx_par (x := 0) hv hs (by omega)
  have h1 := znx_par (x := 1) hv hs (by omega)
  rw [e, h1] at h0
  have hf := zfb_lt cd s
  revert h0
  rcases (show zfb cd s = 0 ∨ zfb cd s = 1 by omega) with e | e
  · rw [e]; decide
  · rw [e]; decide
def zOrO (I : pd_I) (cd : Nat → Nat) (P : Nat → Nat → Nat) (n w T : Nat) : Prop := ∀ t, t < T → ∀ s, s < 2 ^ cd 1 → (zGg cd P n w t s).1 ≠ 0 → I 42 (t * 64 + s) = zn (zGg cd P n w t s).2.1
theorem zq_goBack {I : pd_I} {Z : pd_R} {n na la nc lc nn w0 wv T : Nat} {cd : Nat → Nat} {P : Nat → Nat → Nat} (hn : 133 ≤ n) (hZ : zZs Z na la nc lc) (hv : zCv cd) (hla : zLa I cd T P) (hn1 : 1 ≤ nn) (hn2 : nn ≤ 200) (hw : 1 ≤ wv) (hP : ∀ t e, P t e ≤ 10000)
    (hL : ∀ s, s < 2 ^ cd 1 → I la s = zn (zen zEE (zKp cd P nn wv (zst cd nn) s))) (hO : zOrO I cd P nn wv (zst cd nn)) (hc : I 16 1 = zn 0) (hw0 : Z 17 0 = some w0) (hw2 : pd_isWay w0 = true) :
    zT (fn_X5_goBack I Z n (zn (zfe cd P nn wv)) (zn (zst cd nn)) (zn nn)) (fun I' => zF [w0, w0 + 1] I I' ∧ zWr I' w0 (zfw cd P nn wv) nn) := by
  have hS := zCv_S hv
  have hst := zst_le (n := nn) hv
  have hzE := zE_lt
  have hzB := zE_big
  obtain ⟨ha1, ha2, ha3, ha4⟩ := zZs_a hZ hn
  have g3 := hZ.2.1
  clear hZ
  obtain ⟨k1, k2⟩ := zfe_ok (P := P) (n := nn) hv hw
  have hww := zw_way hw2
  have hle := hL _ k1
  rw [zen_S k2] at hle
  unfold fn_X5_goBack fn_X10_offered fn_X9_begin
  simp (disch := omega) only [zb_gd, zb_bd, zb_bd2, zb_let, zb_jn, zn_0, zn_1, zn_2, zn_3, zn_4, zn_5, zn_6, zn_7, zn_8, zn_11, zn_12, zn_15, zn_16, zn_18, zn_30, zn_31, zn_32, zn_64, zn_128, zn_199, zn_200, zn_512, zn_600, zn_1000, zn_2048, zn_add, zn_mul, zn_sub, zn_in2, zn_nat, zn_le, zn_lt, zn_eq, if_pos, if_neg, Bool.false_eq_true, ↓reduceIte, hc, hw0, hw2, g3, ha2, hle]
  obtain ⟨I0, hI0⟩ : ∃ I0, I0 = pd_ui (pd_ui (pd_ui I w0 0 (zn (zKp cd P nn wv (zst cd nn) (zfe cd P nn wv) - 1))) w0 1 (zn 0)) w0 2 (zn nn) := ⟨_, rfl⟩
  rw [← hI0]
  have hF0 : zF [w0, w0 + 1] I I0 := by rw [hI0]; exact zF_u (by simp) (zF_u (by simp) (zF_u (by simp) zF_rfl))
  have hwr : I0 w0 0 = zn (zKp cd P nn wv (zst cd nn) (zfe cd P nn wv) - 1) ∧ I0 w0 1 = zn 0 ∧ I0 w0 2 = zn nn := by
    rw [hI0]; simp only [zu_same]; exact ⟨rfl, rfl, rfl⟩
  have hix : zn (zst cd nn - 1) = zdn (zst cd nn) 0 := by rw [zdn_lt (by omega)]
  rw [hix]
  refine zl_gen (fun fu x (st : Int32 × pd_I) => fl_X5_goBack_30 (zn nn) w0 (fun zI3 => some zI3) fu st.1 x st.2) (zdn (zst cd nn)) (zst cd nn) (fun d st => st.1 = zn (zbs cd P nn wv (zfe cd P nn wv) d) ∧ zF [w0 + 1] I0 st.2 ∧ ∀ t, t < nn → zst cd nn - d ≤ t → st.2 (w0 + 1) t = zn ((zfw cd P nn wv).2.1 t)) ?_ ?_ pd_FU 0 (zn (zfe cd P nn wv), I0) (by omega) (zFU (by omega)) ⟨rfl, zF_rfl, fun t h1 h2 => by omega⟩
  · rintro fu ⟨a, I'⟩ ⟨ea, hF, hD⟩
    try simp only [] at ea hF hD ⊢
    rw [fl_X5_goBack_30, zdn_n, if_pos (by decide)]
    have e := hF w0 (by simp)
    refine ⟨_, rfl, zF_tr hF0 (zF_sub hF (by simp)), ?_, ?_, ?_, fun t ht => hD t ht (by omega)⟩
    · rw [e]; exact hwr.1
    · rw [e]; exact hwr.2.1
    · rw [e]; exact hwr.2.2
  · rintro fu d ⟨a, I'⟩ hd ⟨ea, hF, hD⟩ ih
    try simp only [] at ea hF hD ih ⊢
    obtain ⟨h1, h2⟩ := zbs_ok (P := P) (n := nn) hv hw d (by omega)
    rw [show zst cd nn - d = (zst cd nn - (d + 1)) + 1 by omega] at h2
    have hG := zKG h2
    obtain ⟨q1, q2, q3, q4, q5⟩ := zFg_ok _ _ hG
    have e42 : I' 42 = I 42 := by rw [hF 42 (by simp; omega), hF0 42 (by simp; omega)]
    have e12 : I' 12 = I 12 := by rw [hF 12 (by simp; omega), hF0 12 (by simp; omega)]
    have hor := hO (zst cd nn - (d + 1)) (by omega) _ h1 hG
    rw [← e42] at hor
    have hbs : zbs cd P nn wv (zfe cd P nn wv) (d + 1) = (zGg cd P nn wv (zst cd nn - (d + 1)) (zbs cd P nn wv (zfe cd P nn wv) d)).2.1 := rfl
    subst ea
    obtain ⟨s, hs⟩ : ∃ s, s = zbs cd P nn wv (zfe cd P nn wv) d := ⟨_, rfl⟩
    obtain ⟨t, ht⟩ : ∃ t, t = zst cd nn - (d + 1) := ⟨_, rfl⟩
    obtain ⟨r, hr⟩ : ∃ r, r = (zGg cd P nn wv t s).2.1 := ⟨_, rfl⟩
    obtain ⟨b, hb⟩ : ∃ b, b = (zGg cd P nn wv t s).2.2 := ⟨_, rfl⟩
    have q1' : (zGg cd P nn wv (zst cd nn - (d + 1)) (zbs cd P nn wv (zfe cd P nn wv) d)).2.1 * 2 + (zGg cd P nn wv (zst cd nn - (d + 1)) (zbs cd P nn wv (zfe cd P nn wv) d)).2.2 < 2 * 2 ^ cd 1 := q1
    have q2' : (zGg cd P nn wv (zst cd nn - (d + 1)) (zbs cd P nn wv (zfe cd P nn wv) d)).2.2 < 2 := q2
    have q3' : zbs cd P nn wv (zfe cd P nn wv) d = znx cd (zGg cd P nn wv (zst cd nn - (d + 1)) (zbs cd P nn wv (zfe cd P nn wv) d)).2.1 (zGg cd P nn wv (zst cd nn - (d + 1)) (zbs cd P nn wv (zfe cd P nn wv) d)).2.2 := q3
    rw [← ht, ← hs, ← hr, ← hb] at q1' q3'
    rw [← ht, ← hs, ← hb] at q2'
    rw [← ht, ← hs, ← hr] at hbs hor
    rw [← hs] at h1
    have hx := hla.2.1 (2 * r) (by omega)
    rw [show 2 * r / 2 = r by omega, show 2 * r % 2 = 0 by omega, ← e12] at hx
    have fin : ∀ I3 : pd_I, I3 = I' ∧ nn ≤ t ∨ I3 = pd_ui I' (w0 + 1) t (zn b) ∧ t < nn → zT (fl_X5_goBack_30 (zn nn) w0 (fun zI3 => some zI3) fu (zn r) (zdn (zst cd nn) (d + 1)) I3) (fun I' => zF [w0, w0 + 1] I I' ∧ zWr I' w0 (zfw cd P nn wv) nn) := by
      intro I3 h3
      rw [← hbs]
      refine ih (_, I3) ⟨rfl, ?_, fun t' h4 h5 => ?_⟩
      · rcases h3 with ⟨h3, -⟩ | ⟨h3, -⟩
        · show zF _ _ I3; rw [h3]; exact hF
        · show zF _ _ I3; rw [h3]; exact zF_u (by simp) hF
      · show I3 _ _ = _
        rcases h3 with ⟨h3, h6⟩ | ⟨h3, h6⟩
        · rw [h3]; exact hD t' h4 (by omega)
        · rw [h3, zu_same, zu_app]
          by_cases c : t' = t
          · rw [if_pos c, c]
            congr 1
            show b = (zGg cd P nn wv t (zbs cd P nn wv (zfe cd P nn wv) (zst cd nn - (t + 1)))).2.2
            rw [show zst cd nn - (t + 1) = d by omega, ← hs, hb]
          · rw [if_neg c]; exact hD t' h4 (by omega)
    rw [fl_X5_goBack_30, zdn_lt (by omega), ← ht, ← hs, zn_0, if_neg (zn_n0 (by omega)), zn_64, zn_mul, zn_add, zn_in2 (by omega) (by omega), zb_gd, zn_nat (by omega), hor, zb_let, zi_le (by omega) (by omega)]
    by_cases c : nn ≤ t
    · rw [if_pos c, zb_bd, zb_let, ht, zdn_s (by omega)]
      exact fin I' (Or.inl ⟨rfl, c⟩)
    · have hbb : (if zn (znx cd r 0) = zn s then some (zn 0) else some 1) = some (zn b) := by
        have hx0 : znx cd r 0 < 2 ^ cd 1 := znx_lt
        rw [zi_eq (by omega) (by omega)]
        rcases (show b = 0 ∨ b = 1 by omega) with e | e
        · rw [e] at q3'
          rw [if_pos q3'.symm, e]
        · rw [e] at q3'
          rw [if_neg (fun h => znx_ne (s := r) hv (by omega) (by rw [h]; exact q3')), e]; rfl
      rw [if_neg c, zn_2, zn_mul, zn_in2 (by omega) (by omega), zb_gd, zn_nat (by omega), hx, hbb, zb_bd, zn_in2 (show t < 200 by omega) (by omega), zb_gd, zn_nat (by omega), zn_by8 b (by omega), zb_let, zb_bd, zb_let, ht, zdn_s (by omega)]
      refine fin _ (Or.inr ⟨?_, by omega⟩)
      rw [← ht]
def zLY : List Nat := [16, 18, 19, 20, 21, 22, 23, 24, 25, 26, 27, 28, 29, 30, 31, 32, 33, 34, 35, 37, 38, 42]
theorem zLY_w : ∀ w < 36, 18 ≤ w → w ∈ zLY := by decide
theorem zq_few {I : pd_I} {Z : pd_R} {n a na la nc lc nn w T : Nat} {cd : Nat → Nat} {P : Nat → Nat → Nat} (hn : 133 ≤ n) (ha : 133 ≤ a) (h : zCo I a cd) (hZ : zZs Z na la nc lc) (hZw : zZw Z) (hv : zCv cd) (hla : zLa I cd T P) (hT : T ≤ 206) (hnT : zst cd nn ≤ T) (hn1 : 1 ≤ nn) (hn2 : nn ≤ 200) (hw : 1 ≤ w) (hw64 : w ≤ 64) (hP : ∀ t e, P t e ≤ 10000) :
    zT (fn_X5_findByFew I Z n a (zn nn) (zn w)) (fun r => (∃ na la nc lc, zZs r.2 na la nc lc) ∧ (∀ b, b ≠ 36 → b ≠ 17 → r.2 b = Z b) ∧ zF zLY I r.1 ∧ zZw r.2 ∧ r.1 16 1 = zn 1 ∧ ∃ w0, r.2 17 0 = some w0 ∧ zWr r.1 w0 (zfw cd P nn w) nn) := by
  have hS := zCv_S hv
  have hst := zst_le (n := nn) hv
  have hzE := zE_lt
  have hzB := zE_big
  have hKb : ∀ t s, t ≤ 206 → zKp cd P nn w t s ≤ 2200000 := fun t s ht => by
    have := zKp_le (cd := cd) (n := nn) (w := w) hP t s
    have : 10000 * t ≤ 10000 * 206 := Nat.mul_le_mul_left _ ht
    omega
  obtain ⟨ha1, ha2, ha3, ha4⟩ := zZs_a hZ hn
  have g3 := hZ.2.1
  have hlaL : la ∈ [37, 38, 42] ∧ la ≠ 11 := by have := hZ.2.2.2.2.1; simp; omega
  unfold fn_X5_findByFew
  rw [zc_steps h hv, zb_bd]
  generalize hkt : (fun zI2 => fl_X5_findByFew_49 (zn nn) (zn w) (zn (zst cd nn)) n (fun zI5 zZ2 => pd_bd (if (zI5 a 0) = 3 then some 0 else (pd_bd (fn_X5_cheapestState zI5 zZ2 n) fun zr3 => some zr3)) fun (zx5 : Int32) => pd_bd (fn_X10_open zI5 1) fun zI8 => pd_bd (zZ2 36 3) fun zq2 => pd_gd (pd_isArr zq2 512 n) (pd_gd (pd_in zx5 512) (pd_bd2 (if 536870912 ≤ (zI8 zq2 zx5.toNatClampNeg) then some (zI8, zZ2) else (pd_bd (fn_X5_goBack zI8 zZ2 n zx5 (zn (zst cd nn)) (zn nn)) fun zI10 => pd_bd3 (fn_X10_settle zI10 zZ2 n) fun zr2 zI11 zZ6 => some (zI11, zZ6))) fun (zI9 : pd_I) (zZ5 : pd_R) => some (zI9, zZ5)))) pd_FU 0 zI2 Z) = kt
  rw [zn_0]
  refine zl_loop (fun fu s (st : pd_I) => fl_X5_findByFew_10 Z n kt fu s st) (2 ^ cd 1) (fun s st => zF [37, 38, 42] I st ∧ ∀ s', s' < s → st la s' = zn (zen zEE (zKp cd P nn w 0 s'))) ?_ ?_ pd_FU 0 I (by omega) (zFU (by omega)) ⟨zF_rfl, fun s' h => absurd h (Nat.not_lt_zero _)⟩
  · rintro fu I1 ⟨hF1, hD1⟩
    have e3 : I1 11 3 = zn (2 ^ cd 1) := by rw [hF1 11 (by decide)]; exact hla.1
    try simp only []
    rw [fl_X5_findByFew_10, e3, if_pos (by rw [zn_le (by omega) (by omega)]; omega), ← hkt]
    simp only []
    generalize hkt2 : (fun (zI5 : pd_I) (zZ2 : pd_R) => pd_bd (if (zI5 a 0) = 3 then some 0 else (pd_bd (fn_X5_cheapestState zI5 zZ2 n) fun zr3 => some zr3)) fun (zx5 : Int32) => pd_bd (fn_X10_open zI5 1) fun zI8 => pd_bd (zZ2 36 3) fun zq2 => pd_gd (pd_isArr zq2 512 n) (pd_gd (pd_in zx5 512) (pd_bd2 (if 536870912 ≤ (zI8 zq2 zx5.toNatClampNeg) then some (zI8, zZ2) else (pd_bd (fn_X5_goBack zI8 zZ2 n zx5 (zn (zst cd nn)) (zn nn)) fun zI10 => pd_bd3 (fn_X10_settle zI10 zZ2 n) fun zr2 zI11 zZ6 => some (zI11, zZ6))) fun (zI9 : pd_I) (zZ5 : pd_R) => some (zI9, zZ5)))) = kt2
    rw [zn_0]
    refine zl_loop (fun fu t (st : pd_I × pd_R) => fl_X5_findByFew_49 (zn nn) (zn w) (zn (zst cd nn)) n kt2 fu t st.1 st.2) (zst cd nn) (fun t st => ∃ na la nc lc, zZs st.2 na la nc lc ∧ (∀ b, b ≠ 36 → st.2 b = Z b) ∧ zF [37, 38, 42] I st.1 ∧ (∀ s, s < 2 ^ cd 1 → st.1 la s = zn (zen zEE (zKp cd P nn w t s))) ∧ zOrO st.1 cd P nn w t) ?_ ?_ pd_FU 0 (I1, Z) (by omega) (zFU (by omega)) ⟨na, la, nc, lc, hZ, fun _ _ => rfl, hF1, hD1, fun t h => absurd h (Nat.not_lt_zero _)⟩
    · rintro fu ⟨I2, Z2⟩ ⟨na, la, nc, lc, q1, q2, q3, q4, q5⟩
      try simp only [] at q1 q2 q3 q4 q5 ⊢
      have hcd := zCo_F (by decide) ha q3 h
      have hla2 : zLa I2 cd T P := zLa_F (by decide) (by decide) (by decide) (by decide) q3 hla
      obtain ⟨k1, k2⟩ := zfe_ok (P := P) (n := nn) hv hw
      have h05 : cd 0 ≤ 5 := hv.1
      obtain ⟨b1, b2, b3, b4⟩ := zZs_a q1 hn
      have hend : (if I2 a 0 = 3 then some (0 : Int32) else (pd_bd (fn_X5_cheapestState I2 Z2 n) fun zr3 => some zr3)) = some (zn (zfe cd P nn w)) := by
        rw [hcd.1, zn_3, zi_eq (by omega) (by omega)]
        by_cases c : cd 0 = 3
        · rw [if_pos c, zfe_tail hv hw c]; rfl
        · rw [if_neg c, zq_cheapest hn q1 hv hla2.1 (fun s => Nat.le_trans (hKb _ s (by omega)) (by omega)) q4]; rfl
      rw [fl_X5_findByFew_49, if_pos (by rw [zn_le (by omega) (by omega)]; omega), ← hkt2]
      simp only []
      rw [hend, zb_bd]
      unfold fn_X10_open
      rw [zb_let, zb_let, zb_bd]
      obtain ⟨I3, hI3⟩ : ∃ I3, I3 = pd_ui (pd_ui I2 16 1 0) 16 2 1 := ⟨_, rfl⟩
      rw [← hI3]
      have hF3 : zF [16] I2 I3 := by rw [hI3]; exact zF_u (by decide) (zF_u (by decide) zF_rfl)
      have o1 : I3 16 1 = zn 0 := by rw [hI3, zu_same, zu_nat (by omega), zu_same, zu_at]; rfl
      have o2 : I3 16 2 = zn 1 := by rw [hI3, zu_same, zu_at]; rfl
      have q6 : la ≠ 16 ∧ la ≠ 42 := by have := q1.2.2.2.2.1; omega
      have ela : I3 la = I2 la := hF3 la (by intro h; simp at h; omega)
      have hlt := zen_lt (B := zEE) (o := zKp cd P nn w (zst cd nn) (zfe cd P nn w)) (by have := hKb (zst cd nn) (zfe cd P nn w) (by omega); omega) k2
      rw [q1.2.1, zb_bd, b2, zb_gd, zn_in2 (by omega) (by omega), zb_gd, zn_nat (by omega), ela, q4 _ k1, zn_E, zi_le (by omega) (by omega), if_neg (by omega), zT_bd2, zT_bd]
      obtain ⟨w0, hw0, hw2⟩ := (zZw_Z (q2 17 (by omega)) hZw).1 0 (by omega)
      have hla3 : zLa I3 cd T P := zLa_F (by decide) (by decide) (by decide) (by decide) hF3 hla2
      refine zT_mono (zq_goBack hn q1 hv hla3 hn1 hn2 hw hP (by rw [ela]; exact q4) (by unfold zOrO; rw [hF3 42 (by decide)]; exact q5) o1 hw0 hw2) (fun I4 ⟨hF4, hX4⟩ => ?_)
      have e16 : I4 16 = I3 16 := hF4 16 (by have := zw_way hw2; simp; omega)
      have hZw2 := zZw_Z (q2 17 (by omega)) hZw
      rw [zT_bd3]
      unfold fn_X10_settle
      rw [e16, o1, o2, zb_let]
      have h65 : pd_FU = 65535 + 1 := rfl
      rw [h65, fl_X10_settle_5, zn_0, if_pos (by rw [zn_le (by omega) (by omega)]; omega), zi_le (by omega) (by omega), if_neg (by omega), zb_let, zb_bd]
      have e162 : ∀ x, pd_ui I4 16 1 x 16 2 = zn 1 := fun x => by rw [zu_same, zu_nat (by omega), e16]; exact o2
      rw [e162, zi_le (by omega) (by omega), if_neg (by omega), zb_bd, zn_1, zn_bo1, zb_gd]
      refine ⟨_, rfl, _, rfl, _, rfl, ⟨na, la, nc, lc, q1⟩, fun b h1 h2 => q2 b h1, zF_u (by decide) (zF_tr (zF_sub q3 (by decide)) (zF_tr (zF_sub hF3 (by decide)) (zF_w hw2 (fun x h1 h2 => zLY_w x h2 h1) hF4))), hZw2, ?_, w0, hw0, ?_⟩
      · show pd_ui I4 16 1 (zn (0 + 1)) 16 1 = _
        rw [zu_same, zu_at]
      · obtain ⟨y1, y2, y3⟩ := zw_way hw2
        have y4 : ∀ x, pd_ui I4 16 1 x w0 = I4 w0 := fun x => zu_ne (by omega)
        have y5 : ∀ x, pd_ui I4 16 1 x (w0 + 1) = I4 (w0 + 1) := fun x => zu_ne (by omega)
        show zWr (pd_ui I4 16 1 _) w0 _ _
        unfold zWr
        rw [y4, y5]; exact hX4
    · rintro fu t ⟨I2, Z2⟩ ht ⟨na, la, nc, lc, q1, q2, q3, q4, q5⟩ ih
      try simp only [] at q1 q2 q3 q4 q5 ih ⊢
      have hla2 : zLa I2 cd T P := zLa_F (by decide) (by decide) (by decide) (by decide) q3 hla
      have htl : (if zn t < zn nn then some (0 : Int32) else some 1) = some (zn (if t < nn then 0 else 1)) := by
        rw [zi_lt (by omega) (by omega)]
        split <;> rfl
      rw [fl_X5_findByFew_49, if_neg (by rw [zn_le (by omega) (by omega)]; omega), htl, zb_bd, zT_bd2]
      refine zT_mono (zq_goOn (t := t) (tl := if t < nn then 0 else 1) (f := zKp cd P nn w t) hn q1 hv hla2 hT (by omega) (by split <;> omega) (hP t) (fun s => hKb t s (by omega)) q4) (fun r ⟨p1, p2, p3, p4, p5, p6⟩ => ?_)
      have hGb : ∀ s, (zGg cd P nn w t s).1 ≤ 2300000 := fun s => by
        have := zFg_le (cd := cd) (tl := if t < nn then 0 else 1) (hP t) (fun s => hKb t s (by omega)) (2 * 2 ^ cd 1) s
        unfold zGg; omega
      have p1' : zF [37, 38, 42] I r.1 := zF_tr q3 p1
      rw [zT_bd2]
      refine zT_mono (zq_thin (f := fun s => (zGg cd P nn w t s).1) hn p3 hv (by rw [p1' 11 (by decide)]; exact hla.1) hw64 hGb p4) (fun r2 ⟨o1, o2, o3, o4⟩ => ?_)
      rw [zb_let, zn_1, zn_add]
      refine ih (r2.1, r2.2) ⟨na, la, nc, lc, o3, fun b hb => by show r2.2 b = _; rw [o2 b hb, p2 b hb, q2 b hb], zF_tr p1' (zF_sub o1 (by decide)), o4, fun t' ht' s hs hne => ?_⟩
      show r2.1 42 _ = _
      rw [o1 42 (by decide)]
      by_cases e : t' = t
      · subst e; exact p5 s hs hne
      · rw [p6 _ (by omega)]; exact q5 t' (by omega) s hs hne
  · rintro fu s I1 hs ⟨hF1, hD1⟩ ih
    have e3 : I1 11 3 = zn (2 ^ cd 1) := by rw [hF1 11 (by decide)]; exact hla.1
    try simp only [] at ih ⊢
    have ex : (if zn s = 0 then some (0 : Int32) else some 536870912) = some (zn (zen zEE (zKp cd P nn w 0 s))) := by
      rw [zn_0, zi_eq (by omega) (by omega), zn_E]
      unfold zKp
      by_cases c : s = 0
      · rw [if_pos c, if_pos c]; rfl
      · rw [if_neg c, if_neg c]; rfl
    rw [fl_X5_findByFew_10, e3, if_neg (by rw [zn_le (by omega) (by omega)]; omega), g3, zb_bd, ha2, zb_gd, ex, zb_bd, zn_in2 (by omega) (by omega), zb_gd, zn_nat (by omega), zb_let, zb_let, zn_1, zn_add]
    refine ih _ ⟨zF_u hlaL.1 hF1, fun s' hs' => ?_⟩
    rw [zu_same, zu_app]
    by_cases c : s' = s
    · rw [if_pos c, c]
    · rw [if_neg c]; exact hD1 s' (by omega)
