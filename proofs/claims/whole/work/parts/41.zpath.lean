/-! ends of the class; ways that are followed -/
theorem zc_bit0 : ∀ c ≤ 6, 1 ≤ c → ∀ s < 64, ∀ b < 2, (2 * s + b) % 2 ^ c &&& 1 = b := by decide +kernel
theorem znx_par {cd : Nat → Nat} {s x : Nat} (hv : zCv cd) (hs : s < 64) (hx : x < 2) : znx cd s x &&& 1 = x ^^^ zfb cd s := zc_bit0 _ hv.2.2.1 hv.2.1 s hs _ (zxor_lt hx)
theorem zc_tailEdge {I : pd_I} {cd : Nat → Nat} {T s : Nat} {P : Nat → Nat → Nat} (hv : zCv cd) (hla : zLa I cd T P) (hs : s < 2 ^ cd 1) : fn_X1_tailEdge I (zn s) = some (zn (2 * s + zfb cd s)) := by
  have hS := zCv_S hv
  have hx0 := hla.2.1 (2 * s) (by omega)
  rw [show 2 * s / 2 = s by omega, show 2 * s % 2 = 0 by omega] at hx0
  have h1 : znx cd s 0 &&& 1 = zfb cd s := by rw [znx_par hv (by omega) (by omega), Nat.zero_xor]
  have hf := zfb_lt cd s
  unfold fn_X1_tailEdge
  rw [zn_2, zn_mul, zn_in2 (by omega) (by omega), zb_gd, zn_nat (by omega), hx0, zn_1, zn_and, h1, zn_0, zi_eq (by omega) (by omega)]
  by_cases c : zfb cd s = 0
  · rw [if_pos c, c]; rfl
  · rw [if_neg c, zn_add, show zfb cd s = 1 by omega]; rfl
theorem zc_tailPrice {I : pd_I} {cd : Nat → Nat} {T n s : Nat} {P : Nat → Nat → Nat} (hv : zCv cd) (hla : zLa I cd T P) (hT : zst cd n ≤ T) (hT2 : T ≤ 206) (hs : s < 2 ^ cd 1) : fn_X1_tailPrice I (zn s) (zn n) (zn (zst cd n)) = some (zn (zFn cd P n s)) := by
  have hst := zst_le (n := n) hv
  have hS := zCv_S hv
  unfold fn_X1_tailPrice
  have key := zl_eq (fun fu k (st : Int32 × Int32) => fl_X1_tailPrice_9 (zn (zst cd n)) I (fun zx4 => some zx4) fu st.1 st.2 k) (zst cd n) n (fun k => (zn (ztc cd P n s (k - n)), zn (zts cd s (k - n)))) (some (zn (zFn cd P n s))) (fun fu => ?_) (fun fu k hk0 hk => ?_) pd_FU n (Nat.le_refl _) (by omega) (zFU (by omega))
  · rw [Nat.sub_self] at key
    exact key
  · try simp only []
    rw [fl_X1_tailPrice_9, if_pos (by rw [zn_le (by omega) (by omega)]; omega)]
    rfl
  · try simp only []
    have hz := zts_lt hs (k - n)
    have hf := zfb_lt cd (zts cd s (k - n))
    have hp := zq_priceOf (t := k) (e := 2 * zts cd s (k - n) + zfb cd (zts cd s (k - n))) hv hla hT2 (by omega) (by omega)
    have hx := hla.2.1 (2 * zts cd s (k - n) + zfb cd (zts cd s (k - n))) (by omega)
    rw [show (2 * zts cd s (k - n) + zfb cd (zts cd s (k - n))) / 2 = zts cd s (k - n) by omega, show (2 * zts cd s (k - n) + zfb cd (zts cd s (k - n))) % 2 = zfb cd (zts cd s (k - n)) by omega] at hx
    rw [fl_X1_tailPrice_9, if_neg (by rw [zn_le (by omega) (by omega)]; omega), zc_tailEdge hv hla hz, zb_bd, hp, zb_bd]
    simp (disch := omega) only [zb_gd, zb_bd, zb_bd2, zb_let, zb_jn, zn_0, zn_1, zn_2, zn_3, zn_4, zn_5, zn_6, zn_7, zn_8, zn_11, zn_12, zn_15, zn_16, zn_18, zn_30, zn_31, zn_32, zn_64, zn_128, zn_199, zn_200, zn_512, zn_600, zn_1000, zn_2048, zn_add, zn_mul, zn_sub, zn_in2, zn_nat, zn_le, zn_lt, zn_eq, if_pos, if_neg, Bool.false_eq_true, ↓reduceIte, hx]
    have e1 : k + 1 - n = (k - n) + 1 := by omega
    have e2 : n + (k - n) = k := by omega
    rw [e1]
    show _ = fl_X1_tailPrice_9 (zn (zst cd n)) I (fun zx4 => some zx4) fu (zn (ztc cd P n s (k - n) + P (n + (k - n)) (2 * zts cd s (k - n) + zfb cd (zts cd s (k - n))))) (zn (znx cd (zts cd s (k - n)) (zfb cd (zts cd s (k - n))))) (zn (k + 1))
    rw [e2]
theorem zq_setEnds {I : pd_I} {a T n begin : Nat} {cd : Nat → Nat} {P : Nat → Nat → Nat} (ha : 133 ≤ a) (h : zCo I a cd) (hv : zCv cd) (hla : zLa I cd T P) (hT : zst cd n ≤ T) (hT2 : T ≤ 206) (hb : begin < 64) :
    zT (fn_X1_setEnds I a (zn n) (zn begin)) (fun I' => zF [14] I I' ∧ ∀ s, s < 2 ^ cd 1 → I' 14 s = zn (if zEn cd begin s = 1 then zFn cd P n s else zEE)) := by
  have hS := zCv_S hv
  have h0 : cd 0 ≤ 5 := hv.1
  unfold fn_X1_setEnds
  refine zl_loop (fun fu s (st : pd_I) => fl_X1_setEnds_3 a (zn n) (zn begin) (fun zI2 => some zI2) fu s st) (2 ^ cd 1) (fun s st => zF [14] I st ∧ ∀ s', s' < s → st 14 s' = zn (if zEn cd begin s' = 1 then zFn cd P n s' else zEE)) ?_ ?_ pd_FU 0 I (by omega) (zFU (by omega)) ⟨zF_rfl, fun s' hs' => by omega⟩
  · rintro fu I' ⟨hF, hD⟩
    have hla' := zLa_F (by decide) (by decide) (by decide) (by decide) hF hla
    try simp only []
    rw [fl_X1_setEnds_3, hla'.1, if_pos (by rw [zn_le (by omega) (by omega)]; omega)]
    exact ⟨_, rfl, hF, hD⟩
  · rintro fu s I' hs ⟨hF, hD⟩ ih
    have hla' := zLa_F (by decide) (by decide) (by decide) (by decide) hF hla
    have hcd := zCo_F (by decide) ha hF h
    try simp only [] at ih ⊢
    have fin : zT (fl_X1_setEnds_3 a (zn n) (zn begin) (fun zI2 => some zI2) fu (zn (s + 1)) (pd_ui I' 14 s (zn (if zEn cd begin s = 1 then zFn cd P n s else zEE)))) (fun I' => zF [14] I I' ∧ ∀ s, s < 2 ^ cd 1 → I' 14 s = zn (if zEn cd begin s = 1 then zFn cd P n s else zEE)) := by
      refine ih _ ⟨zF_u (by decide) hF, fun s' hs' => ?_⟩
      rw [zu_same, zu_app]
      by_cases e : s' = s
      · subst e; rw [if_pos rfl]
      · rw [if_neg e]; exact hD s' (by omega)
    rw [fl_X1_setEnds_3, hla'.1, if_neg (by rw [zn_le (by omega) (by omega)]; omega), hcd.1, zn_4, zi_eq (by omega) (by omega)]
    by_cases c : cd 0 = 4
    · rw [if_pos c, zi_eq (by omega) (by omega)]
      have hF0 : zFn cd P n s = 0 := zFn_ring (by omega)
      by_cases c2 : s = begin
      · have hE : zEn cd begin s = 1 := by unfold zEn; rw [if_pos c, if_pos c2]
        rw [if_pos hE, hF0] at fin
        rw [if_pos c2]
        simp (disch := omega) only [zb_gd, zb_bd, zb_bd2, zb_let, zb_jn, zn_0, zn_1, zn_2, zn_3, zn_4, zn_5, zn_6, zn_7, zn_8, zn_11, zn_12, zn_15, zn_16, zn_18, zn_30, zn_31, zn_32, zn_64, zn_128, zn_199, zn_200, zn_512, zn_600, zn_1000, zn_2048, zn_add, zn_mul, zn_sub, zn_in2, zn_nat, zn_le, zn_lt, zn_eq, if_pos, if_neg, Bool.false_eq_true, ↓reduceIte]
        exact fin
      · have hE : zEn cd begin s = 0 := by unfold zEn; rw [if_pos c, if_neg c2]
        rw [if_neg (by omega)] at fin
        rw [if_neg c2]
        simp (disch := omega) only [zb_gd, zb_bd, zb_bd2, zb_let, zb_jn, zn_0, zn_1, zn_2, zn_3, zn_4, zn_5, zn_6, zn_7, zn_8, zn_11, zn_12, zn_15, zn_16, zn_18, zn_30, zn_31, zn_32, zn_64, zn_128, zn_199, zn_200, zn_512, zn_600, zn_1000, zn_2048, zn_add, zn_mul, zn_sub, zn_in2, zn_nat, zn_le, zn_lt, zn_eq, if_pos, if_neg, Bool.false_eq_true, ↓reduceIte, zn_E]
        exact fin
    · have hE : zEn cd begin s = 1 := by unfold zEn; rw [if_neg c]
      rw [if_pos hE] at fin
      rw [if_neg c, zc_steps hcd hv, zb_bd, zc_tailPrice hv hla' hT hT2 hs]
      simp (disch := omega) only [zb_gd, zb_bd, zb_bd2, zb_let, zb_jn, zn_0, zn_1, zn_2, zn_3, zn_4, zn_5, zn_6, zn_7, zn_8, zn_11, zn_12, zn_15, zn_16, zn_18, zn_30, zn_31, zn_32, zn_64, zn_128, zn_199, zn_200, zn_512, zn_600, zn_1000, zn_2048, zn_add, zn_mul, zn_sub, zn_in2, zn_nat, zn_le, zn_lt, zn_eq, if_pos, if_neg, Bool.false_eq_true, ↓reduceIte]
      exact fin
/-! the way of a rest: state and rank ahead of step t, and its bits -/
def zph (cd : Nat → Nat) (P : Nat → Nat → Nat) (k n : Nat) (E F : Nat → Nat) (begin rank : Nat) : Nat → Nat × Nat
  | 0 => (begin, rank)
  | t + 1 => (znx cd (zph cd P k n E F begin rank t).1 (zLb cd P k n E F (n - (t + 1)) (zph cd P k n E F begin rank t).1 (zph cd P k n E F begin rank t).2), zLr cd P k n E F (n - (t + 1)) (zph cd P k n E F begin rank t).1 (zph cd P k n E F begin rank t).2)
def zpb (cd : Nat → Nat) (P : Nat → Nat → Nat) (k n : Nat) (E F : Nat → Nat) (begin rank t : Nat) : Nat := zLb cd P k n E F (n - (t + 1)) (zph cd P k n E F begin rank t).1 (zph cd P k n E F begin rank t).2
theorem zLr_lt {cd : Nat → Nat} {P : Nat → Nat → Nat} {k n : Nat} {E F : Nat → Nat} {d s m : Nat} (h : m < (zLs cd P k n E F (d + 1) s).1) : zLr cd P k n E F d s m < (zLs cd P k n E F d (znx cd s (zLb cd P k n E F d s m))).1 := by
  have h2 : m < (zLs cd P k n E F d (znx cd s 0)).1 + (zLs cd P k n E F d (znx cd s 1)).1 := Nat.lt_of_lt_of_le h (Nat.min_le_right _ _)
  rcases zMr_lt (p0 := P (n - (d + 1)) (2 * s)) (p1 := P (n - (d + 1)) (2 * s + 1)) (c0 := (zLs cd P k n E F d (znx cd s 0)).2) (c1 := (zLs cd P k n E F d (znx cd s 1)).2) h2 with ⟨e, e2, q⟩ | ⟨e, e2, q⟩
  · have hb : zLb cd P k n E F d s m = 0 := by unfold zLb zMb; rw [e]
    rw [hb]; unfold zLr; rw [e2]; exact q
  · have hb : zLb cd P k n E F d s m = 1 := by unfold zLb zMb; rw [e]
    rw [hb]; unfold zLr; rw [e2]; exact q
theorem zph_ok {cd : Nat → Nat} {P : Nat → Nat → Nat} {k n : Nat} {E F : Nat → Nat} {begin rank : Nat} (hb : begin < 2 ^ cd 1) (hr : rank < (zLs cd P k n E F n begin).1) : ∀ t, t ≤ n → (zph cd P k n E F begin rank t).1 < 2 ^ cd 1 ∧ (zph cd P k n E F begin rank t).2 < (zLs cd P k n E F (n - t) (zph cd P k n E F begin rank t).1).1
  | 0, _ => ⟨hb, hr⟩
  | t + 1, ht => by
    obtain ⟨h1, h2⟩ := zph_ok hb hr t (by omega)
    rw [show n - t = (n - (t + 1)) + 1 by omega] at h2
    exact ⟨znx_lt, zLr_lt h2⟩
/-- a way in an object, at a place of the reference: cost, bits, beginning -/
def zWr (I : pd_I) (w : Nat) (X : Nat × (Nat → Nat) × Nat) (n : Nat) : Prop := I w 0 = zn X.1 ∧ I w 1 = zn X.2.2 ∧ I w 2 = zn n ∧ ∀ t, t < n → I (w + 1) t = zn (X.2.1 t)
def zWm (I : pd_I) (p : Nat) (X : Nat × (Nat → Nat) × Nat) (n : Nat) : Prop := I 106 p = zn X.1 ∧ I 107 p = zn X.2.2 ∧ I 108 p = zn n ∧ ∀ t, t < n → I 105 (200 * p + t) = zn (X.2.1 t)
def zwy (cd : Nat → Nat) (P : Nat → Nat → Nat) (k n : Nat) (E F : Nat → Nat) (begin rank : Nat) : Nat × (Nat → Nat) × Nat := ((zLs cd P k n E F n begin).2 rank, zpb cd P k n E F begin rank, begin)
theorem zw_way {w : Nat} (h : pd_isWay w = true) : 18 ≤ w ∧ w < 36 ∧ w % 2 = 0 := of_decide_eq_true h
theorem zq_follow {I : pd_I} {Z : pd_R} {n na la nc lc nn k T cnt w begin rank : Nat} {cd E F : Nat → Nat} {P : Nat → Nat → Nat} (hn : 133 ≤ n) (hZ : zZs Z na la nc lc) (hv : zCv cd) (hla : zLa I cd T P) (hn2 : nn ≤ 200) (hk : 1 ≤ k) (hk8 : k ≤ 8) (hE : ∀ s, E s ≤ 1)
    (hL : zLvO I la lc (2 ^ cd 1) (zLs cd P k nn E F nn)) (hO : zOnO I cd P k nn E F nn) (hc : I 16 1 = zn cnt) (hc8 : cnt ≤ 8) (hw : Z 17 cnt = some w) (hw2 : pd_isWay w = true) (hb : begin < 2 ^ cd 1) (hr : rank < (zLs cd P k nn E F nn begin).1) :
    zT (fn_X5_follow I Z n (zn begin) (zn rank) (zn nn)) (fun I' => zF [w, w + 1] I I' ∧ zWr I' w (zwy cd P k nn E F begin rank) nn) := by
  have hS := zCv_S hv
  have hr8 : rank < 8 := Nat.lt_of_lt_of_le hr (Nat.le_trans (zLs_cnt hk hE _ _) hk8)
  obtain ⟨ha1, ha2, ha3, ha4⟩ := zZs_a hZ hn
  have g3 := hZ.2.1
  clear hZ
  have hww := zw_way hw2
  have hlr := (hL begin hb).2 rank hr
  have hwn : ∀ x, pd_ui I w 0 x 41 = I 41 := fun x => zu_ne (by omega)
  unfold fn_X5_follow fn_X10_offered fn_X9_begin
  simp (disch := omega) only [zb_gd, zb_bd, zb_bd2, zb_let, zb_jn, zn_0, zn_1, zn_2, zn_3, zn_4, zn_5, zn_6, zn_7, zn_8, zn_11, zn_12, zn_15, zn_16, zn_18, zn_30, zn_31, zn_32, zn_64, zn_128, zn_199, zn_200, zn_512, zn_600, zn_1000, zn_2048, zn_add, zn_mul, zn_sub, zn_in2, zn_nat, zn_le, zn_lt, zn_eq, if_pos, if_neg, Bool.false_eq_true, ↓reduceIte, hc, hw, hw2, g3, ha2, hlr]
  obtain ⟨I0, hI0⟩ : ∃ I0, I0 = pd_ui (pd_ui (pd_ui I w 0 (zn ((zLs cd P k nn E F nn begin).2 rank))) w 1 (zn begin)) w 2 (zn nn) := ⟨_, rfl⟩
  rw [← hI0]
  have hF0 : zF [w, w + 1] I I0 := by rw [hI0]; exact zF_u (by simp) (zF_u (by simp) (zF_u (by simp) zF_rfl))
  have hw0 : I0 w 0 = zn ((zLs cd P k nn E F nn begin).2 rank) ∧ I0 w 1 = zn begin ∧ I0 w 2 = zn nn := by
    rw [hI0]; simp only [zu_same]; exact ⟨rfl, rfl, rfl⟩
  refine zl_loop (fun fu t (st : Int32 × Int32 × pd_I) => fl_X5_follow_36 (zn nn) w (fun zI3 => some zI3) fu st.1 st.2.1 t st.2.2) nn (fun t st => st.1 = zn (zph cd P k nn E F begin rank t).1 ∧ st.2.1 = zn (zph cd P k nn E F begin rank t).2 ∧ zF [w + 1] I0 st.2.2 ∧ ∀ t', t' < t → st.2.2 (w + 1) t' = zn (zpb cd P k nn E F begin rank t')) ?_ ?_ pd_FU 0 (zn begin, zn rank, I0) (by omega) (zFU (by omega)) ⟨rfl, rfl, zF_rfl, fun t ht => by omega⟩
  · rintro fu ⟨a, b, I'⟩ ⟨ea, eb, hF, hD⟩
    try simp only [] at ea eb hF hD ⊢
    rw [fl_X5_follow_36, if_pos (by rw [zn_le (by omega) (by omega)]; omega)]
    have e := hF w (by simp)
    refine ⟨_, rfl, zF_tr hF0 (zF_sub hF (by simp)), ?_, ?_, ?_, hD⟩
    · rw [e]; exact hw0.1
    · rw [e]; exact hw0.2.1
    · rw [e]; exact hw0.2.2
  · rintro fu t ⟨a, b, I'⟩ ht ⟨ea, eb, hF, hD⟩ ih
    try simp only [] at ea eb hF hD ih ⊢
    obtain ⟨h1, h2⟩ := zph_ok hb hr t (by omega)
    rw [show nn - t = (nn - (t + 1)) + 1 by omega] at h2
    have h3 := hO (nn - (t + 1)) (by omega) _ h1 _ h2
    have h4 : (zph cd P k nn E F begin rank t).2 < 8 := Nat.lt_of_lt_of_le h2 (Nat.le_trans (zLs_cnt hk hE _ _) hk8)
    have h5 := zLb_lt (cd := cd) (P := P) (k := k) (n := nn) (E := E) (F := F) (d := nn - (t + 1)) (s := (zph cd P k nn E F begin rank t).1) (m := (zph cd P k nn E F begin rank t).2)
    have h6 : zLr cd P k nn E F (nn - (t + 1)) (zph cd P k nn E F begin rank t).1 (zph cd P k nn E F begin rank t).2 < 8 := Nat.lt_of_lt_of_le (zLr_lt h2) (Nat.le_trans (zLs_cnt hk hE _ _) hk8)
    have e41 : I' 41 = I 41 := by rw [hF 41 (by simp; omega), hF0 41 (by simp; omega)]
    have e12 : I' 12 = I 12 := by rw [hF 12 (by simp; omega), hF0 12 (by simp; omega)]
    rw [show nn - (nn - (t + 1) + 1) = t by omega, ← e41] at h3
    have fin : ∀ I3, I3 = pd_ui I' (w + 1) t (zn (zpb cd P k nn E F begin rank t)) → zT (fl_X5_follow_36 (zn nn) w (fun zI3 => some zI3) fu (zn (zph cd P k nn E F begin rank (t + 1)).1) (zn (zph cd P k nn E F begin rank (t + 1)).2) (zn (t + 1)) I3) (fun I' => zF [w, w + 1] I I' ∧ zWr I' w (zwy cd P k nn E F begin rank) nn) := by
      intro I3 hI3
      refine ih (_, _, I3) ⟨rfl, rfl, by rw [hI3]; exact zF_u (by simp) hF, fun t' ht' => ?_⟩
      show I3 _ _ = _
      rw [hI3, zu_same, zu_app]
      by_cases c : t' = t
      · subst c; rw [if_pos rfl]
      · rw [if_neg c]; exact hD t' (by omega)
    have hq : ∀ x, pd_ui I' (w + 1) t x 12 = I' 12 := fun x => zu_ne (by omega)
    subst ea eb
    unfold zpb at fin
    rw [show (zph cd P k nn E F begin rank (t + 1)).1 = znx cd (zph cd P k nn E F begin rank t).1 (zLb cd P k nn E F (nn - (t + 1)) (zph cd P k nn E F begin rank t).1 (zph cd P k nn E F begin rank t).2) from rfl, show (zph cd P k nn E F begin rank (t + 1)).2 = zLr cd P k nn E F (nn - (t + 1)) (zph cd P k nn E F begin rank t).1 (zph cd P k nn E F begin rank t).2 from rfl] at fin
    obtain ⟨s, hs⟩ : ∃ s, s = (zph cd P k nn E F begin rank t).1 := ⟨_, rfl⟩
    obtain ⟨m, hm⟩ : ∃ m, m = (zph cd P k nn E F begin rank t).2 := ⟨_, rfl⟩
    rw [← hs, ← hm] at fin h3 h5 h6
    rw [← hs] at h1
    rw [← hm] at h4
    rw [← hs, ← hm]
    obtain ⟨b, hb⟩ : ∃ b, b = zLb cd P k nn E F (nn - (t + 1)) s m := ⟨_, rfl⟩
    obtain ⟨r, hrr⟩ : ∃ r, r = zLr cd P k nn E F (nn - (t + 1)) s m := ⟨_, rfl⟩
    rw [← hb, ← hrr] at fin h3
    rw [← hb] at h5
    rw [← hrr] at h6
    have hx := hla.2.1 (2 * s + b) (by omega)
    rw [show (2 * s + b) / 2 = s by omega, show (2 * s + b) % 2 = b by omega, ← e12] at hx
    have v1 : (8 * b + r) / 8 = b := by omega
    have v2 : (8 * b + r) % 8 = r := by omega
    rw [fl_X5_follow_36]
    simp (disch := omega) only [zb_gd, zb_bd, zb_bd2, zb_let, zb_jn, zn_0, zn_1, zn_2, zn_3, zn_4, zn_5, zn_6, zn_7, zn_8, zn_11, zn_12, zn_15, zn_16, zn_18, zn_30, zn_31, zn_32, zn_64, zn_128, zn_199, zn_200, zn_512, zn_600, zn_1000, zn_2048, zn_add, zn_mul, zn_sub, zn_in2, zn_nat, zn_le, zn_lt, zn_eq, if_pos, if_neg, Bool.false_eq_true, ↓reduceIte, h3, zn_div, zn_mod, v1, v2, zn_by8, hq, hx]
    exact fin _ rfl
theorem zq_tells {I : pd_I} {c nn k place begin rank : Nat} {cd E F : Nat → Nat} {P : Nat → Nat → Nat} (h : zCm I c cd) (hv : zCv cd) (hn2 : nn ≤ 200) (hk : 1 ≤ k) (hk8 : k ≤ 8) (hE : ∀ s, E s ≤ 1)
    (hL : zLvM I 0 (2 ^ cd 1) (zLs cd P k nn E F nn)) (hO : zOnM I cd P k nn E F nn) (hp : place < 8) (hb : begin < 2 ^ cd 1) (hr : rank < (zLs cd P k nn E F nn begin).1) :
    zT (fn_X12_tells I (zn c) (zn nn) (zn begin) (zn rank) (zn place)) (fun I' => zF [105, 106, 107, 108] I I' ∧ zWm I' place (zwy cd P k nn E F begin rank) nn ∧ (∀ j, j ≠ place → I' 106 j = I 106 j ∧ I' 107 j = I 107 j ∧ I' 108 j = I 108 j) ∧ ∀ j, (j < 200 * place ∨ 200 * place + 200 ≤ j) → I' 105 j = I 105 j) := by
  have hS := zCv_S hv
  have hr8 : rank < 8 := Nat.lt_of_lt_of_le hr (Nat.le_trans (zLs_cnt hk hE _ _) hk8)
  have hlr := (hL begin hb).2 rank hr
  rw [show 512 * 0 + 8 * begin + rank = 8 * begin + rank by omega] at hlr
  unfold fn_X12_tells
  simp (disch := omega) only [zb_gd, zb_bd, zb_bd2, zb_let, zb_jn, zn_0, zn_1, zn_2, zn_3, zn_4, zn_5, zn_6, zn_7, zn_8, zn_11, zn_12, zn_15, zn_16, zn_18, zn_30, zn_31, zn_32, zn_64, zn_128, zn_199, zn_200, zn_512, zn_600, zn_1000, zn_2048, zn_add, zn_mul, zn_sub, zn_in2, zn_nat, zn_le, zn_lt, zn_eq, if_pos, if_neg, Bool.false_eq_true, ↓reduceIte, hlr]
  obtain ⟨I0, hI0⟩ : ∃ I0, I0 = pd_ui (pd_ui (pd_ui I 106 place (zn ((zLs cd P k nn E F nn begin).2 rank))) 107 place (zn begin)) 108 place (zn nn) := ⟨_, rfl⟩
  rw [← hI0]
  have hF0 : zF [105, 106, 107, 108] I I0 := by rw [hI0]; exact zF_u (by simp) (zF_u (by simp) (zF_u (by simp) zF_rfl))
  have hw0 : I0 106 place = zn ((zLs cd P k nn E F nn begin).2 rank) ∧ I0 107 place = zn begin ∧ I0 108 place = zn nn := by
    rw [hI0]
    refine ⟨?_, ?_, ?_⟩
    · rw [zu_ne (by decide), zu_ne (by decide), zu_same, zu_at]
    · rw [zu_ne (by decide), zu_same, zu_at]
    · rw [zu_same, zu_at]
  have hw1 : ∀ j, j ≠ place → I0 106 j = I 106 j ∧ I0 107 j = I 107 j ∧ I0 108 j = I 108 j := by
    intro j hj
    rw [hI0]
    refine ⟨?_, ?_, ?_⟩
    · rw [zu_ne (by decide), zu_ne (by decide), zu_same, zu_nat hj]
    · rw [zu_ne (by decide), zu_same, zu_nat hj, zu_ne (by decide)]
    · rw [zu_same, zu_nat hj, zu_ne (by decide), zu_ne (by decide)]
  have h105 : I0 105 = I 105 := by rw [hI0, zu_ne (by decide), zu_ne (by decide), zu_ne (by decide)]
  refine zl_loop (fun fu t (st : Int32 × Int32 × pd_I) => fl_X12_tells_45 (zn c) (zn nn) (zn place) (fun zI5 => some zI5) fu st.1 st.2.1 t st.2.2) nn (fun t st => st.1 = zn (zph cd P k nn E F begin rank t).1 ∧ st.2.1 = zn (zph cd P k nn E F begin rank t).2 ∧ zF [105] I0 st.2.2 ∧ (∀ t', t' < t → st.2.2 105 (200 * place + t') = zn (zpb cd P k nn E F begin rank t')) ∧ ∀ j, (j < 200 * place ∨ 200 * place + 200 ≤ j) → st.2.2 105 j = I 105 j) ?_ ?_ pd_FU 0 (zn begin, zn rank, I0) (by omega) (zFU (by omega)) ⟨rfl, rfl, zF_rfl, fun t ht => by omega, fun j _ => by show I0 105 j = _; rw [h105]⟩
  · rintro fu ⟨a, b, I'⟩ ⟨ea, eb, hF, hD, hJ⟩
    try simp only [] at ea eb hF hD hJ ⊢
    rw [fl_X12_tells_45, if_pos (by rw [zn_le (by omega) (by omega)]; omega)]
    have e6 := hF 106 (by decide)
    have e7 := hF 107 (by decide)
    have e8 := hF 108 (by decide)
    refine ⟨_, rfl, zF_tr hF0 (zF_sub hF (by decide)), ⟨?_, ?_, ?_, hD⟩, ?_, hJ⟩
    · rw [e6]; exact hw0.1
    · rw [e7]; exact hw0.2.1
    · rw [e8]; exact hw0.2.2
    · rw [e6, e7, e8]; exact hw1
  · rintro fu t ⟨a, b, I'⟩ ht ⟨ea, eb, hF, hD, hJ⟩ ih
    try simp only [] at ea eb hF hD hJ ih ⊢
    obtain ⟨h1, h2⟩ := zph_ok hb hr t (by omega)
    rw [show nn - t = (nn - (t + 1)) + 1 by omega] at h2
    have h3 := hO (nn - (t + 1)) (by omega) _ h1 _ h2
    have h4 : (zph cd P k nn E F begin rank t).2 < 8 := Nat.lt_of_lt_of_le h2 (Nat.le_trans (zLs_cnt hk hE _ _) hk8)
    have h5 := zLb_lt (cd := cd) (P := P) (k := k) (n := nn) (E := E) (F := F) (d := nn - (t + 1)) (s := (zph cd P k nn E F begin rank t).1) (m := (zph cd P k nn E F begin rank t).2)
    have e113 : I' 113 = I 113 := by rw [hF 113 (by decide), hF0 113 (by decide)]
    have e114 : I' 114 = I 114 := by rw [hF 114 (by decide), hF0 114 (by decide)]
    rw [show nn - (nn - (t + 1) + 1) = t by omega, ← e113, ← e114] at h3
    have fin : ∀ I3, I3 = pd_ui I' 105 (200 * place + t) (zn (zpb cd P k nn E F begin rank t)) → zT (fl_X12_tells_45 (zn c) (zn nn) (zn place) (fun zI5 => some zI5) fu (zn (zph cd P k nn E F begin rank (t + 1)).1) (zn (zph cd P k nn E F begin rank (t + 1)).2) (zn (t + 1)) I3) (fun I' => zF [105, 106, 107, 108] I I' ∧ zWm I' place (zwy cd P k nn E F begin rank) nn ∧ (∀ j, j ≠ place → I' 106 j = I 106 j ∧ I' 107 j = I 107 j ∧ I' 108 j = I 108 j) ∧ ∀ j, (j < 200 * place ∨ 200 * place + 200 ≤ j) → I' 105 j = I 105 j) := by
      intro I3 hI3
      refine ih (_, _, I3) ⟨rfl, rfl, by rw [hI3]; exact zF_u (by simp) hF, fun t' ht' => ?_, fun j hj => ?_⟩
      · show I3 _ _ = _
        rw [hI3, zu_same, zu_app]
        by_cases c : t' = t
        · subst c; rw [if_pos rfl]
        · rw [if_neg (by omega)]; exact hD t' (by omega)
      · show I3 _ _ = _
        rw [hI3, zu_same, zu_app, if_neg (by omega)]; exact hJ j hj
    subst ea eb
    unfold zpb at fin
    rw [show (zph cd P k nn E F begin rank (t + 1)).1 = znx cd (zph cd P k nn E F begin rank t).1 (zLb cd P k nn E F (nn - (t + 1)) (zph cd P k nn E F begin rank t).1 (zph cd P k nn E F begin rank t).2) from rfl, show (zph cd P k nn E F begin rank (t + 1)).2 = zLr cd P k nn E F (nn - (t + 1)) (zph cd P k nn E F begin rank t).1 (zph cd P k nn E F begin rank t).2 from rfl] at fin
    obtain ⟨s, hs⟩ : ∃ s, s = (zph cd P k nn E F begin rank t).1 := ⟨_, rfl⟩
    obtain ⟨m, hm⟩ : ∃ m, m = (zph cd P k nn E F begin rank t).2 := ⟨_, rfl⟩
    rw [← hs, ← hm] at fin h3 h5
    rw [← hs] at h1
    rw [← hm] at h4
    rw [← hs, ← hm]
    obtain ⟨b, hb⟩ : ∃ b, b = zLb cd P k nn E F (nn - (t + 1)) s m := ⟨_, rfl⟩
    obtain ⟨r, hrr⟩ : ∃ r, r = zLr cd P k nn E F (nn - (t + 1)) s m := ⟨_, rfl⟩
    rw [← hb, ← hrr] at fin h3
    rw [← hb] at h5
    have hcd' : zCm (pd_ui I' 105 (200 * place + t) (zn b)) c cd := zCm_F (L := [105, 106, 107, 108]) (by decide) (zF_u (by decide) (zF_tr hF0 (zF_sub hF (by decide)))) h
    have q3 : ∀ x, pd_ui I' 105 (200 * place + t) x 113 = I' 113 := fun x => zu_ne (by decide)
    have q4 : ∀ x, pd_ui I' 105 (200 * place + t) x 114 = I' 114 := fun x => zu_ne (by decide)
    rw [fl_X12_tells_45]
    simp (disch := omega) only [zb_gd, zb_bd, zb_bd2, zb_let, zb_jn, zn_0, zn_1, zn_2, zn_3, zn_4, zn_5, zn_6, zn_7, zn_8, zn_11, zn_12, zn_15, zn_16, zn_18, zn_30, zn_31, zn_32, zn_64, zn_128, zn_199, zn_200, zn_512, zn_600, zn_1000, zn_2048, zn_add, zn_mul, zn_sub, zn_in2, zn_nat, zn_le, zn_lt, zn_eq, if_pos, if_neg, Bool.false_eq_true, ↓reduceIte, h3.1, h3.2, q3, q4]
    rw [zc_next hcd' hv h5]
    simp (disch := omega) only [zb_gd, zb_bd, zb_bd2, zb_let, zb_jn, zn_0, zn_1, zn_2, zn_3, zn_4, zn_5, zn_6, zn_7, zn_8, zn_11, zn_12, zn_15, zn_16, zn_18, zn_30, zn_31, zn_32, zn_64, zn_128, zn_199, zn_200, zn_512, zn_600, zn_1000, zn_2048, zn_add, zn_mul, zn_sub, zn_in2, zn_nat, zn_le, zn_lt, zn_eq, if_pos, if_neg, Bool.false_eq_true, ↓reduceIte]
    exact fin _ rfl
