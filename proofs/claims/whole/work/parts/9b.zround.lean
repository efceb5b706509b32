/-! a round of the law -/
theorem zlg {x : Int64} : lg_cmp x x = 0 := (lg_cmp_eq x x).mpr rfl
theorem zt0 : (0 : Int32).toNatClampNeg = 0 := by decide
theorem zthr {I : pd_I} : fn_X12_thrown I = some (I 92 0) := rfl
theorem zb_bd3 {α β γ δ : Type} {a : α} {b : β} {c : γ} {f : α → β → γ → Option δ} : pd_bd3 (some (a, b, c)) f = f a b c := (rfl)
theorem zb_bd4 {α β γ δ ε : Type} {a : α} {b : β} {c : γ} {d : δ} {f : α → β → γ → δ → Option ε} : pd_bd4 (some (a, b, c, d)) f = f a b c d := (rfl)
theorem zb_bd5 {α β γ δ ε ζ : Type} {a : α} {b : β} {c : γ} {d : δ} {e : ε} {f : α → β → γ → δ → ε → Option ζ} : pd_bd5 (some (a, b, c, d, e)) f = f a b c d e := (rfl)
theorem zcmp {O : Type} {e : Int32} {x y : Int64} {k : Option O} (h : e = 0 → x = y) : (pd_bd (if e = 0 then (if lg_cmp x y = 0 then some false else some true) else some false) fun zc => if zc = true then none else k) = k := by
  by_cases c : e = 0
  · rw [if_pos c, h c, if_pos zlg, zb_bd, if_neg (by decide)]
  · rw [if_neg c, zb_bd, if_neg (by decide)]
theorem zbr3 {O : Type} {out : O} {c : Option (Int32 × pd_I × pd_J)} {r : pd_I → Option (Int32 × pd_I)} {Z : pd_R} {n : Nat} {K : pd_I → pd_J → Option O} (h : zO3 c r Z n) (hK : ∀ I' J', zCI I' Z n → K I' J' = some out) :
    (pd_bd3 c fun z1 I1 J1 => pd_bd2 (r I1) fun z2 I2 => pd_bd (fn_X12_thrown I2) fun z3 => if z3 = z1 then pd_bd (if z1 = 0 then (if lg_cmp (J1 132 (0 : Int32).toNatClampNeg) z2.toInt64 = 0 then some false else some true) else some false) fun zc => if zc = true then none else K I2 J1 else none) = some out := by
  obtain ⟨e, I1, J1, v, I2, rfl, h2, h3, h4, h5⟩ := h
  rw [zb_bd3, h2, zb_bd2, zthr, zb_bd, if_pos h3, zcmp (fun e0 => by rw [zt0, h4 e0])]
  exact hK I2 J1 h5
theorem zbri {O : Type} {out : O} {c : Option (Int32 × pd_J)} {r : Option (Int32 × pd_I)} {Z : pd_R} {n : Nat} {K : pd_I → pd_J → Option O} (h : zOi c r Z n) (hK : ∀ I' J', zCI I' Z n → K I' J' = some out) :
    (pd_bd2 c fun z1 J1 => pd_bd2 r fun z2 I2 => pd_bd (fn_X12_thrown I2) fun z3 => if z3 = z1 then pd_bd (if z1 = 0 then (if lg_cmp (J1 132 (0 : Int32).toNatClampNeg) z2.toInt64 = 0 then some false else some true) else some false) fun zc => if zc = true then none else K I2 J1 else none) = some out := by
  obtain ⟨e, J1, v, I2, rfl, rfl, h3, h4, h5⟩ := h
  rw [zb_bd2, zb_bd2, zthr, zb_bd, if_pos h3, zcmp (fun e0 => by rw [zt0, h4 e0])]
  exact hK I2 J1 h5
theorem zbr4 {O : Type} {out : O} {c : Option (Int32 × pd_I × pd_J × pd_R)} {r : pd_I → Option (Int32 × pd_I)} {n : Nat} {K : pd_I → pd_J → pd_R → Option O} (h : zO4 c r n) (hK : ∀ I' J' Z', zCI I' Z' n → K I' J' Z' = some out) :
    (pd_bd4 c fun z1 I1 J1 Z1 => pd_bd2 (r I1) fun z2 I2 => pd_bd (fn_X12_thrown I2) fun z3 => if z3 = z1 then pd_bd (if z1 = 0 then (if lg_cmp (J1 132 (0 : Int32).toNatClampNeg) z2.toInt64 = 0 then some false else some true) else some false) fun zc => if zc = true then none else K I2 J1 Z1 else none) = some out := by
  obtain ⟨e, I1, J1, Z1, v, I2, rfl, h2, h3, h4, h5⟩ := h
  rw [zb_bd4, h2, zb_bd2, zthr, zb_bd, if_pos h3, zcmp (fun e0 => by rw [zt0, h4 e0])]
  exact hK I2 J1 Z1 h5
theorem zCI_n {I : pd_I} {Z : pd_R} {n : Nat} (h : zCI I Z n) : decide (133 ≤ n ∧ n ≤ 999999) = true := by
  obtain ⟨_, _, ⟨cnt, cd, q1, q2, _⟩, _⟩ := h
  exact decide_eq_true ⟨by omega, by omega⟩
theorem zbr5 {O : Type} {out : O} {c : Option (Int32 × pd_I × pd_J × pd_R × Nat)} {r : pd_I → Option (Int32 × pd_I)} {K : pd_I → pd_J → pd_R → Nat → Option O} (h : zO5 c r) (hK : ∀ I' J' Z' n', zCI I' Z' n' → K I' J' Z' n' = some out) :
    (pd_bd5 c fun z1 I1 J1 Z1 n1 => pd_gd (decide (133 ≤ n1 ∧ n1 ≤ 999999)) (pd_bd2 (r I1) fun z2 I2 => pd_bd (fn_X12_thrown I2) fun z3 => if z3 = z1 then pd_bd (if z1 = 0 then (if lg_cmp (J1 132 (0 : Int32).toNatClampNeg) z2.toInt64 = 0 then some false else some true) else some false) fun zc => if zc = true then none else K I2 J1 Z1 n1 else none)) = some out := by
  obtain ⟨e, I1, J1, Z1, n1, v, I2, rfl, h2, h3, h4, h5⟩ := h
  rw [zb_bd5, zCI_n h5, zb_gd, h2, zb_bd2, zthr, zb_bd, if_pos h3, zcmp (fun e0 => by rw [zt0, h4 e0])]
  exact hK I2 J1 Z1 n1 h5
theorem zbrb {O : Type} {out : O} {c : Option (Int32 × pd_I × pd_J)} {r : pd_I → Option (Int32 × pd_I)} {Z : pd_R} {n : Nat} {K : pd_I → pd_J → Option O} (h : zOb c r Z n) (hK : ∀ I' J', zCI I' Z n → K I' J' = some out) :
    (pd_bd3 c fun z1 I1 J1 => pd_bd2 (r I1) fun z2 I2 => pd_bd (fn_X12_thrown I2) fun z3 => if z3 = z1 then pd_jn (fun (_ : Unit) => K I2 J1) fun zj1 => if z1 = 0 then pd_bd (if z2 = 0 then some 0 else some 1) fun (zy1 : Int64) => if lg_cmp (J1 132 (0 : Int32).toNatClampNeg) zy1 = 0 then zj1 () else none else zj1 () else none) = some out := by
  obtain ⟨e, I1, J1, v, I2, rfl, h2, h3, h4, h5⟩ := h
  rw [zb_bd3, h2, zb_bd2, zthr, zb_bd, if_pos h3, zb_jn]
  by_cases c : e = 0
  · obtain ⟨h6, h7⟩ := h4 c
    rw [if_pos c, zt0, h7]
    rcases h6 with h6 | h6
    · rw [h6, if_pos rfl, zb_bd, if_pos (by decide)]
      exact hK I2 J1 h5
    · rw [h6, if_neg (by decide), zb_bd, if_pos (by decide)]
      exact hK I2 J1 h5
  · rw [if_neg c]
    exact hK I2 J1 h5
theorem zbrw {O : Type} {out : O} {c : Option (Int32 × pd_I × pd_J)} {r : pd_I → pd_J → Option (Int64 × pd_I × pd_J)} {Z : pd_R} {n : Nat} {K : pd_I → pd_J → Option O} (h : zOw c r Z n) (hK : ∀ I' J', zCI I' Z n → K I' J' = some out) :
    (pd_bd3 c fun z1 I1 J1 => pd_bd3 (r I1 J1) fun z2 I2 J2 => pd_bd (fn_X12_thrown I2) fun z3 => if z3 = z1 then pd_bd (if z1 = 0 then (if lg_cmp (J2 132 (0 : Int32).toNatClampNeg) z2 = 0 then some false else some true) else some false) fun zc => if zc = true then none else K I2 J2 else none) = some out := by
  obtain ⟨e, I1, J1, v, I2, J2, rfl, h2, h3, h4, h5⟩ := h
  rw [zb_bd3, h2, zb_bd3, zthr, zb_bd, if_pos h3, zcmp (fun e0 => by rw [zt0, h4 e0])]
  exact hK I2 J2 h5
theorem zbra {O : Type} {out : O} {I : pd_I} {Z : pd_R} {n : Nat} {K : pd_I → Option O} (h : zCI I Z n) (hK : ∀ I', zCI I' Z n → K I' = some out) :
    (pd_bd (fn_X11_agreed I) fun z1 => pd_bd2 (fn_X12_agreed I) fun z2 I2 => if z1 = z2 then K I2 else none) = some out := by
  obtain ⟨v, I', h1, h2, h3⟩ := zo_agreed h
  rw [h1, zb_bd, h2, zb_bd2, if_pos rfl]
  exact hK I' h3
theorem zlt5 {L t : Nat} (hL : L ≤ 3000) (ht : t ≤ 3000) (h : ¬ Int32.ofNat L - 5 < zn t) : t + 5 ≤ L := by
  have h1 := Int32.not_lt.mp h
  rw [Int32.le_iff_toInt_le, zn_int (by omega), Int32.toInt_sub, show (5 : Int32).toInt = 5 by decide, show (Int32.ofNat L).toInt = (L : Int) from zn_int (by omega), Int.bmod_eq_of_le (by omega) (by omega)] at h1
  omega
set_option maxRecDepth 100000 in
theorem zo_law {O : Type} {out : O} {L : Nat} {xs : Nat → Int32} {kk : Int32 → pd_I → pd_J → pd_R → Nat → Option O} {ke : pd_I → pd_J → pd_R → Nat → Option O} {t : Nat} {I : pd_I} {J : pd_J} {Z : pd_R} {n : Nat} (hL : L ≤ 3000) (ht : t ≤ L) (h : zCI I Z n) (hE : ke I J Z n = some out) (hK : t + 5 ≤ L → ∀ I' J' Z' n', zCI I' Z' n' → kk (zn (t + 5)) I' J' Z' n' = some out) : fb_law L xs kk ke (zn t) I J Z n = some out := by
  unfold fb_law
  by_cases hc : Int32.ofNat L - 5 < zn t
  · rw [if_pos hc]; exact hE
  · have ht5 := zlt5 hL (by omega) hc
    have hin0 : pd_in (zn t) L = true := zn_in2 (by omega) (by omega)
    have hin1 : pd_in (zn t + 1) L = true := by rw [zn_1, zn_add]; exact zn_in2 (by omega) (by omega)
    have hin2 : pd_in (zn t + 2) L = true := by rw [zn_2, zn_add]; exact zn_in2 (by omega) (by omega)
    have hin3 : pd_in (zn t + 3) L = true := by rw [zn_3, zn_add]; exact zn_in2 (by omega) (by omega)
    have hin4 : pd_in (zn t + 4) L = true := by rw [zn_4, zn_add]; exact zn_in2 (by omega) (by omega)
    have hk : ∀ I' J' Z' n', zCI I' Z' n' → (pd_let (zn t + 5) fun zv => kk zv I' J' Z' n') = some out := fun I' J' Z' n' h' => by
      rw [zb_let, zn_5, zn_add]
      exact hK ht5 I' J' Z' n' h'
    rw [if_neg hc, hin0, zb_gd]
    simp only [hin1, hin2, hin3, hin4, zb_in1, zb_gd]
    by_cases c0 : ((xs (zn t).toNatClampNeg) &&& 31) = 0
    · rw [if_pos c0]
      exact zbrb (zo_row h) (fun I' J' h' => hk I' J' Z n h')
    rw [if_neg c0]
    by_cases c1 : ((xs (zn t).toNatClampNeg) &&& 31) = 1
    · rw [if_pos c1]
      exact zbr3 (zo_put h) (fun I' J' h' => hk I' J' Z n h')
    rw [if_neg c1]
    by_cases c2 : ((xs (zn t).toNatClampNeg) &&& 31) = 2
    · rw [if_pos c2]
      exact zbr3 (zo_five h) (fun I' J' h' => hk I' J' Z n h')
    rw [if_neg c2]
    by_cases c3 : ((xs (zn t).toNatClampNeg) &&& 31) = 3
    · rw [if_pos c3]
      exact zbri (zo_at h) (fun I' J' h' => hk I' J' Z n h')
    rw [if_neg c3]
    by_cases c4 : ((xs (zn t).toNatClampNeg) &&& 31) = 4
    · rw [if_pos c4]
      exact zbr3 (zo_tear h) (fun I' J' h' => hk I' J' Z n h')
    rw [if_neg c4]
    by_cases c5 : ((xs (zn t).toNatClampNeg) &&& 31) = 5
    · rw [if_pos c5]
      exact zbr3 (zo_noise h) (fun I' J' h' => hk I' J' Z n h')
    rw [if_neg c5]
    by_cases c6 : ((xs (zn t).toNatClampNeg) &&& 31) = 6
    · rw [if_pos c6]
      exact zbr5 (zo_code h) hk
    rw [if_neg c6]
    by_cases c7 : ((xs (zn t).toNatClampNeg) &&& 31) = 7
    · rw [if_pos c7]
      exact zbr3 (zo_tap h) (fun I' J' h' => hk I' J' Z n h')
    rw [if_neg c7]
    by_cases c8 : ((xs (zn t).toNatClampNeg) &&& 31) = 8
    · rw [if_pos c8]
      exact zbr3 (zo_keep h) (fun I' J' h' => hk I' J' Z n h')
    rw [if_neg c8]
    by_cases c9 : ((xs (zn t).toNatClampNeg) &&& 31) = 9
    · rw [if_pos c9]
      exact zbr3 (zo_stride h) (fun I' J' h' => hk I' J' Z n h')
    rw [if_neg c9]
    by_cases c10 : ((xs (zn t).toNatClampNeg) &&& 31) = 10
    · rw [if_pos c10]
      exact zbr3 (zo_send h) (fun I' J' h' => hk I' J' Z n h')
    rw [if_neg c10]
    by_cases c11 : ((xs (zn t).toNatClampNeg) &&& 31) = 11
    · rw [if_pos c11]
      exact zbri (zo_length h) (fun I' J' h' => hk I' J' Z n h')
    rw [if_neg c11]
    by_cases c12 : ((xs (zn t).toNatClampNeg) &&& 31) = 12
    · rw [if_pos c12]
      exact zbr3 (zo_cost h) (fun I' J' h' => hk I' J' Z n h')
    rw [if_neg c12]
    by_cases c13 : ((xs (zn t).toNatClampNeg) &&& 31) = 13
    · rw [if_pos c13]
      exact zbr4 (zo_best h) (fun I' J' Z' h' => hk I' J' Z' n h')
    rw [if_neg c13]
    by_cases c14 : ((xs (zn t).toNatClampNeg) &&& 31) = 14
    · rw [if_pos c14]
      exact zbr4 (zo_list h) (fun I' J' Z' h' => hk I' J' Z' n h')
    rw [if_neg c14]
    by_cases c15 : ((xs (zn t).toNatClampNeg) &&& 31) = 15
    · rw [if_pos c15]
      exact zbr4 (zo_few h) (fun I' J' Z' h' => hk I' J' Z' n h')
    rw [if_neg c15]
    by_cases c16 : ((xs (zn t).toNatClampNeg) &&& 31) = 16
    · rw [if_pos c16]
      exact zbr4 (zo_each h) (fun I' J' Z' h' => hk I' J' Z' n h')
    rw [if_neg c16]
    by_cases c17 : ((xs (zn t).toNatClampNeg) &&& 31) = 17
    · rw [if_pos c17]
      exact zbr4 (zo_talk h) (fun I' J' Z' h' => hk I' J' Z' n h')
    rw [if_neg c17]
    by_cases c18 : ((xs (zn t).toNatClampNeg) &&& 31) = 18
    · rw [if_pos c18]
      exact zbra h (fun I' h' => hk I' J Z n h')
    rw [if_neg c18]
    by_cases c19 : ((xs (zn t).toNatClampNeg) &&& 31) = 19
    · rw [if_pos c19]
      exact zbri (zo_seems h) (fun I' J' h' => hk I' J' Z n h')
    rw [if_neg c19]
    by_cases c20 : ((xs (zn t).toNatClampNeg) &&& 31) = 20
    · rw [if_pos c20]
      exact zbri (zo_way h) (fun I' J' h' => hk I' J' Z n h')
    rw [if_neg c20]
    by_cases c21 : ((xs (zn t).toNatClampNeg) &&& 31) = 21
    · rw [if_pos c21]
      exact zbr3 (zo_take h) (fun I' J' h' => hk I' J' Z n h')
    rw [if_neg c21]
    by_cases c22 : ((xs (zn t).toNatClampNeg) &&& 31) = 22
    · rw [if_pos c22]
      exact zbrb (zo_bad h) (fun I' J' h' => hk I' J' Z n h')
    rw [if_neg c22]
    by_cases c23 : ((xs (zn t).toNatClampNeg) &&& 31) = 23
    · rw [if_pos c23]
      exact zbr3 (zo_free h) (fun I' J' h' => hk I' J' Z n h')
    rw [if_neg c23]
    by_cases c24 : ((xs (zn t).toNatClampNeg) &&& 31) = 24
    · rw [if_pos c24]
      exact zbrw (zo_weights h) (fun I' J' h' => hk I' J' Z n h')
    rw [if_neg c24]
    by_cases c25 : ((xs (zn t).toNatClampNeg) &&& 31) = 25
    · rw [if_pos c25]
      exact zbri (zo_about h) (fun I' J' h' => hk I' J' Z n h')
    rw [if_neg c25]
    exact hk I J Z n h
theorem zo_loop {L : Nat} {xs : Nat → Int32} (hL : L ≤ 3000) : ∀ fu t I J Z n, t ≤ L → L < t + 5 * fu → zCI I Z n → gl_law L xs fu (zn t) I J Z n = some ()
  | 0, t, I, J, Z, n, h1, h2, h => by omega
  | fu + 1, t, I, J, Z, n, h1, h2, h => by
    rw [gl_law]
    unfold pd_gp
    rw [if_pos (zCI_ok9 h)]
    exact zo_law hL h1 h rfl (fun h5 I' J' Z' n' h' => zo_loop hL fu (t + 5) I' J' Z' n' h5 (by omega) h')
