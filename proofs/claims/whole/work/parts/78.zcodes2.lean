/-! tap, stride -/
def zup (cd : Nat → Nat) (x v : Nat) : Nat → Nat := fun j => if j = x then v else cd j
theorem zup_eq {cd : Nat → Nat} {x v : Nat} : zup cd x v x = v := if_pos rfl
theorem zup_no {cd : Nat → Nat} {x v j : Nat} (h : j ≠ x) : zup cd x v j = cd j := if_neg h
theorem zCv_feed {cd : Nat → Nat} {v : Nat} (h : zCv cd) (hv : v < 64) : zCv (zup cd 3 v) := by
  obtain ⟨g0, g1, g2, g3, g4, g5, g6, g7, g8, g9, g10, g11⟩ := h
  refine ⟨by rw [zup_no (by decide)]; exact g0, by rw [zup_no (by decide)]; exact g1, by rw [zup_no (by decide)]; exact g2, by rw [zup_no (by decide)]; exact g3, by rw [zup_no (by decide)]; exact g4, by rw [zup_eq]; exact hv, by rw [zup_no (by decide)]; exact g6, by rw [zup_no (by decide)]; exact g7, by rw [zup_no (by decide)]; exact g8, by rw [zup_no (by decide)]; exact g9, fun o ho => by rw [zup_no (by omega)]; exact g10 o ho, fun i hi => by rw [zup_no (by omega)]; exact g11 i hi⟩
theorem zCv_str {cd : Nat → Nat} {v : Nat} (h : zCv cd) (hv : 1 ≤ v) (hv2 : v ≤ 199) : zCv (zup cd 5 v) := by
  obtain ⟨g0, g1, g2, g3, g4, g5, g6, g7, g8, g9, g10, g11⟩ := h
  refine ⟨by rw [zup_no (by decide)]; exact g0, by rw [zup_no (by decide)]; exact g1, by rw [zup_no (by decide)]; exact g2, by rw [zup_no (by decide)]; exact g3, by rw [zup_no (by decide)]; exact g4, by rw [zup_no (by decide)]; exact g5, by rw [zup_no (by decide)]; exact g6, by rw [zup_no (by decide)]; exact g7, by rw [zup_eq]; exact hv, by rw [zup_eq]; exact hv2, fun o ho => by rw [zup_no (by omega)]; exact g10 o ho, fun i hi => by rw [zup_no (by omega)]; exact g11 i hi⟩
theorem zCv_tap {cd : Nat → Nat} {o v : Nat} (h : zCv cd) (ho : o < 4) (hv : v < 128) : zCv (zup cd (7 + o) v) := by
  obtain ⟨g0, g1, g2, g3, g4, g5, g6, g7, g8, g9, g10, g11⟩ := h
  refine ⟨by rw [zup_no (by omega)]; exact g0, by rw [zup_no (by omega)]; exact g1, by rw [zup_no (by omega)]; exact g2, by rw [zup_no (by omega)]; exact g3, by rw [zup_no (by omega)]; exact g4, by rw [zup_no (by omega)]; exact g5, by rw [zup_no (by omega)]; exact g6, by rw [zup_no (by omega)]; exact g7, by rw [zup_no (by omega)]; exact g8, by rw [zup_no (by omega)]; exact g9, fun o' ho' => ?_, fun i hi => by rw [zup_no (by omega)]; exact g11 i hi⟩
  by_cases e : o' = o
  · rw [e, zup_eq]; exact hv
  · rw [zup_no (by omega)]; exact g10 o' ho'
theorem zCo_feed {I : pd_I} {a v : Nat} {cd : Nat → Nat} (h : zCo I a cd) : zCo (pd_ui I a 4 (zn v)) a (zup cd 3 v) := by
  obtain ⟨e0, e1, e2, e3, e4, e5, e7, e8⟩ := h
  refine ⟨?_, ?_, ?_, ?_, ?_, ?_, fun o ho => ?_, fun i hi => ?_⟩
  · rw [zu_same, zu_nat (by decide), zup_no (by decide)]; exact e0
  · rw [zu_same, zu_nat (by decide), zup_no (by decide)]; exact e1
  · rw [zu_same, zu_nat (by decide), zup_no (by decide)]; exact e2
  · rw [zu_same, zu_at, zup_eq]
  · rw [zu_same, zu_nat (by decide), zup_no (by decide)]; exact e4
  · rw [zu_same, zu_nat (by decide), zup_no (by decide)]; exact e5
  · rw [zu_ne (by omega), zup_no (by omega)]; exact e7 o ho
  · rw [zu_ne (by omega), zup_no (by omega)]; exact e8 i hi
theorem zCo_str {I : pd_I} {a v : Nat} {cd : Nat → Nat} (h : zCo I a cd) : zCo (pd_ui I a 6 (zn v)) a (zup cd 5 v) := by
  obtain ⟨e0, e1, e2, e3, e4, e5, e7, e8⟩ := h
  refine ⟨?_, ?_, ?_, ?_, ?_, ?_, fun o ho => ?_, fun i hi => ?_⟩
  · rw [zu_same, zu_nat (by decide), zup_no (by decide)]; exact e0
  · rw [zu_same, zu_nat (by decide), zup_no (by decide)]; exact e1
  · rw [zu_same, zu_nat (by decide), zup_no (by decide)]; exact e2
  · rw [zu_same, zu_nat (by decide), zup_no (by decide)]; exact e3
  · rw [zu_same, zu_nat (by decide), zup_no (by decide)]; exact e4
  · rw [zu_same, zu_at, zup_eq]
  · rw [zu_ne (by omega), zup_no (by omega)]; exact e7 o ho
  · rw [zu_ne (by omega), zup_no (by omega)]; exact e8 i hi
theorem zCo_tap {I : pd_I} {a o v : Nat} {cd : Nat → Nat} (ho4 : o < 4) (h : zCo I a cd) : zCo (pd_ui I (a + 1) o (zn v)) a (zup cd (7 + o) v) := by
  obtain ⟨e0, e1, e2, e3, e4, e5, e7, e8⟩ := h
  refine ⟨?_, ?_, ?_, ?_, ?_, ?_, fun o' ho => ?_, fun i hi => ?_⟩
  · rw [zu_ne (by omega), zup_no (by omega)]; exact e0
  · rw [zu_ne (by omega), zup_no (by omega)]; exact e1
  · rw [zu_ne (by omega), zup_no (by omega)]; exact e2
  · rw [zu_ne (by omega), zup_no (by omega)]; exact e3
  · rw [zu_ne (by omega), zup_no (by omega)]; exact e4
  · rw [zu_ne (by omega), zup_no (by omega)]; exact e5
  · rw [zu_same, zu_app]
    by_cases e : o' = o
    · rw [if_pos e, e, zup_eq]
    · rw [if_neg e, zup_no (by omega)]; exact e7 o' ho
  · rw [zu_ne (by omega), zup_no (by omega)]; exact e8 i hi
theorem zCm_feed {I : pd_I} {k v : Nat} {cd : Nat → Nat} (h : zCm I k cd) : zCm (pd_ui I 100 k (zn v)) k (zup cd 3 v) := by
  obtain ⟨hk, e0, e1, e2, e3, e4, e5, e7, e8⟩ := h
  refine ⟨hk, ?_, ?_, ?_, ?_, ?_, ?_, fun o ho => ?_, fun i hi => ?_⟩
  · rw [zu_ne (by decide), zup_no (by decide)]; exact e0
  · rw [zu_ne (by decide), zup_no (by decide)]; exact e1
  · rw [zu_ne (by decide), zup_no (by decide)]; exact e2
  · rw [zu_same, zu_at, zup_eq]
  · rw [zu_ne (by decide), zup_no (by decide)]; exact e4
  · rw [zu_ne (by decide), zup_no (by decide)]; exact e5
  · rw [zu_ne (by decide), zup_no (by omega)]; exact e7 o ho
  · rw [zu_ne (by decide), zup_no (by omega)]; exact e8 i hi
theorem zCm_str {I : pd_I} {k v : Nat} {cd : Nat → Nat} (h : zCm I k cd) : zCm (pd_ui I 102 k (zn v)) k (zup cd 5 v) := by
  obtain ⟨hk, e0, e1, e2, e3, e4, e5, e7, e8⟩ := h
  refine ⟨hk, ?_, ?_, ?_, ?_, ?_, ?_, fun o ho => ?_, fun i hi => ?_⟩
  · rw [zu_ne (by decide), zup_no (by decide)]; exact e0
  · rw [zu_ne (by decide), zup_no (by decide)]; exact e1
  · rw [zu_ne (by decide), zup_no (by decide)]; exact e2
  · rw [zu_ne (by decide), zup_no (by decide)]; exact e3
  · rw [zu_ne (by decide), zup_no (by decide)]; exact e4
  · rw [zu_same, zu_at, zup_eq]
  · rw [zu_ne (by decide), zup_no (by omega)]; exact e7 o ho
  · rw [zu_ne (by decide), zup_no (by omega)]; exact e8 i hi
theorem zCm_tap {I : pd_I} {k o v : Nat} {cd : Nat → Nat} (ho4 : o < 4) (h : zCm I k cd) : zCm (pd_ui I 103 (4 * k + o) (zn v)) k (zup cd (7 + o) v) := by
  obtain ⟨hk, e0, e1, e2, e3, e4, e5, e7, e8⟩ := h
  refine ⟨hk, ?_, ?_, ?_, ?_, ?_, ?_, fun o' ho => ?_, fun i hi => ?_⟩
  · rw [zu_ne (by decide), zup_no (by omega)]; exact e0
  · rw [zu_ne (by decide), zup_no (by omega)]; exact e1
  · rw [zu_ne (by decide), zup_no (by omega)]; exact e2
  · rw [zu_ne (by decide), zup_no (by omega)]; exact e3
  · rw [zu_ne (by decide), zup_no (by omega)]; exact e4
  · rw [zu_ne (by decide), zup_no (by omega)]; exact e5
  · rw [zu_same, zu_app]
    by_cases e : o' = o
    · rw [if_pos (by rw [e]), e, zup_eq]
    · rw [if_neg (by omega), zup_no (by omega)]; exact e7 o' ho
  · rw [zu_ne (by decide), zup_no (by omega)]; exact e8 i hi
theorem zneg {q : Int32} (c : ¬ q < -1) (d : ¬ q = -1) : ¬ q < 0 := fun e => by
  have h1 : -1 ≤ q.toInt := by
    have := Int32.le_iff_toInt_le.mp (Int32.not_lt.mp c)
    rwa [show (-1 : Int32).toInt = -1 by decide] at this
  have h2 : q.toInt < 0 := by
    have := Int32.lt_iff_toInt_lt.mp e
    rwa [show (0 : Int32).toInt = 0 by decide] at this
  exact d (Int32.toInt_inj.mp (by rw [show (-1 : Int32).toInt = -1 by decide]; omega))
/-- which out a tap is of -/
def zto (cd : Nat → Nat) (q : Int32) : Prop := (q = -1 ∧ 1 ≤ cd 0) ∨ zin q (cd 2)
def ztw (cd : Nat → Nat) (q : Int32) : Nat := if q = -1 then cd 1 else 1 + cd 1
theorem ztw_le {cd : Nat → Nat} {q : Int32} (hv : zCv cd) : ztw cd q ≤ 7 := by
  have := hv.2.2.1
  unfold ztw; split <;> omega
theorem zk_tap2 {I : pd_I} {Z : pd_R} {n k cnt : Nat} {cd : Nat → Nat} {q b : Int32} (h : zCo I (133 + 3 * k) cd) (hv : zCv cd) (hc : I 0 2 = zn cnt) (hc12 : cnt ≤ 12) (hk : k < cnt) (hz : Z 2 k = some (133 + 3 * k)) (hn : n = 133 + 3 * cnt) (hq : ¬ zto cd q) : fn_X11_tap I Z n (zn k) q b = some (.error "java/util/NoSuchElementException") := by
  have hf := zc_isFed h hv
  have v2 := hv.2.2.2.2.1
  unfold fn_X11_tap
  rw [zr_codeOf1 hc hc12 hk hz (zci hn hk), zb_bx, zci hn hk, zb_gd, zb_jn]
  by_cases c : q = -1
  · have c1 : ¬ 1 ≤ cd 0 := fun e => hq (Or.inl ⟨c, e⟩)
    rw [if_pos c, hf, zb_bd, if_neg c1, zn_0, if_pos rfl, zb_bd, if_pos rfl]
  · rw [if_neg c, zb_bd, if_neg (by decide)]
    have e : (if q < -1 then some false else if q < I (133 + 3 * k) 2 then some true else some false) = some false := by
      rw [h.2.2.1]
      by_cases d : q < -1
      · rw [if_pos d]
      · rw [if_neg d]
        by_cases g : q < zn (cd 2)
        · exact absurd (Or.inr (zn_rng (zneg d c) (Int32.not_le.mpr g) (by omega))) hq
        · rw [if_neg g]
    rw [e, zb_bd, if_neg (by decide)]
theorem zk_tapP {I : pd_I} {Z : pd_R} {n k cnt : Nat} {cd : Nat → Nat} {q b : Int32} (h : zCo I (133 + 3 * k) cd) (hv : zCv cd) (hc : I 0 2 = zn cnt) (hc12 : cnt ≤ 12) (hk : k < cnt) (hz : Z 2 k = some (133 + 3 * k)) (hn : n = 133 + 3 * cnt) (hq : zto cd q) : fn_X11_tap I Z n (zn k) q b = pd_bx (fn_X11_demandBits b (zn (ztw cd q))) fun _ => pd_bd2 (if q = -1 then pd_let (I (133 + 3 * k) 4) fun zv2 => pd_let (pd_ui I (133 + 3 * k) 4 b) fun zI3 => some (zv2, zI3) else (pd_gd (pd_in q 4) (pd_let (I ((133 + 3 * k) + 1) q.toNatClampNeg) fun zv1 => pd_gd (pd_in q 4) (pd_let (pd_ui I ((133 + 3 * k) + 1) q.toNatClampNeg b) fun zI2 => some (zv1, zI2))))) fun (zx2 : Int32) (zI1 : pd_I) => some (.ok (zx2, zI1)) := by
  have hf := zc_isFed h hv
  have v2 := hv.2.2.2.2.1
  have e1 : (if q = -1 then pd_bd (fn_X0_isFed I (133 + 3 * k)) fun zr1 => if zr1 = 0 then some true else some false else some false) = some false := by
    by_cases c : q = -1
    · have c1 : 1 ≤ cd 0 := by
        rcases hq with hh | ⟨o, e, ho⟩
        · exact hh.2
        · rw [e] at c; exact absurd c (zn_m1e (by omega))
      rw [if_pos c, hf, zb_bd, if_pos c1, zn_0, if_neg zn_p0]
    · rw [if_neg c]
  have e2 : (if q < -1 then some false else if q < I (133 + 3 * k) 2 then some true else some false) = some true := by
    rw [h.2.2.1]
    rcases hq with ⟨c, -⟩ | ⟨o, e, ho⟩
    · rw [c, if_neg (by decide), if_pos (zn_m1 (by omega))]
    · rw [e, if_neg (fun hh => absurd (Int32.lt_trans (zn_m1 (show o < 2147483648 by omega)) hh) (by decide)), zi_lt (by omega) (by omega), if_pos ho]
  have e3 : (if q = -1 then some (I (133 + 3 * k) 1) else some (1 + I (133 + 3 * k) 1)) = some (zn (ztw cd q)) := by
    unfold ztw
    rw [h.2.1]
    by_cases c : q = -1
    · rw [if_pos c, if_pos c]
    · rw [if_neg c, if_neg c, zn_1, zn_add]
  unfold fn_X11_tap
  rw [zr_codeOf1 hc hc12 hk hz (zci hn hk), zb_bx, zci hn hk, zb_gd, zb_jn, e1, zb_bd, if_neg (by decide), e2, zb_bd, if_pos rfl, e3, zb_bd]
theorem zm_tap2 {I : pd_I} {k cnt : Nat} {cd : Nat → Nat} {q b : Int32} (h : zCm I k cd) (hv : zCv cd) (hc : I 92 5 = zn cnt) (hc12 : cnt ≤ 12) (hk : k < cnt) (hq : ¬ zto cd q) : fn_X12_tap I (zn k) q b = some (zn 0, pd_ui (pd_ui I 92 0 (zn 0)) 92 0 2) := by
  have v2 := hv.2.2.2.2.1
  have v0 := hv.1
  have h1 : zCm (pd_ui I 92 0 (zn 0)) k cd := zCm_F (L := [92]) (by decide) (zF_u (by decide) zF_rfl) h
  obtain ⟨hk12, e0, e1, e2, -⟩ := h1
  unfold fn_X12_tap
  rw [zr_code1 hc hc12 ⟨k, rfl, hk⟩, zb_bd2, zb_jn, zn_0, if_neg zn_p0]
  by_cases c : q = -1
  · have c1 : ¬ 1 ≤ cd 0 := fun e => hq (Or.inl ⟨c, e⟩)
    rw [if_pos c, zn_in2 (show k < 12 by omega) (by omega), zb_gd, zn_nat (show k < 2147483648 by omega), e0, zn_1, zi_lt (by omega) (by omega), if_pos (by omega), zb_bd, zr_noL z92_0 (by decide), zb_bd2, if_pos rfl]
  · have hq2 : ¬ zin q (cd 2) := fun e => hq (Or.inr e)
    rw [if_neg c, zn_in2 (show k < 12 by omega) (by omega), zb_gd, zn_nat (show k < 2147483648 by omega), e2, zin_fz (by omega) hq2, zb_bd, if_neg (by decide), zb_bd, zr_noL z92_0 (by decide), zb_bd2, if_pos rfl]
theorem zm_tapP {I : pd_I} {k cnt : Nat} {cd : Nat → Nat} {q b : Int32} (h : zCm I k cd) (hv : zCv cd) (hc : I 92 5 = zn cnt) (hc12 : cnt ≤ 12) (hk : k < cnt) (hq : zto cd q) (I1 : pd_I) (hI1 : I1 = pd_ui I 92 0 (zn 0)) : fn_X12_tap I (zn k) q b = pd_bd (fn_X12_fits b (zn (ztw cd q))) fun zr3 => pd_bd2 (fn_X12_right I1 zr3 3) fun zr4 zI4 => if zr4 = zn 0 then some (zn 0, zI4) else (pd_bd (if q = -1 then pd_gd (pd_in (zn k) 12) (some (zI4 100 (zn k).toNatClampNeg)) else (pd_gd (pd_in ((4 * (zn k)) + q) 48) (some (zI4 103 ((4 * (zn k)) + q).toNatClampNeg)))) fun (zx3 : Int32) => pd_bd (if q = -1 then pd_gd (pd_in (zn k) 12) (pd_let (pd_ui zI4 100 (zn k).toNatClampNeg b) fun zI7 => some zI7) else (pd_gd (pd_in ((4 * (zn k)) + q) 48) (pd_let (pd_ui zI4 103 ((4 * (zn k)) + q).toNatClampNeg b) fun zI6 => some zI6))) fun (zI5 : pd_I) => some (zx3, zI5)) := by
  have v2 := hv.2.2.2.2.1
  have v0 := hv.1
  have h1 : zCm I1 k cd := by rw [hI1]; exact zCm_F (L := [92]) (by decide) (zF_u (by decide) zF_rfl) h
  have h92 : I1 92 0 = zn 0 := by rw [hI1, z92_0]
  obtain ⟨hk12, e0, e1, e2, -⟩ := h1
  have a1 : (if q = -1 then pd_gd (pd_in (zn k) 12) (if I1 97 (zn k).toNatClampNeg < 1 then some (zn 0) else some 1) else pd_bd (if q < zn 0 then some false else pd_gd (pd_in (zn k) 12) (if I1 99 (zn k).toNatClampNeg ≤ q then some false else some true)) fun zc6 => if zc6 = true then some 1 else some (zn 0)) = some (1 : Int32) := by
    rw [zn_in2 (show k < 12 by omega) (by omega), zb_gd, zb_gd, zn_nat (show k < 2147483648 by omega), e0, e2]
    rcases hq with ⟨c, d⟩ | ⟨o, e, ho⟩
    · rw [if_pos c, zn_1, zi_lt (by omega) (by omega), if_neg (by omega)]
    · rw [e, if_neg (zn_m1e (by omega)), zin_tz (by omega) ⟨o, rfl, ho⟩, zb_bd, if_pos rfl]
  have a2 : (if q = -1 then pd_gd (pd_in (zn k) 12) (some (I1 98 (zn k).toNatClampNeg)) else pd_gd (pd_in (zn k) 12) (some (I1 98 (zn k).toNatClampNeg + 1))) = some (zn (ztw cd q)) := by
    unfold ztw
    rw [zn_in2 (show k < 12 by omega) (by omega), zb_gd, zb_gd, zn_nat (show k < 2147483648 by omega), e1]
    by_cases c : q = -1
    · rw [if_pos c, if_pos c]
    · rw [if_neg c, if_neg c, zn_1, zn_add, Nat.add_comm]
  unfold fn_X12_tap
  rw [zr_code1 hc hc12 ⟨k, rfl, hk⟩, zb_bd2, zb_jn, zn_0, if_neg zn_p0, ← hI1, a1, zb_bd, zr_ok1 h92, zb_bd2, if_neg zn_p0, a2, zb_bd]
theorem zo_tap {I : pd_I} {J : pd_J} {Z : pd_R} {n : Nat} {p q b : Int32} (h : zCI I Z n) : zO3 (fn_L_tap I J Z n p q b) (fun I1 => fn_X12_tap I1 p q b) Z n := by
  obtain ⟨cnt, cd, q1, q2, q3, q4, q5⟩ := h.2.2.1
  by_cases hp : zin p cnt
  · obtain ⟨k, rfl, hk⟩ := hp
    obtain ⟨g1, g2, g3, g4⟩ := q5 k hk
    by_cases hq : zto (cd k) q
    · have hw := ztw_le (q := q) g2
      by_cases hb : zin b (2 ^ ztw (cd k) q)
      · obtain ⟨v, rfl, hv⟩ := hb
        have hc6 := g2.2.2.1
        have g24 := g2.2.2.2.2.1
        by_cases c : q = -1
        · have ew : ztw (cd k) q = cd k 1 := by unfold ztw; rw [if_pos c]
          have hv64 : v < 64 := by
            rw [ew] at hv
            exact Nat.lt_of_lt_of_le hv (zS_le _ hc6)
          have hM1 : zCm (pd_ui I (133 + 3 * k) 4 (zn v)) k (cd k) := zCm_F (L := [133 + 3 * k]) (by simp; omega) (zF_u (by simp) zF_rfl) g4
          have hM2 : zCm (pd_ui (pd_ui I (133 + 3 * k) 4 (zn v)) 92 0 (zn 0)) k (cd k) := zCm_F (L := [92]) (by decide) (zF_u (by simp) zF_rfl) hM1
          refine ⟨0, pd_ui I (133 + 3 * k) 4 (zn v), pd_uj J 132 (0 : Int32).toNatClampNeg (zn (cd k 3)).toInt64, zn (cd k 3), pd_ui (pd_ui (pd_ui I (133 + 3 * k) 4 (zn v)) 92 0 (zn 0)) 100 k (zn v), ?_, ?_, ?_, fun _ => by rw [zb_j], ?_⟩
          · unfold fn_L_tap
            rw [zk_tapP g3 g2 q3 q1 hk g1 q2 hq, zd_b1 hw ⟨v, rfl, hv⟩, zb_bx, if_pos c, zb_let, zb_let, zb_bd2, g3.2.2.2.1, zb_bc2, zb_in1, zb_gd]
            rfl
          · show fn_X12_tap (pd_ui I (133 + 3 * k) 4 (zn v)) (zn k) q (zn v) = _
            rw [zm_tapP hM1 g2 (by rw [zu_ne (by omega)]; exact q4) q1 hk hq _ rfl, zd_f1 hw ⟨v, rfl, hv⟩, zb_bd, zr_ok z92_0, zb_bd2, if_neg zn_p0, if_pos c, if_pos c, zn_in2 (show k < 12 by omega) (by omega), zb_gd, zb_bd, zb_gd, zn_nat (by omega), hM2.2.2.2.2.1, zb_let, zb_bd]
          · rw [zu_ne (by decide), z92_0, zn_0]
          · refine zCI_code (cd' := zup (cd k) 3 v) h (fun b' h1 h2 => ?_) (fun b' h1 h2 => ?_) (fun j hj => ?_) (fun b' h1 h2 h3 h4 => ?_) (fun x h1 h2 j hj => ?_) (fun i hi => ?_) (fun i hi => ?_) (zCv_feed g2 hv64) ?_ (zCm_feed hM2)
            · rw [zu_ne (by omega), z92_b h2, zu_ne (by omega)]
            · rw [zu_ne (by omega), z92_b (by omega), zu_ne (by omega)]
            · rw [zu_ne (by omega), z92_j hj, zu_ne (by omega)]
            · rw [zu_ne (by omega), z92_b (by omega), zu_ne (by omega)]
            · by_cases e : x = 100
              · subst e; rw [zu_same, zu_nat hj, z92_b (by omega), zu_ne (by omega)]
              · rw [zu_ne e, z92_b (by omega), zu_ne (by omega)]
            · rw [zu_ne (by omega), z92_b (by omega), zu_ne (by omega)]
            · rw [zu_ne (by omega), z92_b (by omega), zu_ne (by omega)]
            · exact zCo_F (L := [92, 100]) (by simp) (by omega) (zF_u (by simp) (zF_u (by simp) zF_rfl)) (zCo_feed g3)
        · obtain ⟨o, e, ho⟩ : zin q (cd k 2) := by
            rcases hq with hh | hh
            · exact absurd hh.1 c
            · exact hh
          subst e
          have ew : ztw (cd k) (zn o) = 1 + cd k 1 := by unfold ztw; rw [if_neg c]
          have hv128 : v < 128 := by
            rw [ew] at hv
            exact Nat.lt_of_lt_of_le hv (zp7 (by omega))
          have hM1 : zCm (pd_ui I (133 + 3 * k + 1) o (zn v)) k (cd k) := zCm_F (L := [133 + 3 * k + 1]) (by simp; omega) (zF_u (by simp) zF_rfl) g4
          have hM2 : zCm (pd_ui (pd_ui I (133 + 3 * k + 1) o (zn v)) 92 0 (zn 0)) k (cd k) := zCm_F (L := [92]) (by decide) (zF_u (by simp) zF_rfl) hM1
          refine ⟨0, pd_ui I (133 + 3 * k + 1) o (zn v), pd_uj J 132 (0 : Int32).toNatClampNeg (zn (cd k (7 + o))).toInt64, zn (cd k (7 + o)), pd_ui (pd_ui (pd_ui I (133 + 3 * k + 1) o (zn v)) 92 0 (zn 0)) 103 (4 * k + o) (zn v), ?_, ?_, ?_, fun _ => by rw [zb_j], ?_⟩
          · unfold fn_L_tap
            rw [zk_tapP g3 g2 q3 q1 hk g1 q2 hq, zd_b1 hw ⟨v, rfl, hv⟩, zb_bx, if_neg c, zn_in2 (show o < 4 by omega) (by omega), zb_gd, zn_nat (by omega), g3.2.2.2.2.2.2.1 o (by omega), zb_let, zb_gd, zb_let, zb_bd2, zb_bc2, zb_in1, zb_gd]
            rfl
          · show fn_X12_tap (pd_ui I (133 + 3 * k + 1) o (zn v)) (zn k) (zn o) (zn v) = _
            rw [zm_tapP hM1 g2 (by rw [zu_ne (by omega)]; exact q4) q1 hk hq _ rfl, zd_f1 hw ⟨v, rfl, hv⟩, zb_bd, zr_ok z92_0, zb_bd2, if_neg zn_p0, if_neg c, if_neg c, zn_4, zn_mul, zn_add, zn_in2 (show 4 * k + o < 48 by omega) (by omega), zb_gd, zb_bd, zb_gd, zn_nat (by omega), hM2.2.2.2.2.2.2.2.1 o (by omega), zb_let, zb_bd]
          · rw [zu_ne (by decide), z92_0, zn_0]
          · refine zCI_code (cd' := zup (cd k) (7 + o) v) h (fun b' h1 h2 => ?_) (fun b' h1 h2 => ?_) (fun j hj => ?_) (fun b' h1 h2 h3 h4 => ?_) (fun x h1 h2 j hj => ?_) (fun i hi => ?_) (fun i hi => ?_) (zCv_tap g2 (by omega) hv128) ?_ (zCm_tap (by omega) hM2)
            · rw [zu_ne (by omega), z92_b h2, zu_ne (by omega)]
            · rw [zu_ne (by omega), z92_b (by omega), zu_ne (by omega)]
            · rw [zu_ne (by omega), z92_j hj, zu_ne (by omega)]
            · rw [zu_ne (by omega), z92_b (by omega), zu_ne (by omega)]
            · rw [zu_ne (by omega), z92_b (by omega), zu_ne (by omega)]
            · rw [zu_same, zu_nat (by omega), z92_b (by omega), zu_ne (by omega)]
            · rw [zu_ne (by omega), z92_b (by omega), zu_ne (by omega)]
            · exact zCo_F (L := [92, 103]) (by simp) (by omega) (zF_u (by simp) (zF_u (by simp) zF_rfl)) (zCo_tap (by omega) g3)
      · refine zO3_er (J := J) (e := 3) h (by decide) ?_ ?_
        · unfold fn_L_tap
          rw [zk_tapP g3 g2 q3 q1 hk g1 q2 hq, zd_b0 hw hb, zb_bxe, zb_bc2e, if_neg (by decide), if_neg (by decide), if_pos rfl]
        · show fn_X12_tap I (zn k) q b = _
          rw [zm_tapP g4 g2 q4 q1 hk hq _ rfl, zd_f0 hw hb, zb_bd, zr_noL z92_0 (by decide), zb_bd2, if_pos rfl]
    · refine zO3_er (J := J) (e := 2) h (by decide) ?_ (zm_tap2 g4 g2 q4 q1 hk hq)
      unfold fn_L_tap
      rw [zk_tap2 g3 g2 q3 q1 hk g1 q2 hq, zb_bc2e, if_neg (by decide), if_pos rfl]
  · refine zO3_er (J := J) (e := 1) h (by decide) ?_ ?_
    · unfold fn_L_tap fn_X11_tap
      rw [zr_codeOf0 q3 q1 hp, zb_bxe, zb_bc2e, if_pos rfl]
    · show fn_X12_tap I p q b = _
      unfold fn_X12_tap
      rw [zr_codeL q4 q1 hp, zb_bd2, zb_jn, zn_0, if_pos rfl]
theorem zo_stride {I : pd_I} {J : pd_J} {Z : pd_R} {n : Nat} {p q : Int32} (h : zCI I Z n) : zO3 (fn_L_stride I J Z n p q) (fun I1 => fn_X12_stride I1 p q) Z n := by
  obtain ⟨cnt, cd, q1, q2, q3, q4, q5⟩ := h.2.2.1
  by_cases hp : zin p cnt
  · obtain ⟨k, rfl, hk⟩ := hp
    obtain ⟨g1, g2, g3, g4⟩ := q5 k hk
    have g0 := g2.1
    have hM0 : zCm (pd_ui I 92 0 (zn 0)) k (cd k) := zCm_F (L := [92]) (by decide) (zF_u (by simp) zF_rfl) g4
    by_cases h5 : cd k 0 = 5
    · by_cases hq : zrg q 1 199
      · obtain ⟨v, rfl, hv1, hv2⟩ := hq
        have hM1 : zCm (pd_ui I (133 + 3 * k) 6 (zn v)) k (cd k) := zCm_F (L := [133 + 3 * k]) (by simp; omega) (zF_u (by simp) zF_rfl) g4
        have hM2 : zCm (pd_ui (pd_ui I (133 + 3 * k) 6 (zn v)) 92 0 (zn 0)) k (cd k) := zCm_F (L := [92]) (by decide) (zF_u (by simp) zF_rfl) hM1
        refine ⟨0, pd_ui I (133 + 3 * k) 6 (zn v), pd_uj J 132 (0 : Int32).toNatClampNeg (zn (cd k 5)).toInt64, zn (cd k 5), pd_ui (pd_ui (pd_ui I (133 + 3 * k) 6 (zn v)) 92 0 (zn 0)) 102 k (zn v), ?_, ?_, ?_, fun _ => by rw [zb_j], ?_⟩
        · unfold fn_L_stride fn_X11_stride
          rw [zr_codeOf1 q3 q1 hk g1 (zci q2 hk), zb_bx, zci q2 hk, zb_gd, g3.1, zn_5, h5, if_pos rfl, zn_1, zn_199, (zrg_t (by omega) ⟨v, rfl, hv1, hv2⟩).2, zb_bd, if_pos rfl, g3.2.2.2.2.2.1, zb_let, zb_let, zb_bc2, zb_in1, zb_gd]
          rfl
        · show fn_X12_stride (pd_ui I (133 + 3 * k) 6 (zn v)) (zn k) (zn v) = _
          unfold fn_X12_stride
          rw [zr_code1 (by rw [zu_ne (by omega)]; exact q4) q1 ⟨k, rfl, hk⟩, zb_bd2, zb_jn, zn_0, if_neg zn_p0, zn_in2 (show k < 12 by omega) (by omega), zb_gd, zn_nat (show k < 2147483648 by omega), hM2.2.1, h5, zn_5, if_pos rfl, zb_bd, zr_ok1 z92_0, zb_bd2, if_neg zn_p0, zn_1, zn_199, (zrg_t (by omega) ⟨v, rfl, hv1, hv2⟩).1, zb_bd, if_pos rfl, zb_bd, zr_ok z92_0, zb_bd2, if_neg zn_p0, zb_gd, zb_let, zb_gd, zb_let, hM2.2.2.2.2.2.2.1]
        · rw [zu_ne (by decide), z92_0, zn_0]
        · refine zCI_code (cd' := zup (cd k) 5 v) h (fun b' h1 h2 => ?_) (fun b' h1 h2 => ?_) (fun j hj => ?_) (fun b' h1 h2 h3 h4 => ?_) (fun x h1 h2 j hj => ?_) (fun i hi => ?_) (fun i hi => ?_) (zCv_str g2 hv1 hv2) ?_ (zCm_str hM2)
          · rw [zu_ne (by omega), z92_b h2, zu_ne (by omega)]
          · rw [zu_ne (by omega), z92_b (by omega), zu_ne (by omega)]
          · rw [zu_ne (by omega), z92_j hj, zu_ne (by omega)]
          · rw [zu_ne (by omega), z92_b (by omega), zu_ne (by omega)]
          · by_cases e : x = 102
            · subst e; rw [zu_same, zu_nat hj, z92_b (by omega), zu_ne (by omega)]
            · rw [zu_ne e, z92_b (by omega), zu_ne (by omega)]
          · rw [zu_ne (by omega), z92_b (by omega), zu_ne (by omega)]
          · rw [zu_ne (by omega), z92_b (by omega), zu_ne (by omega)]
          · exact zCo_F (L := [92, 102]) (by simp) (by omega) (zF_u (by simp) (zF_u (by simp) zF_rfl)) (zCo_str g3)
      · refine zO3_er (J := J) (e := 3) h (by decide) ?_ ?_
        · unfold fn_L_stride fn_X11_stride
          rw [zr_codeOf1 q3 q1 hk g1 (zci q2 hk), zb_bx, zci q2 hk, zb_gd, g3.1, zn_5, h5, if_pos rfl, zn_1, zn_199, (zrg_f (by omega) (by omega) hq).2, zb_bd, if_neg (by decide), zb_bc2e, if_neg (by decide), if_neg (by decide), if_pos rfl]
        · show fn_X12_stride I (zn k) q = _
          unfold fn_X12_stride
          rw [zr_code1 q4 q1 ⟨k, rfl, hk⟩, zb_bd2, zb_jn, zn_0, if_neg zn_p0, zn_in2 (show k < 12 by omega) (by omega), zb_gd, zn_nat (show k < 2147483648 by omega), hM0.2.1, h5, zn_5, if_pos rfl, zb_bd, zr_ok1 z92_0, zb_bd2, if_neg zn_p0, zn_1, zn_199, (zrg_f (by omega) (by omega) hq).1, zb_bd, if_neg (by decide), zb_bd, zr_noL z92_0 (by decide), zb_bd2, if_pos rfl]
    · refine zO3_er (J := J) (e := 2) h (by decide) ?_ ?_
      · unfold fn_L_stride fn_X11_stride
        rw [zr_codeOf1 q3 q1 hk g1 (zci q2 hk), zb_bx, zci q2 hk, zb_gd, g3.1, zn_5, zi_eq (by omega) (by omega), if_neg h5, zb_bc2e, if_neg (by decide), if_pos rfl]
      · show fn_X12_stride I (zn k) q = _
        unfold fn_X12_stride
        rw [zr_code1 q4 q1 ⟨k, rfl, hk⟩, zb_bd2, zb_jn, zn_0, if_neg zn_p0, zn_in2 (show k < 12 by omega) (by omega), zb_gd, zn_nat (show k < 2147483648 by omega), hM0.2.1, zn_5, zi_eq (by omega) (by omega), if_neg h5, zb_bd, zr_noL z92_0 (by decide), zb_bd2, if_pos rfl]
  · refine zO3_er (J := J) (e := 1) h (by decide) ?_ ?_
    · unfold fn_L_stride fn_X11_stride
      rw [zr_codeOf0 q3 q1 hp, zb_bxe, zb_bc2e, if_pos rfl]
    · show fn_X12_stride I p q = _
      unfold fn_X12_stride
      rw [zr_codeL q4 q1 hp, zb_bd2, zb_jn, zn_0, if_pos rfl]
