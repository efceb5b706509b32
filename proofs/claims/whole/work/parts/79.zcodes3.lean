/-! keep, code -/
theorem zq_keep10 {O : Type} {Q : O → Prop} {I : pd_I} {a lo : Nat} {kont : pd_I → Option O} (hlo : lo ≤ 8) (hK : ∀ I', zF [a + 2] I I' → (∀ i, i < 8 → I' (a + 2) i = if lo ≤ i then 0 else I (a + 2) i) → zT (kont I') Q) : zT (fl_X0_setKeep_10 a kont pd_FU (zn lo) I) Q := by
  refine zl_loop (fun fu j (s : pd_I) => fl_X0_setKeep_10 a kont fu j s) 8 (fun j s => lo ≤ j ∧ zF [a + 2] I s ∧ ∀ i, i < 8 → s (a + 2) i = if lo ≤ i ∧ i < j then 0 else I (a + 2) i) ?_ ?_ pd_FU lo _ hlo (zFU (by omega)) ⟨Nat.le_refl _, zF_rfl, fun i hi => by rw [if_neg (by omega)]⟩
  · rintro fu s ⟨-, h1, h2⟩
    rw [fl_X0_setKeep_10, zn_8, if_pos (Int32.le_refl _)]
    refine hK s h1 (fun i hi => ?_)
    rw [h2 i hi]
    by_cases c : lo ≤ i
    · rw [if_pos c, if_pos ⟨c, hi⟩]
    · rw [if_neg c, if_neg (fun hh => c hh.1)]
  · rintro fu j s hj ⟨h0, h1, h2⟩ ih
    rw [fl_X0_setKeep_10, zn_8, zi_le (by omega) (by omega), if_neg (by omega), zn_in2 hj (by omega), zb_gd, zn_nat (by omega), zb_let, zb_let, zn_1, zn_add]
    refine ih _ ⟨by omega, zF_u (by simp) h1, fun i hi => ?_⟩
    rw [zu_same, zu_app]
    by_cases c : i = j
    · rw [if_pos c, if_pos (by omega)]
    · rw [if_neg c, h2 i hi]
      by_cases d : lo ≤ i ∧ i < j
      · rw [if_pos d, if_pos (by omega)]
      · rw [if_neg d, if_neg (by omega)]
theorem zq_keep97 {O : Type} {Q : O → Prop} {I : pd_I} {k lo : Nat} {kont : pd_I → Option O} (hk : k < 12) (hlo : lo ≤ 8) (hK : ∀ I', zF [104] I I' → (∀ i, i < 8 → I' 104 (8 * k + i) = if lo ≤ i then 0 else I 104 (8 * k + i)) → (∀ i, i < 8 * k ∨ 8 * k + 8 ≤ i → I' 104 i = I 104 i) → zT (kont I') Q) : zT (fl_X12_keep_97 (zn k) kont pd_FU (zn lo) I) Q := by
  refine zl_loop (fun fu j (s : pd_I) => fl_X12_keep_97 (zn k) kont fu j s) 8 (fun j s => lo ≤ j ∧ zF [104] I s ∧ (∀ i, i < 8 → s 104 (8 * k + i) = if lo ≤ i ∧ i < j then 0 else I 104 (8 * k + i)) ∧ ∀ i, i < 8 * k ∨ 8 * k + 8 ≤ i → s 104 i = I 104 i) ?_ ?_ pd_FU lo _ hlo (zFU (by omega)) ⟨Nat.le_refl _, zF_rfl, fun i hi => by rw [if_neg (by omega)], fun _ _ => rfl⟩
  · rintro fu s ⟨-, h1, h2, h3⟩
    rw [fl_X12_keep_97, zn_8, if_pos (Int32.le_refl _)]
    refine hK s h1 (fun i hi => ?_) h3
    rw [h2 i hi]
    by_cases c : lo ≤ i
    · rw [if_pos c, if_pos ⟨c, hi⟩]
    · rw [if_neg c, if_neg (fun hh => c hh.1)]
  · rintro fu j s hj ⟨h0, h1, h2, h3⟩ ih
    rw [fl_X12_keep_97, zn_8, zi_le (by omega) (by omega), if_neg (by omega), zn_mul, zn_add, zn_in2 (show 8 * k + j < 96 by omega) (by omega), zb_gd, zn_nat (by omega), zb_let, zb_let, zn_1, zn_add]
    refine ih _ ⟨by omega, zF_u (by simp) h1, fun i hi => ?_, fun i hi => by rw [zu_same, zu_nat (by omega)]; exact h3 i hi⟩
    rw [zu_same, zu_app]
    by_cases c : i = j
    · rw [if_pos (by rw [c]), if_pos (by omega)]
    · rw [if_neg (by omega), h2 i hi]
      by_cases d : lo ≤ i ∧ i < j
      · rw [if_pos d, if_pos (by omega)]
      · rw [if_neg d, if_neg (by omega)]
theorem zmin {a b : Nat} (ha : a < 2147483648) (hb : b < 2147483648) : pd_min (zn a) (zn b) = zn (if b < a then b else a) := by
  unfold pd_min
  rw [zi_lt hb ha]
  split <;> rfl
def zkp (cd : Nat → Nat) (p i v : Nat) : Nat → Nat := fun x => if x = 4 then p else if x = 11 + i then v else if 11 + (if cd 4 < p then cd 4 else p) ≤ x ∧ x < 19 then 0 else cd x
theorem zkp_lo {cd : Nat → Nat} {p i v x : Nat} (h4 : x ≠ 4) (hx : x < 11) : zkp cd p i v x = cd x := by
  unfold zkp
  rw [if_neg h4, if_neg (by omega), if_neg (by omega)]
theorem zkp_hi {cd : Nat → Nat} {p i v j : Nat} (hj : j < 8) : zkp cd p i v (11 + j) = if j = i then v else if (if cd 4 < p then cd 4 else p) ≤ j then 0 else cd (11 + j) := by
  unfold zkp
  rw [if_neg (by omega)]
  by_cases c : j = i
  · rw [if_pos (by omega), if_pos c]
  · rw [if_neg (by omega), if_neg c]
    by_cases d : (if cd 4 < p then cd 4 else p) ≤ j
    · rw [if_pos (by omega), if_pos d]
    · rw [if_neg (by omega), if_neg d]
theorem zkp_4 {cd : Nat → Nat} {p i v : Nat} : zkp cd p i v 4 = p := if_pos rfl
theorem zCv_keep {cd : Nat → Nat} {p i v : Nat} (h : zCv cd) (hp : 1 ≤ p) (hp8 : p ≤ 8) (hv : v < 128) : zCv (zkp cd p i v) := by
  obtain ⟨g0, g1, g2, g3, g4, g5, g6, g7, g8, g9, g10, g11⟩ := h
  refine ⟨by rw [zkp_lo (by omega) (by omega)]; exact g0, by rw [zkp_lo (by omega) (by omega)]; exact g1, by rw [zkp_lo (by omega) (by omega)]; exact g2, by rw [zkp_lo (by omega) (by omega)]; exact g3, by rw [zkp_lo (by omega) (by omega)]; exact g4, by rw [zkp_lo (by omega) (by omega)]; exact g5, by rw [zkp_4]; exact hp, by rw [zkp_4]; exact hp8, by rw [zkp_lo (by omega) (by omega)]; exact g8, by rw [zkp_lo (by omega) (by omega)]; exact g9, fun o ho => by rw [zkp_lo (by omega) (by omega)]; exact g10 o ho, fun j hj => ?_⟩
  rw [zkp_hi hj]
  by_cases c : j = i
  · rw [if_pos c]; exact hv
  · rw [if_neg c]
    by_cases d : (if cd 4 < p then cd 4 else p) ≤ j
    · rw [if_pos d]; omega
    · rw [if_neg d]; exact g11 j hj
theorem zq_setKeep {I : pd_I} {a p i v : Nat} {cd : Nat → Nat} (h : zCo I a cd) (hv : zCv cd) (hp8 : p ≤ 8) (hi : i < 8) : zT (fn_X0_setKeep I a (zn p) (zn i) (zn v)) (fun I' => zF [a, a + 2] I I' ∧ zCo I' a (zkp cd p i v)) := by
  have v4 := hv.2.2.2.2.2.2.2.1
  obtain ⟨e0, e1, e2, e3, e4, e5, e7, e8⟩ := h
  unfold fn_X0_setKeep
  rw [e4, zmin (by omega) (by omega), zb_let]
  refine zq_keep10 (by split <;> omega) (fun I' g1 g2 => ?_)
  rw [zb_let, zn_in2 hi (by omega), zb_gd, zb_let, zn_nat (by omega)]
  have ga : I' a = I a := g1 a (by simp)
  have ga1 : I' (a + 1) = I (a + 1) := g1 _ (by simp)
  refine ⟨_, rfl, zF_u (by simp) (zF_u (by simp) (zF_sub g1 (by simp))), ?_, ?_, ?_, ?_, ?_, ?_, fun o ho => ?_, fun j hj => ?_⟩
  · rw [zu_ne (by omega), zu_same, zu_nat (by decide), zkp_lo (by omega) (by omega), ga]; exact e0
  · rw [zu_ne (by omega), zu_same, zu_nat (by decide), zkp_lo (by omega) (by omega), ga]; exact e1
  · rw [zu_ne (by omega), zu_same, zu_nat (by decide), zkp_lo (by omega) (by omega), ga]; exact e2
  · rw [zu_ne (by omega), zu_same, zu_nat (by decide), zkp_lo (by omega) (by omega), ga]; exact e3
  · rw [zu_ne (by omega), zu_same, zu_at, zkp_4]
  · rw [zu_ne (by omega), zu_same, zu_nat (by decide), zkp_lo (by omega) (by omega), ga]; exact e5
  · rw [zu_ne (by omega), zu_ne (by omega), zkp_lo (by omega) (by omega), ga1]; exact e7 o ho
  · rw [zu_same, zu_app, zu_ne (by omega), zkp_hi hj, g2 j hj]
    by_cases c : j = i
    · rw [if_pos c, if_pos c]
    · rw [if_neg c, if_neg c]
      by_cases d : (if cd 4 < p then cd 4 else p) ≤ j
      · rw [if_pos d, if_pos d, zn_0]
      · rw [if_neg d, if_neg d]; exact e8 j hj
/-- the keeps' demands behind the code's own -/
theorem zkd_p {q : Int32} (h : ¬ zrg q 1 8) : (∀ x : Option Bool, (if q < zn 1 then some false else if zn 8 < q then some false else x) = some false) ∧ ∀ y x : Option (Except String (Int32 × pd_I)), (if q < zn 1 then y else if q ≤ zn 8 then x else y) = y := by
  by_cases c : q < zn 1
  · exact ⟨fun x => by rw [if_pos c], fun y x => by rw [if_pos c]⟩
  · by_cases d : q ≤ zn 8
    · exact absurd (zrg_of (by omega) (by omega) c d) h
    · exact ⟨fun x => by rw [if_neg c, if_pos (Int32.not_le.mp d)], fun y x => by rw [if_neg c, if_neg d]⟩
theorem zkd_i {q : Int32} {N : Nat} (hN : N < 2147483648) (h : ¬ zin q N) : (∀ x : Option Bool, (if q < zn 0 then some false else if zn N ≤ q then some false else x) = some false) ∧ (if q < zn 0 then some false else if q < zn N then some true else some false) = some false := by
  refine ⟨fun x => ?_, zin_f2 hN h⟩
  by_cases c : q < zn 0
  · rw [if_pos c]
  · rw [if_neg c]
    by_cases d : zn N ≤ q
    · rw [if_pos d]
    · exact absurd (zn_rng c d hN) h
theorem zm_keepP {I : pd_I} {k cnt : Nat} {cd : Nat → Nat} {p i b : Int32} (h : zCm I k cd) (hv : zCv cd) (hc : I 92 5 = zn cnt) (hc12 : cnt ≤ 12) (hk : k < cnt) (h2 : 2 ≤ cd 0) (I1 : pd_I) (hI1 : I1 = pd_ui I 92 0 (zn 0)) : fn_X12_keep I (zn k) p i b = pd_bd (pd_bd (if p < zn 1 then some false else (if zn 8 < p then some false else (if i < zn 0 then some false else (if p ≤ i then some false else (pd_bd (fn_X12_wide I1 (zn k)) fun zr4 => pd_bd (fn_X12_fits b zr4) fun zr5 => if zr5 = zn 0 then some false else (some true)))))) fun zc3 => if zc3 = true then some (zn 1) else (some (zn 0))) fun (zx2 : Int32) => pd_bd2 (fn_X12_right I1 zx2 3) fun zr3 zI4 => if zr3 = zn 0 then some (zn 0, zI4) else (pd_gd (pd_in (zn k) 12) (pd_let (zI4 101 (zn k).toNatClampNeg) fun zv1 => pd_let (pd_min p zv1) fun zv2 => fl_X12_keep_97 (zn k) (fun zI6 => pd_gd (pd_in (zn k) 12) (pd_let (pd_ui zI6 101 (zn k).toNatClampNeg p) fun zI8 => pd_gd (pd_in ((zn 8 * zn k) + i) 96) (pd_let (pd_ui zI8 104 ((zn 8 * zn k) + i).toNatClampNeg b) fun zI9 => some (zv1, zI9)))) pd_FU zv2 zI4)) := by
  have v0 := hv.1
  have h1 : zCm I1 k cd := by rw [hI1]; exact zCm_F (L := [92]) (by decide) (zF_u (by decide) zF_rfl) h
  have h92 : I1 92 0 = zn 0 := by rw [hI1, z92_0]
  unfold fn_X12_keep
  rw [zr_code1 hc hc12 ⟨k, rfl, hk⟩, zb_bd2, zb_jn, zn_0, zn_1, zn_2, zn_8, if_neg zn_p0, ← hI1, zn_in2 (show k < 12 by omega) (by omega), zb_gd, zn_nat (show k < 2147483648 by omega), h1.2.1, zi_lt (by omega) (by omega), if_neg (by omega), zb_bd, zr_ok h92, zb_bd2, if_neg zn_p0]
theorem zm_keep2 {I : pd_I} {k cnt : Nat} {cd : Nat → Nat} {p i b : Int32} (h : zCm I k cd) (hv : zCv cd) (hc : I 92 5 = zn cnt) (hc12 : cnt ≤ 12) (hk : k < cnt) (h2 : ¬ 2 ≤ cd 0) : fn_X12_keep I (zn k) p i b = some (zn 0, pd_ui (pd_ui I 92 0 (zn 0)) 92 0 2) := by
  have v0 := hv.1
  have h1 : zCm (pd_ui I 92 0 (zn 0)) k cd := zCm_F (L := [92]) (by decide) (zF_u (by decide) zF_rfl) h
  unfold fn_X12_keep
  rw [zr_code1 hc hc12 ⟨k, rfl, hk⟩, zb_bd2, zb_jn, zn_0, if_neg zn_p0, zn_in2 (show k < 12 by omega) (by omega), zb_gd, zn_nat (show k < 2147483648 by omega), h1.2.1, zn_2, zi_lt (by omega) (by omega), if_pos (by omega), zb_bd, ← zn_2, zr_noL z92_0 (by decide), zb_bd2, if_pos rfl]
theorem zk_keepP {I : pd_I} {Z : pd_R} {n k cnt : Nat} {cd : Nat → Nat} {p i b : Int32} (h : zCo I (133 + 3 * k) cd) (hv : zCv cd) (hc : I 0 2 = zn cnt) (hc12 : cnt ≤ 12) (hk : k < cnt) (hz : Z 2 k = some (133 + 3 * k)) (hn : n = 133 + 3 * cnt) (h2 : 2 ≤ cd 0) : fn_X11_keep I Z n (zn k) p i b = if p < zn 1 then some (.error "java/lang/IllegalArgumentException") else (if p ≤ zn 8 then pd_bd (if i < zn 0 then some false else (if i < p then some true else (some false))) fun zc1 => if zc1 = true then pd_bd (fn_X0_width I (133 + 3 * k)) fun zr2 => pd_bx (fn_X11_demandBits b zr2) fun _ => pd_let (I (133 + 3 * k) 5) fun zv1 => pd_bd (fn_X0_setKeep I (133 + 3 * k) p i b) fun zI1 => some (.ok (zv1, zI1)) else (some (.error "java/lang/IllegalArgumentException")) else some (.error "java/lang/IllegalArgumentException")) := by
  have hf := zc_isCut h hv
  unfold fn_X11_keep
  rw [zr_codeOf1 hc hc12 hk hz (zci hn hk), zb_bx, zci hn hk, zb_gd, hf, zb_bd, if_pos h2, zn_0, zn_1, zn_8, if_neg zn_p0, zb_jn]
theorem zk_keep2 {I : pd_I} {Z : pd_R} {n k cnt : Nat} {cd : Nat → Nat} {p i b : Int32} (h : zCo I (133 + 3 * k) cd) (hv : zCv cd) (hc : I 0 2 = zn cnt) (hc12 : cnt ≤ 12) (hk : k < cnt) (hz : Z 2 k = some (133 + 3 * k)) (hn : n = 133 + 3 * cnt) (h2 : ¬ 2 ≤ cd 0) : fn_X11_keep I Z n (zn k) p i b = some (.error "java/util/NoSuchElementException") := by
  have hf := zc_isCut h hv
  unfold fn_X11_keep
  rw [zr_codeOf1 hc hc12 hk hz (zci hn hk), zb_bx, zci hn hk, zb_gd, hf, zb_bd, if_neg h2, zn_0, if_pos rfl]
theorem zo_keep {I : pd_I} {J : pd_J} {Z : pd_R} {n : Nat} {p q i b : Int32} (h : zCI I Z n) : zO3 (fn_L_keep I J Z n p q i b) (fun I1 => fn_X12_keep I1 p q i b) Z n := by
  obtain ⟨cnt, cd, q1, q2, q3, q4, q5⟩ := h.2.2.1
  by_cases hp : zin p cnt
  · obtain ⟨k, rfl, hk⟩ := hp
    obtain ⟨g1, g2, g3, g4⟩ := q5 k hk
    by_cases h2 : 2 ≤ cd k 0
    · have hM0 : zCm (pd_ui I 92 0 (zn 0)) k (cd k) := zCm_F (L := [92]) (by decide) (zF_u (by simp) zF_rfl) g4
      have hw := zwd_le g2
      by_cases hq : zrg q 1 8
      · obtain ⟨pp, rfl, hp1, hp8⟩ := hq
        by_cases hi : zin i pp
        · obtain ⟨j, rfl, hj⟩ := hi
          by_cases hb : zin b (2 ^ zwd (cd k))
          · obtain ⟨v, rfl, hv⟩ := hb
            have hv128 : v < 128 := Nat.lt_of_lt_of_le hv (zp7 hw.2.1)
            obtain ⟨I1, e1, f1, f2⟩ := zq_setKeep (p := pp) (i := j) (v := v) g3 g2 hp8 (by omega)
            have hx : ∀ b, b < 133 → I1 b = I b := fun b hb => f1 b (by simp; omega)
            have hM1 : zCm I1 k (cd k) := zCm_F (L := [133 + 3 * k, 133 + 3 * k + 2]) (by simp; omega) f1 g4
            have hM2 : zCm (pd_ui I1 92 0 (zn 0)) k (cd k) := zCm_F (L := [92]) (by decide) (zF_u (by simp) zF_rfl) hM1
            have v4 := g2.2.2.2.2.2.2.2.1
            have hR : zT (fn_X12_keep I1 (zn k) (zn pp) (zn j) (zn v)) (fun x => x.1 = zn (cd k 4) ∧ zF [92, 101, 104] I1 x.2 ∧ x.2 92 = pd_ui I1 92 0 (zn 0) 92 ∧ (∀ i, i ≠ k → x.2 101 i = I1 101 i) ∧ (∀ i, i < 8 * k ∨ 8 * k + 8 ≤ i → x.2 104 i = I1 104 i) ∧ zCm x.2 k (zkp (cd k) pp j v)) := by
              rw [zm_keepP hM1 g2 (by rw [hx 92 (by omega)]; exact q4) q1 hk h2 _ rfl, zi_lt (by omega) (by omega), if_neg (by omega), zi_lt (by omega) (by omega), if_neg (by omega), zi_lt (by omega) (by omega), if_neg (by omega), zi_le (by omega) (by omega), if_neg (by omega), zc_wide hM2 g2, zb_bd, zd_f1 hw.2.1 ⟨v, rfl, hv⟩, zb_bd, if_neg zn_p0, zb_bd, if_pos rfl, zb_bd, zr_ok z92_0, zb_bd2, if_neg zn_p0, zn_in2 (show k < 12 by omega) (by omega), zb_gd, zn_nat (show k < 2147483648 by omega), hM2.2.2.2.2.2.1, zb_let, zmin (by omega) (by omega), zb_let]
              refine zq_keep97 (by omega) (by split <;> omega) (fun I' f1 f2 f3 => ?_)
              rw [zb_gd, zb_let, zn_mul, zn_add, zn_in2 (show 8 * k + j < 96 by omega) (by omega), zb_gd, zn_nat (by omega), zb_let]
              obtain ⟨hk12, e0, e1, e2, e3, e4, e5, e7, e8⟩ := hM2
              refine ⟨_, rfl, rfl, fun b hb => ?_, ?_, fun i hi => ?_, fun i hi => ?_, hk12, ?_, ?_, ?_, ?_, ?_, ?_, fun o ho => ?_, fun i hi => ?_⟩
              · simp only [List.mem_cons, List.not_mem_nil, or_false, not_or] at hb
                show pd_ui (pd_ui I' 101 k (zn pp)) 104 (8 * k + j) (zn v) b = I1 b
                rw [zu_ne (by omega), zu_ne (by omega), f1 b (by simp; omega), z92_b (by omega)]
              · show pd_ui (pd_ui I' 101 k (zn pp)) 104 (8 * k + j) (zn v) 92 = _
                rw [zu_ne (by omega), zu_ne (by omega), f1 92 (by simp)]
              · show pd_ui (pd_ui I' 101 k (zn pp)) 104 (8 * k + j) (zn v) 101 i = _
                rw [zu_ne (by omega), zu_same, zu_nat hi, f1 101 (by simp), z92_b (by omega)]
              · show pd_ui (pd_ui I' 101 k (zn pp)) 104 (8 * k + j) (zn v) 104 i = _
                rw [zu_same, zu_nat (by omega), zu_ne (by omega), f3 i hi, z92_b (by omega)]
              · show pd_ui (pd_ui I' 101 k (zn pp)) 104 (8 * k + j) (zn v) 97 k = _
                rw [zu_ne (by omega), zu_ne (by omega), zkp_lo (by omega) (by omega), f1 97 (by simp)]; exact e0
              · show pd_ui (pd_ui I' 101 k (zn pp)) 104 (8 * k + j) (zn v) 98 k = _
                rw [zu_ne (by omega), zu_ne (by omega), zkp_lo (by omega) (by omega), f1 98 (by simp)]; exact e1
              · show pd_ui (pd_ui I' 101 k (zn pp)) 104 (8 * k + j) (zn v) 99 k = _
                rw [zu_ne (by omega), zu_ne (by omega), zkp_lo (by omega) (by omega), f1 99 (by simp)]; exact e2
              · show pd_ui (pd_ui I' 101 k (zn pp)) 104 (8 * k + j) (zn v) 100 k = _
                rw [zu_ne (by omega), zu_ne (by omega), zkp_lo (by omega) (by omega), f1 100 (by simp)]; exact e3
              · show pd_ui (pd_ui I' 101 k (zn pp)) 104 (8 * k + j) (zn v) 101 k = _
                rw [zu_ne (by omega), zu_same, zu_at, zkp_4]
              · show pd_ui (pd_ui I' 101 k (zn pp)) 104 (8 * k + j) (zn v) 102 k = _
                rw [zu_ne (by omega), zu_ne (by omega), zkp_lo (by omega) (by omega), f1 102 (by simp)]; exact e5
              · show pd_ui (pd_ui I' 101 k (zn pp)) 104 (8 * k + j) (zn v) 103 (4 * k + o) = _
                rw [zu_ne (by omega), zu_ne (by omega), zkp_lo (by omega) (by omega), f1 103 (by simp)]; exact e7 o ho
              · show pd_ui (pd_ui I' 101 k (zn pp)) 104 (8 * k + j) (zn v) 104 (8 * k + i) = _
                rw [zu_same, zu_app, zu_ne (by omega), zkp_hi hi, f2 i hi]
                by_cases c : i = j
                · rw [if_pos (by rw [c]), if_pos c]
                · rw [if_neg (by omega), if_neg c]
                  by_cases d : (if cd k 4 < pp then cd k 4 else pp) ≤ i
                  · rw [if_pos d, if_pos d, zn_0]
                  · rw [if_neg d, if_neg d]; exact e8 i hi
            obtain ⟨⟨w, I2⟩, eR, rfl, m1, m2, m3, m4, m5⟩ := hR
            simp only [] at m1 m2 m3 m4 m5
            refine ⟨0, I1, pd_uj J 132 (0 : Int32).toNatClampNeg (zn (cd k 4)).toInt64, _, I2, ?_, eR, by rw [m2, z92_0, zn_0], fun _ => by rw [zb_j], ?_⟩
            · unfold fn_L_keep
              rw [zk_keepP g3 g2 q3 q1 hk g1 q2 h2, zi_lt (by omega) (by omega), if_neg (by omega), zi_le (by omega) (by omega), if_pos (by omega), zi_lt (by omega) (by omega), if_neg (by omega), zi_lt (by omega) (by omega), if_pos hj, zb_bd, if_pos rfl, zc_width g3 g2, zb_bd, zd_b1 hw.2.1 ⟨v, rfl, hv⟩, zb_bx, g3.2.2.2.2.1, zb_let, e1, zb_bd, zb_bc2, zb_in1, zb_gd]
              rfl
            · refine zCI_code (cd' := zkp (cd k) pp j v) h (fun b' h1 h2 => ?_) (fun b' h1 h2 => ?_) (fun j hj => ?_) (fun b' h1 h2 h3 h4 => ?_) (fun x h1 h2 j hj => ?_) (fun i hi => ?_) (fun i hi => ?_) (zCv_keep g2 hp1 hp8 hv128) ?_ m5
              · rw [m1 b' (by simp; omega), hx b' (by omega)]
              · rw [m1 b' (by simp; omega), hx b' (by omega)]
              · rw [m2, z92_j hj, hx 92 (by omega)]
              · rw [m1 b' (by simp; omega), f1 b' (by simp; omega)]
              · by_cases e : x = 101
                · subst e; rw [m3 j hj, hx 101 (by omega)]
                · rw [m1 x (by simp; omega), hx x (by omega)]
              · rw [m1 103 (by simp), hx 103 (by omega)]
              · rw [m4 i hi, hx 104 (by omega)]
              · exact zCo_F (L := [92, 101, 104]) (by simp) (by omega) m1 f2
          · refine zO3_er (J := J) (e := 3) h (by decide) ?_ ?_
            · unfold fn_L_keep
              rw [zk_keepP g3 g2 q3 q1 hk g1 q2 h2, zi_lt (by omega) (by omega), if_neg (by omega), zi_le (by omega) (by omega), if_pos (by omega), zi_lt (by omega) (by omega), if_neg (by omega), zi_lt (by omega) (by omega), if_pos hj, zb_bd, if_pos rfl, zc_width g3 g2, zb_bd, zd_b0 hw.2.1 hb, zb_bxe, zb_bc2e, if_neg (by decide), if_neg (by decide), if_pos rfl]
            · show fn_X12_keep I (zn k) (zn pp) (zn j) b = _
              rw [zm_keepP g4 g2 q4 q1 hk h2 _ rfl, zi_lt (by omega) (by omega), if_neg (by omega), zi_lt (by omega) (by omega), if_neg (by omega), zi_lt (by omega) (by omega), if_neg (by omega), zi_le (by omega) (by omega), if_neg (by omega), zc_wide hM0 g2, zb_bd, zd_f0 hw.2.1 hb, zb_bd, if_pos rfl, zb_bd, if_neg (by decide), zb_bd, zr_noL z92_0 (by decide), zb_bd2, if_pos rfl]
        · refine zO3_er (J := J) (e := 3) h (by decide) ?_ ?_
          · unfold fn_L_keep
            rw [zk_keepP g3 g2 q3 q1 hk g1 q2 h2, zi_lt (by omega) (by omega), if_neg (by omega), zi_le (by omega) (by omega), if_pos (by omega), (zkd_i (by omega) hi).2, zb_bd, if_neg (by decide), zb_bc2e, if_neg (by decide), if_neg (by decide), if_pos rfl]
          · show fn_X12_keep I (zn k) (zn pp) i b = _
            rw [zm_keepP g4 g2 q4 q1 hk h2 _ rfl, zi_lt (by omega) (by omega), if_neg (by omega), zi_lt (by omega) (by omega), if_neg (by omega), (zkd_i (by omega) hi).1, zb_bd, if_neg (by decide), zb_bd, zr_noL z92_0 (by decide), zb_bd2, if_pos rfl]
      · refine zO3_er (J := J) (e := 3) h (by decide) ?_ ?_
        · unfold fn_L_keep
          rw [zk_keepP g3 g2 q3 q1 hk g1 q2 h2, (zkd_p hq).2, zb_bc2e, if_neg (by decide), if_neg (by decide), if_pos rfl]
        · show fn_X12_keep I (zn k) q i b = _
          rw [zm_keepP g4 g2 q4 q1 hk h2 _ rfl, (zkd_p hq).1, zb_bd, if_neg (by decide), zb_bd, zr_noL z92_0 (by decide), zb_bd2, if_pos rfl]
    · refine zO3_er (J := J) (e := 2) h (by decide) ?_ (zm_keep2 g4 g2 q4 q1 hk h2)
      unfold fn_L_keep
      rw [zk_keep2 g3 g2 q3 q1 hk g1 q2 h2, zb_bc2e, if_neg (by decide), if_pos rfl]
  · refine zO3_er (J := J) (e := 1) h (by decide) ?_ ?_
    · unfold fn_L_keep fn_X11_keep
      rw [zr_codeOf0 q3 q1 hp, zb_bxe, zb_bc2e, if_pos rfl]
    · show fn_X12_keep I p q i b = _
      unfold fn_X12_keep
      rw [zr_codeL q4 q1 hp, zb_bd2, zb_jn, zn_0, if_pos rfl]
