/-! noise, way, about -/
theorem znz_f {p1 p2 : Int32} (h : ¬ (zrg p1 0 1000 ∧ zrg p2 0 1000)) : (if p1 < zn 0 then some false else (if zn 1000 < p1 then some false else (if p2 < zn 0 then some false else (if p2 ≤ zn 1000 then some true else (some false))))) = some false ∧ (if p1 < zn 0 then some false else (if zn 1000 < p1 then some false else (if p2 < zn 0 then some false else (if zn 1000 < p2 then some false else (some true))))) = some false := by
  by_cases a : p1 < zn 0
  · rw [if_pos a, if_pos a]; exact ⟨rfl, rfl⟩
  · rw [if_neg a, if_neg a]
    by_cases b : zn 1000 < p1
    · rw [if_pos b, if_pos b]; exact ⟨rfl, rfl⟩
    · rw [if_neg b, if_neg b]
      have h1 : zrg p1 0 1000 := zrg_of (by omega) (by omega) a (Int32.not_lt.mp b)
      by_cases c : p2 < zn 0
      · rw [if_pos c, if_pos c]; exact ⟨rfl, rfl⟩
      · rw [if_neg c, if_neg c]
        by_cases d : p2 ≤ zn 1000
        · exact absurd ⟨h1, zrg_of (by omega) (by omega) c d⟩ h
        · rw [if_neg d, if_pos (Int32.not_le.mp d)]; exact ⟨rfl, rfl⟩
theorem znz_t {a b : Nat} (ha : a ≤ 1000) (hb : b ≤ 1000) : (if zn a < zn 0 then some false else (if zn 1000 < zn a then some false else (if zn b < zn 0 then some false else (if zn b ≤ zn 1000 then some true else (some false))))) = some true ∧ (if zn a < zn 0 then some false else (if zn 1000 < zn a then some false else (if zn b < zn 0 then some false else (if zn 1000 < zn b then some false else (some true))))) = some true := by
  rw [zi_lt (by omega) (by omega), if_neg (by omega), zi_lt (by omega) (by omega), if_neg (by omega), zi_lt (by omega) (by omega), if_neg (by omega), zi_le (by omega) (by omega), if_pos hb]
  rw [zi_lt (by omega) (by omega), if_neg (by omega), zi_lt (by omega) (by omega), if_neg (by omega), zi_lt (by omega) (by omega), if_neg (by omega), zi_lt (by omega) (by omega), if_neg (by omega)]
  exact ⟨rfl, rfl⟩
theorem zmk_a {v : Int32} (h : zmk v) : ¬ v < -32 ∧ v ≤ 31 := by
  obtain ⟨u, hu, e⟩ := h
  rw [zmk_v e]
  obtain ⟨q1, q2, q3, q4⟩ := zmk_all u hu
  exact ⟨q1, q2⟩
theorem zo_noise {I : pd_I} {J : pd_J} {Z : pd_R} {n : Nat} {p q v : Int32} (h : zCI I Z n) : zO3 (fn_L_noise I J p q v) (fun I1 => fn_X12_noise I1 p q v) Z n := by
  by_cases hp : zmk p
  · by_cases hq : zrg q 0 1000 ∧ zrg v 0 1000
    · obtain ⟨⟨a, rfl, -, ha⟩, ⟨b, rfl, -, hb⟩⟩ := hq
      have hp2 := zmk_a hp
      have hp3 := hp
      obtain ⟨u, hu, e⟩ := hp3
      obtain ⟨T, t1, t2⟩ := h.2.1
      obtain ⟨c1, c2, c3, c4⟩ := t1 u hu
      obtain ⟨d1, d2, d3, d4⟩ := t2 u hu
      refine ⟨0, pd_ui (pd_ui I 7 u (zn a)) 8 u (zn b), pd_uj J 132 (0 : Int32).toNatClampNeg (zn (T 0 u) + zn (T 1 u)).toInt64, zn (T 0 u) + zn (T 1 u), pd_ui (pd_ui (pd_ui (pd_ui (pd_ui I 7 u (zn a)) 8 u (zn b)) 92 0 (zn 0)) 95 u (zn a)) 96 u (zn b), ?_, ?_, ?_, fun _ => by rw [zb_j], ?_⟩
      · have hS : fn_X3_setCosts I p (zn a) (zn b) = some (zn (T 0 u) + zn (T 1 u), pd_ui (pd_ui I 7 u (zn a)) 8 u (zn b)) := by
          unfold fn_X3_setCosts
          rw [zs_32, e, zn_in2 hu (by omega), zb_gd, zb_gd, zn_nat (by omega), c1, c2, zb_let, zb_gd, zb_let, zb_gd, zb_let]
        unfold fn_L_noise fn_X11_noise
        rw [zb_jn, if_neg hp2.1, if_pos hp2.2, zn_0, zn_1000, (znz_t ha hb).1, zb_bd, if_pos rfl, hS, zb_bd2, zb_bc2, ← zn_0, zb_in1, zb_gd]
        rfl
      · show fn_X12_noise (pd_ui (pd_ui I 7 u (zn a)) 8 u (zn b)) p (zn a) (zn b) = _
        have e5 : pd_ui (pd_ui (pd_ui I 7 u (zn a)) 8 u (zn b)) 92 0 (zn 0) 95 u = zn (T 0 u) := by rw [z92_b (by decide), zu_ne (by decide), zu_ne (by decide), d1]
        have e6 : pd_ui (pd_ui (pd_ui I 7 u (zn a)) 8 u (zn b)) 92 0 (zn 0) 96 u = zn (T 1 u) := by rw [z92_b (by decide), zu_ne (by decide), zu_ne (by decide), d2]
        unfold fn_X12_noise
        rw [zn_0, zb_let, zk_mark1 hp, zb_bd, if_neg zn_p0, zn_1000, (znz_t ha hb).2, zb_bd, if_pos rfl, zb_bd, zr_ok1 z92_0, zb_bd2, if_neg zn_p0, e, zn_in2 hu (by omega), zb_gd, zb_gd, zn_nat (by omega), e5, e6, zb_let, zb_gd, zb_let, zb_gd, zb_let]
      · rw [zu_ne (by decide), zu_ne (by decide), z92_0, zn_0]
      · obtain ⟨a1, a2, a3, a4, a5, a6, a7, a8⟩ := h
        have hF : zF [7, 8, 92, 95, 96] I (pd_ui (pd_ui (pd_ui (pd_ui (pd_ui I 7 u (zn a)) 8 u (zn b)) 92 0 (zn 0)) 95 u (zn a)) 96 u (zn b)) := zF_u (by simp) (zF_u (by simp) (zF_u (by simp) (zF_u (by simp) (zF_u (by simp) zF_rfl))))
        have h92 : ∀ j, j ≠ 0 → pd_ui (pd_ui (pd_ui (pd_ui (pd_ui I 7 u (zn a)) 8 u (zn b)) 92 0 (zn 0)) 95 u (zn a)) 96 u (zn b) 92 j = I 92 j := fun j hj => by rw [zu_ne (by decide), zu_ne (by decide), z92_j hj, zu_ne (by decide), zu_ne (by decide)]
        refine ⟨zCR_F (fun b h1 h2 h3 => hF b (by simp; omega)) a1, ⟨fun b' v' => if v' = u then (if b' = 0 then a else b) else T b' v', fun v' hv' => ?_, fun v' hv' => ?_⟩, zCC_F (L := [7, 8, 92, 95, 96]) (by decide) (by decide) hF (by rw [hF 0 (by decide)]) (h92 5 (by decide)) rfl a3, zCW_F (fun b h1 h2 => hF b (by simp; omega)) (by rw [hF 16 (by decide)]) (h92 14 (by decide)) (hF 105 (by decide)) (hF 106 (by decide)) (hF 107 (by decide)) (hF 108 (by decide)) rfl a4, zCS_F (by rw [hF 0 (by decide)]) (h92 19 (by decide)) (hF 59 (by decide)) (hF 109 (by decide)) a5, zCA_F (by rw [hF 0 (by decide)]) (h92 21 (by decide)) a6, a7, a8⟩
        · rw [zu_ne (by decide), zu_ne (by decide), z92_b (by decide), zu_ne (show (7 : Nat) ≠ 8 by decide), zu_same, zu_ne (show (8 : Nat) ≠ 96 by decide), zu_ne (show (8 : Nat) ≠ 95 by decide), z92_b (by decide), zu_same, zu_ne (show (8 : Nat) ≠ 7 by decide), zu_app, zu_app]
          by_cases c : v' = u
          · simp only [if_pos c]; exact ⟨rfl, rfl, ha, hb⟩
          · simp only [if_neg c]; exact t1 v' hv'
        · rw [zu_ne (show (95 : Nat) ≠ 96 by decide), zu_same, zu_same, z92_b (by decide), zu_ne (show (95 : Nat) ≠ 8 by decide), zu_ne (show (95 : Nat) ≠ 7 by decide), zu_ne (show (96 : Nat) ≠ 95 by decide), z92_b (by decide), zu_ne (show (96 : Nat) ≠ 8 by decide), zu_ne (show (96 : Nat) ≠ 7 by decide), zu_app, zu_app]
          by_cases c : v' = u
          · simp only [if_pos c]; exact ⟨rfl, rfl, ha, hb⟩
          · simp only [if_neg c]; exact t2 v' hv'
    · have hp2 := zmk_a hp
      refine zO3_er (J := J) (e := 1) h (by decide) ?_ ?_
      · unfold fn_L_noise fn_X11_noise
        rw [zb_jn, if_neg hp2.1, if_pos hp2.2, zn_0, zn_1000, (znz_f hq).1, zb_bd, if_neg (by decide), zb_bc2e, if_pos rfl]
      · show fn_X12_noise I p q v = _
        unfold fn_X12_noise
        rw [zn_0, zb_let, zk_mark1 hp, zb_bd, if_neg zn_p0, zn_1000, (znz_f hq).2, zb_bd, if_neg (by decide), zb_bd, zr_noL z92_0 (by decide), zb_bd2, if_pos rfl]
  · refine zO3_er (J := J) (e := 1) h (by decide) ?_ ?_
    · unfold fn_L_noise fn_X11_noise
      rw [zb_jn]
      have e : ∀ x : Option (Except String (Int32 × pd_I)), (if p < -32 then some (.error "java/lang/IllegalArgumentException") else if p ≤ 31 then x else some (.error "java/lang/IllegalArgumentException")) = some (.error "java/lang/IllegalArgumentException") := fun x => by
        by_cases c : p < -32
        · rw [if_pos c]
        · rw [if_neg c]
          by_cases d : p ≤ 31
          · exact absurd (zmk_of c d) hp
          · rw [if_neg d]
      rw [e, zb_bc2e, if_pos rfl]
    · show fn_X12_noise I p q v = _
      unfold fn_X12_noise
      rw [zn_0, zb_let, zk_mark0 hp, zb_bd, if_pos rfl, zb_bd, if_neg (by decide), zb_bd, zr_noL z92_0 (by decide), zb_bd2, if_pos rfl]
/-! way -/
theorem zwt_n {t : Nat} (h : t < 2147483648) : ¬ zn t < -3 ∧ ¬ zn t = -1 ∧ ¬ zn t = -2 ∧ ¬ zn t = -3 := by
  have h1 := zn_m1 h
  refine ⟨fun c => ?_, zn_m1e h, fun c => ?_, fun c => ?_⟩
  · exact absurd (Int32.lt_trans h1 c) (by decide)
  · rw [c] at h1; exact absurd h1 (by decide)
  · rw [c] at h1; exact absurd h1 (by decide)
theorem zwt_of {p : Int32} {nn : Nat} (hn : nn < 2147483648) (c : ¬ p < -3) (d : p < zn nn) : p = -3 ∨ p = -2 ∨ p = -1 ∨ zin p nn := by
  by_cases e : p < 0
  · have h1 : -3 ≤ p.toInt := by
      have := Int32.le_iff_toInt_le.mp (Int32.not_lt.mp c)
      rwa [show (-3 : Int32).toInt = -3 by decide] at this
    have h2 : p.toInt < 0 := by
      have := Int32.lt_iff_toInt_lt.mp e
      rwa [show (0 : Int32).toInt = 0 by decide] at this
    have h3 : p.toInt = -3 ∨ p.toInt = -2 ∨ p.toInt = -1 := by omega
    rcases h3 with h3 | h3 | h3
    · exact Or.inl (Int32.toInt_inj.mp (by rw [h3]; decide))
    · exact Or.inr (Or.inl (Int32.toInt_inj.mp (by rw [h3]; decide)))
    · exact Or.inr (Or.inr (Or.inl (Int32.toInt_inj.mp (by rw [h3]; decide))))
  · exact Or.inr (Or.inr (Or.inr (zn_rng e (Int32.not_le.mpr d) hn)))
theorem zo_way {I : pd_I} {J : pd_J} {Z : pd_R} {n : Nat} {p q : Int32} (h : zCI I Z n) : zOi (fn_L_way I J Z n p q) (fn_X12_way I p q) Z n := by
  obtain ⟨hZw, m, W, nn, w1, w2, w3, w4⟩ := h.2.2.2.1
  have w3' : pd_ui I 92 0 (zn 0) 92 14 = zn m := by rw [z92_j (by decide)]; exact w3
  by_cases hp : zin p m
  · obtain ⟨k, rfl, hk⟩ := hp
    obtain ⟨x1, x2, ⟨w, x3, x4⟩, x5⟩ := w4 k hk
    have hw : pd_isWay w = true := by obtain ⟨w', e, q⟩ := hZw.1 k (by omega); rw [x3] at e; cases e; exact q
    have x8 : pd_ui I 92 0 (zn 0) 108 k = zn (nn k) := by rw [z92_b (by decide)]; exact x5.2.2.1
    by_cases c : q < -3
    · refine zOi_er (J := J) (e := 1) h (by decide) ?_ ?_
      · unfold fn_L_way fn_X11_way
        rw [zr_wayOf1 w2 w1 hk x3 hw, zb_bx, hw, zb_gd, if_pos c, zb_bd, if_neg (by decide), zb_bce, if_pos rfl]
      · unfold fn_X12_way
        rw [zn_0, zb_let, w3', zi_lt (by omega) (by omega), if_neg (by omega), zi_le (by omega) (by omega), if_neg (by omega), if_pos c, zb_bd, if_neg (by decide), zb_bd, zr_noL z92_0 (by decide), zb_bd2, if_pos rfl]
    · by_cases d : q < zn (nn k)
      · have hC : ∀ v, (if q = -3 then some (.ok (I w 2)) else if q = -2 then some (.ok (I w 1)) else if q = -1 then some (.ok (I w 0)) else pd_gd (pd_in q 200) (some (.ok (I (w + 1) q.toNatClampNeg)))) = (some (.ok v) : Option (Except String Int32)) → fn_L_way I J Z n (zn k) q = some (0, pd_uj J 132 (0 : Int32).toNatClampNeg v.toInt64) := fun v e => by
          unfold fn_L_way fn_X11_way
          rw [zr_wayOf1 w2 w1 hk x3 hw, zb_bx, hw, zb_gd, if_neg c, x4.2.2.1, if_pos d, zb_bd, if_pos rfl, ← x4.2.2.1, e, zb_bc, zb_in1, zb_gd]
          rfl
        have hR : ∀ v, (if q = -1 then some (I 106 k) else if q = -2 then some (I 107 k) else if q = -3 then some (I 108 k) else pd_gd (pd_in (200 * zn k + q) 1600) (some (I 105 (200 * zn k + q).toNatClampNeg))) = some v → fn_X12_way I (zn k) q = some (v, pd_ui I 92 0 (zn 0)) := fun v e => by
          unfold fn_X12_way
          rw [zn_0, zb_let, w3', zi_lt (by omega) (by omega), if_neg (by omega), zi_le (by omega) (by omega), if_neg (by omega), if_neg c, zn_in2 (show k < 8 by omega) (by omega), zb_gd, zn_nat (show k < 2147483648 by omega), x8, if_neg (Int32.not_le.mpr d), zb_bd, if_pos rfl, zb_bd, zr_ok1 z92_0, zb_bd2, if_neg zn_p0, zb_gd, zb_gd, zb_gd, z92_b (by decide), z92_b (by decide), z92_b (by decide), z92_b (by decide), e, zb_bd]
        have fin : ∀ v, (if q = -3 then some (.ok (I w 2)) else if q = -2 then some (.ok (I w 1)) else if q = -1 then some (.ok (I w 0)) else pd_gd (pd_in q 200) (some (.ok (I (w + 1) q.toNatClampNeg)))) = (some (.ok v) : Option (Except String Int32)) → (if q = -1 then some (I 106 k) else if q = -2 then some (I 107 k) else if q = -3 then some (I 108 k) else pd_gd (pd_in (200 * zn k + q) 1600) (some (I 105 (200 * zn k + q).toNatClampNeg))) = some v → zOi (fn_L_way I J Z n (zn k) q) (fn_X12_way I (zn k) q) Z n := fun v e1 e2 =>
          ⟨0, _, v, _, hC v e1, hR v e2, by rw [z92_0, zn_0], fun _ => by rw [zb_j], zCI_0 h⟩
        rcases zwt_of (by omega) c d with e | e | e | ⟨t, e, ht⟩
        · subst e
          refine fin (zn (nn k)) ?_ ?_
          · rw [if_pos rfl, x4.2.2.1]
          · rw [if_neg (by decide), if_neg (by decide), if_pos rfl, x5.2.2.1]
        · subst e
          refine fin (zn (W k).2.2) ?_ ?_
          · rw [if_neg (by decide), if_pos rfl, x4.2.1]
          · rw [if_neg (by decide), if_pos rfl, x5.2.1]
        · subst e
          refine fin (zn (W k).1) ?_ ?_
          · rw [if_neg (by decide), if_neg (by decide), if_pos rfl, x4.1]
          · rw [if_pos rfl, x5.1]
        · subst e
          obtain ⟨y1, y2, y3, y4⟩ := zwt_n (show t < 2147483648 by omega)
          refine fin (zn ((W k).2.1 t)) ?_ ?_
          · rw [if_neg y4, if_neg y3, if_neg y2, zn_in2 (show t < 200 by omega) (by omega), zb_gd, zn_nat (by omega), x4.2.2.2 t ht]
          · rw [if_neg y2, if_neg y3, if_neg y4, zn_200, zn_mul, zn_add, zn_in2 (show 200 * k + t < 1600 by omega) (by omega), zb_gd, zn_nat (by omega), x5.2.2.2 t ht]
      · refine zOi_er (J := J) (e := 1) h (by decide) ?_ ?_
        · unfold fn_L_way fn_X11_way
          rw [zr_wayOf1 w2 w1 hk x3 hw, zb_bx, hw, zb_gd, if_neg c, x4.2.2.1, if_neg d, zb_bd, if_neg (by decide), zb_bce, if_pos rfl]
        · unfold fn_X12_way
          rw [zn_0, zb_let, w3', zi_lt (by omega) (by omega), if_neg (by omega), zi_le (by omega) (by omega), if_neg (by omega), if_neg c, zn_in2 (show k < 8 by omega) (by omega), zb_gd, zn_nat (show k < 2147483648 by omega), x8, if_pos (Int32.not_lt.mp d), zb_bd, if_neg (by decide), zb_bd, zr_noL z92_0 (by decide), zb_bd2, if_pos rfl]
  · refine zOi_er (J := J) (e := 1) h (by decide) ?_ ?_
    · unfold fn_L_way fn_X11_way
      rw [zr_wayOf0 w2 w1 hp, zb_bxe, zb_bce, if_pos rfl]
    · have e : ∀ x : Option Bool, (if p < zn 0 then some false else if zn m ≤ p then some false else x) = some false := fun x => by
        by_cases c : p < zn 0
        · rw [if_pos c]
        · rw [if_neg c]
          by_cases d : zn m ≤ p
          · rw [if_pos d]
          · exact absurd (zn_rng c d (by omega)) hp
      unfold fn_X12_way
      rw [zn_0, zb_let, w3', e, zb_bd, if_neg (by decide), zb_bd, zr_noL z92_0 (by decide), zb_bd2, if_pos rfl]
