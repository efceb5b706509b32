/-! ways: which is ahead, and how one comes to its place -/
def zlx (b1 b2 : Nat → Nat) (v : Nat) : Nat → Nat → Nat
  | 0, _ => v
  | d + 1, t => if b1 t = b2 t then zlx b1 b2 v d (t + 1) else if b1 t < b2 t then 1 else 0
def zah (n : Nat) (X Y : Nat × (Nat → Nat) × Nat) : Nat := if X.1 = Y.1 then zlx X.2.1 Y.2.1 (if X.2.2 < Y.2.2 then 1 else 0) n 0 else if X.1 < Y.1 then 1 else 0
theorem zlx_le {b1 b2 : Nat → Nat} {v : Nat} (hv : v ≤ 1) : ∀ d t, zlx b1 b2 v d t ≤ 1
  | 0, _ => hv
  | d + 1, t => by
    unfold zlx
    by_cases c : b1 t = b2 t
    · rw [if_pos c]; exact zlx_le hv d (t + 1)
    · rw [if_neg c]; split <;> omega
theorem zlx_congr {b1 b2 b1' b2' : Nat → Nat} {v : Nat} : ∀ d t, (∀ i, t ≤ i → i < t + d → b1 i = b1' i ∧ b2 i = b2' i) → zlx b1 b2 v d t = zlx b1' b2' v d t
  | 0, _, _ => rfl
  | d + 1, t, h => by
    unfold zlx
    obtain ⟨e1, e2⟩ := h t (Nat.le_refl _) (by omega)
    rw [e1, e2, zlx_congr d (t + 1) (fun i h1 h2 => h i (by omega) (by omega))]
theorem zah_le {n : Nat} {X Y : Nat × (Nat → Nat) × Nat} : zah n X Y ≤ 1 := by
  unfold zah
  by_cases c : X.1 = Y.1
  · rw [if_pos c]; exact zlx_le (by split <;> omega) _ _
  · rw [if_neg c]; split <;> omega
theorem zah_congr {n : Nat} {X Y X' Y' : Nat × (Nat → Nat) × Nat} (h1 : X.1 = X'.1) (h2 : ∀ t, t < n → X.2.1 t = X'.2.1 t) (h3 : X.2.2 = X'.2.2) (k1 : Y.1 = Y'.1) (k2 : ∀ t, t < n → Y.2.1 t = Y'.2.1 t) (k3 : Y.2.2 = Y'.2.2) : zah n X Y = zah n X' Y' := by
  unfold zah
  rw [h1, h3, k1, k3, zlx_congr n 0 (fun i _ hi => ⟨h2 i (by omega), k2 i (by omega)⟩)]
def zWb (X : Nat × (Nat → Nat) × Nat) : Prop := X.1 < 2147483648 ∧ (∀ t, X.2.1 t < 2) ∧ X.2.2 < 64
theorem zc_bo {b : Nat} (h : b ≤ 1) : pd_bo (zn b) = true := by
  rcases (show b = 0 ∨ b = 1 by omega) with e | e
  · rw [e]; rfl
  · rw [e]; rfl
theorem zc_le01 {a b : Nat} (ha : a < 2147483648) (hb : b < 2147483648) : (pd_bd (if zn b ≤ zn a then some 0 else some (1 : Int32)) fun (zx2 : Int32) => pd_gd (pd_bo zx2) (some zx2)) = some (zn (if a < b then 1 else 0)) := by
  rw [zi_le hb ha]
  by_cases c : b ≤ a
  · rw [if_pos c, if_neg (by omega)]; rfl
  · rw [if_neg c, if_pos (by omega)]; rfl
theorem zw_ah30 {I : pd_I} {a a0 n v : Nat} {X Y : Nat × (Nat → Nat) × Nat} {kont : Unit → Option Int32} (hX : zWr I a X n) (hY : zWr I a0 Y n) (bX : zWb X) (bY : zWb Y) (hn : n ≤ 200) (hk : kont () = some (zn v)) :
    ∀ d fu t, t + d = n → d < fu → fl_X9_isAheadOf_30 a a0 I kont fu (zn t) = some (zn (zlx X.2.1 Y.2.1 v d t)) := by
  intro d
  induction d with
  | zero =>
    intro fu t h1 h2
    obtain ⟨fu, rfl⟩ : ∃ f, fu = f + 1 := ⟨fu - 1, by omega⟩
    rw [fl_X9_isAheadOf_30, hX.2.2.1, if_pos (by rw [zn_le (by omega) (by omega)]; omega), hk]
    rfl
  | succ d ih =>
    intro fu t h1 h2
    obtain ⟨fu, rfl⟩ : ∃ f, fu = f + 1 := ⟨fu - 1, by omega⟩
    have e1 := hX.2.2.2 t (by omega)
    have e2 := hY.2.2.2 t (by omega)
    have b1 := bX.2.1 t
    have b2 := bY.2.1 t
    rw [fl_X9_isAheadOf_30, hX.2.2.1, if_neg (by rw [zn_le (by omega) (by omega)]; omega), zn_in2 (by omega) (by omega), zb_gd, zb_gd, zb_gd, zb_gd, zn_nat (by omega), e1, e2, zi_eq (by omega) (by omega)]
    unfold zlx
    by_cases c : X.2.1 t = Y.2.1 t
    · rw [if_pos c, if_pos c, zb_let, zn_1, zn_add]
      exact ih fu (t + 1) (by omega) (by omega)
    · rw [if_neg c, if_neg c]; exact zc_le01 (by omega) (by omega)
theorem zw_ahead {I : pd_I} {a a0 n : Nat} {X Y : Nat × (Nat → Nat) × Nat} (hX : zWr I a X n) (hY : zWr I a0 Y n) (bX : zWb X) (bY : zWb Y) (hn : n ≤ 200) : fn_X9_isAheadOf I a a0 = some (zn (zah n X Y)) := by
  have h1 := bX.1
  have h2 := bY.1
  have h3 := bX.2.2
  have h4 := bY.2.2
  unfold fn_X9_isAheadOf zah
  rw [hX.1, hY.1, hX.2.1, hY.2.1, zi_eq h1 h2]
  by_cases c : X.1 = Y.1
  · rw [if_pos c, if_pos c]
    exact zw_ah30 hX hY bX bY hn (zc_le01 (by omega) (by omega)) n pd_FU 0 (by omega) (by show n < 65536; omega)
  · rw [if_neg c, if_neg c]; exact zc_le01 (by omega) (by omega)
theorem zw_ah39 {I : pd_I} {p q n v : Nat} {X Y : Nat × (Nat → Nat) × Nat} {kont : Unit → Option Int32} (hp : p < 8) (hq : q < 8) (hX : zWm I p X n) (hY : zWm I q Y n) (bX : zWb X) (bY : zWb Y) (hn : n ≤ 200) (hk : kont () = some (zn v)) :
    ∀ d fu t, t + d = n → d < fu → fl_X12_isAhead_39 (zn p) (zn q) (zn n) I kont fu (zn t) = some (zn (zlx X.2.1 Y.2.1 v d t)) := by
  intro d
  induction d with
  | zero =>
    intro fu t h1 h2
    obtain ⟨fu, rfl⟩ : ∃ f, fu = f + 1 := ⟨fu - 1, by omega⟩
    rw [fl_X12_isAhead_39, if_pos (by rw [zn_le (by omega) (by omega)]; omega), hk]
    rfl
  | succ d ih =>
    intro fu t h1 h2
    obtain ⟨fu, rfl⟩ : ∃ f, fu = f + 1 := ⟨fu - 1, by omega⟩
    have e1 := hX.2.2.2 t (by omega)
    have e2 := hY.2.2.2 t (by omega)
    have b1 := bX.2.1 t
    have b2 := bY.2.1 t
    have i1 : (200 : Int32) * zn p + zn t = zn (200 * p + t) := by rw [zn_200, zn_mul, zn_add]
    have i2 : (200 : Int32) * zn q + zn t = zn (200 * q + t) := by rw [zn_200, zn_mul, zn_add]
    rw [fl_X12_isAhead_39, if_neg (by rw [zn_le (by omega) (by omega)]; omega), i1, i2, zn_in2 (by omega) (by omega), zb_gd, zn_in2 (by omega) (by omega), zb_gd, zb_gd, zb_gd, zn_nat (by omega), zn_nat (by omega), e1, e2, zi_eq (by omega) (by omega)]
    unfold zlx
    by_cases c : X.2.1 t = Y.2.1 t
    · rw [if_pos c, if_pos c, zb_let, zn_1, zn_add]
      exact ih fu (t + 1) (by omega) (by omega)
    · rw [if_neg c, if_neg c]; exact zc_le01 (by omega) (by omega)
theorem zw_aheadM {I : pd_I} {p q n : Nat} {X Y : Nat × (Nat → Nat) × Nat} (hp : p < 8) (hq : q < 8) (hX : zWm I p X n) (hY : zWm I q Y n) (bX : zWb X) (bY : zWb Y) (hn : n ≤ 200) : fn_X12_isAhead I (zn p) (zn q) (zn n) = some (zn (zah n X Y)) := by
  have h1 := bX.1
  have h2 := bY.1
  have h3 := bX.2.2
  have h4 := bY.2.2
  unfold fn_X12_isAhead zah
  rw [zn_in2 hp (by omega), zb_gd, zn_in2 hq (by omega), zb_gd, zb_gd, zb_gd, zn_nat (by omega), zn_nat (by omega), hX.1, hY.1, hX.2.1, hY.2.1, zi_eq h1 h2]
  by_cases c : X.1 = Y.1
  · rw [if_pos c, if_pos c]
    exact zw_ah39 hp hq hX hY bX bY hn (zc_le01 (by omega) (by omega)) n pd_FU 0 (by omega) (by show n < 65536; omega)
  · rw [if_neg c, if_neg c]; exact zc_le01 (by omega) (by omega)
/-- the one at p + 1 and the one at p change places -/
def zsw (W : Nat → Nat × (Nat → Nat) × Nat) (p j : Nat) : Nat × (Nat → Nat) × Nat := if j = p then W (p + 1) else if j = p + 1 then W p else W j
/-- the one at p comes to its place -/
def zbb (n : Nat) : Nat → (Nat → Nat × (Nat → Nat) × Nat) → Nat → Nat × (Nat → Nat) × Nat
  | 0, W => W
  | p + 1, W => if zah n (W (p + 1)) (W p) = 1 then zbb n p (zsw W p) else W
def zbp (n : Nat) : Nat → (Nat → Nat × (Nat → Nat) × Nat) → Nat
  | 0, _ => 0
  | p + 1, W => if zah n (W (p + 1)) (W p) = 1 then zbp n p (zsw W p) else p + 1
theorem zbp_le {n : Nat} : ∀ p W, zbp n p W ≤ p
  | 0, _ => Nat.le_refl _
  | p + 1, W => by
    have := zbp_le (n := n) p (zsw W p)
    unfold zbp; split <;> omega
theorem zbb_congr {n : Nat} : ∀ p W1 W2, (∀ j, j ≤ p → W1 j = W2 j) → ∀ j, j ≤ p → zbb n p W1 j = zbb n p W2 j
  | 0, W1, W2, h => h
  | p + 1, W1, W2, h => by
    intro j hj
    unfold zbb
    rw [h (p + 1) (by omega), h p (by omega)]
    by_cases c : zah n (W2 (p + 1)) (W2 p) = 1
    · rw [if_pos c, if_pos c]
      by_cases hjp : j = p + 1
      · have key : ∀ q W, q < j → zbb n q W j = W j := by
          intro q
          induction q with
          | zero => intro W _; rfl
          | succ q ihq =>
            intro W hq
            unfold zbb
            split
            · rw [ihq _ (by omega)]; unfold zsw; rw [if_neg (by omega), if_neg (by omega)]
            · rfl
        rw [key p _ (by omega), key p _ (by omega)]
        unfold zsw
        rw [if_neg (by omega), if_pos hjp, if_neg (by omega), if_pos hjp]; exact h p (by omega)
      · refine zbb_congr p _ _ (fun i hi => ?_) j (by omega)
        unfold zsw
        rw [h (p + 1) (by omega), h p (by omega), h i (by omega)]
    · rw [if_neg c, if_neg c]; exact h j hj
theorem zbb_all {n : Nat} {Pr : Nat × (Nat → Nat) × Nat → Prop} : ∀ p W m, p < m → (∀ j, j < m → Pr (W j)) → ∀ j, j < m → Pr (zbb n p W j)
  | 0, _, _, _, h => h
  | p + 1, W, m, hp, h => by
    unfold zbb
    split
    · refine zbb_all p _ m (by omega) (fun i hi => ?_)
      unfold zsw
      split
      · exact h _ (by omega)
      · split
        · exact h _ (by omega)
        · exact h i hi
    · exact h
/-- the objects of the WAYS -/
def zZw (Z : pd_R) : Prop := (∀ j, j < 9 → ∃ w, Z 17 j = some w ∧ pd_isWay w = true) ∧ (∀ i j, i < 9 → j < 9 → Z 17 i = Z 17 j → i = j) ∧ ∀ j, 9 ≤ j → Z 17 j = none
def zRep (I : pd_I) (Z : pd_R) (W : Nat → Nat × (Nat → Nat) × Nat) (m n : Nat) : Prop := ∀ j, j < m → ∃ w, Z 17 j = some w ∧ zWr I w (W j) n
theorem zq_settle5 {O : Type} {Q : O → Prop} {kont : Int32 → pd_R → Option O} {I : pd_I} {m n : Nat} (hm : m ≤ 9) (hn : n ≤ 200) :
    ∀ p fu (Z : pd_R) (W : Nat → Nat × (Nat → Nat) × Nat), p < m → p < fu → zZw Z → zRep I Z W m n → (∀ j, j < m → zWb (W j)) →
      (∀ Z', zZw Z' → zRep I Z' (zbb n p W) m n → (∀ b, b ≠ 17 → Z' b = Z b) → (∀ j, 9 ≤ j → Z' 17 j = Z 17 j) → zT (kont (zn (zbp n p W)) Z') Q) →
      zT (fl_X10_settle_5 I kont fu (zn p) Z) Q := by
  intro p
  induction p with
  | zero =>
    intro fu Z W h1 h2 hZ hR hB hK
    obtain ⟨fu, rfl⟩ : ∃ f, fu = f + 1 := ⟨fu - 1, by omega⟩
    rw [fl_X10_settle_5, zn_0, if_pos (by rw [zn_le (by omega) (by omega)]; omega)]
    exact hK Z hZ hR (fun _ _ => rfl) (fun _ _ => rfl)
  | succ p ih =>
    intro fu Z W h1 h2 hZ hR hB hK
    obtain ⟨fu, rfl⟩ : ∃ f, fu = f + 1 := ⟨fu - 1, by omega⟩
    obtain ⟨w1, a1, a2⟩ := hR (p + 1) h1
    obtain ⟨w0, b1, b2⟩ := hR p (by omega)
    have c1 : pd_isWay w1 = true := by obtain ⟨w, e, q⟩ := hZ.1 (p + 1) (by omega); rw [a1] at e; cases e; exact q
    have c0 : pd_isWay w0 = true := by obtain ⟨w, e, q⟩ := hZ.1 p (by omega); rw [b1] at e; cases e; exact q
    have hah := zw_ahead a2 b2 (hB _ h1) (hB _ (by omega)) hn
    have hle := zah_le (n := n) (X := W (p + 1)) (Y := W p)
    have e1 : zn (p + 1) + -zn 1 = zn p := by rw [← Int32.sub_eq_add_neg, zn_sub (by omega)]; congr 1
    have u1 : ∀ x, pd_ur Z 17 (p + 1) x 17 p = Z 17 p := fun x => zup_k (by omega)
    rw [fl_X10_settle_5]
    by_cases c : zah n (W (p + 1)) (W p) = 1
    · rw [c] at hah
      simp (disch := omega) only [zb_gd, zb_bd, zb_bd2, zb_let, zb_jn, zn_0, zn_1, zn_2, zn_3, zn_4, zn_5, zn_6, zn_7, zn_8, zn_11, zn_12, zn_15, zn_16, zn_18, zn_30, zn_31, zn_32, zn_64, zn_128, zn_199, zn_200, zn_512, zn_600, zn_1000, zn_2048, zn_add, zn_mul, zn_sub, zn_in2, zn_nat, zn_le, zn_lt, zn_eq, if_pos, if_neg, Bool.false_eq_true, ↓reduceIte, Nat.add_sub_cancel, a1, b1, c1, c0, hah, e1]
      obtain ⟨Z3, hZ3⟩ : ∃ Z3, Z3 = pd_ur (pd_ur Z 17 (p + 1) (some w0)) 17 p (some w1) := ⟨_, rfl⟩
      rw [← hZ3]
      have zp : Z3 17 p = some w1 := by rw [hZ3, zup_same]
      have zp1 : Z3 17 (p + 1) = some w0 := by rw [hZ3, zup_k (by omega), zup_same]
      have zpo : ∀ j, j ≠ p → j ≠ p + 1 → Z3 17 j = Z 17 j := fun j h1 h2 => by rw [hZ3, zup_k h1, zup_k h2]
      have zpb : ∀ b, b ≠ 17 → Z3 b = Z b := fun b hb => by rw [hZ3, zup_ne hb, zup_ne hb]
      show zT (fl_X10_settle_5 I kont fu (zn p) Z3) Q
      refine ih fu Z3 (zsw W p) (by omega) (by omega) ⟨fun j hj => ?_, fun i j hi hj e => ?_, fun j hj => by rw [zpo j (by omega) (by omega)]; exact hZ.2.2 j hj⟩ (fun j hj => ?_) (fun j hj => ?_) (fun Z' q1 q2 q3 q4 => ?_)
      · by_cases d1 : j = p
        · subst d1; exact ⟨w1, zp, c1⟩
        · by_cases d2 : j = p + 1
          · subst d2; exact ⟨w0, zp1, c0⟩
          · rw [zpo j d1 d2]; exact hZ.1 j hj
      · have inj := hZ.2.1
        have key : ∀ i, i < 9 → Z3 17 i = Z 17 (if i = p then p + 1 else if i = p + 1 then p else i) := by
          intro i hi
          by_cases d1 : i = p
          · subst d1; rw [zp, if_pos rfl, a1]
          · by_cases d2 : i = p + 1
            · subst d2; rw [zp1, if_neg d1, if_pos rfl, b1]
            · rw [zpo i d1 d2, if_neg d1, if_neg d2]
        rw [key i hi, key j hj] at e
        have := inj _ _ (by split <;> (try split) <;> omega) (by split <;> (try split) <;> omega) e
        by_cases d1 : i = p
        · by_cases d2 : j = p
          · omega
          · rw [if_pos d1, if_neg d2] at this; split at this <;> omega
        · rw [if_neg d1] at this
          by_cases d2 : j = p
          · rw [if_pos d2] at this; split at this <;> omega
          · rw [if_neg d2] at this; split at this <;> split at this <;> omega
      · unfold zsw
        by_cases d1 : j = p
        · rw [if_pos d1, d1]; exact ⟨w1, zp, a2⟩
        · rw [if_neg d1]
          by_cases d2 : j = p + 1
          · rw [if_pos d2, d2]; exact ⟨w0, zp1, b2⟩
          · rw [if_neg d2, zpo j d1 d2]; exact hR j hj
      · unfold zsw
        split
        · exact hB _ h1
        · split
          · exact hB _ (by omega)
          · exact hB j hj
      · have h5 := hK Z' q1
        unfold zbb zbp at h5
        rw [if_pos c, if_pos c] at h5
        refine h5 q2 (fun b hb => by rw [q3 b hb, zpb b hb]) (fun j hj => by rw [q4 j hj, zpo j (by omega) (by omega)])
    · have c2 : zah n (W (p + 1)) (W p) = 0 := by omega
      rw [c2] at hah
      simp (disch := omega) only [zb_gd, zb_bd, zb_bd2, zb_let, zb_jn, zn_0, zn_1, zn_2, zn_3, zn_4, zn_5, zn_6, zn_7, zn_8, zn_11, zn_12, zn_15, zn_16, zn_18, zn_30, zn_31, zn_32, zn_64, zn_128, zn_199, zn_200, zn_512, zn_600, zn_1000, zn_2048, zn_add, zn_mul, zn_sub, zn_in2, zn_nat, zn_le, zn_lt, zn_eq, if_pos, if_neg, Bool.false_eq_true, ↓reduceIte, Nat.add_sub_cancel, a1, b1, c1, c0, hah]
      have h5 := hK Z hZ
      unfold zbb zbp at h5
      rw [if_neg c, if_neg c] at h5
      exact h5 hR (fun _ _ => rfl) (fun _ _ => rfl)
