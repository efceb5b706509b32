/-! how many ways of a WEIGHT: the class's whole; the closure under silent edges -/
theorem zq_ww2 {O : Type} {Q : O → Prop} {J : pd_J} {p : Nat} {kont : pd_J → Option O} (hp30 : p ≤ 30) (hK : ∀ J', zJF [58] J J' → (∀ i, i < (p + 1) * 64 → J' 58 i = 0) → zT (kont J') Q) : zT (fl_X7_waysOfWeight_2 (zn p) kont pd_FU (zn 0) J) Q := by
  refine zl_loop (fun fu j (s : pd_J) => fl_X7_waysOfWeight_2 (zn p) kont fu j s) ((p + 1) * 64) (fun j s => zJF [58] J s ∧ ∀ i, i < j → s 58 i = 0) ?_ ?_ pd_FU 0 _ (by omega) (zFU (by omega)) ⟨zJF_rfl, fun i hi => by omega⟩
  · rintro fu s ⟨h1, h2⟩
    rw [fl_X7_waysOfWeight_2, zn_1, zn_64, zn_add, zn_mul, if_pos (Int32.le_refl _)]
    exact hK s h1 h2
  · rintro fu j s hj ⟨h1, h2⟩ ih
    rw [fl_X7_waysOfWeight_2, zn_1, zn_64, zn_add, zn_mul, zi_le (by omega) (by omega), if_neg (by omega), zn_in2 (show j < 1984 by omega) (by omega), zb_gd, zn_nat (by omega), zb_let, zb_let, zn_add]
    refine ih _ ⟨zJF_u (by simp) h1, fun i hi => ?_⟩
    rw [zuj_same, zul]
    by_cases c : i = j
    · rw [if_pos c]
    · rw [if_neg c]; exact h2 i (by omega)
/-- the class's run: the numbers ahead of each weight -/
def zCs (cd : Nat → Nat) (p : Nat) (Cs : Nat → Nat → Int64) : Prop := (∀ sum, sum ≤ p → ∀ v, v < 2 ^ cd 1 → Cs 0 (sum * 64 + v) = if sum = zew cd 1 ∧ v = 1 then 1 else 0) ∧ ∀ W, W ≤ p → zRW cd W p (Cs W) (Cs (W + 1))
theorem zq_waysC {I : pd_I} {J : pd_J} {cd pos ord : Nat → Nat} {p : Nat} (hv : zCv cd) (hD : zLD I cd (2 * 2 ^ cd 1)) (hp : zPo cd pos) (ec : I 54 2 = zn (2 ^ cd 1)) (eo : ∀ j, j < 2 ^ cd 1 → I 55 j = zn (ord j) ∧ ord j < 2 ^ cd 1 ∧ pos (ord j) = j) (hop : ∀ v, v < 2 ^ cd 1 → ord (pos v) = v) (hp30 : p ≤ 30) :
    zT (fn_X7_waysOfWeight I J (zn p)) (fun x => zJF [58] J x.2 ∧ ∃ Cs, zCs cd p Cs ∧ x.1 = Cs (p + 1) (p * 64)) := by
  have hS := zCv_S hv
  have hw := zew_le (e := 1) hv
  unfold fn_X7_waysOfWeight
  rw [zn_0]
  refine zq_ww2 hp30 (fun J1 f1 g1 => ?_)
  have hwt : fn_X7_weightOf I 1 = some (zn (zew cd 1)) := zp_wt (e := 1) hv hD (by omega)
  obtain ⟨J2, hJ2⟩ : ∃ J2, J2 = if zew cd 1 ≤ p then pd_uj J1 58 (zew cd 1 * 64 + 1) 1 else J1 := ⟨_, rfl⟩
  have e2 : (if zn p < zn (zew cd 1) then some J1 else pd_bd (some (zn (zew cd 1))) fun zr2 => pd_gd (pd_in (zr2 * 64 + 1) 1984) (pd_let (pd_uj J1 58 (zr2 * 64 + 1).toNatClampNeg 1) fun zJ11 => some zJ11)) = some J2 := by
    rw [zi_lt (by omega) (by omega), hJ2]
    by_cases c : zew cd 1 ≤ p
    · rw [if_neg (by omega), if_pos c, zb_bd, zn_64, zn_1, zn_mul, zn_add, zn_in2 (show zew cd 1 * 64 + 1 < 1984 by omega) (by omega), zb_gd, zn_nat (by omega), zb_let]
    · rw [if_pos (by omega), if_neg c]
  have F2 : zJF [58] J J2 := by
    rw [hJ2]; split
    · exact zJF_u (by simp) f1
    · exact f1
  have G2 : ∀ sum, sum ≤ p → ∀ v, v < 2 ^ cd 1 → J2 58 (sum * 64 + v) = if sum = zew cd 1 ∧ v = 1 then 1 else 0 := fun sum hsum v hvS => by
    rw [hJ2]
    by_cases c : zew cd 1 ≤ p
    · rw [if_pos c, zuj_same, zul]
      by_cases d : sum = zew cd 1 ∧ v = 1
      · rw [if_pos (by rw [d.1, d.2]), if_pos d]
      · rw [if_neg (fun x => d ⟨by omega, by omega⟩), if_neg d, g1 _ (by omega)]
    · rw [if_neg c, if_neg (fun x => by omega), g1 _ (by omega)]
  rw [hwt, zb_bd, e2, zb_bd]
  refine zl_loop (fun fu j (s : pd_J) => fl_X7_waysOfWeight_52 (zn p) I (fun zJ6 => pd_gd (pd_in (zn p * 64) 1984) (some (zJ6 58 (zn p * 64).toNatClampNeg, zJ6))) fu j s) (p + 1) (fun W s => zJF [58] J s ∧ ∃ Cs : Nat → Nat → Int64, Cs 0 = J2 58 ∧ (∀ W', W' < W → zRW cd W' p (Cs W') (Cs (W' + 1))) ∧ Cs W = s 58) ?_ ?_ pd_FU 0 _ (by omega) (zFU (by omega)) ⟨F2, fun _ => J2 58, rfl, fun W' hW' => absurd hW' (Nat.not_lt_zero _), rfl⟩
  · rintro fu s ⟨h1, Cs, h2, h3, h4⟩
    rw [fl_X7_waysOfWeight_52, zi_lt (by omega) (by omega), if_pos (by omega), zn_64, zn_mul, zn_in2 (show p * 64 < 1984 by omega) (by omega), zb_gd, zn_nat (by omega)]
    exact ⟨_, rfl, h1, Cs, ⟨fun sum hsum v hvS => by rw [h2]; exact G2 sum hsum v hvS, fun W hW => h3 W (by omega)⟩, by rw [h4]⟩
  · rintro fu W s hW ⟨h1, Cs, h2, h3, h4⟩ ih
    rw [fl_X7_waysOfWeight_52, zi_lt (by omega) (by omega), if_neg (by omega), zn_0]
    refine zq_ww59 hv hD hp ec eo hop hp30 (by omega) (fun J3 f3 g3 => ?_)
    rw [zb_let, zn_1, zn_add]
    refine ih J3 ⟨zJF_tr h1 f3, fun i => if i ≤ W then Cs i else J3 58, ?_, fun W' hW' => ?_, if_neg (by omega)⟩
    · show (if 0 ≤ W then Cs 0 else J3 58) = J2 58
      rw [if_pos (Nat.zero_le _), h2]
    · show zRW cd W' p (if W' ≤ W then Cs W' else J3 58) (if W' + 1 ≤ W then Cs (W' + 1) else J3 58)
      rw [if_pos (by omega)]
      by_cases c : W' = W
      · subst c; rw [if_neg (by omega), h4]; exact g3
      · rw [if_pos (by omega)]; exact h3 W' (by omega)
/-! the closure -/
def zTz (cd : Nat → Nat) (f : Nat → Int64) (v n : Nat) : Int64 := zsi (fun e => if 2 ≤ e ∧ zen2 cd e = v ∧ v ≠ 0 ∧ zew cd e = 0 then f (e / 2) else 0) n
def zZr (cd : Nat → Nat) (b : Nat → Int64) : Nat → Nat → Int64
  | 0 => b
  | r + 1 => fun v => zTz cd (zZr cd b r) v (2 * 2 ^ cd 1)
def zYr (cd : Nat → Nat) (b : Nat → Int64) : Nat → Nat → Int64
  | 0 => b
  | r + 1 => fun v => zYr cd b r v + zZr cd b (r + 1) v
theorem zTz_a {cd : Nat → Nat} {f g : Nat → Int64} {v n : Nat} : zTz cd (fun u => f u + g u) v n = zTz cd f v n + zTz cd g v n := by
  unfold zTz
  rw [← zsi_a]
  refine zsi_c _ (fun e he => ?_)
  show (if 2 ≤ e ∧ zen2 cd e = v ∧ v ≠ 0 ∧ zew cd e = 0 then f (e / 2) + g (e / 2) else 0) = (if 2 ≤ e ∧ zen2 cd e = v ∧ v ≠ 0 ∧ zew cd e = 0 then f (e / 2) else 0) + (if 2 ≤ e ∧ zen2 cd e = v ∧ v ≠ 0 ∧ zew cd e = 0 then g (e / 2) else 0)
  by_cases c : 2 ≤ e ∧ zen2 cd e = v ∧ v ≠ 0 ∧ zew cd e = 0
  · rw [if_pos c, if_pos c, if_pos c]
  · rw [if_neg c, if_neg c, if_neg c, Int64.add_zero]
theorem zYr_S {cd : Nat → Nat} {b : Nat → Int64} {v : Nat} : ∀ r, zYr cd b (r + 1) v = b v + zTz cd (zYr cd b r) v (2 * 2 ^ cd 1)
  | 0 => rfl
  | r + 1 => by
    show zYr cd b (r + 1) v + zZr cd b (r + 2) v = _
    rw [zYr_S r]
    show b v + zTz cd (zYr cd b r) v (2 * 2 ^ cd 1) + zTz cd (zZr cd b (r + 1)) v (2 * 2 ^ cd 1) = b v + zTz cd (fun u => zYr cd b r u + zZr cd b (r + 1) u) v (2 * 2 ^ cd 1)
    rw [zTz_a]
    ac_rfl
theorem zYr_X {cd pos : Nat → Nat} {b X : Nat → Int64} (hp : zPo cd pos) (hX : ∀ v, v < 2 ^ cd 1 → v ≠ 0 → X v = b v + zTz cd X v (2 * 2 ^ cd 1)) : ∀ k v, v < 2 ^ cd 1 → v ≠ 0 → pos v ≤ k → zYr cd b k v = X v
  | 0, v, hv, h0, hk => by
    rw [hX v hv h0]
    show b v = _
    unfold zTz
    rw [zsi_z _ (fun e he => if_neg (fun c => ?_)), Int64.add_zero]
    have hs : zsl cd e = 1 := if_pos ⟨c.2.2.2, fun x => by omega⟩
    have := hp.2 e he hs
    rw [c.2.1] at this
    omega
  | k + 1, v, hv, h0, hk => by
    rw [hX v hv h0, zYr_S k]
    congr 1
    unfold zTz
    refine zsi_c _ (fun e he => ?_)
    by_cases c : 2 ≤ e ∧ zen2 cd e = v ∧ v ≠ 0 ∧ zew cd e = 0
    · rw [if_pos c, if_pos c]
      have hs : zsl cd e = 1 := if_pos ⟨c.2.2.2, fun x => by omega⟩
      have := hp.2 e he hs
      rw [c.2.1] at this
      exact zYr_X hp hX k (e / 2) (by omega) (by omega) (by omega)
    · rw [if_neg c, if_neg c]
/-! the reference's settles -/
theorem zq_set3 {O : Type} {Q : O → Prop} {J : pd_J} {W S : Nat} {kont : pd_J → Option O} (hW : W ≤ 30) (hS : S ≤ 64) (hK : ∀ J', zJF [130] J J' → (∀ v, v < S → J' 130 v = J 129 (64 * W + v)) → zT (kont J') Q) : zT (fl_X12_settles_3 (zn W) (zn S) kont pd_FU (zn 0) J) Q := by
  refine zl_loop (fun fu j (s : pd_J) => fl_X12_settles_3 (zn W) (zn S) kont fu j s) S (fun j s => zJF [130] J s ∧ ∀ v, v < j → s 130 v = J 129 (64 * W + v)) ?_ ?_ pd_FU 0 _ (by omega) (zFU (by omega)) ⟨zJF_rfl, fun i hi => by omega⟩
  · rintro fu s ⟨h1, h2⟩
    rw [fl_X12_settles_3, if_pos (Int32.le_refl _)]
    exact hK s h1 h2
  · rintro fu j s hj ⟨h1, h2⟩ ih
    rw [fl_X12_settles_3, zi_le (by omega) (by omega), if_neg (by omega), zn_64, zn_mul, zn_add, zn_in2 (show 64 * W + j < 2048 by omega) (by omega), zb_gd, zn_in2 (show j < 64 by omega) (by omega), zb_gd, zn_nat (by omega), zn_nat (by omega), zb_let, zb_let, zn_1, zn_add]
    refine ih _ ⟨zJF_u (by simp) h1, fun v hv => ?_⟩
    rw [zuj_same, zul]
    by_cases c : v = j
    · rw [if_pos c, c, h1 129 (by decide)]
    · rw [if_neg c]; exact h2 v (by omega)
theorem zq_set46 {O : Type} {Q : O → Prop} {J : pd_J} {S : Nat} {kont : pd_J → Option O} (hS : S ≤ 64) (hK : ∀ J', zJF [131] J J' → (∀ v, v < S → J' 131 v = 0) → zT (kont J') Q) : zT (fl_X12_settles_46 (zn S) kont pd_FU (zn 0) J) Q := by
  refine zl_loop (fun fu j (s : pd_J) => fl_X12_settles_46 (zn S) kont fu j s) S (fun j s => zJF [131] J s ∧ ∀ v, v < j → s 131 v = 0) ?_ ?_ pd_FU 0 _ (by omega) (zFU (by omega)) ⟨zJF_rfl, fun i hi => by omega⟩
  · rintro fu s ⟨h1, h2⟩
    rw [fl_X12_settles_46, if_pos (Int32.le_refl _)]
    exact hK s h1 h2
  · rintro fu j s hj ⟨h1, h2⟩ ih
    rw [fl_X12_settles_46, zi_le (by omega) (by omega), if_neg (by omega), zn_in2 (show j < 64 by omega) (by omega), zb_gd, zn_nat (by omega), zb_let, zb_let, zn_1, zn_add]
    refine ih _ ⟨zJF_u (by simp) h1, fun v hv => ?_⟩
    rw [zuj_same, zul]
    by_cases c : v = j
    · rw [if_pos c]
    · rw [if_neg c]; exact h2 v (by omega)
theorem zq_set78 {O : Type} {Q : O → Prop} {I : pd_I} {J : pd_J} {k s : Nat} {cd : Nat → Nat} {Zf : Nat → Int64} {kont : pd_J → Option O} (h : zCm I k cd) (hv : zCv cd) (hs1 : 1 ≤ s) (hs : s < 2 ^ cd 1) (hZ : J 130 s = Zf s) (hI : ∀ v, v < 2 ^ cd 1 → J 131 v = zTz cd Zf v (2 * s))
    (hK : ∀ J', zJF [131] J J' → (∀ v, v < 2 ^ cd 1 → J' 131 v = zTz cd Zf v (2 * (s + 1))) → zT (kont J') Q) : zT (fl_X12_settles_78 (zn k) (zn s) I kont pd_FU (zn 0) J) Q := by
  have hS := zCv_S hv
  refine zl_loop (fun fu j (w : pd_J) => fl_X12_settles_78 (zn k) (zn s) I kont fu j w) 2 (fun x w => zJF [131] J w ∧ ∀ v, v < 2 ^ cd 1 → w 131 v = zTz cd Zf v (2 * s + x)) ?_ ?_ pd_FU 0 J (by omega) (zFU (by omega)) ⟨zJF_rfl, hI⟩
  · rintro fu w ⟨k1, k2⟩
    rw [fl_X12_settles_78, zn_2, if_pos (Int32.le_refl _)]
    exact hK w k1 k2
  · rintro fu x w hx ⟨k1, k2⟩ ih
    have e1 : (2 * s + x) / 2 = s := by omega
    have e2 : (2 * s + x) % 2 = x := by omega
    have hn : zen2 cd (2 * s + x) = znx cd s x := by unfold zen2; rw [e1, e2]
    have hw' : zew cd (2 * s + x) = zwt cd s x (cd 2) := by unfold zew; rw [e1, e2]
    have hnx := zen2_lt (cd := cd) (e := 2 * s + x)
    have hw := zew_le (e := 2 * s + x) hv
    have hT : ∀ v, zTz cd Zf v (2 * s + (x + 1)) = zTz cd Zf v (2 * s + x) + (if 2 ≤ 2 * s + x ∧ zen2 cd (2 * s + x) = v ∧ v ≠ 0 ∧ zew cd (2 * s + x) = 0 then Zf ((2 * s + x) / 2) else 0) := fun v => rfl
    rw [fl_X12_settles_78, zn_2, zi_le (by omega) (by omega), if_neg (by omega), zc_next h hv hx, zb_bd, zm_wt h hv (by omega) hx, zb_bd, ← hn, ← hw', zn_0, zi_eq (by omega) (by omega), zi_eq (by omega) (by omega)]
    by_cases c : zen2 cd (2 * s + x) = 0
    · rw [if_pos c, zb_bd, if_neg (by decide), zb_bd, zb_let, zn_1, zn_add]
      refine ih w ⟨k1, fun v hvS => ?_⟩
      rw [hT, if_neg (fun hh => hh.2.2.1 (by rw [← hh.2.1, c])), Int64.add_zero]
      exact k2 v hvS
    · rw [if_neg c]
      by_cases d : zew cd (2 * s + x) = 0
      · rw [if_pos d, zb_bd, if_pos rfl, zb_bd, zn_in2 (show zen2 cd (2 * s + x) < 64 by omega) (by omega), zb_gd, zn_in2 (show s < 64 by omega) (by omega), zb_gd, zb_gd, zn_nat (by omega), zn_nat (show s < 2147483648 by omega), zb_let, zb_bd, zb_let, zn_1, zn_add]
        refine ih _ ⟨zJF_u (by simp) k1, fun v hvS => ?_⟩
        rw [hT, zuj_same, zul, k1 130 (by decide), hZ, e1]
        by_cases g : v = zen2 cd (2 * s + x)
        · rw [if_pos g, if_pos ⟨by omega, g.symm, by rw [g]; exact c, d⟩, k2 _ hnx, g]
        · rw [if_neg g, if_neg (fun hh => g hh.2.1.symm), Int64.add_zero]
          exact k2 v hvS
      · rw [if_neg d, zb_bd, if_neg (by decide), zb_bd, zb_let, zn_1, zn_add]
        refine ih w ⟨k1, fun v hvS => ?_⟩
        rw [hT, if_neg (fun hh => d hh.2.2.2), Int64.add_zero]
        exact k2 v hvS
theorem zq_set69 {O : Type} {Q : O → Prop} {I : pd_I} {J : pd_J} {k : Nat} {cd : Nat → Nat} {Zf : Nat → Int64} {kont : pd_J → Option O} (h : zCm I k cd) (hv : zCv cd) (hZ : ∀ v, v < 2 ^ cd 1 → J 130 v = Zf v) (h0 : ∀ v, v < 2 ^ cd 1 → J 131 v = 0)
    (hK : ∀ J', zJF [131] J J' → (∀ v, v < 2 ^ cd 1 → J' 131 v = zTz cd Zf v (2 * 2 ^ cd 1)) → zT (kont J') Q) : zT (fl_X12_settles_69 (zn k) (zn (2 ^ cd 1)) I kont pd_FU (zn 1) J) Q := by
  have hS := zCv_S hv
  refine zl_loop (fun fu j (w : pd_J) => fl_X12_settles_69 (zn k) (zn (2 ^ cd 1)) I kont fu j w) (2 ^ cd 1) (fun s w => 1 ≤ s ∧ zJF [131] J w ∧ ∀ v, v < 2 ^ cd 1 → w 131 v = zTz cd Zf v (2 * s)) ?_ ?_ pd_FU 1 J (by omega) (zFU (by omega)) ⟨Nat.le_refl _, zJF_rfl, fun v hvS => ?_⟩
  · rintro fu w ⟨-, k1, k2⟩
    rw [fl_X12_settles_69, if_pos (Int32.le_refl _)]
    exact hK w k1 k2
  · rintro fu s w hs ⟨k0, k1, k2⟩ ih
    rw [fl_X12_settles_69, zi_le (by omega) (by omega), if_neg (by omega), zn_0]
    refine zq_set78 h hv k0 hs (by rw [k1 130 (by decide)]; exact hZ s hs) k2 (fun J2 f2 g2 => ?_)
    rw [zb_let, zn_1, zn_add]
    exact ih J2 ⟨by omega, zJF_tr k1 f2, g2⟩
  · rw [h0 v hvS]
    unfold zTz
    rw [zsi_z _ (fun e he => if_neg (fun c => by omega))]
theorem zq_set147 {O : Type} {Q : O → Prop} {J : pd_J} {W S : Nat} {kont : pd_J → Option O} (hW : W ≤ 30) (hS : S ≤ 64) (hK : ∀ J', zJF [129, 130] J J' → (∀ v, v < S → J' 130 v = J 131 v ∧ J' 129 (64 * W + v) = J 129 (64 * W + v) + J 131 v) → (∀ i, i < 64 * W ∨ 64 * W + 64 ≤ i → J' 129 i = J 129 i) → zT (kont J') Q) : zT (fl_X12_settles_147 (zn W) (zn S) kont pd_FU (zn 0) J) Q := by
  refine zl_loop (fun fu j (s : pd_J) => fl_X12_settles_147 (zn W) (zn S) kont fu j s) S (fun j s => zJF [129, 130] J s ∧ (∀ v, v < j → s 130 v = J 131 v ∧ s 129 (64 * W + v) = J 129 (64 * W + v) + J 131 v) ∧ (∀ v, j ≤ v → s 129 (64 * W + v) = J 129 (64 * W + v)) ∧ ∀ i, i < 64 * W ∨ 64 * W + 64 ≤ i → s 129 i = J 129 i) ?_ ?_ pd_FU 0 _ (by omega) (zFU (by omega)) ⟨zJF_rfl, fun i hi => by omega, fun _ _ => rfl, fun _ _ => rfl⟩
  · rintro fu s ⟨h1, h2, -, h3⟩
    rw [fl_X12_settles_147, if_pos (Int32.le_refl _)]
    exact hK s h1 h2 h3
  · rintro fu j s hj ⟨h1, h2, h3, h4⟩ ih
    rw [fl_X12_settles_147, zi_le (by omega) (by omega), if_neg (by omega), zn_in2 (show j < 64 by omega) (by omega), zb_gd, zb_gd, zn_nat (show j < 2147483648 by omega), zb_let, zn_64, zn_mul, zn_add, zn_in2 (show 64 * W + j < 2048 by omega) (by omega), zb_gd, zb_gd, zb_gd, zn_nat (by omega), zb_let, zb_let, zn_1, zn_add]
    have a1 : s 131 = J 131 := h1 131 (by decide)
    have b0 : pd_uj s 130 j (s 131 j) 130 j = J 131 j := by rw [zuj_same, zul, if_pos rfl, a1]
    have b1 : pd_uj s 130 j (s 131 j) 129 = s 129 := zuj_ne (by decide)
    rw [b0, b1]
    refine ih _ ⟨zJF_u (by simp) (zJF_u (by simp) h1), fun v hv => ⟨?_, ?_⟩, fun v hv => ?_, fun i hi => ?_⟩
    · rw [zuj_ne (by decide), zuj_same, zul, a1]
      by_cases c : v = j
      · rw [if_pos c, c]
      · rw [if_neg c]; exact (h2 v (by omega)).1
    · rw [zuj_same, zul, b1]
      by_cases c : v = j
      · rw [if_pos (by rw [c]), c, h3 j (Nat.le_refl _)]
      · rw [if_neg (by omega)]; exact (h2 v (by omega)).2
    · rw [zuj_same, zul, b1, if_neg (by omega)]; exact h3 v (by omega)
    · rw [zuj_same, zul, b1, if_neg (by omega)]; exact h4 i hi
theorem zq_settlesM {I : pd_I} {J : pd_J} {k W : Nat} {cd : Nat → Nat} (h : zCm I k cd) (hv : zCv cd) (hW : W ≤ 30) :
    zT (fn_X12_settles I J (zn k) (zn W) (zn (2 ^ cd 1))) (fun J' => zJF [129, 130, 131] J J' ∧ (∀ v, v < 2 ^ cd 1 → J' 129 (64 * W + v) = zYr cd (fun v => J 129 (64 * W + v)) (2 ^ cd 1) v) ∧ ∀ i, i < 64 * W ∨ 64 * W + 64 ≤ i → J' 129 i = J 129 i) := by
  have hS := zCv_S hv
  unfold fn_X12_settles
  rw [zn_0]
  refine zq_set3 hW hS.2 (fun J1 f1 g1 => ?_)
  refine zl_loop (fun fu j (s : pd_J) => fl_X12_settles_37 (zn k) (zn W) (zn (2 ^ cd 1)) I (fun zJ5 => some zJ5) fu j s) (2 ^ cd 1) (fun r s => zJF [129, 130, 131] J s ∧ (∀ v, v < 2 ^ cd 1 → s 130 v = zZr cd (fun v => J 129 (64 * W + v)) r v ∧ s 129 (64 * W + v) = zYr cd (fun v => J 129 (64 * W + v)) r v) ∧ ∀ i, i < 64 * W ∨ 64 * W + 64 ≤ i → s 129 i = J 129 i) ?_ ?_ pd_FU 0 J1 (by omega) (zFU (by omega)) ⟨zJF_sub f1 (by decide), fun v hvS => ⟨g1 v hvS, by rw [f1 129 (by decide)]; rfl⟩, fun i _ => by rw [f1 129 (by decide)]⟩
  · rintro fu s ⟨h1, h2, h3⟩
    rw [fl_X12_settles_37, if_pos (Int32.le_refl _)]
    exact ⟨s, rfl, h1, fun v hvS => (h2 v hvS).2, h3⟩
  · rintro fu r s hr ⟨h1, h2, h3⟩ ih
    rw [fl_X12_settles_37, zi_le (by omega) (by omega), if_neg (by omega), zn_0, zn_1]
    refine zq_set46 hS.2 (fun J2 f2 g2 => ?_)
    refine zq_set69 h hv (Zf := zZr cd (fun v => J 129 (64 * W + v)) r) (fun v hvS => by rw [f2 130 (by decide)]; exact (h2 v hvS).1) g2 (fun J3 f3 g3 => ?_)
    refine zq_set147 hW hS.2 (fun J4 f4 g4 g5 => ?_)
    rw [zb_let, zn_add]
    refine ih J4 ⟨zJF_tr h1 (zJF_tr (zJF_sub f2 (by decide)) (zJF_tr (zJF_sub f3 (by decide)) (zJF_sub f4 (by decide)))), fun v hvS => ?_, fun i hi => by rw [g5 i hi, f3 129 (by decide), f2 129 (by decide), h3 i hi]⟩
    obtain ⟨a, b⟩ := g4 v hvS
    refine ⟨by rw [a, g3 v hvS]; rfl, ?_⟩
    rw [b, g3 v hvS, f3 129 (by decide), f2 129 (by decide), (h2 v hvS).2]
    rfl
