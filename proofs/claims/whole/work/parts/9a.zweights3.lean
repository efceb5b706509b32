/-! how many ways of a WEIGHT: the reference; the operation -/
def zPa (cd : Nat → Nat) (p W : Nat) (Y : Nat → Int64) (n : Nat) : Int64 := zsi (fun e => if 2 ≤ e ∧ zen2 cd e = 0 ∧ W + zew cd e = p then Y (e / 2) else 0) n
def zPd (cd : Nat → Nat) (W sum v : Nat) (Y : Nat → Int64) (n : Nat) : Int64 := zsi (fun e => if 2 ≤ e ∧ zen2 cd e = v ∧ W + zew cd e = sum then Y (e / 2) else 0) n
def zPI (cd : Nat → Nat) (p W : Nat) (Y : Nat → Int64) (a0 : Int64) (J0 : pd_J) (n : Nat) (a : Int64) (J : pd_J) : Prop := a = a0 + zPa cd p W Y n ∧ zJF [129] J0 J ∧ (∀ sum, W < sum → sum ≤ p → ∀ v, v < 2 ^ cd 1 → v ≠ 0 → J 129 (64 * sum + v) = J0 129 (64 * sum + v) + zPd cd W sum v Y n) ∧ ∀ v, v < 2 ^ cd 1 → J 129 (64 * W + v) = Y v
theorem zq_we166 {O : Type} {Q : O → Prop} {I : pd_I} {J J0 : pd_J} {k s p W : Nat} {cd : Nat → Nat} {Y : Nat → Int64} {a0 a : Int64} {kont : Int64 → pd_J → Option O} (h : zCm I k cd) (hv : zCv cd) (hs1 : 1 ≤ s) (hs : s < 2 ^ cd 1) (hp30 : p ≤ 30) (hW : W ≤ p) (hI : zPI cd p W Y a0 J0 (2 * s) a J)
    (hK : ∀ a' J', zPI cd p W Y a0 J0 (2 * (s + 1)) a' J' → zT (kont a' J') Q) : zT (fl_X12_weights_166 (zn k) (zn p) (zn W) (zn s) I kont pd_FU a (zn 0) J) Q := by
  have hS := zCv_S hv
  refine zl_loop (fun fu j (w : Int64 × pd_J) => fl_X12_weights_166 (zn k) (zn p) (zn W) (zn s) I kont fu w.1 j w.2) 2 (fun x w => zPI cd p W Y a0 J0 (2 * s + x) w.1 w.2) ?_ ?_ pd_FU 0 (a, J) (by omega) (zFU (by omega)) hI
  · rintro fu ⟨a', w⟩ k1
    try simp only [] at k1 ⊢
    rw [fl_X12_weights_166, zn_2, if_pos (Int32.le_refl _)]
    exact hK a' w k1
  · rintro fu x ⟨a', w⟩ hx ⟨k1, k2, k3, k4⟩ ih
    try simp only [] at k1 k2 k3 k4 ih ⊢
    have e1 : (2 * s + x) / 2 = s := by omega
    have e2 : (2 * s + x) % 2 = x := by omega
    have hn : zen2 cd (2 * s + x) = znx cd s x := by unfold zen2; rw [e1, e2]
    have hw' : zew cd (2 * s + x) = zwt cd s x (cd 2) := by unfold zew; rw [e1, e2]
    have hnx := zen2_lt (cd := cd) (e := 2 * s + x)
    have hw := zew_le (e := 2 * s + x) hv
    have hTa : zPa cd p W Y (2 * s + (x + 1)) = zPa cd p W Y (2 * s + x) + (if 2 ≤ 2 * s + x ∧ zen2 cd (2 * s + x) = 0 ∧ W + zew cd (2 * s + x) = p then Y ((2 * s + x) / 2) else 0) := rfl
    have hTd : ∀ sum v, zPd cd W sum v Y (2 * s + (x + 1)) = zPd cd W sum v Y (2 * s + x) + (if 2 ≤ 2 * s + x ∧ zen2 cd (2 * s + x) = v ∧ W + zew cd (2 * s + x) = sum then Y ((2 * s + x) / 2) else 0) := fun sum v => rfl
    rw [fl_X12_weights_166, zn_2, zi_le (by omega) (by omega), if_neg (by omega), zc_next h hv hx, zb_bd, zm_wt h hv (by omega) hx, zb_bd, ← hn, ← hw', zn_add, zb_let, zn_0, zi_eq (by omega) (by omega), zi_eq (by omega) (by omega), zi_eq (by omega) (by omega), zi_le (by omega) (by omega), zi_lt (by omega) (by omega)]
    have hin : pd_in (zn 64 * zn W + zn s) 2048 = true := by rw [zn_mul, zn_add]; exact zn_in2 (by omega) (by omega)
    have hna : (zn 64 * zn W + zn s).toNatClampNeg = 64 * W + s := by rw [zn_mul, zn_add]; exact zn_nat (by omega)
    by_cases c : zen2 cd (2 * s + x) = 0
    · have eC : (pd_bd (if zen2 cd (2 * s + x) = 0 then if W + zew cd (2 * s + x) = p then some true else some false else some false) fun zc8 => if zc8 = true then pd_gd (pd_in (64 * zn W + zn s) 2048) (pd_let (a' + w 129 (64 * zn W + zn s).toNatClampNeg) fun zw1 => some zw1) else some a') = some (a0 + zPa cd p W Y (2 * s + (x + 1))) := by
        rw [if_pos c, hTa, e1]
        by_cases d : W + zew cd (2 * s + x) = p
        · rw [if_pos d, zb_bd, if_pos rfl, zn_64, hin, zb_gd, hna, zb_let, k4 s hs, k1, if_pos ⟨by omega, c, d⟩, Int64.add_assoc]
        · rw [if_neg d, zb_bd, if_neg (by decide), k1, if_neg (fun hh => d hh.2.2), Int64.add_zero]
      rw [eC, zb_bd, if_pos c, zb_bd, if_neg (by decide), zb_bd, zb_let, zn_1, zn_add]
      refine ih (_, w) ⟨rfl, k2, fun sum h1 h2 v hvS hv0 => ?_, k4⟩
      rw [hTd, if_neg (fun hh => hv0 (by rw [← hh.2.1, c])), Int64.add_zero]
      exact k3 sum h1 h2 v hvS hv0
    · have hTa' : zPa cd p W Y (2 * s + (x + 1)) = zPa cd p W Y (2 * s + x) := by rw [hTa, if_neg (fun hh => c hh.2.1), Int64.add_zero]
      rw [if_neg c, zb_bd, if_neg (by decide), zb_bd, if_neg c]
      by_cases d : W + zew cd (2 * s + x) ≤ W
      · rw [if_pos d, zb_bd, if_neg (by decide), zb_bd, zb_let, zn_1, zn_add]
        refine ih (a', w) ⟨by rw [hTa']; exact k1, k2, fun sum h1 h2 v hvS hv0 => ?_, k4⟩
        rw [hTd, if_neg (fun hh => by omega), Int64.add_zero]
        exact k3 sum h1 h2 v hvS hv0
      · rw [if_neg d]
        by_cases g : p < W + zew cd (2 * s + x)
        · rw [if_pos g, zb_bd, if_neg (by decide), zb_bd, zb_let, zn_1, zn_add]
          refine ih (a', w) ⟨by rw [hTa']; exact k1, k2, fun sum h1 h2 v hvS hv0 => ?_, k4⟩
          rw [hTd, if_neg (fun hh => by omega), Int64.add_zero]
          exact k3 sum h1 h2 v hvS hv0
        · rw [if_neg g, zb_bd, if_pos rfl, zn_64, hin, hna, zn_mul, zn_add, zn_in2 (show 64 * (W + zew cd (2 * s + x)) + zen2 cd (2 * s + x) < 2048 by omega) (by omega), zb_gd, zb_gd, zb_gd, zn_nat (by omega), zb_let, zb_bd, zb_let, zn_1, zn_add, k4 s hs]
          refine ih (a', pd_uj w 129 (64 * (W + zew cd (2 * s + x)) + zen2 cd (2 * s + x)) (w 129 (64 * (W + zew cd (2 * s + x)) + zen2 cd (2 * s + x)) + Y s)) ⟨by rw [hTa']; exact k1, zJF_u (by simp) k2, fun sum h1 h2 v hvS hv0 => ?_, fun v hvS => ?_⟩
          · show pd_uj w 129 _ _ 129 (64 * sum + v) = _
            rw [hTd, e1, zuj_same, zul]
            by_cases q : zen2 cd (2 * s + x) = v ∧ W + zew cd (2 * s + x) = sum
            · rw [if_pos (by rw [q.1, q.2]), if_pos ⟨by omega, q.1, q.2⟩, q.1, q.2, k3 sum h1 h2 v hvS hv0, Int64.add_assoc]
            · rw [if_neg (fun hh => q ⟨by omega, by omega⟩), if_neg (fun hh => q hh.2), Int64.add_zero]
              exact k3 sum h1 h2 v hvS hv0
          · show pd_uj w 129 _ _ 129 (64 * W + v) = _
            rw [zuj_same, zul, if_neg (by omega)]
            exact k4 v hvS
theorem zq_we157 {O : Type} {Q : O → Prop} {I : pd_I} {J : pd_J} {k p W : Nat} {cd : Nat → Nat} {Y : Nat → Int64} {a : Int64} {kont : Int64 → pd_J → Option O} (h : zCm I k cd) (hv : zCv cd) (hp30 : p ≤ 30) (hW : W ≤ p) (hY : ∀ v, v < 2 ^ cd 1 → J 129 (64 * W + v) = Y v)
    (hK : ∀ a' J', zPI cd p W Y a J (2 * 2 ^ cd 1) a' J' → zT (kont a' J') Q) : zT (fl_X12_weights_157 (zn k) (zn p) (zn (2 ^ cd 1)) (zn W) I kont pd_FU a (zn 1) J) Q := by
  have hS := zCv_S hv
  refine zl_loop (fun fu j (w : Int64 × pd_J) => fl_X12_weights_157 (zn k) (zn p) (zn (2 ^ cd 1)) (zn W) I kont fu w.1 j w.2) (2 ^ cd 1) (fun s w => 1 ≤ s ∧ zPI cd p W Y a J (2 * s) w.1 w.2) ?_ ?_ pd_FU 1 (a, J) (by omega) (zFU (by omega)) ⟨Nat.le_refl _, ?_, zJF_rfl, fun sum h1 h2 v hvS hv0 => ?_, hY⟩
  · rintro fu ⟨a', w⟩ ⟨-, k1⟩
    try simp only [] at k1 ⊢
    rw [fl_X12_weights_157, if_pos (Int32.le_refl _)]
    exact hK a' w k1
  · rintro fu s ⟨a', w⟩ hs ⟨k0, k1⟩ ih
    try simp only [] at k1 ih ⊢
    rw [fl_X12_weights_157, zi_le (by omega) (by omega), if_neg (by omega), zn_0]
    refine zq_we166 h hv k0 hs hp30 hW k1 (fun a2 J2 g2 => ?_)
    rw [zb_let, zn_1, zn_add]
    exact ih (a2, J2) ⟨by omega, g2⟩
  · show a = a + zPa cd p W Y (2 * 1)
    unfold zPa
    rw [zsi_z _ (fun e he => if_neg (fun c => by omega)), Int64.add_zero]
  · show J 129 (64 * sum + v) = J 129 (64 * sum + v) + zPd cd W sum v Y (2 * 1)
    unfold zPd
    rw [zsi_z _ (fun e he => if_neg (fun c => by omega)), Int64.add_zero]
theorem zq_we57 {O : Type} {Q : O → Prop} {J : pd_J} {kont : pd_J → Option O} (hK : ∀ J', zJF [129] J J' → (∀ i, i < 2048 → J' 129 i = 0) → zT (kont J') Q) : zT (fl_X12_weights_57 kont pd_FU (zn 0) J) Q := by
  refine zl_loop (fun fu j (s : pd_J) => fl_X12_weights_57 kont fu j s) 2048 (fun j s => zJF [129] J s ∧ ∀ i, i < j → s 129 i = 0) ?_ ?_ pd_FU 0 _ (by omega) (zFU (by omega)) ⟨zJF_rfl, fun i hi => by omega⟩
  · rintro fu s ⟨h1, h2⟩
    rw [fl_X12_weights_57, zn_2048, if_pos (Int32.le_refl _)]
    exact hK s h1 h2
  · rintro fu j s hj ⟨h1, h2⟩ ih
    rw [fl_X12_weights_57, zn_2048, zi_le (by omega) (by omega), if_neg (by omega), zn_in2 hj (by omega), zb_gd, zn_nat (by omega), zb_let, zb_let, zn_1, zn_add]
    refine ih _ ⟨zJF_u (by simp) h1, fun i hi => ?_⟩
    rw [zuj_same, zul]
    by_cases c : i = j
    · rw [if_pos c]
    · rw [if_neg c]; exact h2 i (by omega)
theorem zm_weights {I : pd_I} {J : pd_J} {k p : Nat} {cd pos : Nat → Nat} {Cs : Nat → Nat → Int64} (h : zCm I k cd) (hv : zCv cd) (hp : zPo cd pos) (hp30 : p ≤ 30) (hC : zCs cd p Cs) :
    zT (fl_X12_weights_57 (fun zJ2 => fl_X12_weights_82 (zn k) I (fun zJ5 => fl_X12_weights_140 (zn k) (zn p) (zn (2 ^ cd 1)) I (fun zy2 zJ9 => some (zy2, I, zJ9)) pd_FU 0 (zn 0) zJ5) pd_FU (zn 0) zJ2) pd_FU (zn 0) J) (fun x => x.1 = Cs (p + 1) (p * 64) ∧ x.2.1 = I ∧ zJF [129, 130, 131] J x.2.2) := by
  have hS := zCv_S hv
  have hw := zew_le (e := 1) hv
  refine zq_we57 (fun J1 f1 g1 => ?_)
  have n0 : fn_X12_next I (zn k) (zn 0) (zn 0) = some (zn 0) := by
    rw [zc_next h hv (by omega)]
    have := zen2_0 (cd := cd)
    unfold zen2 at this
    rw [Nat.zero_div, Nat.zero_mod] at this
    rw [this]
  have n1 : fn_X12_next I (zn k) (zn 0) (zn 1) = some (zn 1) := by
    rw [zc_next h hv (by omega)]
    have := zen2_1 hv
    unfold zen2 at this
    rw [show 1 / 2 = 0 from rfl, show 1 % 2 = 1 from rfl] at this
    rw [this]
  have w1 : fn_X12_weight I (zn k) (zn 0) (zn 1) = some (zn (zew cd 1)) := zm_wt h hv (by omega) (by omega)
  have h82 : ∀ kont : pd_J → Option (Int64 × pd_I × pd_J), fl_X12_weights_82 (zn k) I kont pd_FU (zn 0) J1 = kont (pd_uj J1 129 (64 * zew cd 1 + 1) (J1 129 (64 * zew cd 1 + 1) + 1)) := fun kont => by
    obtain ⟨F, hF⟩ : ∃ F, pd_FU = F + 3 := ⟨65533, rfl⟩
    rw [hF, fl_X12_weights_82, zn_2, zn_0, zi_le (by omega) (by omega), if_neg (by omega), n0, zb_bd, if_pos rfl, zb_bd, zb_let, zn_1, zn_add, fl_X12_weights_82, zn_2, zn_0, zi_le (by omega) (by omega), if_neg (by omega), Nat.zero_add, n1, zb_bd, zi_eq (by omega) (by omega), if_neg (by omega), w1, zb_bd, zb_bd, zn_64, zn_mul, zn_add, zn_in2 (show 64 * zew cd 1 + 1 < 2048 by omega) (by omega), zb_gd, zb_gd, zn_nat (by omega), zb_let, zb_bd, zb_let, zn_1, zn_add, fl_X12_weights_82, zn_2, if_pos (Int32.le_refl _)]
  rw [h82]
  obtain ⟨J2, hJ2⟩ : ∃ J2, J2 = pd_uj J1 129 (64 * zew cd 1 + 1) (J1 129 (64 * zew cd 1 + 1) + 1) := ⟨_, rfl⟩
  rw [← hJ2]
  have F2 : zJF [129, 130, 131] J J2 := by rw [hJ2]; exact zJF_u (by decide) (zJF_sub f1 (by decide))
  have G2 : ∀ sum, sum ≤ p → ∀ v, v < 2 ^ cd 1 → v ≠ 0 → J2 129 (64 * sum + v) = Cs 0 (sum * 64 + v) := fun sum hsum v hvS hv0 => by
    rw [hC.1 sum hsum v hvS, hJ2, zuj_same, zul]
    by_cases c : sum = zew cd 1 ∧ v = 1
    · rw [if_pos (by rw [c.1, c.2]), if_pos c, g1 _ (by omega)]; rfl
    · rw [if_neg (fun hh => c ⟨by omega, by omega⟩), if_neg c, g1 _ (by omega)]
  have A2 : (0 : Int64) = Cs 0 (p * 64) := by
    have := hC.1 p (Nat.le_refl _) 0 (by omega)
    rw [Nat.add_zero, if_neg (fun hh => by omega)] at this
    exact this.symm
  refine zl_loop (fun fu j (s : Int64 × pd_J) => fl_X12_weights_140 (zn k) (zn p) (zn (2 ^ cd 1)) I (fun zy2 zJ9 => some (zy2, I, zJ9)) fu s.1 j s.2) (p + 1) (fun W s => s.1 = Cs W (p * 64) ∧ zJF [129, 130, 131] J s.2 ∧ ∀ sum, W ≤ sum → sum ≤ p → ∀ v, v < 2 ^ cd 1 → v ≠ 0 → s.2 129 (64 * sum + v) = Cs W (sum * 64 + v)) ?_ ?_ pd_FU 0 (0, J2) (by omega) (zFU (by omega)) ⟨A2, F2, fun sum _ hsum v hvS hv0 => G2 sum hsum v hvS hv0⟩
  · rintro fu ⟨a, s⟩ ⟨h1, h2, h3⟩
    try simp only [] at h1 h2 h3 ⊢
    rw [fl_X12_weights_140, zi_lt (by omega) (by omega), if_pos (by omega)]
    exact ⟨_, rfl, h1, rfl, h2⟩
  · rintro fu W ⟨a, s⟩ hW ⟨h1, h2, h3⟩ ih
    try simp only [] at h1 h2 h3 ih ⊢
    have hR := hC.2 W (by omega)
    rw [fl_X12_weights_140, zi_lt (by omega) (by omega), if_neg (by omega), zT_bd]
    refine zT_mono (zq_settlesM h hv (by omega)) (fun J3 ⟨f3, g3, k3⟩ => ?_)
    have hX : ∀ v, v < 2 ^ cd 1 → v ≠ 0 → J3 129 (64 * W + v) = Cs (W + 1) (W * 64 + v) := fun v hvS hv0 => by
      rw [g3 v hvS]
      refine zYr_X (X := fun v => Cs (W + 1) (W * 64 + v)) hp (fun v hvS hv0 => ?_) (2 ^ cd 1) v hvS hv0 (Nat.le_of_lt (hp.1 v hvS))
      show Cs (W + 1) (W * 64 + v) = s 129 (64 * W + v) + zTz cd (fun v => Cs (W + 1) (W * 64 + v)) v (2 * 2 ^ cd 1)
      rw [hR W (by omega) v hvS, h3 W (Nat.le_refl _) (by omega) v hvS hv0]
      congr 1
      unfold zTz
      refine zsi_c _ (fun e he => ?_)
      show (if 2 ≤ e ∧ zen2 cd e = v ∧ W + zew cd e = W then Cs (W + 1) (W * 64 + e / 2) else 0) = (if 2 ≤ e ∧ zen2 cd e = v ∧ v ≠ 0 ∧ zew cd e = 0 then Cs (W + 1) (W * 64 + e / 2) else 0)
      by_cases c : 2 ≤ e ∧ zen2 cd e = v ∧ W + zew cd e = W
      · rw [if_pos c, if_pos ⟨c.1, c.2.1, hv0, by omega⟩]
      · rw [if_neg c, if_neg (fun hh => c ⟨hh.1, hh.2.1, by omega⟩)]
    rw [zn_1]
    refine zq_we157 (Y := fun v => J3 129 (64 * W + v)) h hv hp30 (by omega) (fun v _ => rfl) (fun a4 J4 g4 => ?_)
    obtain ⟨k1, k2, k4, -⟩ := g4
    rw [zb_let, zn_add]
    have hS2 : ∀ sum v, zsi (fun e => if 2 ≤ e ∧ zen2 cd e = v ∧ W + zew cd e = sum then J3 129 (64 * W + e / 2) else 0) (2 * 2 ^ cd 1) = zsi (fun e => if 2 ≤ e ∧ zen2 cd e = v ∧ W + zew cd e = sum then Cs (W + 1) (W * 64 + e / 2) else 0) (2 * 2 ^ cd 1) := fun sum v => by
      refine zsi_c _ (fun e he => ?_)
      by_cases c : 2 ≤ e ∧ zen2 cd e = v ∧ W + zew cd e = sum
      · rw [if_pos c, if_pos c, hX (e / 2) (by omega) (by omega)]
      · rw [if_neg c, if_neg c]
    refine ih (a4, J4) ⟨?_, zJF_tr h2 (zJF_tr f3 (zJF_sub k2 (by decide))), fun sum s1 s2 v hvS hv0 => ?_⟩
    · show a4 = _
      have hR0 := hR p (Nat.le_refl _) 0 (by omega)
      rw [show p * 64 + 0 = p * 64 from rfl] at hR0
      rw [hR0, k1, h1]
      congr 1
      exact hS2 p 0
    · show J4 129 (64 * sum + v) = _
      rw [hR sum s2 v hvS, k4 sum (by omega) s2 v hvS hv0, k3 _ (by omega), h3 sum (by omega) s2 v hvS hv0]
      congr 1
      exact hS2 sum v
/-- what weights must give: longs -/
def zOw (c : Option (Int32 × pd_I × pd_J)) (r : pd_I → pd_J → Option (Int64 × pd_I × pd_J)) (Z : pd_R) (n : Nat) : Prop := ∃ e I1 J1 v I2 J2, c = some (e, I1, J1) ∧ r I1 J1 = some (v, I2, J2) ∧ I2 92 0 = e ∧ (e = 0 → J2 132 0 = v) ∧ zCI I2 Z n
theorem zOw_er {I : pd_I} {J : pd_J} {Z : pd_R} {n : Nat} {e : Int32} {c : Option (Int32 × pd_I × pd_J)} {r : pd_I → pd_J → Option (Int64 × pd_I × pd_J)} (h : zCI I Z n) (h1 : ¬ e = 0) (hc : c = some (e, I, J)) (hr : r I J = some (0, pd_ui (pd_ui I 92 0 (zn 0)) 92 0 e, J)) : zOw c r Z n :=
  ⟨e, I, J, 0, _, J, hc, hr, by rw [zu_same, zu_at], fun hh => absurd hh h1, zCI_0 (zCI_0 h)⟩
theorem zo_weights {I : pd_I} {J : pd_J} {Z : pd_R} {n : Nat} {p q : Int32} (h : zCI I Z n) : zOw (fn_L_weights I J Z n p q) (fun I1 J1 => fn_X12_weights I1 J1 p q) Z n := by
  obtain ⟨cnt, cd, q1, q2, q3, q4, q5⟩ := id h.2.2.1
  by_cases hp : zin p cnt
  · obtain ⟨k, rfl, hk⟩ := hp
    obtain ⟨g1, g2, g3, g4⟩ := q5 k hk
    have hS := zCv_S g2
    by_cases hD : cd k 0 ≤ 1
    · by_cases hq : zrg q 0 30
      · obtain ⟨w, rfl, -, hw30⟩ := hq
        obtain ⟨I1, -, c, ord, e1, e2, f1, l1, l2, l3, l4, l5, hM, -⟩ := zk_bad g3 g4 g2
        have h1M := zCm_F (L := zLq) (by decide) f1 g4
        obtain ⟨⟨v, I3⟩, e3, rfl, f3⟩ := hM I1 (zF_sub f1 (by decide))
        simp only [] at f3
        have hCI := zCI_sp h (zF_sub f1 (by decide)) (zF_sub f3 (by decide))
        have h30 : I3 92 0 = 0 := by rw [f3 92 (by decide), z92_0, zn_0]
        by_cases hb : 2 ^ cd k 1 ≤ c
        · rw [if_pos hb] at e2 e3
          obtain ⟨ec, pos, hpo, hop⟩ := zKr_po l5 hb
          subst ec
          have hpi : ∀ j, j < 2 ^ cd k 1 → pos (ord j) = j := fun j hj => by
            have a := hop (ord j) (l5.1 j hj)
            have b := hpo.1 (ord j) (l5.1 j hj)
            by_cases c1 : pos (ord j) < j
            · exact absurd a.symm (l5.2.1 j hj (pos (ord j)) c1)
            · by_cases c2 : j < pos (ord j)
              · exact absurd a (l5.2.1 (pos (ord j)) b j c2)
              · omega
          obtain ⟨⟨y, J1⟩, eW, k1, Cs, k2, rfl⟩ := zq_waysC (J := J) g2 l2 hpo l3 (fun j hj => ⟨l4 j hj, l5.1 j hj, hpi j hj⟩) hop hw30
          simp only [] at k1
          have h3M := zCm_F (by decide) f3 (zCm_F (L := [92]) (by decide) (zF_u (by decide) zF_rfl) h1M)
          obtain ⟨⟨y, I4, J2⟩, eM, rfl, hI4, k3⟩ := zm_weights (J := pd_uj J1 132 (0 : Int32).toNatClampNeg (Cs (w + 1) (w * 64))) h3M g2 hpo hw30 k2
          simp only [] at hI4 k3
          subst hI4
          refine ⟨0, I1, pd_uj J1 132 (0 : Int32).toNatClampNeg (Cs (w + 1) (w * 64)), Cs (w + 1) (w * 64), I4, J2, ?_, ?_, h30, fun _ => by rw [k3 132 (by decide), zb_j], hCI⟩
          · unfold fn_L_weights fn_X11_weights
            rw [zk_cw1 g3 g2 q3 q1 hk g1 q2 hD, zb_bx, zci q2 hk, zb_gd, show (if zn w < 0 then some false else if zn w ≤ 30 then some true else some false) = some true from (zrg_t (a := 0) (b := 30) (by omega) ⟨w, rfl, by omega, hw30⟩).2, zb_bd, if_pos rfl, e1, zb_bd, e2, zb_bd, if_pos (show zn 0 = 0 from rfl), eW, zb_bd2, zb_bd2, zb_bc3, zb_in1, zb_gd]
            rfl
          · show fn_X12_weights I1 _ (zn k) (zn w) = _
            unfold fn_X12_weights
            rw [zm_op1 h1M g2 (by rw [f1 92 (by decide)]; exact q4) q1 hk hD, zb_bd2, zb_jn, if_neg (show ¬ zn 1 = 0 from zn_p0), show (if zn w < 0 then some false else if 30 < zn w then some false else some true) = some true from (zrg_t (a := 0) (b := 30) (by omega) ⟨w, rfl, by omega, hw30⟩).1, zb_bd, if_pos rfl, zb_bd, zr_ok1 z92_0, zb_bd2, if_neg (show ¬ zn 1 = 0 from zn_p0), e3, zb_bd2, if_pos (show zn 0 = 0 from rfl), zn_in2 (show k < 12 by omega) (by omega), zb_gd, zn_nat (by omega), h3M.2.2.1, show (1 : Int32) <<< (zn (cd k 1) &&& 31) = zn (2 ^ cd k 1) by rw [zn_1, zn_31, zn_1shl _ (by have := g2.2.2.1; omega)], zb_let]
            exact eM
        · rw [if_neg hb] at e2 e3
          refine ⟨0, I1, pd_uj J 132 (0 : Int32).toNatClampNeg (-1), -1, I3, pd_uj J 132 (0 : Int32).toNatClampNeg (-1), ?_, ?_, h30, fun _ => by rw [zb_j], hCI⟩
          · unfold fn_L_weights fn_X11_weights
            rw [zk_cw1 g3 g2 q3 q1 hk g1 q2 hD, zb_bx, zci q2 hk, zb_gd, show (if zn w < 0 then some false else if zn w ≤ 30 then some true else some false) = some true from (zrg_t (a := 0) (b := 30) (by omega) ⟨w, rfl, by omega, hw30⟩).2, zb_bd, if_pos rfl, e1, zb_bd, e2, zb_bd, if_neg (show ¬ zn 1 = 0 from zn_p0), zb_bd2, zb_bc3, zb_in1, zb_gd]
            rfl
          · show fn_X12_weights I1 _ (zn k) (zn w) = _
            unfold fn_X12_weights
            rw [zm_op1 h1M g2 (by rw [f1 92 (by decide)]; exact q4) q1 hk hD, zb_bd2, zb_jn, if_neg (show ¬ zn 1 = 0 from zn_p0), show (if zn w < 0 then some false else if 30 < zn w then some false else some true) = some true from (zrg_t (a := 0) (b := 30) (by omega) ⟨w, rfl, by omega, hw30⟩).1, zb_bd, if_pos rfl, zb_bd, zr_ok1 z92_0, zb_bd2, if_neg (show ¬ zn 1 = 0 from zn_p0), e3, zb_bd2, if_neg (show ¬ zn 1 = 0 from zn_p0)]
      · refine zOw_er (J := J) (e := 3) h (by decide) ?_ ?_
        · unfold fn_L_weights fn_X11_weights
          rw [zk_cw1 g3 g2 q3 q1 hk g1 q2 hD, zb_bx, zci q2 hk, zb_gd, zn_0, zn_30, (zrg_f (a := 0) (by omega) (by omega) hq).2, zb_bd, if_neg (by decide), zb_bc3e, if_neg (by decide), if_neg (by decide), if_pos rfl]
        · show fn_X12_weights I J (zn k) q = _
          unfold fn_X12_weights
          rw [zm_op1 g4 g2 q4 q1 hk hD, zb_bd2, zb_jn, zn_0, if_neg zn_p0, zn_30, (zrg_f (a := 0) (by omega) (by omega) hq).1, zb_bd, if_neg (by decide), zb_bd, zr_noL z92_0 (by decide), zb_bd2, if_pos rfl]
    · refine zOw_er (J := J) (e := 2) h (by decide) ?_ ?_
      · unfold fn_L_weights fn_X11_weights
        rw [zk_cw2 g3 g2 q3 q1 hk g1 q2 hD, zb_bxe, zb_bc3e, if_neg (by decide), if_pos rfl]
      · show fn_X12_weights I J (zn k) q = _
        unfold fn_X12_weights
        rw [zm_op2 g4 g2 q4 q1 hk hD, zb_bd2, zb_jn, zn_0, if_pos rfl]
  · refine zOw_er (J := J) (e := 1) h (by decide) ?_ ?_
    · unfold fn_L_weights fn_X11_weights
      rw [zk_cw0 q3 q1 hp, zb_bxe, zb_bc3e, if_pos rfl]
    · show fn_X12_weights I J p q = _
      unfold fn_X12_weights
      rw [zm_op0 q4 q1 hp, zb_bd2, zb_jn, zn_0, if_pos rfl]
