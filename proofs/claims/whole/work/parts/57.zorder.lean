/-! the ORDER gives each number once */ -/
theorem zord_1 {n s : Nat} (hn : 1 ≤ n) (h : ∀ d, 2 ≤ d → d ≤ n → ¬ (n % d = 0 ∧ s % d = 0)) : ∀ t, t < n → ∀ k, k < t → t * s % n ≠ k * s % n := by
  intro t ht k hk e
  have hg : Nat.gcd n s = 1 := by
    have h1 : Nat.gcd n s ∣ n := Nat.gcd_dvd_left n s
    have h2 : Nat.gcd n s ∣ s := Nat.gcd_dvd_right n s
    have h3 : Nat.gcd n s ≤ n := Nat.le_of_dvd (by omega) h1
    have h4 : 0 < Nat.gcd n s := Nat.gcd_pos_of_pos_left s (by omega)
    by_cases c : 2 ≤ Nat.gcd n s
    · exact absurd ⟨Nat.mod_eq_zero_of_dvd h1, Nat.mod_eq_zero_of_dvd h2⟩ (h _ c h3)
    · omega
  have h5 : (t * s - k * s) % n = 0 := Nat.sub_mod_eq_zero_of_mod_eq e
  rw [← Nat.sub_mul] at h5
  have h6 : n ∣ (t - k) * s := Nat.dvd_of_mod_eq_zero h5
  have h7 : n ∣ t - k := Nat.Coprime.dvd_of_dvd_mul_right hg h6
  have h8 := Nat.le_of_dvd (by omega) h7
  omega
theorem zord_2 {n s : Nat} (hn : 1 ≤ n) (h : ∀ t, t < n → ∀ k, k < t → t * s % n ≠ k * s % n) : ∀ d, 2 ≤ d → d ≤ n → ¬ (n % d = 0 ∧ s % d = 0) := by
  rintro d hd hdn ⟨h1, h2⟩
  obtain ⟨q, hq⟩ := Nat.dvd_of_mod_eq_zero h1
  obtain ⟨r, hr⟩ := Nat.dvd_of_mod_eq_zero h2
  have hq0 : 0 < q := by
    rcases Nat.eq_zero_or_pos q with e | e
    · rw [e, Nat.mul_zero] at hq; omega
    · exact e
  have hqn : q < n := by
    have : 2 * q ≤ d * q := Nat.mul_le_mul_right q hd
    omega
  refine h q hqn 0 hq0 ?_
  rw [Nat.zero_mul, Nat.zero_mod, hr, ← Nat.mul_assoc, Nat.mul_comm q d, ← hq]
  exact Nat.mul_mod_right n r
theorem zc_ordersAll {I : pd_I} {a n : Nat} {cd : Nat → Nat} (h : zCo I a cd) (hv : zCv cd) (hn1 : 1 ≤ n) (hn2 : n ≤ 200) : ∃ b, b ≤ 1 ∧ fn_X0_ordersAll I a (zn n) = some (zn b) ∧ (b = 1 ↔ ∀ d, 2 ≤ d → d ≤ n → ¬ (n % d = 0 ∧ cd 5 % d = 0)) := by
  have h5 : cd 5 ≤ 199 := hv.2.2.2.2.2.2.2.2.2.1
  have e6 := h.2.2.2.2.2.1
  have key : ∀ k fu lo, 2 ≤ lo → lo + k = n + 1 → k < fu → ∃ b, b ≤ 1 ∧ fl_X0_ordersAll_2 a (zn n) I (fun _ => some 1) fu (zn lo) = some (zn b) ∧ (b = 1 ↔ ∀ d, lo ≤ d → d ≤ n → ¬ (n % d = 0 ∧ cd 5 % d = 0)) := by
    intro k
    induction k with
    | zero =>
      intro fu lo h1 h2 h3
      obtain ⟨fu, rfl⟩ : ∃ f, fu = f + 1 := ⟨fu - 1, by omega⟩
      refine ⟨1, Nat.le_refl _, ?_, fun _ d hd1 hd2 => by omega, fun _ => rfl⟩
      rw [fl_X0_ordersAll_2, if_pos (by rw [zn_lt (by omega) (by omega)]; omega)]; rfl
    | succ k ih =>
      intro fu lo h1 h2 h3
      obtain ⟨fu, rfl⟩ : ∃ f, fu = f + 1 := ⟨fu - 1, by omega⟩
      have hm1 : n % lo < lo := Nat.mod_lt _ (by omega)
      have hm2 : cd 5 % lo < lo := Nat.mod_lt _ (by omega)
      rw [fl_X0_ordersAll_2, if_neg (by rw [zn_lt (by omega) (by omega)]; omega), zn_0, zn_ne0 (by omega) (by omega), zb_gd, zb_gd, e6, zn_mod (by omega) (by omega), zn_mod (by omega) (by omega), zi_eq (by omega) (by omega), zi_eq (by omega) (by omega)]
      by_cases c : n % lo = 0 ∧ cd 5 % lo = 0
      · rw [if_pos c.1, if_pos c.2, zb_bd, if_pos rfl]
        exact ⟨0, by omega, rfl, fun h => absurd h (by omega), fun h => absurd c (h lo (Nat.le_refl _) (by omega))⟩
      · have hx : (if n % lo = 0 then if cd 5 % lo = 0 then some true else some false else some false) = some false := by
          by_cases c1 : n % lo = 0
          · rw [if_pos c1, if_neg (fun c2 => c ⟨c1, c2⟩)]
          · rw [if_neg c1]
        obtain ⟨b, b1, b2, b3⟩ := ih fu (lo + 1) (by omega) (by omega) (by omega)
        rw [hx, zb_bd, if_neg (by decide), zb_let, zn_1, zn_add]
        refine ⟨b, b1, b2, b3.trans ⟨fun h d hd1 hd2 => ?_, fun h d hd1 hd2 => h d (by omega) hd2⟩⟩
        by_cases e : d = lo
        · rw [e]; exact c
        · exact h d (by omega) hd2
  unfold fn_X0_ordersAll
  rw [zn_2]
  exact key (n - 1) pd_FU 2 (Nat.le_refl _) (by omega) (by show n - 1 < 65536; omega)
theorem zc_isOrder {I : pd_I} {c n : Nat} {cd : Nat → Nat} (h : zCm I c cd) (hv : zCv cd) (hn1 : 1 ≤ n) (hn2 : n ≤ 200) : ∃ b, b ≤ 1 ∧ fn_X12_isOrder I (zn c) (zn n) = some (zn b) ∧ (b = 1 ↔ ∀ t, t < n → ∀ k, k < t → t * cd 5 % n ≠ k * cd 5 % n) := by
  have hm : ∀ t, t * cd 5 % n < n := fun t => Nat.mod_lt _ (by omega)
  have hin : ∀ t, t < n → ∀ j fu lo b0, lo + j = t → j < fu → b0 ≤ 1 → ∀ kont : Int32 → Option Int32, ∃ b, b ≤ 1 ∧ fl_X12_isOrder_14 (zn c) (zn n) (zn t) I kont fu (zn b0) (zn lo) = kont (zn b) ∧ (b = 1 ↔ b0 = 1 ∧ ∀ k, lo ≤ k → k < t → t * cd 5 % n ≠ k * cd 5 % n) := by
    intro t ht j
    induction j with
    | zero =>
      intro fu lo b0 h1 h2 hb0 kont
      obtain ⟨fu, rfl⟩ : ∃ f, fu = f + 1 := ⟨fu - 1, by omega⟩
      refine ⟨b0, hb0, ?_, fun h => ⟨h, fun k hk1 hk2 => by omega⟩, fun h => h.1⟩
      rw [fl_X12_isOrder_14, if_pos (by rw [zn_le (by omega) (by omega)]; omega)]
    | succ j ih =>
      intro fu lo b0 h1 h2 hb0 kont
      obtain ⟨fu, rfl⟩ : ∃ f, fu = f + 1 := ⟨fu - 1, by omega⟩
      have ho1 := zc_order (t := t) h hv (by omega) hn1 hn2
      have ho2 := zc_order (t := lo) h hv (by omega) hn1 hn2
      have m1 := hm t
      have m2 := hm lo
      rw [fl_X12_isOrder_14, if_neg (by rw [zn_le (by omega) (by omega)]; omega), ho1, ho2]
      have hx : (pd_bd (if zn b0 = 0 then some false else (pd_bd (some (zn (t * cd 5 % n))) fun zr1 => pd_bd (some (zn (lo * cd 5 % n))) fun zr2 => if zr1 = zr2 then some false else (some true))) fun zc1 => if zc1 = true then some (1 : Int32) else (some 0)) = some (zn (if b0 = 1 ∧ t * cd 5 % n ≠ lo * cd 5 % n then 1 else 0)) := by
        rw [zn_0, zi_eq (by omega) (by omega), zb_bd, zb_bd, zi_eq (by omega) (by omega)]
        by_cases c1 : b0 = 0
        · rw [if_pos c1, zb_bd, if_neg (by decide), if_neg (by omega)]
        · rw [if_neg c1]
          by_cases c2 : t * cd 5 % n = lo * cd 5 % n
          · rw [if_pos c2, zb_bd, if_neg (by decide), if_neg (by omega)]
          · rw [if_neg c2, zb_bd, if_pos rfl, if_pos ⟨by omega, c2⟩]; rfl
      obtain ⟨b, b1, b2, b3⟩ := ih fu (lo + 1) (if b0 = 1 ∧ t * cd 5 % n ≠ lo * cd 5 % n then 1 else 0) (by omega) (by omega) (by split <;> omega) kont
      rw [hx, zb_bd, zb_let, zn_1, zn_add]
      refine ⟨b, b1, b2, b3.trans ⟨?_, ?_⟩⟩
      · rintro ⟨g1, g2⟩
        have g3 : b0 = 1 ∧ t * cd 5 % n ≠ lo * cd 5 % n := by
          by_cases e : b0 = 1 ∧ t * cd 5 % n ≠ lo * cd 5 % n
          · exact e
          · rw [if_neg e] at g1; omega
        refine ⟨g3.1, fun k hk1 hk2 => ?_⟩
        by_cases e : k = lo
        · rw [e]; exact g3.2
        · exact g2 k (by omega) hk2
      · rintro ⟨g1, g2⟩
        exact ⟨by rw [if_pos ⟨g1, g2 lo (Nat.le_refl _) (by omega)⟩], fun k hk1 hk2 => g2 k (by omega) hk2⟩
  have key : ∀ j fu lo b0, lo + j = n → j < fu → b0 ≤ 1 → ∃ b, b ≤ 1 ∧ fl_X12_isOrder_5 (zn c) (zn n) I (fun zx3 => pd_gd (pd_bo zx3) (some zx3)) fu (zn b0) (zn lo) = some (zn b) ∧ (b = 1 ↔ b0 = 1 ∧ ∀ t, lo ≤ t → t < n → ∀ k, k < t → t * cd 5 % n ≠ k * cd 5 % n) := by
    intro j
    induction j with
    | zero =>
      intro fu lo b0 h1 h2 hb0
      obtain ⟨fu, rfl⟩ : ∃ f, fu = f + 1 := ⟨fu - 1, by omega⟩
      refine ⟨b0, hb0, ?_, fun h => ⟨h, fun t ht1 ht2 => by omega⟩, fun h => h.1⟩
      rw [fl_X12_isOrder_5, if_pos (by rw [zn_le (by omega) (by omega)]; omega), zc_bo hb0, zb_gd]
    | succ j ih =>
      intro fu lo b0 h1 h2 hb0
      obtain ⟨fu, rfl⟩ : ∃ f, fu = f + 1 := ⟨fu - 1, by omega⟩
      obtain ⟨b', d1, d2, d3⟩ := hin lo (by omega) lo pd_FU 0 b0 (by omega) (by show lo < 65536; omega) hb0 (fun zx6 => pd_let (zn lo + 1) fun zv2 => fl_X12_isOrder_5 (zn c) (zn n) I (fun zx3 => pd_gd (pd_bo zx3) (some zx3)) fu zx6 zv2)
      obtain ⟨b, b1, b2, b3⟩ := ih fu (lo + 1) b' (by omega) (by omega) d1
      rw [← zn_0] at d2
      rw [fl_X12_isOrder_5, if_neg (by rw [zn_le (by omega) (by omega)]; omega), d2, zb_let, zn_1, zn_add]
      refine ⟨b, b1, b2, b3.trans ⟨?_, ?_⟩⟩
      · rintro ⟨g1, g2⟩
        obtain ⟨g3, g4⟩ := d3.mp g1
        refine ⟨g3, fun t ht1 ht2 k hk => ?_⟩
        by_cases e : t = lo
        · rw [e]; exact g4 k (Nat.zero_le _) (by omega)
        · exact g2 t (by omega) ht2 k hk
      · rintro ⟨g1, g2⟩
        exact ⟨d3.mpr ⟨g1, fun k _ hk => g2 lo (Nat.le_refl _) (by omega) k hk⟩, fun t ht1 ht2 => g2 t (by omega) ht2⟩
  unfold fn_X12_isOrder
  rw [zn_1, zn_0]
  obtain ⟨b, b1, b2, b3⟩ := key n pd_FU 0 1 (by omega) (by show n < 65536; omega) (Nat.le_refl _)
  exact ⟨b, b1, b2, b3.trans ⟨fun h t ht k hk => h.2 t (Nat.zero_le _) ht k hk, fun h => ⟨rfl, fun t _ ht k hk => h t ht k hk⟩⟩⟩
/-- both tell the same of the order -/
theorem zc_orders {I I' : pd_I} {a c n : Nat} {cd : Nat → Nat} (h : zCo I a cd) (h' : zCm I' c cd) (hv : zCv cd) (hn1 : 1 ≤ n) (hn2 : n ≤ 200) : ∃ b, b ≤ 1 ∧ fn_X0_ordersAll I a (zn n) = some (zn b) ∧ fn_X12_isOrder I' (zn c) (zn n) = some (zn b) ∧ (b = 1 ↔ ∀ t, t < n → ∀ k, k < t → t * cd 5 % n ≠ k * cd 5 % n) := by
  obtain ⟨b, b1, b2, b3⟩ := zc_ordersAll h hv hn1 hn2
  obtain ⟨b', c1, c2, c3⟩ := zc_isOrder h' hv hn1 hn2
  have e : b = 1 ↔ b' = 1 := by
    rw [b3, c3]
    exact ⟨fun h => zord_1 hn1 h, fun h => zord_2 hn1 h⟩
  have e2 : b = b' := by omega
  subst e2
  exact ⟨b, b1, b2, c2, c3⟩
