/-! the reference's isBad; class and reference agree -/
theorem zq_bad11 {O : Type} {Q : O → Prop} {I : pd_I} {S : Nat} {kont : pd_I → Option O} (hS : S ≤ 64) (hK : ∀ I', zF [124] I I' → (∀ v, v < S → I' 124 v = zn 1) → zT (kont I') Q) : zT (fl_X12_isBad_11 (zn S) kont pd_FU (zn 0) I) Q := by
  refine zl_loop (fun fu j (s : pd_I) => fl_X12_isBad_11 (zn S) kont fu j s) S (fun j s => zF [124] I s ∧ ∀ v, v < j → s 124 v = zn 1) ?_ ?_ pd_FU 0 _ (by omega) (zFU (by omega)) ⟨zF_rfl, fun i hi => by omega⟩
  · rintro fu s ⟨h1, h2⟩
    rw [fl_X12_isBad_11, if_pos (Int32.le_refl _)]
    exact hK s h1 h2
  · rintro fu j s hj ⟨h1, h2⟩ ih
    rw [fl_X12_isBad_11, zi_le (by omega) (by omega), if_neg (by omega), zn_in2 (show j < 64 by omega) (by omega), zb_gd, zn_nat (by omega), zb_let, zb_let, zn_1, zn_add]
    refine ih _ ⟨zF_u (by simp) h1, fun v hv => ?_⟩
    rw [zu_same, zu_app]
    by_cases c : v = j
    · rw [if_pos c]
    · rw [if_neg c]; exact h2 v (by omega)
/-- what stands of the kept states ahead of round r -/
def zKw (I : pd_I) (cd : Nat → Nat) (kp : Nat → Nat) (r : Nat) : Prop := (∀ v, v < 2 ^ cd 1 → I 124 v = zn (kp v) ∧ kp v ≤ 1) ∧ zTau cd kp ∧ ∀ pos, zPo cd pos → ∀ v, v < 2 ^ cd 1 → 2 ^ cd 1 ≤ pos v + r → kp v = 0
theorem zq_bad39 {O : Type} {Q : O → Prop} {I : pd_I} {k r : Nat} {cd kp : Nat → Nat} {kont : pd_I → Option O} (h : zCm I k cd) (hv : zCv cd) (K : zKw I cd kp r) (hK : ∀ I' kp', zF [124] I I' → zKw I' cd kp' (r + 1) → zT (kont I') Q) : zT (fl_X12_isBad_39 (zn k) (zn (2 ^ cd 1)) kont pd_FU (zn 0) I) Q := by
  have hS := zCv_S hv
  refine zl_loop (fun fu j (s : pd_I) => fl_X12_isBad_39 (zn k) (zn (2 ^ cd 1)) kont fu j s) (2 ^ cd 1) (fun j s => zF [124] I s ∧ ∃ kp, zKw s cd kp r ∧ ∀ pos, zPo cd pos → ∀ v, v < j → 2 ^ cd 1 ≤ pos v + r + 1 → kp v = 0) ?_ ?_ pd_FU 0 _ (by omega) (zFU (by omega)) ⟨zF_rfl, kp, K, fun _ _ v hv => absurd hv (Nat.not_lt_zero v)⟩
  · rintro fu s ⟨h1, kp, K, h2⟩
    rw [fl_X12_isBad_39, if_pos (Int32.le_refl _)]
    exact hK s kp h1 ⟨K.1, K.2.1, fun pos hp v hvS hh => h2 pos hp v hvS (by omega)⟩
  · rintro fu j s hj ⟨h1, kp, ⟨K1, ⟨tau, T, K2⟩, K3⟩, h2⟩ ih
    obtain ⟨a1, a2⟩ := K1 j hj
    have hg := zgs_le (cd := cd) (kp := kp) (s := j) 2
    rw [fl_X12_isBad_39, zi_le (by omega) (by omega), if_neg (by omega), zn_0, zq_bad51 (zCm_F (by decide) h1 h) hv hj K1, zn_in2 (show j < 64 by omega) (by omega), zb_gd, zn_nat (by omega), a1, zn_1, zi_eq (by omega) (by omega), zi_eq (by omega) (by omega)]
    obtain ⟨q, hq⟩ : ∃ q, q = if kp j = 1 ∧ zgs cd kp j 2 = 1 then 1 else 0 := ⟨_, rfl⟩
    have ev : (pd_bd (if kp j = 1 then if zgs cd kp j 2 = 0 then some false else some true else some false) fun zc9 => if zc9 = true then some (zn 1) else some (zn 0)) = some (zn q) := by
      by_cases c : kp j = 1
      · by_cases d : zgs cd kp j 2 = 0
        · rw [if_pos c, if_pos d, zb_bd, if_neg (by decide), hq, if_neg (fun hh => by omega)]
        · rw [if_pos c, if_neg d, zb_bd, if_pos rfl, hq, if_pos ⟨c, by omega⟩]
      · rw [if_neg c, zb_bd, if_neg (by decide), hq, if_neg (fun hh => c hh.1)]
    have hq1 : q ≤ 1 := by rw [hq]; split <;> omega
    rw [ev, zb_bd, zb_gd, zb_let, zb_let, zn_add]
    have hz : q = 0 → kp j ≠ 0 → ∀ x, x < 2 → zsl cd (2 * j + x) = 1 → kp (zen2 cd (2 * j + x)) = 0 := fun e0 e1 x hx hs => by
      have hg0 : zgs cd kp j 2 = 0 := by
        by_cases c : kp j = 1 ∧ zgs cd kp j 2 = 1
        · rw [if_pos c] at hq; omega
        · have : ¬ zgs cd kp j 2 = 1 := fun e => c ⟨by omega, e⟩
          omega
      have a := zgs_0 hg0 x hx hs
      have b := (K1 _ (zen2_lt (cd := cd) (e := 2 * j + x))).2
      omega
    have hk0 : ∀ v, kp v = 0 → (if v = j then q else kp v) = 0 := fun v hv0 => by
      by_cases c : v = j
      · rw [if_pos c, hq, if_neg (fun hh => by rw [c] at hv0; omega)]
      · rw [if_neg c]; exact hv0
    refine ih _ ⟨zF_u (by simp) h1, fun v => if v = j then q else kp v, ⟨fun v hvS => ?_, ⟨fun v => if v = j ∧ kp j ≠ 0 then T else tau v, T + 1, fun u hu hz0 => ?_⟩, fun pos hp v hvS hh => hk0 v (K3 pos hp v hvS hh)⟩, fun pos hp v hvj hh => ?_⟩
    · rw [zu_same, zu_app]
      show (if v = j then zn q else s 124 v) = zn (if v = j then q else kp v) ∧ (if v = j then q else kp v) ≤ 1
      by_cases c : v = j
      · rw [if_pos c, if_pos c]; exact ⟨rfl, hq1⟩
      · rw [if_neg c, if_neg c]; exact K1 v hvS
    · have hz0' : (if u = j then q else kp u) = 0 := hz0
      show (if u = j ∧ kp j ≠ 0 then T else tau u) < T + 1 ∧ ∀ x, x < 2 → zsl cd (2 * u + x) = 1 → (if zen2 cd (2 * u + x) = j then q else kp (zen2 cd (2 * u + x))) = 0 ∧ (if zen2 cd (2 * u + x) = j ∧ kp j ≠ 0 then T else tau (zen2 cd (2 * u + x))) < (if u = j ∧ kp j ≠ 0 then T else tau u)
      by_cases c : u = j ∧ kp j ≠ 0
      · rw [if_pos c]
        rw [if_pos c.1] at hz0'
        refine ⟨by omega, fun x hx hs => ?_⟩
        have e := hz hz0' c.2 x hx (by rw [← c.1]; exact hs)
        rw [← c.1] at e
        have hne : zen2 cd (2 * u + x) ≠ j := fun e2 => by rw [e2] at e; exact c.2 e
        rw [if_neg hne, if_neg (fun hh => hne hh.1)]
        exact ⟨e, (K2 _ zen2_lt e).1⟩
      · rw [if_neg c]
        have hu0 : kp u = 0 := by
          by_cases d : u = j
          · by_cases e : kp u = 0
            · exact e
            · exact absurd ⟨d, by rw [← d]; exact e⟩ c
          · rw [if_neg d] at hz0'; exact hz0'
        obtain ⟨p1, p2⟩ := K2 u hu hu0
        refine ⟨by omega, fun x hx hs => ?_⟩
        obtain ⟨p3, p4⟩ := p2 x hx hs
        refine ⟨hk0 _ p3, ?_⟩
        rw [if_neg (fun hh => by rw [hh.1] at p3; exact hh.2 p3)]
        exact p4
    · show (if v = j then q else kp v) = 0
      by_cases c : v = j
      · rw [if_pos c]
        by_cases d : kp j = 0
        · rw [hq, if_neg (fun hh => by omega)]
        · have hg0 : zgs cd kp j 2 = 0 := zgs_1 (fun x hx hs hk1 => by
            have e1 := hp.2 (2 * j + x) (by omega) hs
            rw [show (2 * j + x) / 2 = j by omega] at e1
            have e2 := K3 pos hp _ (zen2_lt (cd := cd) (e := 2 * j + x)) (by rw [c] at hh; omega)
            omega)
          rw [hq, if_neg (fun hh => by omega)]
      · rw [if_neg c]; exact h2 pos hp v (by omega) hh
theorem zq_isBadM {I : pd_I} {k : Nat} {cd : Nat → Nat} (h : zCm I k cd) (hv : zCv cd) : zT (fn_X12_isBad I (zn k)) (fun x => zF [124] I x.2 ∧ ∃ kp, zKw x.2 cd kp (2 ^ cd 1) ∧ x.1 = zn (if zcy kp (2 ^ cd 1) = 0 then 0 else 1)) := by
  have hS := zCv_S hv
  have hk := h.1
  unfold fn_X12_isBad
  rw [zn_in2 hk (by omega), zb_gd, zn_nat (show k < 2147483648 by omega), h.2.2.1, show (1 : Int32) <<< (zn (cd 1) &&& 31) = zn (2 ^ cd 1) by rw [zn_1, zn_31, zn_1shl _ (by have := hv.2.2.1; omega)], zb_let, zn_0]
  refine zq_bad11 hS.2 (fun I1 f1 g1 => ?_)
  have h1 := zCm_F (by decide) f1 h
  refine zl_loop (fun fu j (s : pd_I) => fl_X12_isBad_31 (zn k) (zn (2 ^ cd 1)) (fun zI5 => fl_X12_isBad_164 (zn (2 ^ cd 1)) zI5 (fun zx11 => pd_bd (if zx11 ≤ zn 0 then some (zn 0) else (some 1)) fun (zx12 : Int32) => pd_gd (pd_bo zx12) (some (zx12, zI5))) pd_FU (zn 0) (zn 0)) fu j s) (2 ^ cd 1) (fun j s => zF [124] I s ∧ ∃ kp, zKw s cd kp j) ?_ ?_ pd_FU 0 _ (by omega) (zFU (by omega)) ⟨f1, fun _ => 1, fun v hvS => ⟨g1 v hvS, Nat.le_refl 1⟩, ⟨fun _ => 0, 0, fun u hu hz => absurd (show 1 = 0 from hz) (by omega)⟩, fun pos hp v hvS hh => by have := hp.1 v hvS; omega⟩
  · rintro fu s ⟨h1, kp, K⟩
    rw [fl_X12_isBad_31, if_pos (Int32.le_refl _)]
    have hsum : fl_X12_isBad_164 (zn (2 ^ cd 1)) s (fun zx11 => pd_bd (if zx11 ≤ zn 0 then some (zn 0) else (some 1)) fun (zx12 : Int32) => pd_gd (pd_bo zx12) (some (zx12, s))) pd_FU (zn 0) (zn 0) = some (zn (if zcy kp (2 ^ cd 1) = 0 then 0 else 1), s) := by
      have hkp : ∀ v, (fun v => if v < 2 ^ cd 1 then kp v else 0) v ≤ 1 := fun v => by
        show (if v < 2 ^ cd 1 then kp v else 0) ≤ 1
        split
        · exact (K.1 v (by assumption)).2
        · omega
      have hle := zcy_n hkp (2 ^ cd 1)
      rw [zcy_c (G := kp) _ (fun i hi => if_pos hi)] at hle
      refine zl_eq (fun fu j (w : Int32) => fl_X12_isBad_164 (zn (2 ^ cd 1)) s (fun zx11 => pd_bd (if zx11 ≤ zn 0 then some (zn 0) else (some 1)) fun (zx12 : Int32) => pd_gd (pd_bo zx12) (some (zx12, s))) fu w j) (2 ^ cd 1) 0 (fun j => zn (zcy kp j)) _ (fun fu => ?_) (fun fu j _ hj => ?_) pd_FU 0 (by omega) (by omega) (zFU (by omega))
      · try simp only []
        rw [fl_X12_isBad_164, if_pos (Int32.le_refl _), zi_le (by omega) (by omega)]
        by_cases c : zcy kp (2 ^ cd 1) = 0
        · rw [if_pos (by omega), if_pos c]; rfl
        · rw [if_neg (by omega), if_neg c]; rfl
      · try simp only []
        rw [fl_X12_isBad_164, zi_le (by omega) (by omega), if_neg (by omega), zn_in2 (show j < 64 by omega) (by omega), zb_gd, zn_nat (by omega), (K.1 j hj).1, zb_let, zb_let, zn_1, zn_add, zn_add]
        rfl
    rw [hsum]
    exact ⟨_, rfl, h1, kp, K, rfl⟩
  · rintro fu j s hj ⟨h1', kp, K⟩ ih
    rw [fl_X12_isBad_31, zi_le (by omega) (by omega), if_neg (by omega), zn_0]
    refine zq_bad39 (zCm_F (by decide) h1' h) hv K (fun I2 kp2 f2 K2 => ?_)
    rw [zb_let, zn_1, zn_add]
    exact ih I2 ⟨zF_tr h1' f2, kp2, K2⟩
theorem zcy_z {F : Nat → Nat} : ∀ n, (∀ i, i < n → F i = 0) → zcy F n = 0
  | 0, _ => rfl
  | n + 1, h => by
    show zcy F n + F n = 0
    rw [zcy_z n (fun i hi => h i (by omega)), h n (by omega)]
/-- BAD: both say the same -/
theorem zbad_eq {I : pd_I} {cd kp : Nat → Nat} {cnt : Nat} {ord : Nat → Nat} (K : zKw I cd kp (2 ^ cd 1)) (h : zKr cd cnt ord) : (if zcy kp (2 ^ cd 1) = 0 then 0 else 1) = if 2 ^ cd 1 ≤ cnt then 0 else 1 := by
  by_cases c : 2 ^ cd 1 ≤ cnt
  · obtain ⟨-, pos, hp, -⟩ := zKr_po h c
    rw [if_pos c, if_pos (zcy_z _ (fun i hi => K.2.2 pos hp i hi (by omega)))]
  · rw [if_neg c]
    refine if_neg (fun hz => ?_)
    have h0 := zcy_0 _ hz
    obtain ⟨tau, T, ht⟩ := K.2.1
    obtain ⟨h1, h2, h3, h4⟩ := h
    have hasc : ∀ n, ∃ v, v < 2 ^ cd 1 ∧ (∀ j, j < cnt → ord j ≠ v) ∧ n ≤ tau v := fun n => by
      induction n with
      | zero =>
        obtain ⟨v, a, b⟩ := zKr_miss (ord := ord) (show cnt < 2 ^ cd 1 by omega)
        exact ⟨v, a, b, Nat.zero_le _⟩
      | succ n ih =>
        obtain ⟨v, a, b, d⟩ := ih
        obtain ⟨e, he, hs, hn, hm⟩ := h4 v a b
        have hx := (ht (e / 2) (by omega) (h0 _ (by omega))).2 (e % 2) (by omega)
        rw [show 2 * (e / 2) + e % 2 = e by omega] at hx
        have := (hx hs).2
        rw [hn] at this
        exact ⟨e / 2, by omega, hm, by omega⟩
    obtain ⟨v, a, b, d⟩ := hasc T
    have := (ht v a (h0 v a)).1
    omega
