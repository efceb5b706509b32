/-! read, isBad (class); isBad (reference) -/
def zKr (cd : Nat → Nat) (cnt : Nat) (ord : Nat → Nat) : Prop := (∀ j, j < cnt → ord j < 2 ^ cd 1) ∧ (∀ j, j < cnt → ∀ k, k < j → ord j ≠ ord k) ∧ (∀ b, b < cnt → ∀ e, e < 2 * 2 ^ cd 1 → zsl cd e = 1 → zen2 cd e = ord b → ∃ a, a < b ∧ ord a = e / 2) ∧ ∀ v, v < 2 ^ cd 1 → (∀ j, j < cnt → ord j ≠ v) → ∃ e, e < 2 * 2 ^ cd 1 ∧ zsl cd e = 1 ∧ zen2 cd e = v ∧ ∀ j, j < cnt → ord j ≠ e / 2
def zLq : List Nat := [11, 12, 13, 54, 55, 56]
theorem zq_readX {I : pd_I} {a : Nat} {cd : Nat → Nat} (ha : 133 ≤ a) (h : zCo I a cd) (hv : zCv cd) : zT (fn_X7_read I a) (fun I' => zF zLq I I' ∧ I' 11 3 = zn (2 ^ cd 1) ∧ zLD I' cd (2 * 2 ^ cd 1) ∧ ∃ cnt ord, I' 54 2 = zn cnt ∧ (∀ j, j < cnt → I' 55 j = zn (ord j)) ∧ zKr cd cnt ord) := by
  have hS := zCv_S hv
  unfold fn_X7_read
  rw [zT_bd]
  refine zT_mono (zq_load ha h hv) (fun I1 ⟨f1, e3, hD⟩ => ?_)
  rw [zn_0]
  refine zq_read10 hv e3 (fun I2 f2 g2 => ?_)
  refine zq_read36 hv (by rw [f2 11 (by decide)]; exact e3) (zLD_F (by decide) (by decide) f2 hD) g2 (fun I3 f3 g3 => ?_)
  rw [zb_let]
  have F3 : zF [54, 56] I1 (pd_ui I3 54 2 (zn 0)) := zF_u (by decide) (zF_tr (zF_sub f2 (by decide)) (zF_sub f3 (by decide)))
  refine zq_read92 hv (by rw [F3 11 (by decide)]; exact e3) ⟨by rw [zu_same, zu_at], fun j hj => absurd hj (Nat.not_lt_zero j), fun j hj => absurd hj (Nat.not_lt_zero j), fun j hj => absurd hj (Nat.not_lt_zero j), fun j hj => absurd hj (Nat.not_lt_zero j), fun v hvS => by rw [zu_ne (by decide)]; exact g3 v hvS, fun e he hd => absurd rfl hd, fun v hvS hz => Or.inr trivial⟩ (fun I4 cnt ord f4 K => ?_)
  have F4 : zF [54, 55, 56] I1 I4 := zF_tr (zF_sub F3 (by decide)) (zF_sub f4 (by decide))
  refine zl_wh (fun fu j (s : pd_I) => fl_X7_read_116 (fun zI13 => some zI13) fu j s) (2 ^ cd 1) (fun i s => zF [54, 55, 56] I1 s ∧ ∃ dn cnt ord, i ≤ cnt ∧ zKI s cd dn cnt ord (fun _ => False) ∧ ∀ e, e < 2 * 2 ^ cd 1 → (dn e ≠ 0 ↔ ∃ j, j < i ∧ ord j = e / 2)) ?_ pd_FU 0 I4 (zFU (by omega)) ⟨F4, fun _ => 0, cnt, ord, Nat.zero_le _, K, fun e he => ⟨fun h => absurd rfl h, fun ⟨j, hj, _⟩ => absurd hj (Nat.not_lt_zero j)⟩⟩
  rintro fu i s ⟨F, dn, cnt, ord, hi, K, hdn⟩
  have hcS : cnt ≤ 2 ^ cd 1 := by
    by_cases c : cnt ≤ 2 ^ cd 1
    · exact c
    · obtain ⟨t, ht, e⟩ := zpigeon (2 ^ cd 1) ord (fun j hj => (K.od j (by omega)).2) (fun t ht k hk => K.ij t (by omega) k hk) (ord (2 ^ cd 1)) (K.od _ (by omega)).2
      exact absurd e.symm (K.ij (2 ^ cd 1) (by omega) t ht)
  refine ⟨by omega, ?_⟩
  by_cases c : cnt ≤ i
  · left
    rw [fl_X7_read_116, K.cn, zi_le (by omega) (by omega), if_pos c, zb_bd, if_neg Bool.false_ne_true]
    refine ⟨s, rfl, zF_tr (zF_sub f1 (by decide)) (zF_sub F (by decide)), by rw [F 11 (by decide)]; exact e3, zLD_F (by decide) (by decide) F hD, cnt, ord, K.cn, fun j hj => (K.od j hj).1, fun j hj => (K.od j hj).2, K.ij, K.tp, fun v hvS hn => ?_⟩
    have hz : zWt cd dn v (2 * 2 ^ cd 1) ≠ 0 := fun hz => by
      rcases K.cp v hvS hz with ⟨j, hj, e⟩ | h
      · exact hn j hj e
      · exact h
    obtain ⟨e, he, hF⟩ := zcy_p _ hz
    by_cases d : zsl cd e = 1 ∧ zen2 cd e = v ∧ dn e = 0
    · refine ⟨e, he, d.1, d.2.1, fun j hj hje => ?_⟩
      exact (hdn e he).mpr ⟨j, by omega, hje⟩ d.2.2
    · exact absurd (if_neg d) hF
  · right
    refine ⟨by omega, fun ih => ?_⟩
    have eS : s 11 3 = zn (2 ^ cd 1) := by rw [F 11 (by decide)]; exact e3
    have c2 : ¬ 2 ^ cd 1 ≤ i := by omega
    rw [fl_X7_read_116, K.cn, zi_le (by omega) (by omega), if_neg c, eS, zi_le (by omega) (by omega), if_neg c2, zb_bd, if_pos rfl, zn_in2 (show i < 64 by omega) (by omega), zb_gd, zn_nat (by omega), (K.od i (by omega)).1, zn_2, zn_mul, zb_let]
    refine zq_read133 hv (zLD_F (by decide) (by decide) F hD) (by omega) K hdn (fun I5 dn' cnt' ord' f5 h5 K' hdn' => ?_)
    rw [zb_let, zn_1, zn_add]
    exact ih I5 ⟨zF_tr F f5, dn', cnt', ord', by omega, K', hdn'⟩
theorem zq_isBadC {I : pd_I} {cd : Nat → Nat} {cnt : Nat} (hv : zCv cd) (e3 : I 11 3 = zn (2 ^ cd 1)) (ec : I 54 2 = zn cnt) (hc : cnt ≤ 64) : fn_X7_isBad I = some (zn (if 2 ^ cd 1 ≤ cnt then 0 else 1)) := by
  have hS := zCv_S hv
  unfold fn_X7_isBad
  rw [e3, ec, zi_le (by omega) (by omega)]
  by_cases c : 2 ^ cd 1 ≤ cnt
  · rw [if_pos c, if_pos c]; rfl
  · rw [if_neg c, if_neg c]; rfl
/-- a numbering along silent edges -/
def zPo (cd pos : Nat → Nat) : Prop := (∀ v, v < 2 ^ cd 1 → pos v < 2 ^ cd 1) ∧ ∀ e, e < 2 * 2 ^ cd 1 → zsl cd e = 1 → pos (e / 2) < pos (zen2 cd e)
theorem zKr_po {cd : Nat → Nat} {cnt : Nat} {ord : Nat → Nat} (h : zKr cd cnt ord) (hc : 2 ^ cd 1 ≤ cnt) : cnt = 2 ^ cd 1 ∧ ∃ pos, zPo cd pos ∧ ∀ v, v < 2 ^ cd 1 → ord (pos v) = v := by
  obtain ⟨h1, h2, h3, h4⟩ := h
  have hcS : cnt = 2 ^ cd 1 := by
    by_cases c : cnt ≤ 2 ^ cd 1
    · omega
    · obtain ⟨t, ht, e⟩ := zpigeon (2 ^ cd 1) ord (fun j hj => h1 j (by omega)) (fun t ht k hk => h2 t (by omega) k hk) (ord (2 ^ cd 1)) (h1 _ (by omega))
      exact absurd e.symm (h2 (2 ^ cd 1) (by omega) t ht)
  have hx : ∀ v, ∃ p, v < 2 ^ cd 1 → p < 2 ^ cd 1 ∧ ord p = v := fun v => by
    by_cases c : v < 2 ^ cd 1
    · obtain ⟨t, ht, e⟩ := zpigeon (2 ^ cd 1) ord (fun j hj => h1 j (by omega)) (fun t ht k hk => h2 t (by omega) k hk) v c
      exact ⟨t, fun _ => ⟨ht, e⟩⟩
    · exact ⟨0, fun h => absurd h c⟩
  refine ⟨hcS, fun v => Classical.choose (hx v), ⟨fun v hv => (Classical.choose_spec (hx v) hv).1, fun e he hs => ?_⟩, fun v hv => (Classical.choose_spec (hx v) hv).2⟩
  show Classical.choose (hx (e / 2)) < Classical.choose (hx (zen2 cd e))
  obtain ⟨a1, a2⟩ := Classical.choose_spec (hx (e / 2)) (by omega)
  obtain ⟨b1, b2⟩ := Classical.choose_spec (hx (zen2 cd e)) zen2_lt
  generalize Classical.choose (hx (e / 2)) = p at *
  generalize Classical.choose (hx (zen2 cd e)) = q at *
  obtain ⟨a, ha, hae⟩ := h3 q (by omega) e he hs b2.symm
  have : p = a := by
    by_cases c : p < a
    · exact absurd (by rw [hae, a2]) (h2 a (by omega) p c)
    · by_cases d : a < p
      · exact absurd (by rw [hae, a2]) (h2 p (by omega) a d)
      · omega
  omega
theorem zKr_miss {S cnt : Nat} {ord : Nat → Nat} (hc : cnt < S) : ∃ v, v < S ∧ ∀ j, j < cnt → ord j ≠ v := by
  apply Classical.byContradiction
  intro hn
  have hx : ∀ v, ∃ p, v < S → p < cnt ∧ ord p = v := fun v => by
    by_cases c : v < S
    · apply Classical.byContradiction
      intro hm
      exact hn ⟨v, c, fun j hj e => hm ⟨j, fun _ => ⟨hj, e⟩⟩⟩
    · exact ⟨0, fun h => absurd h c⟩
  have hs := fun v hv => Classical.choose_spec (hx v) hv
  obtain ⟨t, ht, e⟩ := zpigeon cnt (fun v => Classical.choose (hx v)) (fun t ht => (hs t (by omega)).1) (fun t ht k hk e => by
    have e' : Classical.choose (hx t) = Classical.choose (hx k) := e
    have a := (hs t (by omega)).2
    have b := (hs k (by omega)).2
    rw [e', b] at a
    omega) (Classical.choose (hx cnt)) (hs cnt hc).1
  have e' : Classical.choose (hx t) = Classical.choose (hx cnt) := e
  have a := (hs t (by omega)).2
  have b := (hs cnt hc).2
  rw [e', b] at a
  omega
/-! the reference -/
theorem zm_wt {I : pd_I} {k s x : Nat} {cd : Nat → Nat} (h : zCm I k cd) (hv : zCv cd) (hs : s < 64) (hx : x < 2) : fn_X12_weight I (zn k) (zn s) (zn x) = some (zn (zwt cd s x (cd 2))) := by
  have h24 := hv.2.2.2.2.1
  have hk := h.1
  unfold fn_X12_weight
  refine zl_eq (fun fu j (w : Int32) => fl_X12_weight_6 (zn k) (zn s) (zn x) I (fun zx3 => some zx3) fu w j) (cd 2) 0 (fun j => zn (zwt cd s x j)) _ (fun fu => ?_) (fun fu j _ hj => ?_) pd_FU 0 (by omega) (by omega) (zFU (by omega))
  · try simp only []
    rw [fl_X12_weight_6, zn_in2 hk (by omega), zb_gd, zn_nat (by omega), h.2.2.2.1, if_pos (Int32.le_refl _)]
  · try simp only []
    rw [fl_X12_weight_6, zn_in2 hk (by omega), zb_gd, zn_nat (by omega), h.2.2.2.1, zi_le (by omega) (by omega), if_neg (by omega), zc_out h hv hs hx (by omega), zb_bd, zb_let, zb_let, zn_1, zn_add, zn_add]
    rfl
/-- which states are kept: kp; when those that are not were removed -/
def zTau (cd kp : Nat → Nat) : Prop := ∃ (tau : Nat → Nat) (T : Nat), ∀ u, u < 2 ^ cd 1 → kp u = 0 → tau u < T ∧ ∀ x, x < 2 → zsl cd (2 * u + x) = 1 → kp (zen2 cd (2 * u + x)) = 0 ∧ tau (zen2 cd (2 * u + x)) < tau u
def zgs (cd kp : Nat → Nat) (s : Nat) : Nat → Nat
  | 0 => 0
  | x + 1 => if zgs cd kp s x = 1 ∨ (zsl cd (2 * s + x) = 1 ∧ kp (zen2 cd (2 * s + x)) = 1) then 1 else 0
theorem zgs_le {cd kp : Nat → Nat} {s : Nat} : ∀ x, zgs cd kp s x ≤ 1
  | 0 => Nat.zero_le 1
  | x + 1 => by show (if _ then 1 else 0) ≤ 1; split <;> omega
theorem zgs_0 {cd kp : Nat → Nat} {s : Nat} (h : zgs cd kp s 2 = 0) : ∀ x, x < 2 → zsl cd (2 * s + x) = 1 → kp (zen2 cd (2 * s + x)) ≠ 1 := by
  have h1 : ∀ x, zgs cd kp s (x + 1) = 0 → zgs cd kp s x ≠ 1 ∧ ¬ (zsl cd (2 * s + x) = 1 ∧ kp (zen2 cd (2 * s + x)) = 1) := fun x hx => by
    have hx' : (if zgs cd kp s x = 1 ∨ (zsl cd (2 * s + x) = 1 ∧ kp (zen2 cd (2 * s + x)) = 1) then 1 else 0) = 0 := hx
    by_cases c : zgs cd kp s x = 1 ∨ (zsl cd (2 * s + x) = 1 ∧ kp (zen2 cd (2 * s + x)) = 1)
    · rw [if_pos c] at hx'; omega
    · exact ⟨fun e => c (Or.inl e), fun e => c (Or.inr e)⟩
  intro x hx hs hk
  obtain ⟨a1, a2⟩ := h1 1 h
  have a3 := zgs_le (cd := cd) (kp := kp) (s := s) 1
  obtain ⟨b1, b2⟩ := h1 0 (by show zgs cd kp s 1 = 0; omega)
  have : x = 0 ∨ x = 1 := by omega
  rcases this with e | e <;> subst e
  · exact b2 ⟨hs, hk⟩
  · exact a2 ⟨hs, hk⟩
theorem zgs_1 {cd kp : Nat → Nat} {s : Nat} (h : ∀ x, x < 2 → zsl cd (2 * s + x) = 1 → kp (zen2 cd (2 * s + x)) ≠ 1) : zgs cd kp s 2 = 0 := by
  have h0 : zgs cd kp s 1 = 0 := if_neg (fun c => c.elim (fun e => by have e' : 0 = 1 := e; omega) (fun e => h 0 (by omega) e.1 e.2))
  exact if_neg (fun c => c.elim (fun e => by have e' : zgs cd kp s 1 = 1 := e; omega) (fun e => h 1 (by omega) e.1 e.2))
theorem zq_bad51 {O : Type} {I : pd_I} {k s : Nat} {cd kp : Nat → Nat} {kont : Int32 → Option O} (h : zCm I k cd) (hv : zCv cd) (hs : s < 2 ^ cd 1) (hI : ∀ v, v < 2 ^ cd 1 → I 124 v = zn (kp v) ∧ kp v ≤ 1) : fl_X12_isBad_51 (zn k) (zn s) I kont pd_FU (zn 0) (zn 0) = kont (zn (zgs cd kp s 2)) := by
  have hS := zCv_S hv
  have hk := h.1
  refine zl_eq (fun fu j (w : Int32) => fl_X12_isBad_51 (zn k) (zn s) I kont fu w j) 2 0 (fun j => zn (zgs cd kp s j)) _ (fun fu => ?_) (fun fu x _ hx => ?_) pd_FU 0 (by omega) (by omega) (zFU (by omega))
  · try simp only []
    rw [fl_X12_isBad_51, zn_2, if_pos (Int32.le_refl _)]
  · try simp only []
    have e1 : (2 * s + x) / 2 = s := by omega
    have e2 : (2 * s + x) % 2 = x := by omega
    have hn : zen2 cd (2 * s + x) = znx cd s x := by unfold zen2; rw [e1, e2]
    have hw : zew cd (2 * s + x) = zwt cd s x (cd 2) := by unfold zew; rw [e1, e2]
    have hnl := zen2_lt (cd := cd) (e := 2 * s + x)
    have hwl := zew_le (e := 2 * s + x) hv
    have hg := zgs_le (cd := cd) (kp := kp) (s := s) x
    obtain ⟨i1, i2⟩ := hI _ hnl
    rw [fl_X12_isBad_51, zn_2, zi_le (by omega) (by omega), if_neg (by omega), zc_next h hv hx, zb_bd, zm_wt h hv (by omega) hx, zb_bd, ← hn, ← hw, zn_0, zi_eq (by omega) (by omega), zi_eq (by omega) (by omega), zn_in2 (show zen2 cd (2 * s + x) < 64 by omega) (by omega), zb_gd, zn_nat (by omega), i1, zi_eq (by omega) (by omega), zi_eq (by omega) (by omega), zn_1, zi_eq (by omega) (by omega)]
    have hz : zgs cd kp s (x + 1) = if zgs cd kp s x = 1 ∨ (zsl cd (2 * s + x) = 1 ∧ kp (zen2 cd (2 * s + x)) = 1) then 1 else 0 := rfl
    have fin : ∀ (b : Bool), (b = true ↔ zgs cd kp s (x + 1) = 0) → (pd_bd (pd_bd (some b) fun zc2 => if zc2 = true then some (zn 0) else some (zn 1)) fun (zx7 : Int32) => pd_let (zn x + zn 1) fun zv3 => fl_X12_isBad_51 (zn k) (zn s) I kont fu zx7 zv3) = fl_X12_isBad_51 (zn k) (zn s) I kont fu (zn (zgs cd kp s (x + 1))) (zn (x + 1)) := fun b hb => by
      rw [zb_bd]
      by_cases c : b = true
      · rw [if_pos c, zb_bd, zb_let, zn_add, hb.mp c]
      · have hg1 := zgs_le (cd := cd) (kp := kp) (s := s) (x + 1)
        have : zgs cd kp s (x + 1) ≠ 0 := fun e => c (hb.mpr e)
        rw [if_neg c, zb_bd, zb_let, zn_add, show zgs cd kp s (x + 1) = 1 by omega]
    rw [hz] at fin
    unfold zsl at fin
    rw [e1] at fin
    by_cases a : zgs cd kp s x = 0
    · rw [if_pos a]
      by_cases b : zew cd (2 * s + x) = 0
      · rw [if_pos b]
        by_cases c : kp (zen2 cd (2 * s + x)) = 1
        · rw [if_pos c]
          by_cases d : s = 0
          · rw [if_pos d]
            by_cases e : zen2 cd (2 * s + x) = 0
            · rw [if_pos e]
              rw [hz]; unfold zsl; rw [e1]
              refine fin true ⟨fun _ => if_neg ?_, fun _ => rfl⟩
              rw [if_neg (fun hh => hh.2 ⟨d, e⟩)]
              rintro (hh | hh) <;> omega
            · rw [if_neg e]
              rw [hz]; unfold zsl; rw [e1]
              refine fin false ⟨fun hh => absurd hh (by decide), fun hh => ?_⟩
              rw [if_pos (Or.inr ⟨if_pos ⟨b, fun q => e q.2⟩, c⟩)] at hh
              omega
          · rw [if_neg d]
            rw [hz]; unfold zsl; rw [e1]
            refine fin false ⟨fun hh => absurd hh (by decide), fun hh => ?_⟩
            rw [if_pos (Or.inr ⟨if_pos ⟨b, fun q => d q.1⟩, c⟩)] at hh
            omega
        · rw [if_neg c]
          rw [hz]; unfold zsl; rw [e1]
          refine fin true ⟨fun _ => if_neg ?_, fun _ => rfl⟩
          rintro (hh | hh)
          · omega
          · exact c hh.2
      · rw [if_neg b]
        rw [hz]; unfold zsl; rw [e1]
        refine fin true ⟨fun _ => if_neg ?_, fun _ => rfl⟩
        rw [if_neg (fun hh => b hh.1)]
        rintro (hh | hh) <;> omega
    · rw [if_neg a]
      rw [hz]; unfold zsl; rw [e1]
      refine fin false ⟨fun hh => absurd hh (by decide), fun hh => ?_⟩
      rw [if_pos (Or.inl (by omega))] at hh
      omega
