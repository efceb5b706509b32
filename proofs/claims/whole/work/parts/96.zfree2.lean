/-! FREE in the reference; the operations bad, free -/
theorem zq_fr31 {O : Type} {Q : O → Prop} {I : pd_I} {S : Nat} {kont : pd_I → Option O} (hS : S ≤ 64) (hK : ∀ I', zF [124] I I' → (∀ v, v < S → I' 124 v = zn zWW) → zT (kont I') Q) : zT (fl_X12_free_31 (zn S) kont pd_FU (zn 0) I) Q := by
  refine zl_loop (fun fu j (s : pd_I) => fl_X12_free_31 (zn S) kont fu j s) S (fun j s => zF [124] I s ∧ ∀ v, v < j → s 124 v = zn zWW) ?_ ?_ pd_FU 0 _ (by omega) (zFU (by omega)) ⟨zF_rfl, fun i hi => by omega⟩
  · rintro fu s ⟨h1, h2⟩
    rw [fl_X12_free_31, if_pos (Int32.le_refl _)]
    exact hK s h1 h2
  · rintro fu j s hj ⟨h1, h2⟩ ih
    rw [fl_X12_free_31, zi_le (by omega) (by omega), if_neg (by omega), zn_in2 (show j < 64 by omega) (by omega), zb_gd, zn_nat (by omega), zb_let, zb_let, zn_1, zn_add, zn_NW]
    refine ih _ ⟨zF_u (by simp) h1, fun v hv => ?_⟩
    rw [zu_same, zu_app]
    by_cases c : v = j
    · rw [if_pos c]
    · rw [if_neg c]; exact h2 v (by omega)
theorem zq_fr131 {O : Type} {Q : O → Prop} {I : pd_I} {k s : Nat} {cd : Nat → Nat} {st : Nat × (Nat → Nat)} {kont : Int32 → pd_I → Option O} (h : zCm I k cd) (hv : zCv cd) (hs1 : 1 ≤ s) (hs : s < 2 ^ cd 1) (h1 : st.1 ≤ 40000) (h2 : ∀ v, st.2 v ≤ 40000) (hne : (zfq cd st (2 * s - 2)).2 s ≠ 0) (hI : ∀ v, v < 2 ^ cd 1 → I 124 v = zn (zen zWW ((zfq cd st (2 * s - 2)).2 v)))
    (hK : ∀ I', zF [124] I I' → (∀ v, v < 2 ^ cd 1 → I' 124 v = zn (zen zWW ((zfq cd st (2 * s)).2 v))) → zT (kont (zn (zen zWW (zfq cd st (2 * s)).1)) I') Q) : zT (fl_X12_free_131 (zn k) (zn s) kont pd_FU (zn (zen zWW (zfq cd st (2 * s - 2)).1)) (zn 0) I) Q := by
  have hS := zCv_S hv
  have hE := zW_lt
  have hE1 := zE_W
  have hE2 := zE_big
  refine zl_loop (fun fu j (w : Int32 × pd_I) => fl_X12_free_131 (zn k) (zn s) kont fu w.1 j w.2) 2 (fun x w => w.1 = zn (zen zWW (zfq cd st (2 * s - 2 + x)).1) ∧ zF [124] I w.2 ∧ ∀ v, v < 2 ^ cd 1 → w.2 124 v = zn (zen zWW ((zfq cd st (2 * s - 2 + x)).2 v))) ?_ ?_ pd_FU 0 (zn (zen zWW (zfq cd st (2 * s - 2)).1), I) (by omega) (zFU (by omega)) ⟨rfl, zF_rfl, hI⟩
  · rintro fu ⟨f, w⟩ ⟨rfl, k1, k2⟩
    try simp only [] at k1 k2 ⊢
    rw [fl_X12_free_131, zn_2, if_pos (Int32.le_refl _)]
    rw [show 2 * s - 2 + 2 = 2 * s by omega] at k2 ⊢
    exact hK w k1 k2
  · rintro fu x ⟨f, w⟩ hx ⟨rfl, k1, k2⟩ ih
    try simp only [] at k1 k2 ih ⊢
    have hM := zCm_F (by decide) k1 h
    have e1 : (2 * s + x) / 2 = s := by omega
    have e2 : (2 * s + x) % 2 = x := by omega
    have hn : zen2 cd (2 * s + x) = znx cd s x := by unfold zen2; rw [e1, e2]
    have hw' : zew cd (2 * s + x) = zwt cd s x (cd 2) := by unfold zew; rw [e1, e2]
    have hnx := zen2_lt (cd := cd) (e := 2 * s + x)
    have hw := zew_le (e := 2 * s + x) hv
    obtain ⟨b1, b2⟩ := zfq_le hv h1 h2 (2 * s - 2 + x)
    have bs := b2 s
    have bn := b2 (zen2 cd (2 * s + x))
    have hP := zfq_2 hne x
    have es : zfq cd st (2 * s - 2 + (x + 1)) = (zff cd (zfq cd st (2 * s - 2 + x)).2 (zfq cd st (2 * s - 2 + x)).1 (2 * s + x), zfL cd (zfq cd st (2 * s - 2 + x)).2 (2 * s + x)) := by
      rw [show 2 * s - 2 + (x + 1) = (2 * s - 2 + x) + 1 by omega]
      show (zff cd (zfq cd st (2 * s - 2 + x)).2 (zfq cd st (2 * s - 2 + x)).1 (2 * s - 2 + x + 2), zfL cd (zfq cd st (2 * s - 2 + x)).2 (2 * s - 2 + x + 2)) = _
      rw [show 2 * s - 2 + x + 2 = 2 * s + x by omega]
    rw [es] at ih
    generalize zfq cd st (2 * s - 2 + x) = P at *
    have g1 := zen_le (B := zWW) (o := P.1) (by omega)
    have g2 := zen_S (B := zWW) hP
    have g3 := zen_le (B := zWW) (o := P.2 (zen2 cd (2 * s + x))) (by omega)
    rw [fl_X12_free_131, zn_2, zi_le (by omega) (by omega), if_neg (by omega), zc_next hM hv hx, zb_bd, zn_in2 (show s < 64 by omega) (by omega), zb_gd, zm_wt hM hv (by omega) hx, zb_bd, zn_nat (show s < 2147483648 by omega), k2 s hs, ← hn, ← hw', zn_add, zb_let, zn_0, zi_eq (by omega) (by omega)]
    by_cases c : zen2 cd (2 * s + x) = 0
    · rw [if_pos c, zp_min (by omega) (by omega), zst_min (by omega) (by omega), zb_let, zb_bd2, zb_let, zn_1, zn_add]
      refine ih (zn (zen zWW (zmn P.1 (zad (P.2 s) (zew cd (2 * s + x))))), w) ⟨?_, k1, fun v hvS => ?_⟩
      · show zn _ = zn (zen zWW (zff cd P.2 P.1 (2 * s + x)))
        unfold zff
        rw [if_pos c, e1]
      · show w 124 v = zn (zen zWW (zfL cd P.2 (2 * s + x) v))
        unfold zfL
        rw [if_neg (fun hh => by rw [c] at hh; exact hh.2 hh.1)]
        exact k2 v hvS
    · rw [if_neg c, zn_in2 (show zen2 cd (2 * s + x) < 64 by omega) (by omega), zb_gd, zb_gd, zn_nat (by omega), k2 _ hnx, zp_min (by omega) (by omega), zst_min (by omega) (by omega), zb_let, zb_bd2, zb_let, zn_1, zn_add]
      refine ih (zn (zen zWW P.1), pd_ui w 124 (zen2 cd (2 * s + x)) (zn (zen zWW (zmn (P.2 (zen2 cd (2 * s + x))) (zad (P.2 s) (zew cd (2 * s + x))))))) ⟨?_, zF_u (by simp) k1, fun v hvS => ?_⟩
      · show zn _ = zn (zen zWW (zff cd P.2 P.1 (2 * s + x)))
        unfold zff
        rw [if_neg c]
      · show pd_ui w 124 (zen2 cd (2 * s + x)) _ 124 v = zn (zen zWW (zfL cd P.2 (2 * s + x) v))
        unfold zfL
        rw [zu_same, zu_app, e1]
        by_cases d : v = zen2 cd (2 * s + x)
        · rw [if_pos d, if_pos ⟨d, by rw [d]; exact c⟩, d]
        · rw [if_neg d, if_neg (fun hh => d hh.1)]; exact k2 v hvS
/-- a state to which no way leads changes nothing -/
theorem zfq_skip {cd : Nat → Nat} {st : Nat × (Nat → Nat)} {m : Nat} (h : (zfq cd st m).2 ((m + 2) / 2) = 0) : (zfq cd st (m + 1)).1 = (zfq cd st m).1 ∧ ∀ v, (zfq cd st (m + 1)).2 v = (zfq cd st m).2 v := by
  have hz : zad ((zfq cd st m).2 ((m + 2) / 2)) (zew cd (m + 2)) = 0 := by unfold zad; rw [if_pos h]
  constructor
  · show zff cd (zfq cd st m).2 (zfq cd st m).1 (m + 2) = _
    unfold zff
    rw [hz, zmn_r0]
    split <;> rfl
  · intro v
    show zfL cd (zfq cd st m).2 (m + 2) v = _
    unfold zfL
    rw [hz, zmn_r0]
    split <;> rfl
theorem zfq_skip2 {cd : Nat → Nat} {st : Nat × (Nat → Nat)} {s : Nat} (hs : 1 ≤ s) (h : (zfq cd st (2 * s - 2)).2 s = 0) : (zfq cd st (2 * s)).1 = (zfq cd st (2 * s - 2)).1 ∧ ∀ v, (zfq cd st (2 * s)).2 v = (zfq cd st (2 * s - 2)).2 v := by
  obtain ⟨a1, a2⟩ := zfq_skip (cd := cd) (st := st) (m := 2 * s - 2) (by rw [show (2 * s - 2 + 2) / 2 = s by omega]; exact h)
  obtain ⟨b1, b2⟩ := zfq_skip (cd := cd) (st := st) (m := 2 * s - 2 + 1) (by rw [show (2 * s - 2 + 1 + 2) / 2 = s by omega, a2]; exact h)
  rw [show 2 * s - 2 + 1 + 1 = 2 * s by omega] at b1 b2
  exact ⟨by rw [b1, a1], fun v => by rw [b2, a2]⟩
theorem zq_fr107 {O : Type} {Q : O → Prop} {I : pd_I} {k : Nat} {cd : Nat → Nat} {st : Nat × (Nat → Nat)} {kont : Int32 → pd_I → Option O} (h : zCm I k cd) (hv : zCv cd) (h1 : st.1 ≤ 40000) (h2 : ∀ v, st.2 v ≤ 40000) (hI : ∀ v, v < 2 ^ cd 1 → I 124 v = zn (zen zWW (st.2 v)))
    (hK : ∀ I', zF [124] I I' → (∀ v, v < 2 ^ cd 1 → I' 124 v = zn (zen zWW ((zfq cd st (2 * 2 ^ cd 1 - 2)).2 v))) → zT (kont (zn (zen zWW (zfq cd st (2 * 2 ^ cd 1 - 2)).1)) I') Q) : zT (fl_X12_free_107 (zn k) (zn (2 ^ cd 1)) kont pd_FU (zn (zen zWW st.1)) (zn 1) I) Q := by
  have hS := zCv_S hv
  have hE := zW_lt
  have hE1 := zE_W
  have hE2 := zE_big
  refine zl_loop (fun fu j (w : Int32 × pd_I) => fl_X12_free_107 (zn k) (zn (2 ^ cd 1)) kont fu w.1 j w.2) (2 ^ cd 1) (fun s w => 1 ≤ s ∧ w.1 = zn (zen zWW (zfq cd st (2 * s - 2)).1) ∧ zF [124] I w.2 ∧ ∀ v, v < 2 ^ cd 1 → w.2 124 v = zn (zen zWW ((zfq cd st (2 * s - 2)).2 v))) ?_ ?_ pd_FU 1 (zn (zen zWW st.1), I) (by omega) (zFU (by omega)) ⟨Nat.le_refl _, rfl, zF_rfl, hI⟩
  · rintro fu ⟨f, w⟩ ⟨-, rfl, k1, k2⟩
    try simp only [] at k1 k2 ⊢
    rw [fl_X12_free_107, if_pos (Int32.le_refl _)]
    exact hK w k1 k2
  · rintro fu s ⟨f, w⟩ hs ⟨h0, rfl, k1, k2⟩ ih
    try simp only [] at k1 k2 ih ⊢
    rw [show 2 * (s + 1) - 2 = 2 * s by omega] at ih
    obtain ⟨b1, b2⟩ := zfq_le hv h1 h2 (2 * s - 2)
    have bs := b2 s
    have g2 := zen_le (B := zWW) (o := (zfq cd st (2 * s - 2)).2 s) (by omega)
    have hz : zen zWW ((zfq cd st (2 * s - 2)).2 s) = zWW ↔ (zfq cd st (2 * s - 2)).2 s = 0 := by
      constructor
      · intro e
        by_cases c : (zfq cd st (2 * s - 2)).2 s = 0
        · exact c
        · rw [zen_S c] at e; omega
      · intro e; rw [e, zen_0]
    rw [fl_X12_free_107, zi_le (by omega) (by omega), if_neg (by omega), zn_in2 (show s < 64 by omega) (by omega), zb_gd, zb_jn, zn_nat (show s < 2147483648 by omega), k2 s hs, zn_NW, zi_eq (by omega) (by omega)]
    by_cases c : (zfq cd st (2 * s - 2)).2 s = 0
    · rw [if_pos (hz.mpr c)]
      simp only []
      obtain ⟨d1, d2⟩ := zfq_skip2 (cd := cd) (st := st) h0 c
      rw [zb_let, zn_1, zn_add]
      exact ih (zn (zen zWW (zfq cd st (2 * s - 2)).1), w) ⟨by omega, by show zn _ = zn _; rw [d1], k1, fun v hvS => by show w 124 v = _; rw [d2, k2 v hvS]⟩
    · rw [if_neg (fun e => c (hz.mp e)), zn_0]
      refine zq_fr131 (st := st) (zCm_F (by decide) k1 h) hv h0 hs h1 h2 c k2 (fun I2 f2 g2 => ?_)
      simp only []
      rw [zb_let, zn_1, zn_add]
      exact ih (zn (zen zWW (zfq cd st (2 * s)).1), I2) ⟨by omega, rfl, zF_tr k1 f2, g2⟩
theorem zm_free {I : pd_I} {k : Nat} {cd : Nat → Nat} (h : zCm I k cd) (hv : zCv cd) : zT (fl_X12_free_31 (zn (2 ^ cd 1)) (fun zI4 => fl_X12_free_52 (zn k) (fun zI7 => fl_X12_free_98 (zn k) (zn (2 ^ cd 1)) (fun zx5 zI11 => some (zx5, zI11)) pd_FU 1000000000 (zn 0) zI7) pd_FU (zn 0) zI4) pd_FU (zn 0) I) (fun x => zF [124] I x.2 ∧ x.1 = zn (zen zWW (zfr cd (2 ^ cd 1)).1)) := by
  have hS := zCv_S hv
  have hE := zW_lt
  have hE1 := zE_W
  have hE2 := zE_big
  refine zq_fr31 hS.2 (fun I1 f1 g1 => ?_)
  have h1 := zCm_F (by decide) f1 h
  have n0 : fn_X12_next I1 (zn k) (zn 0) (zn 0) = some (zn 0) := by
    rw [zc_next h1 hv (by omega)]
    have := zen2_0 (cd := cd)
    unfold zen2 at this
    rw [Nat.zero_div, Nat.zero_mod] at this
    rw [this]
  have n1 : fn_X12_next I1 (zn k) (zn 0) (zn 1) = some (zn 1) := by
    rw [zc_next h1 hv (by omega)]
    have := zen2_1 hv
    unfold zen2 at this
    rw [show 1 / 2 = 0 from rfl, show 1 % 2 = 1 from rfl] at this
    rw [this]
  have w1 : fn_X12_weight I1 (zn k) (zn 0) (zn 1) = some (zn (zew cd 1)) := zm_wt h1 hv (by omega) (by omega)
  have h52 : ∀ kont : pd_I → Option (Int32 × pd_I), fl_X12_free_52 (zn k) kont pd_FU (zn 0) I1 = kont (pd_ui I1 124 1 (zn (zew cd 1))) := fun kont => by
    obtain ⟨F, hF⟩ : ∃ F, pd_FU = F + 3 := ⟨65533, rfl⟩
    rw [hF, fl_X12_free_52, zn_2, zn_0, zi_le (by omega) (by omega), if_neg (by omega), n0, zb_bd, if_pos rfl, zb_bd, zb_let, zn_1, zn_add, fl_X12_free_52, zn_2, zn_0, zi_le (by omega) (by omega), if_neg (by omega), Nat.zero_add, n1, zb_bd, zi_eq (by omega) (by omega), if_neg (by omega), zb_bd, w1, zb_bd, zn_in2 (show 1 < 64 by omega) (by omega), zb_gd, zn_nat (by omega), zb_let, zb_bd, zb_let, zn_1, zn_add, fl_X12_free_52, zn_2, if_pos (Int32.le_refl _)]
  rw [h52, zn_NW]
  have F1 : zF [124] I (pd_ui I1 124 1 (zn (zew cd 1))) := zF_u (by decide) f1
  refine zl_loop (fun fu j (s : Int32 × pd_I) => fl_X12_free_98 (zn k) (zn (2 ^ cd 1)) (fun zx5 zI11 => some (zx5, zI11)) fu s.1 j s.2) (2 ^ cd 1) (fun r s => s.1 = zn (zen zWW (zfr cd r).1) ∧ zF [124] I s.2 ∧ ∀ v, v < 2 ^ cd 1 → s.2 124 v = zn (zen zWW ((zfr cd r).2 v))) ?_ ?_ pd_FU 0 (zn zWW, pd_ui I1 124 1 (zn (zew cd 1))) (by omega) (zFU (by omega)) ⟨rfl, F1, fun v hvS => ?_⟩
  · rintro fu ⟨f, s⟩ ⟨rfl, k1, k2⟩
    try simp only [] at k1 k2 ⊢
    rw [fl_X12_free_98, if_pos (Int32.le_refl _)]
    exact ⟨_, rfl, k1, rfl⟩
  · rintro fu j ⟨f, s⟩ hj ⟨rfl, k1, k2⟩ ih
    try simp only [] at k1 k2 ih ⊢
    obtain ⟨b1, b2⟩ := zfr_le hv j
    rw [fl_X12_free_98, zi_le (by omega) (by omega), if_neg (by omega), zn_1]
    refine zq_fr107 (zCm_F (by decide) k1 h) hv (by omega) (fun v => by have := b2 v; omega) k2 (fun I2 f2 g2 => ?_)
    rw [zb_let, zn_add]
    exact ih (_, I2) ⟨rfl, zF_tr k1 f2, g2⟩
  · show pd_ui I1 124 1 (zn (zew cd 1)) 124 v = zn (zen zWW (if v = 1 then zew cd 1 + 1 else 0))
    rw [zu_same, zu_app]
    by_cases c : v = 1
    · rw [if_pos c, if_pos c]; rfl
    · rw [if_neg c, if_neg c, zen_0]; exact g1 v hvS
