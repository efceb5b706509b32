/-! talk, after its demands, in the class -/
theorem zq_talk151 {O : Type} {Q : O → Prop} {kont : pd_I → Option O} {I : pd_I} {w n : Nat} {E : Nat → Int32} (hw : pd_isWay w = true) (hn2 : n ≤ 200) (hE : ∀ i, i < n → I 53 i = E i)
    (hK : ∀ I', zF [59, w + 1] I I' → (∀ i, i < n → I' 59 i = E i) → (∀ i, i < n → I' (w + 1) i = zn (zsay (E i))) → zT (kont I') Q) : zT (fl_X11_talk_151 (zn n) w kont pd_FU (zn 0) I) Q := by
  obtain ⟨w1, w2, w3⟩ := zw_way hw
  refine zl_loop (fun fu t (st : pd_I) => fl_X11_talk_151 (zn n) w kont fu t st) n (fun t st => zF [59, w + 1] I st ∧ ∀ i, i < t → st 59 i = E i ∧ st (w + 1) i = zn (zsay (E i))) ?_ ?_ pd_FU 0 I (by omega) (zFU (by omega)) ⟨zF_rfl, fun t' h => absurd h (Nat.not_lt_zero _)⟩
  · rintro fu I1 ⟨hF, hD⟩
    try simp only []
    rw [fl_X11_talk_151, if_pos (by rw [zn_le (by omega) (by omega)]; omega)]
    exact hK I1 hF (fun i hi => (hD i hi).1) (fun i hi => (hD i hi).2)
  · rintro fu t I1 ht ⟨hF, hD⟩ ih
    try simp only [] at ih ⊢
    have e53 : I1 53 t = E t := by rw [hF 53 (by intro h; simp at h; omega)]; exact hE t ht
    have hs := zsay_lt (x := E t)
    have hls : fn_X8_lastSeeming I1 (zn t) = some (E t) := by
      unfold fn_X8_lastSeeming
      rw [zn_in2 (show t < 200 by omega) (by omega), zb_gd, zn_nat (by omega), e53]
    rw [fl_X11_talk_151, if_neg (by rw [zn_le (by omega) (by omega)]; omega), hls, zb_bd, zn_in2 (show t < 200 by omega) (by omega), zb_gd, zn_nat (by omega), zb_let, zb_gd, zu_same, zu_at, zsay_e, zb_bd, zb_gd, zb_let, zb_let, zn_by8 _ (by omega), zn_1, zn_add]
    refine ih _ ⟨zF_u (by simp) (zF_u (by simp) hF), fun i hi => ?_⟩
    rw [zu_ne (show (59 : Nat) ≠ w + 1 by omega), zu_same, zu_same, zu_ne (show w + 1 ≠ 59 by omega), zu_app, zu_app]
    by_cases c : i = t
    · rw [if_pos c, if_pos c, c]; exact ⟨rfl, rfl⟩
    · rw [if_neg c, if_neg c]; exact hD i (by omega)
