/-! talk, after its demands, in the reference -/
theorem zq_talk351 {O : Type} {Q : O → Prop} {kont : pd_I → Option O} {I : pd_I} {n : Nat} {E : Nat → Int32} (hn2 : n ≤ 200) (hE : ∀ i, i < n → I 109 i = E i)
    (hK : ∀ I', zF [105] I I' → (∀ i, i < n → I' 105 i = zn (zsay (E i))) → zT (kont I') Q) : zT (fl_X12_talk_351 (zn n) kont pd_FU (zn 0) I) Q := by
  refine zl_loop (fun fu t (st : pd_I) => fl_X12_talk_351 (zn n) kont fu t st) n (fun t st => zF [105] I st ∧ ∀ i, i < t → st 105 i = zn (zsay (E i))) ?_ ?_ pd_FU 0 I (by omega) (zFU (by omega)) ⟨zF_rfl, fun t' h => absurd h (Nat.not_lt_zero _)⟩
  · rintro fu I1 ⟨hF, hD⟩
    try simp only []
    rw [fl_X12_talk_351, if_pos (by rw [zn_le (by omega) (by omega)]; omega)]
    exact hK I1 hF hD
  · rintro fu t I1 ht ⟨hF, hD⟩ ih
    try simp only [] at ih ⊢
    have e : I1 109 t = E t := by rw [hF 109 (by decide)]; exact hE t ht
    rw [fl_X12_talk_351, if_neg (by rw [zn_le (by omega) (by omega)]; omega), zn_in2 (show t < 200 by omega) (by omega), zb_gd, zn_nat (by omega), e, zsay_e, zb_bd, zn_in2 (show t < 1600 by omega) (by omega), zb_gd, zb_let, zb_let, zn_1, zn_add]
    refine ih _ ⟨zF_u (by decide) hF, fun i hi => ?_⟩
    rw [zu_same, zu_app]
    by_cases c : i = t
    · rw [if_pos c, c]
    · rw [if_neg c]; exact hD i (by omega)
def zLU : List Nat := [92, 105, 106, 107, 108, 109, 110, 115, 116, 117, 118, 121, 122, 123]
theorem zq_talkM {I : pd_I} {c r m n mo : Nat} {cd f : Nat → Nat} {T : Nat → Nat → Nat} (hC : zCm I c cd) (hv : zCv cd) (h5 : cd 0 = 5) (hr : zRom I r m f) (hT : zTam I T) (hn1 : 1 ≤ n) (hn2 : n ≤ 200) (hm1 : 1 ≤ mo) (hm10 : mo ≤ 10) (hinj : ∀ t, t < n → ∀ k, k < t → t * cd 5 % n ≠ k * cd 5 % n) (hmc : ∀ b, b < 2 → ∀ i, zmc m f T b i ≤ 1000) :
    zT (fl_X12_talk_91 (zn c) (zn r) (zn n) (fun zI8 => pd_let (pd_ui zI8 92 21 0) fun zI13 => fl_X12_talk_183 (zn c) (zn r) (zn n) (zn mo) (fun zx7 zI15 => pd_let (pd_ui zI15 92 19 (zn n)) fun zI25 => pd_let (pd_ui zI25 92 14 1) fun zI26 => pd_gd (pd_in 0 8) (pd_let (pd_ui zI26 106 (0 : Int32).toNatClampNeg 0) fun zI27 => pd_gd (pd_in 0 8) (pd_let (pd_ui zI27 107 (0 : Int32).toNatClampNeg 0) fun zI28 => pd_gd (pd_in 0 8) (pd_let (pd_ui zI28 108 (0 : Int32).toNatClampNeg (zn n)) fun zI29 => fl_X12_talk_351 (zn n) (fun zI31 => some (zx7, zI31)) pd_FU 0 zI29)))) pd_FU 0 zI13) pd_FU 0 I)
      (fun r => r.1 = zn (zru cd (zmc m f T) n mo).1 ∧ zF zLU I r.2 ∧ (∀ j, j ≠ 14 → j ≠ 19 → j ≠ 21 → r.2 92 j = I 92 j) ∧ r.2 92 14 = zn 1 ∧ r.2 92 19 = zn n ∧ r.2 92 21 = zn (zru cd (zmc m f T) n mo).2 ∧ (∀ i, i < n → r.2 109 i = zE1 cd (zmc m f T) n ((zru cd (zmc m f T) n mo).1 - 1) i) ∧ zWm r.2 0 (0, fun t => zsay (zE1 cd (zmc m f T) n ((zru cd (zmc m f T) n mo).1 - 1) t), 0) n) := by
  rw [zn_0]
  refine zq_talk91 hC hv hr hT hn2 (fun I1 hF1 hN1 hS1 => ?_)
  rw [zb_let]
  obtain ⟨I2, hI2⟩ : ∃ I2, I2 = pd_ui I1 92 21 (zn 0) := ⟨_, rfl⟩
  rw [← hI2]
  have hF2 : zF [92] I1 I2 := by rw [hI2]; exact zF_u (by decide) zF_rfl
  have hF12 : zF [92, 121, 122] I I2 := zF_tr (zF_sub hF1 (by decide)) (zF_sub hF2 (by decide))
  have g2 : ∀ j, j ≠ 21 → I2 92 j = I 92 j := fun j hj => by rw [hI2, zu_same, zu_nat hj, hF1 92 (by decide)]
  have hS2 : zSy I2 cd (zmc m f T) n := by unfold zSy; rw [hF2 122 (by decide)]; exact hS1
  refine zq_talk183 (zCm_F (by decide) hF12 hC) hv h5 (zRom_F (by decide) (by decide) hF12 hr) (zTam_F (by decide) (by decide) hF12 hT) hn1 hn2 hm1 hm10 hinj hS2 (fun i hi => by rw [hF2 121 (by decide)]; exact hN1 i hi) hmc (by rw [hI2, zu_same, zu_at]) (fun I3 hF3 g3 h21 h109 => ?_)
  have hi8 : pd_in (zn 0) 8 = true := zn_in2 (by omega) (by omega)
  rw [zb_let, zb_let, hi8, zb_gd, zb_let, zb_gd, zb_let, zb_gd, zb_let]
  have hz0 : (zn 0).toNatClampNeg = 0 := zn_nat (by omega)
  rw [hz0]
  obtain ⟨I4, hI4⟩ : ∃ I4, I4 = pd_ui (pd_ui (pd_ui (pd_ui (pd_ui I3 92 19 (zn n)) 92 14 1) 106 0 (zn 0)) 107 0 (zn 0)) 108 0 (zn n) := ⟨_, rfl⟩
  rw [← hI4]
  have hF4 : zF [92, 106, 107, 108] I3 I4 := by rw [hI4]; exact zF_u (by decide) (zF_u (by decide) (zF_u (by decide) (zF_u (by decide) (zF_u (by decide) zF_rfl))))
  have e92 : I4 92 = upd (upd (I3 92) 19 (zn n)) 14 1 := by
    rw [hI4, zu_ne (show (92 : Nat) ≠ 108 by decide), zu_ne (show (92 : Nat) ≠ 107 by decide), zu_ne (show (92 : Nat) ≠ 106 by decide), zu_same, zu_same]
  have e108 : I4 108 0 = zn n := by rw [hI4, zu_same, zu_at]
  have e107 : I4 107 0 = zn 0 := by rw [hI4, zu_ne (show (107 : Nat) ≠ 108 by decide), zu_same, zu_at]
  have e106 : I4 106 0 = zn 0 := by rw [hI4, zu_ne (show (106 : Nat) ≠ 108 by decide), zu_ne (show (106 : Nat) ≠ 107 by decide), zu_same, zu_at]
  refine zq_talk351 (E := zE1 cd (zmc m f T) n ((zru cd (zmc m f T) n mo).1 - 1)) hn2 (fun i hi => by rw [hF4 109 (by decide)]; exact h109 i hi) (fun I5 hF5 hbits => ⟨_, rfl, rfl, ?_, ?_, ?_, ?_, ?_, ?_, ?_⟩)
  · exact zF_tr (zF_sub hF12 (by decide)) (zF_tr (zF_sub hF3 (by decide)) (zF_tr (zF_sub hF4 (by decide)) (zF_sub hF5 (by decide))))
  · intro j h1 h2 h3
    show I5 92 j = I 92 j
    rw [hF5 92 (by decide), e92, zu_nat h1, zu_nat h2, g3 j h3, g2 j h3]
  · show I5 92 14 = zn 1
    rw [hF5 92 (by decide), e92, zu_at, zn_1]
  · show I5 92 19 = zn n
    rw [hF5 92 (by decide), e92, zu_nat (by omega), zu_at]
  · show I5 92 21 = _
    rw [hF5 92 (by decide), e92, zu_nat (by omega), zu_nat (by omega)]; exact h21
  · intro i hi
    show I5 109 i = _
    rw [hF5 109 (by decide), hF4 109 (by decide)]; exact h109 i hi
  · show zWm I5 0 _ n
    unfold zWm
    rw [hF5 106 (by decide), hF5 107 (by decide), hF5 108 (by decide), e106, e107, e108]
    exact ⟨rfl, rfl, rfl, fun t ht => by rw [show 200 * 0 + t = t by omega]; exact hbits t ht⟩
