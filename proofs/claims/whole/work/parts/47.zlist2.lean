/-! lists of the reference -/
theorem zq_lists103 {O : Type} {Q : O → Prop} {kont : pd_I → Option O} {I : pd_I} {c nn k begin c0 : Nat} {cd E F : Nat → Nat} {P : Nat → Nat → Nat} {W0 : Nat → Nat × (Nat → Nat) × Nat} (h : zCm I c cd) (hv : zCv cd) (hn2 : nn ≤ 200) (hk : 1 ≤ k) (hk8 : k ≤ 8) (hE : ∀ s, E s ≤ 1) (hP : ∀ t e, P t e ≤ 10000) (hF1 : ∀ s, F s ≤ 100000)
    (hL : zLvM I 0 (2 ^ cd 1) (zLs cd P k nn E F nn)) (hO : zOnM I cd P k nn E F nn) (hb : begin < 2 ^ cd 1) (hM : zMl I nn k c0 W0)
    (hK : ∀ I', zF [92, 105, 106, 107, 108, 128] I I' → zG I I' → zMl I' nn k (zof nn k (zwy cd P k nn E F begin) c0 W0 (zLs cd P k nn E F nn begin).1).1 (zof nn k (zwy cd P k nn E F begin) c0 W0 (zLs cd P k nn E F nn begin).1).2.1 → zT (kont I') Q) :
    zT (fl_X12_lists_103 (zn c) (zn nn) (zn k) (zn begin) kont pd_FU (zn 1) (zn 0) I) Q := by
  have hS := zCv_S hv
  have hN8 : (zLs cd P k nn E F nn begin).1 ≤ 8 := Nat.le_trans (zLs_cnt hk hE _ _) hk8
  have hcount := (hL begin hb).1
  rw [show 64 * 0 + begin = begin by omega] at hcount
  refine zl_loop (fun fu r (st : Int32 × pd_I) => fl_X12_lists_103 (zn c) (zn nn) (zn k) (zn begin) kont fu st.1 r st.2) (zLs cd P k nn E F nn begin).1 (fun r st => st.1 = zn (zof nn k (zwy cd P k nn E F begin) c0 W0 r).2.2 ∧ zF [92, 105, 106, 107, 108, 128] I st.2 ∧ zG I st.2 ∧ zMl st.2 nn k (zof nn k (zwy cd P k nn E F begin) c0 W0 r).1 (zof nn k (zwy cd P k nn E F begin) c0 W0 r).2.1) ?_ ?_ pd_FU 0 (zn 1, I) (by omega) (zFU (by omega)) ⟨rfl, zF_rfl, fun _ _ => rfl, hM⟩
  · rintro fu ⟨kp, I'⟩ ⟨e1, hF, hG, hM'⟩
    try simp only [] at e1 hF hG hM' ⊢
    have e111 : I' 111 begin = zn (zLs cd P k nn E F nn begin).1 := by rw [hF 111 (by decide)]; exact hcount
    rw [fl_X12_lists_103, zn_in2 (by omega) (by omega), zb_gd, zn_nat (by omega), e111, if_pos (by rw [zn_le (by omega) (by omega)]; omega), zb_bd, if_neg (by decide)]
    exact hK I' hF hG hM'
  · rintro fu r ⟨kp, I'⟩ hr ⟨e1, hF, hG, hM'⟩ ih
    try simp only [] at e1 hF hG hM' ih ⊢
    have e111 : I' 111 begin = zn (zLs cd P k nn E F nn begin).1 := by rw [hF 111 (by decide)]; exact hcount
    obtain ⟨q1, q2⟩ := zof_k (n := nn) (wy := zwy cd P k nn E F begin) (W0 := W0) hM.2.1 r
    rw [fl_X12_lists_103, zn_in2 (by omega) (by omega), zb_gd, zn_nat (by omega), e111, if_neg (by rw [zn_le (by omega) (by omega)]; omega), e1, zn_0, zi_eq (by omega) (by omega)]
    by_cases d : (zof nn k (zwy cd P k nn E F begin) c0 W0 r).2.2 = 0
    · rw [if_pos d, zb_bd, if_neg (by decide)]
      have hst := zof_stick d ((zLs cd P k nn E F nn begin).1 - r)
      rw [show r + ((zLs cd P k nn E F nn begin).1 - r) = (zLs cd P k nn E F nn begin).1 by omega] at hst
      have hKK := hK I' hF hG
      rw [hst] at hKK
      exact hKK hM'
    · rw [if_neg d, zb_bd, if_pos rfl, zT_bd2]
      have hcd := zCm_F (by decide) hF h
      have hL' : zLvM I' 0 (2 ^ cd 1) (zLs cd P k nn E F nn) := by unfold zLvM; rw [hF 111 (by decide), hF 112 (by decide)]; exact hL
      have hO' : zOnM I' cd P k nn E F nn := by unfold zOnM; rw [hF 113 (by decide), hF 114 (by decide)]; exact hO
      refine zT_mono (zq_joins hcd hv hn2 hk hk8 hE hP hF1 hL' hO' hb hr hM') (fun r4 ⟨s1, s2, s3, s4⟩ => ?_)
      rw [zb_let, zn_1, zn_add]
      have hz : zof nn k (zwy cd P k nn E F begin) c0 W0 (r + 1) = (if k ≤ (zof nn k (zwy cd P k nn E F begin) c0 W0 r).1 then (zof nn k (zwy cd P k nn E F begin) c0 W0 r).1 else (zof nn k (zwy cd P k nn E F begin) c0 W0 r).1 + 1, zbb nn (zof nn k (zwy cd P k nn E F begin) c0 W0 r).1 (zuw (zof nn k (zwy cd P k nn E F begin) c0 W0 r).2.1 (zof nn k (zwy cd P k nn E F begin) c0 W0 r).1 (zwy cd P k nn E F begin r)), if k ≤ zbp nn (zof nn k (zwy cd P k nn E F begin) c0 W0 r).1 (zuw (zof nn k (zwy cd P k nn E F begin) c0 W0 r).2.1 (zof nn k (zwy cd P k nn E F begin) c0 W0 r).1 (zwy cd P k nn E F begin r)) then 0 else 1) := by
        show (if _ then _ else _) = _
        rw [if_neg d]
      refine ih (r4.1, r4.2) ⟨?_, zF_tr hF s2, fun j hj => by show r4.2 92 j = _; rw [s3 j hj, hG j hj], ?_⟩
      · rw [hz]; exact s1
      · rw [hz]; exact s4
def zLM : List Nat := [92, 105, 106, 107, 108, 110, 111, 112, 113, 114, 128]
theorem zq_lists74 {O : Type} {Q : O → Prop} {kont : pd_I → Option O} {I : pd_I} {c nn k T : Nat} {cd : Nat → Nat} {P : Nat → Nat → Nat} (h : zCm I c cd) (hv : zCv cd) (h4 : cd 0 = 4) (hma : zMa I cd T P) (hT : T ≤ 206) (hnT : zst cd nn ≤ T) (hn1 : 1 ≤ nn) (hn2 : nn ≤ 200) (hk : 1 ≤ k) (hk8 : k ≤ 8) (hP : ∀ t e, P t e ≤ 10000) (h14 : I 92 14 = zn 0)
    (hK : ∀ I', zF [92, 105, 106, 107, 108, 111, 112, 113, 114, 128] I I' → zG I I' → zMl I' nn k (zfl cd P k nn (2 ^ cd 1)).1 (zfl cd P k nn (2 ^ cd 1)).2 → zT (kont I') Q) :
    zT (fl_X12_lists_74 (zn c) (zn nn) (zn k) kont pd_FU (zn 0) I) Q := by
  have hS := zCv_S hv
  have h6 : cd 1 ≤ 6 := hv.2.2.1
  have hc := h.1
  have hFb : ∀ s, zFn cd P nn s ≤ 100000 := fun s => Nat.le_trans (zFn_le hv hP) (by omega)
  refine zl_loop (fun fu b (st : pd_I) => fl_X12_lists_74 (zn c) (zn nn) (zn k) kont fu b st) (2 ^ cd 1) (fun b st => zF [92, 105, 106, 107, 108, 111, 112, 113, 114, 128] I st ∧ zG I st ∧ zMl st nn k (zfl cd P k nn b).1 (zfl cd P k nn b).2) ?_ ?_ pd_FU 0 I (by omega) (zFU (by omega)) ⟨zF_rfl, fun _ _ => rfl, h14, Nat.zero_le k, fun j hj => absurd hj (Nat.not_lt_zero j), fun j hj => absurd hj (Nat.not_lt_zero j)⟩
  · rintro fu I' ⟨hF, hG, hM⟩
    have hcd := zCm_F (by decide) hF h
    try simp only []
    rw [fl_X12_lists_74, zn_in2 hc (by omega), zb_gd, zn_nat (by omega), hcd.2.2.1, zn_1, zn_31, zn_1shl _ (by omega), if_pos (by rw [zn_le (by omega) (by omega)]; omega)]
    exact hK I' hF hG hM
  · rintro fu b I' hb ⟨hF, hG, hM⟩ ih
    have hcd := zCm_F (by decide) hF h
    have hma' := zMa_F (by decide) hF hma
    try simp only [] at ih ⊢
    rw [fl_X12_lists_74, zn_in2 hc (by omega), zb_gd, zn_nat (by omega), hcd.2.2.1, zn_1, zn_31, zn_1shl _ (by omega), if_neg (by rw [zn_le (by omega) (by omega)]; omega), zT_bd, zn_0]
    refine zT_mono (zq_rests (begin := b) hcd hv hma' hnT hT hn1 hn2 (by omega) hk hk8 hP) (fun I2 ⟨hF2, hL2, hO2⟩ => ?_)
    have hcd2 := zCm_F (by decide) hF2 hcd
    refine zq_lists103 (E := zEn cd b) (F := zFn cd P nn) hcd2 hv hn2 hk hk8 (fun s => zEn_le) hP hFb hL2 hO2 hb (zMl_F (by decide) (by decide) (by decide) (by decide) (by decide) hF2 hM) (fun I3 hF3 hG3 hM3 => ?_)
    rw [zb_let, zn_add]
    exact ih _ ⟨zF_tr hF (zF_tr (zF_sub hF2 (by decide)) (zF_sub hF3 (by decide))), fun j hj => by rw [hG3 j hj, hF2 92 (by decide), hG j hj], hM3⟩
theorem zq_lists {I : pd_I} {c r m nn k : Nat} {cd f : Nat → Nat} {T : Nat → Nat → Nat} (h : zCm I c cd) (hv : zCv cd) (hr : zRom I r m f) (hT : zTam I T) (hn1 : 1 ≤ nn) (hn2 : nn ≤ 200) (hk : 1 ≤ k) (hk8 : k ≤ 8) (hP : ∀ t e, zPp cd (zmc m f T) t e ≤ 10000) :
    zT (fn_X12_lists I (zn c) (zn r) (zn nn) (zn k)) (fun I' => zF zLM I I' ∧ zG I I' ∧ zMl I' nn k (zfl cd (zPp cd (zmc m f T)) k nn (zBg cd)).1 (zfl cd (zPp cd (zmc m f T)) k nn (zBg cd)).2) := by
  have hS := zCv_S hv
  have hst := zst_le (n := nn) hv
  have h0 : cd 0 ≤ 5 := hv.1
  have hc := h.1
  unfold fn_X12_lists
  rw [zT_bd]
  refine zT_mono (zq_costs h hv hr hT hn2) (fun I1 ⟨hF1, hma1⟩ => ?_)
  have hF2 : zF [92, 110] I (pd_ui I1 92 14 (zn 0)) := zF_u (by decide) (zF_sub hF1 (by decide))
  have hG2 : zG I (pd_ui I1 92 14 (zn 0)) := fun j hj => by rw [zu_same, zu_nat hj, hF1 92 (by decide)]
  have h14 : pd_ui I1 92 14 (zn 0) 92 14 = zn 0 := by rw [zu_same, zu_at]
  have hcd2 := zCm_F (by decide) hF2 h
  have hma2 : zMa (pd_ui I1 92 14 (zn 0)) cd (zst cd nn) (zPp cd (zmc m f T)) := zMa_F (L := [92]) (by decide) (zF_u (by decide) zF_rfl) hma1
  rw [zb_let, zn_0]
  obtain ⟨I2, hI2⟩ : ∃ I2, I2 = pd_ui I1 92 14 (zn 0) := ⟨_, rfl⟩
  rw [← hI2] at hF2 hG2 h14 hcd2 hma2 ⊢
  rw [zn_in2 hc (by omega), zb_gd, zn_nat (by omega), hcd2.2.1, zn_4, zi_eq (by omega) (by omega)]
  by_cases c4 : cd 0 = 4
  · rw [if_pos c4]
    refine zq_lists74 hcd2 hv c4 hma2 (by omega) (Nat.le_refl _) hn1 hn2 hk hk8 hP h14 (fun I3 hF3 hG3 hM3 => ?_)
    refine ⟨_, rfl, zF_tr (zF_sub hF2 (by decide)) (zF_sub hF3 (by decide)), fun j hj => by rw [hG3 j hj, hG2 j hj], ?_⟩
    rw [show zBg cd = 2 ^ cd 1 by unfold zBg; rw [if_pos c4]]
    exact hM3
  · rw [if_neg c4, zT_bd]
    have hB : zBg cd = 1 := by unfold zBg; rw [if_neg c4]
    have hFb : ∀ s, zFn cd (zPp cd (zmc m f T)) nn s ≤ 100000 := fun s => Nat.le_trans (zFn_le hv hP) (by omega)
    refine zT_mono (zq_rests (begin := 0) hcd2 hv hma2 (Nat.le_refl _) (by omega) hn1 hn2 (by omega) hk hk8 hP) (fun I3 ⟨hF3, hL3, hO3⟩ => ?_)
    have hN8 : (zLs cd (zPp cd (zmc m f T)) k nn (zEn cd 0) (zFn cd (zPp cd (zmc m f T)) nn) nn 0).1 ≤ k := zLs_cnt hk (fun s => zEn_le) _ _
    have hcount := (hL3 0 (by omega)).1
    rw [show 64 * 0 + 0 = 0 by omega] at hcount
    rw [zn_in2 (by omega) (by omega), zb_gd, zn_nat (by omega), hcount, zb_let]
    obtain ⟨I4, hI4⟩ : ∃ I4, I4 = pd_ui I3 92 14 (zn (zLs cd (zPp cd (zmc m f T)) k nn (zEn cd 0) (zFn cd (zPp cd (zmc m f T)) nn) nn 0).1) := ⟨_, rfl⟩
    rw [← hI4]
    have hF34 : zF [92] I3 I4 := by rw [hI4]; exact zF_u (by decide) zF_rfl
    have hG34 : zG I3 I4 := fun j hj => by rw [hI4, zu_same, zu_nat hj]
    have e14 : I4 92 14 = zn (zLs cd (zPp cd (zmc m f T)) k nn (zEn cd 0) (zFn cd (zPp cd (zmc m f T)) nn) nn 0).1 := by rw [hI4, zu_same, zu_at]
    have hcd4 := zCm_F (by decide) hF34 (zCm_F (by decide) hF3 hcd2)
    have hL4 : zLvM I4 0 (2 ^ cd 1) (zLs cd (zPp cd (zmc m f T)) k nn (zEn cd 0) (zFn cd (zPp cd (zmc m f T)) nn) nn) := by unfold zLvM; rw [hF34 111 (by decide), hF34 112 (by decide)]; exact hL3
    have hO4 : zOnM I4 cd (zPp cd (zmc m f T)) k nn (zEn cd 0) (zFn cd (zPp cd (zmc m f T)) nn) nn := by unfold zOnM; rw [hF34 113 (by decide), hF34 114 (by decide)]; exact hO3
    have hF04 : zF zLM I I4 := zF_tr (zF_sub hF2 (by decide)) (zF_tr (zF_sub hF3 (by decide)) (zF_sub hF34 (by decide)))
    have hG04 : zG I I4 := fun j hj => by rw [hG34 j hj, hF3 92 (by decide), hG2 j hj]
    refine zl_loop (fun fu i (st : pd_I) => fl_X12_lists_44 (zn c) (zn nn) (fun zI12 => some zI12) fu i st) (zLs cd (zPp cd (zmc m f T)) k nn (zEn cd 0) (zFn cd (zPp cd (zmc m f T)) nn) nn 0).1 (fun i st => zF [105, 106, 107, 108] I4 st ∧ zRepM st (zwy cd (zPp cd (zmc m f T)) k nn (zEn cd 0) (zFn cd (zPp cd (zmc m f T)) nn) 0) i nn) ?_ ?_ pd_FU 0 I4 (by omega) (zFU (by omega)) ⟨zF_rfl, fun j hj => absurd hj (Nat.not_lt_zero j)⟩
    · rintro fu I' ⟨hF, hR⟩
      try simp only []
      rw [fl_X12_lists_44, hF 92 (by decide), e14, if_pos (by rw [zn_le (by omega) (by omega)]; omega)]
      refine ⟨_, rfl, zF_tr hF04 (zF_sub hF (by decide)), fun j hj => by rw [hF 92 (by decide), hG04 j hj], ?_⟩
      obtain ⟨o1, o2, o3⟩ := zof_sorted (n := nn) (W0 := fun _ => (0, fun _ => 0, 0)) hN8 (fun q hq => zah_sorted hk (fun s => zEn_le) hq) _ (Nat.le_refl _)
      rw [hB]
      refine zMl_W (W := zwy cd (zPp cd (zmc m f T)) k nn (zEn cd 0) (zFn cd (zPp cd (zmc m f T)) nn) 0) (fun j hj => o3 j (by rw [← o1]; exact hj)) ?_
      have o1' : (zfl cd (zPp cd (zmc m f T)) k nn 1).1 = _ := o1
      rw [o1']
      refine ⟨by rw [hF 92 (by decide)]; exact e14, hN8, hR, fun j hj => zwy_b hP hFb hn2 (by omega) hj⟩
    · rintro fu i I' hi ⟨hF, hR⟩ ih
      try simp only [] at ih ⊢
      have hcd' := zCm_F (by decide) hF hcd4
      have hL' : zLvM I' 0 (2 ^ cd 1) (zLs cd (zPp cd (zmc m f T)) k nn (zEn cd 0) (zFn cd (zPp cd (zmc m f T)) nn) nn) := by unfold zLvM; rw [hF 111 (by decide), hF 112 (by decide)]; exact hL4
      have hO' : zOnM I' cd (zPp cd (zmc m f T)) k nn (zEn cd 0) (zFn cd (zPp cd (zmc m f T)) nn) nn := by unfold zOnM; rw [hF 113 (by decide), hF 114 (by decide)]; exact hO4
      rw [fl_X12_lists_44, hF 92 (by decide), e14, if_neg (by rw [zn_le (by omega) (by omega)]; omega), zT_bd, zn_0]
      refine zT_mono (zq_tells (place := i) (rank := i) (begin := 0) hcd' hv hn2 hk hk8 (fun s => zEn_le) hL' hO' (by omega) (by omega) hi) (fun I5 ⟨hF5, hX5, hj5, h105⟩ => ?_)
      rw [zb_let, zn_1, zn_add]
      refine ih _ ⟨zF_tr hF hF5, fun j hj => ?_⟩
      have hRt := zRepM_t hX5 hn2 hj5 h105 i (W := zwy cd (zPp cd (zmc m f T)) k nn (zEn cd 0) (zFn cd (zPp cd (zmc m f T)) nn) 0) (fun j h1 _ => hR j h1) j (by omega)
      unfold zuw at hRt
      by_cases e : j = i
      · rw [if_pos e] at hRt; rw [e]; rw [e] at hRt; exact hRt
      · rw [if_neg e] at hRt; exact hRt
