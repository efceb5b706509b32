/-! the class's read: Kahn's order -/
theorem zl_wh {S O : Type} {Q : O → Prop} (F : Nat → Int32 → S → Option O) (N : Nat) (Inv : Nat → S → Prop)
    (hstep : ∀ fu k s, Inv k s → k ≤ N ∧ (zT (F (fu + 1) (zn k) s) Q ∨ (k < N ∧ ((∀ s', Inv (k + 1) s' → zT (F fu (zn (k + 1)) s') Q) → zT (F (fu + 1) (zn k) s) Q)))) :
    ∀ fu k s, N < fu + k → Inv k s → zT (F fu (zn k) s) Q
  | 0, k, s, h, hI => by
    have := (hstep 0 k s hI).1
    omega
  | fu + 1, k, s, h, hI => by
    rcases (hstep fu k s hI).2 with h1 | ⟨h1, h2⟩
    · exact h1
    · exact h2 (fun s' hs' => zl_wh F N Inv hstep fu (k + 1) s' (by omega) hs')
theorem zKI_A {I : pd_I} {cd dn : Nat → Nat} {cnt : Nat} {ord : Nat → Nat} {A B : Nat → Prop} (K : zKI I cd dn cnt ord A) (h : ∀ u, u < 2 ^ cd 1 → A u → B u) : zKI I cd dn cnt ord B :=
  ⟨K.cn, K.od, K.ij, K.wz, K.tp, K.wt, K.dn, fun v hv hz => (K.cp v hv hz).elim Or.inl (fun a => Or.inr (h v hv a))⟩
def zLk : List Nat := [54, 55, 56]
theorem zLD_F {L : List Nat} {I I' : pd_I} {cd : Nat → Nat} {k : Nat} (h1 : 12 ∉ L) (h2 : 13 ∉ L) (h : zF L I I') (q : zLD I cd k) : zLD I' cd k := by
  unfold zLD; rw [h 12 h1, h 13 h2]; exact q
theorem zq_read10 {O : Type} {Q : O → Prop} {I : pd_I} {cd : Nat → Nat} {kont : pd_I → Option O} (hv : zCv cd) (e3 : I 11 3 = zn (2 ^ cd 1)) (hK : ∀ I', zF [56] I I' → (∀ v, v < 2 ^ cd 1 → I' 56 v = zn 0) → zT (kont I') Q) : zT (fl_X7_read_10 kont pd_FU (zn 0) I) Q := by
  have hS := zCv_S hv
  refine zl_loop (fun fu j (s : pd_I) => fl_X7_read_10 kont fu j s) (2 ^ cd 1) (fun j s => zF [56] I s ∧ ∀ v, v < j → s 56 v = zn 0) ?_ ?_ pd_FU 0 _ (by omega) (zFU (by omega)) ⟨zF_rfl, fun i hi => by omega⟩
  · rintro fu s ⟨h1, h2⟩
    rw [fl_X7_read_10, h1 11 (by decide), e3, if_pos (Int32.le_refl _)]
    exact hK s h1 h2
  · rintro fu j s hj ⟨h1, h2⟩ ih
    rw [fl_X7_read_10, h1 11 (by decide), e3, zi_le (by omega) (by omega), if_neg (by omega), zn_in2 (show j < 64 by omega) (by omega), zb_gd, zn_nat (by omega), zb_let, zb_let, zn_1, zn_add]
    refine ih _ ⟨zF_u (by simp) h1, fun v hv => ?_⟩
    rw [zu_same, zu_app]
    by_cases c : v = j
    · rw [if_pos c, zn_0]
    · rw [if_neg c]; exact h2 v (by omega)
theorem zq_read36 {O : Type} {Q : O → Prop} {I : pd_I} {cd : Nat → Nat} {kont : pd_I → Option O} (hv : zCv cd) (e3 : I 11 3 = zn (2 ^ cd 1)) (hD : zLD I cd (2 * 2 ^ cd 1)) (h0 : ∀ v, v < 2 ^ cd 1 → I 56 v = zn 0) (hK : ∀ I', zF [56] I I' → (∀ v, v < 2 ^ cd 1 → I' 56 v = zn (zWt cd (fun _ => 0) v (2 * 2 ^ cd 1))) → zT (kont I') Q) : zT (fl_X7_read_36 kont pd_FU (zn 0) I) Q := by
  have hS := zCv_S hv
  refine zl_loop (fun fu j (s : pd_I) => fl_X7_read_36 kont fu j s) (2 * 2 ^ cd 1) (fun j s => zF [56] I s ∧ ∀ v, v < 2 ^ cd 1 → s 56 v = zn (zWt cd (fun _ => 0) v j)) ?_ ?_ pd_FU 0 _ (by omega) (zFU (by omega)) ⟨zF_rfl, fun v hv => h0 v hv⟩
  · rintro fu s ⟨h1, h2⟩
    rw [fl_X7_read_36, h1 11 (by decide), e3, zn_2, zn_mul, if_pos (Int32.le_refl _)]
    exact hK s h1 h2
  · rintro fu j s hj ⟨h1, h2⟩ ih
    have hD' := zLD_F (by decide) (by decide) h1 hD
    have hnx := zen2_lt (cd := cd) (e := j)
    rw [fl_X7_read_36, h1 11 (by decide), e3, zn_2, zn_mul, zi_le (by omega) (by omega), if_neg (by omega), zn_in2 (show j < 128 by omega) (by omega), zb_gd, zn_nat (by omega), zp_nx hD' hj, zn_in2 (show zen2 cd j < 64 by omega) (by omega), zb_gd, zp_silent hv hD' hj, zb_bd, zc_b01 (by have := zsl_le (cd := cd) (e := j); omega), zb_bd, zb_gd, zn_nat (by omega), h2 _ hnx, zn_add, zb_let, zb_let, zn_1, zn_add]
    refine ih _ ⟨zF_u (by simp) h1, fun v hvS => ?_⟩
    have e : zWt cd (fun _ => 0) v (j + 1) = zWt cd (fun _ => 0) v j + (if zsl cd j = 1 ∧ zen2 cd j = v ∧ 0 = 0 then 1 else 0) := rfl
    rw [zu_same, zu_app, e]
    by_cases c : v = zen2 cd j
    · rw [if_pos c]
      by_cases d : zsl cd j = 1
      · rw [if_pos ⟨d, c.symm, rfl⟩, d, c]
      · rw [if_neg (fun h => d h.1), show zsl cd j = 0 by have := zsl_le (cd := cd) (e := j); omega, c]
    · rw [if_neg c, if_neg (fun h => c h.2.1.symm)]
      exact h2 v hvS
theorem zq_read92 {O : Type} {Q : O → Prop} {I : pd_I} {cd : Nat → Nat} {kont : pd_I → Option O} (hv : zCv cd) (e3 : I 11 3 = zn (2 ^ cd 1)) (hK0 : zKI I cd (fun _ => 0) 0 (fun _ => 0) (fun _ => True)) (hK : ∀ I' cnt ord, zF [54, 55] I I' → zKI I' cd (fun _ => 0) cnt ord (fun _ => False) → zT (kont I') Q) : zT (fl_X7_read_92 kont pd_FU (zn 0) I) Q := by
  have hS := zCv_S hv
  refine zl_loop (fun fu j (s : pd_I) => fl_X7_read_92 kont fu j s) (2 ^ cd 1) (fun j s => zF [54, 55] I s ∧ ∃ cnt ord, zKI s cd (fun _ => 0) cnt ord (fun u => j ≤ u) ∧ ∀ i, i < cnt → ord i < j) ?_ ?_ pd_FU 0 _ (by omega) (zFU (by omega)) ⟨zF_rfl, 0, fun _ => 0, zKI_A hK0 (fun u _ _ => Nat.zero_le u), fun i hi => by omega⟩
  · rintro fu s ⟨h1, cnt, ord, K, h2⟩
    rw [fl_X7_read_92, h1 11 (by decide), e3, if_pos (Int32.le_refl _)]
    exact hK s cnt ord h1 (zKI_A K (fun u hu h => by omega))
  · rintro fu j s hj ⟨h1, cnt, ord, K, h2⟩ ih
    rw [fl_X7_read_92, h1 11 (by decide), e3, zi_le (by omega) (by omega), if_neg (by omega), zT_bd]
    refine zT_mono (zq_addIfFree hv K hj (fun i hi e => by have := h2 i hi; omega)) (fun I' ⟨f1, cnt', ord', g1, g2, g3, K'⟩ => ?_)
    rw [zb_let, zn_1, zn_add]
    refine ih _ ⟨zF_tr h1 f1, cnt', ord', zKI_A K' (fun u _ h => by omega), fun i hi => ?_⟩
    by_cases c : i < cnt
    · rw [g1 i c]; have := h2 i c; omega
    · rw [g3 i (by omega) hi]; omega
theorem zWt_done {cd dn : Nat → Nat} {e0 v n : Nat} (he : e0 < n) (h0 : dn e0 = 0) : zWt cd dn v n = zWt cd (fun e => if e = e0 then 1 else dn e) v n + (if zsl cd e0 = 1 ∧ zen2 cd e0 = v then 1 else 0) := by
  unfold zWt
  refine zcy_1 (s := e0) n he (fun i hi hne => ?_) ?_
  · show (if zsl cd i = 1 ∧ zen2 cd i = v ∧ dn i = 0 then 1 else 0) = (if zsl cd i = 1 ∧ zen2 cd i = v ∧ (if i = e0 then 1 else dn i) = 0 then 1 else 0)
    rw [if_neg hne]
  · show (if zsl cd e0 = 1 ∧ zen2 cd e0 = v ∧ dn e0 = 0 then 1 else 0) = (if zsl cd e0 = 1 ∧ zen2 cd e0 = v ∧ (if e0 = e0 then 1 else dn e0) = 0 then 1 else 0) + _
    rw [if_neg (show ¬ (zsl cd e0 = 1 ∧ zen2 cd e0 = v ∧ (if e0 = e0 then 1 else dn e0) = 0) from fun h => by have := h.2.2; rw [if_pos rfl] at this; omega), Nat.zero_add]
    by_cases c : zsl cd e0 = 1 ∧ zen2 cd e0 = v
    · rw [if_pos ⟨c.1, c.2, h0⟩, if_pos c]
    · rw [if_neg (fun h => c ⟨h.1, h.2.1⟩), if_neg c]
theorem zq_read133 {O : Type} {Q : O → Prop} {I : pd_I} {cd dn ord : Nat → Nat} {cnt i : Nat} {kont : pd_I → Option O} (hv : zCv cd) (hD : zLD I cd (2 * 2 ^ cd 1)) (hi : i < cnt) (K : zKI I cd dn cnt ord (fun _ => False)) (hdn : ∀ e, e < 2 * 2 ^ cd 1 → (dn e ≠ 0 ↔ ∃ j, j < i ∧ ord j = e / 2))
    (hK : ∀ I' dn' cnt' ord', zF zLk I I' → i < cnt' → zKI I' cd dn' cnt' ord' (fun _ => False) → (∀ e, e < 2 * 2 ^ cd 1 → (dn' e ≠ 0 ↔ ∃ j, j < i + 1 ∧ ord' j = e / 2)) → zT (kont I') Q) : zT (fl_X7_read_144 (zn i) kont pd_FU (zn (2 * ord i)) I) Q := by
  have hS := zCv_S hv
  obtain ⟨u, hu⟩ : ∃ u, u = ord i := ⟨_, rfl⟩
  have huS : u < 2 ^ cd 1 := by rw [hu]; exact (K.od i hi).2
  have hcS : ∀ (s : pd_I) (dn' ord' : Nat → Nat) (cnt' : Nat) (A : Nat → Prop), zKI s cd dn' cnt' ord' A → cnt' ≤ 2 ^ cd 1 := fun s dn' ord' cnt' A K' => by
    by_cases c : cnt' ≤ 2 ^ cd 1
    · exact c
    · have h1 := fun j (hj : j < 2 ^ cd 1) => (K'.od j (by omega)).2
      obtain ⟨t, ht, e⟩ := zpigeon (2 ^ cd 1) ord' h1 (fun t ht k hk => K'.ij t (by omega) k hk) (ord' (2 ^ cd 1)) (K'.od _ (by omega)).2
      exact absurd e.symm (K'.ij (2 ^ cd 1) (by omega) t ht)
  rw [← hu]
  refine zl_loop (fun fu j (s : pd_I) => fl_X7_read_144 (zn i) kont fu j s) (2 * u + 2) (fun j s => 2 * u ≤ j ∧ zF zLk I s ∧ ∃ dn' cnt' ord', i < cnt' ∧ ord' i = u ∧ zKI s cd dn' cnt' ord' (fun _ => False) ∧ ∀ e, e < 2 * 2 ^ cd 1 → (dn' e ≠ 0 ↔ (∃ j, j < i ∧ ord' j = e / 2) ∨ e / 2 = u ∧ e < j)) ?_ ?_ pd_FU (2 * u) _ (by omega) (zFU (by omega)) ⟨Nat.le_refl _, zF_rfl, dn, cnt, ord, hi, hu.symm, K, fun e he => ⟨fun h => Or.inl ((hdn e he).mp h), fun h => h.elim (hdn e he).mpr (fun h => by omega)⟩⟩
  · rintro fu s ⟨-, h1, dn', cnt', ord', h2, h3, K', h4⟩
    have hc := hcS s dn' ord' cnt' _ K'
    rw [fl_X7_read_144, zn_in2 (show i < 64 by omega) (by omega), zb_gd, zn_nat (by omega), (K'.od i h2).1, h3, zn_2, zn_1, zn_mul, zn_add, zi_lt (by omega) (by omega), if_pos (by omega)]
    refine hK s dn' cnt' ord' h1 h2 K' (fun e he => ?_)
    rw [h4 e he]
    constructor
    · rintro (⟨j, hj, e1⟩ | ⟨e1, e2⟩)
      · exact ⟨j, by omega, e1⟩
      · exact ⟨i, by omega, by rw [h3, e1]⟩
    · rintro ⟨j, hj, e1⟩
      by_cases c : j = i
      · subst c; exact Or.inr ⟨by rw [← e1, h3], by omega⟩
      · exact Or.inl ⟨j, by omega, e1⟩
  · rintro fu j s hj ⟨h0, h1, dn', cnt', ord', h2, h3, K', h4⟩ ih
    have hc := hcS s dn' ord' cnt' _ K'
    have hD' := zLD_F (by decide) (by decide) h1 hD
    have hjS : j < 2 * 2 ^ cd 1 := by omega
    have hju : j / 2 = u := by omega
    have hnx := zen2_lt (cd := cd) (e := j)
    have hd0 : dn' j = 0 := by
      by_cases c : dn' j = 0
      · exact c
      · rcases (h4 j hjS).mp c with ⟨k, hk, e1⟩ | ⟨-, e2⟩
        · exact absurd (by rw [h3, e1, hju]) (K'.ij i h2 k hk)
        · omega
    rw [fl_X7_read_144, zn_in2 (show i < 64 by omega) (by omega), zb_gd, zn_nat (by omega), (K'.od i h2).1, h3, zn_2, zn_1, zn_mul, zn_add, zi_lt (by omega) (by omega), if_neg (by omega), zp_silent hv hD' hjS, zb_bd]
    have hpr : ∀ ord2 : Nat → Nat, (∀ k, k < cnt' → ord2 k = ord' k) → ∀ e, e < 2 * 2 ^ cd 1 → ((if e = j then 1 else dn' e) ≠ 0 ↔ (∃ k, k < i ∧ ord2 k = e / 2) ∨ e / 2 = u ∧ e < j + 1) := fun ord2 ho e he => by
      by_cases c : e = j
      · rw [if_pos c]
        exact ⟨fun _ => Or.inr ⟨by rw [c, hju], by omega⟩, fun _ => by omega⟩
      · rw [if_neg c, h4 e he]
        constructor
        · rintro (⟨k, hk, e1⟩ | ⟨e1, e2⟩)
          · exact Or.inl ⟨k, hk, by rw [ho k (by omega), e1]⟩
          · exact Or.inr ⟨e1, by omega⟩
        · rintro (⟨k, hk, e1⟩ | ⟨e1, e2⟩)
          · exact Or.inl ⟨k, hk, by rw [← ho k (by omega), e1]⟩
          · exact Or.inr ⟨e1, by omega⟩
    by_cases c : zsl cd j = 1
    · have hWj := zWt_done (cd := cd) (v := zen2 cd j) hjS hd0
      rw [if_pos ⟨c, rfl⟩] at hWj
      rw [c, if_neg (show ¬ zn 1 = 0 from zn_p0), zn_in2 (show j < 128 by omega) (by omega), zb_gd, zn_nat (show j < 2147483648 by omega), zp_nx hD' hjS, zn_in2 (show zen2 cd j < 64 by omega) (by omega), zb_gd, zb_gd, zn_nat (by omega), K'.wt _ hnx, zn_sub (by omega), zb_let, zb_gd, zu_ne (by decide), zp_nx hD' hjS, zT_bd, zT_bd]
      have K2 : zKI (pd_ui s 56 (zen2 cd j) (zn (zWt cd dn' (zen2 cd j) (2 * 2 ^ cd 1) - 1))) cd (fun e => if e = j then 1 else dn' e) cnt' ord' (fun v => v = zen2 cd j) := by
        refine ⟨by rw [zu_ne (by decide)]; exact K'.cn, fun k hk => by rw [zu_ne (by decide)]; exact K'.od k hk, K'.ij, fun k hk => ?_, K'.tp, fun v hvS => ?_, fun e he hd => ?_, fun v hvS hz => ?_⟩
        · have a := zWt_done (cd := cd) (v := ord' k) hjS hd0
          have b := K'.wz k hk
          omega
        · have a := zWt_done (cd := cd) (v := v) hjS hd0
          rw [zu_same, zu_app]
          by_cases d : v = zen2 cd j
          · rw [if_pos d, d, hWj, Nat.add_sub_cancel]
          · rw [if_neg d, K'.wt v hvS, a, if_neg (fun h => d h.2.symm), Nat.add_zero]
        · by_cases d : e = j
          · exact ⟨i, h2, by rw [h3, d, hju]⟩
          · exact K'.dn e he (by have hd' : (if e = j then 1 else dn' e) ≠ 0 := hd; rw [if_neg d] at hd'; exact hd')
        · by_cases d : v = zen2 cd j
          · exact Or.inr d
          · have a := zWt_done (cd := cd) (v := v) hjS hd0
            rw [if_neg (fun h => d h.2.symm), Nat.add_zero] at a
            rcases K'.cp v hvS (by rw [a]; exact hz) with h | h
            · exact Or.inl h
            · exact h.elim
      refine zT_mono (zq_addIfFree hv K2 hnx (fun k hk e => ?_)) (fun I' ⟨f1, cnt2, ord2, k1, k2, k3, K3⟩ => ?_)
      · have b := K'.wz k hk
        rw [e, hWj] at b
        omega
      · rw [zT_some, zb_let, zn_add]
        exact ih I' ⟨by omega, zF_tr h1 (zF_tr (zF_u (by decide) zF_rfl) (zF_sub f1 (by decide))), fun e => if e = j then 1 else dn' e, cnt2, ord2, by omega, by rw [k1 i h2, h3], zKI_A K3 (fun v _ h => h.2 h.1), hpr ord2 k1⟩
    · have c0 : zsl cd j = 0 := by have := zsl_le (cd := cd) (e := j); omega
      rw [c0, if_pos (show zn 0 = 0 from rfl), zb_bd, zb_let, zn_add]
      refine ih s ⟨by omega, h1, fun e => if e = j then 1 else dn' e, cnt', ord', h2, h3, ?_, hpr ord' (fun _ _ => rfl)⟩
      have a : ∀ v, zWt cd dn' v (2 * 2 ^ cd 1) = zWt cd (fun e => if e = j then 1 else dn' e) v (2 * 2 ^ cd 1) := fun v => by
        have a := zWt_done (cd := cd) (v := v) hjS hd0
        rw [if_neg (fun h => c h.1), Nat.add_zero] at a
        exact a
      refine ⟨K'.cn, K'.od, K'.ij, fun k hk => by rw [← a]; exact K'.wz k hk, K'.tp, fun v hvS => by rw [← a]; exact K'.wt v hvS, fun e he hd => ?_, fun v hvS hz => K'.cp v hvS (by rw [a]; exact hz)⟩
      by_cases d : e = j
      · exact ⟨i, h2, by rw [h3, d, hju]⟩
      · exact K'.dn e he (by have hd' : (if e = j then 1 else dn' e) ≠ 0 := hd; rw [if_neg d] at hd'; exact hd')
