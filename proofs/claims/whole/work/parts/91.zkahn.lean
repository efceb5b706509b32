/-! weights of edges; the STATES taken away one behind the other (class) -/
def zwt (cd : Nat → Nat) (s x : Nat) : Nat → Nat
  | 0 => 0
  | k + 1 => zwt cd s x k + zsg cd s x k
def zew (cd : Nat → Nat) (e : Nat) : Nat := zwt cd (e / 2) (e % 2) (cd 2)
def zen2 (cd : Nat → Nat) (e : Nat) : Nat := znx cd (e / 2) (e % 2)
def zsl (cd : Nat → Nat) (e : Nat) : Nat := if zew cd e = 0 ∧ ¬ (e / 2 = 0 ∧ zen2 cd e = 0) then 1 else 0
theorem zsl_le {cd : Nat → Nat} {e : Nat} : zsl cd e ≤ 1 := by unfold zsl; split <;> omega
theorem zwt_le {cd : Nat → Nat} {s x : Nat} (hx : x < 2) : ∀ k, zwt cd s x k ≤ k
  | 0 => Nat.le_refl 0
  | k + 1 => by
    have := zwt_le (cd := cd) (s := s) hx k
    have := zsg_lt (cd := cd) (s := s) (o := k) hx
    show zwt cd s x k + zsg cd s x k ≤ k + 1
    omega
theorem zew_le {cd : Nat → Nat} {e : Nat} (hv : zCv cd) : zew cd e ≤ 4 := by
  have h := zwt_le (cd := cd) (s := e / 2) (show e % 2 < 2 by omega) (cd 2)
  have := hv.2.2.2.2.1
  unfold zew
  omega
theorem zen2_lt {cd : Nat → Nat} {e : Nat} : zen2 cd e < 2 ^ cd 1 := znx_lt
def zpop (w : Nat) : Nat := w % 2 + w / 2 % 2 + w / 4 % 2 + w / 8 % 2
theorem zpop_c : ∀ w < 16, fn_J6_bitCount_0f7a4 (zn w) = some (zn (zpop w)) := by decide +kernel
theorem zpop_w {cd : Nat → Nat} {s x : Nat} (hx : x < 2) {k : Nat} (h2 : 2 ≤ k) (h4 : k ≤ 4) : zwo cd s x k < 16 ∧ zpop (zwo cd s x k) = zwt cd s x k := by
  have hl := zwo_lt (cd := cd) (s := s) hx k
  have hb := zwo_bit (cd := cd) (s := s) hx k h4
  have hk : k = 2 ∨ k = 3 ∨ k = 4 := by omega
  unfold zpop
  rcases hk with e | e | e <;> subst e
  · have a0 := hb 0 (by omega)
    have a1 := hb 1 (by omega)
    generalize zwo cd s x 2 = w at *
    show w < 16 ∧ _ = 0 + zsg cd s x 0 + zsg cd s x 1
    omega
  · have a0 := hb 0 (by omega)
    have a1 := hb 1 (by omega)
    have a2 := hb 2 (by omega)
    generalize zwo cd s x 3 = w at *
    show w < 16 ∧ _ = 0 + zsg cd s x 0 + zsg cd s x 1 + zsg cd s x 2
    omega
  · have a0 := hb 0 (by omega)
    have a1 := hb 1 (by omega)
    have a2 := hb 2 (by omega)
    have a3 := hb 3 (by omega)
    generalize zwo cd s x 4 = w at *
    show w < 16 ∧ _ = 0 + zsg cd s x 0 + zsg cd s x 1 + zsg cd s x 2 + zsg cd s x 3
    omega
theorem zp_wt {I : pd_I} {cd : Nat → Nat} {e : Nat} (hv : zCv cd) (hD : zLD I cd (2 * 2 ^ cd 1)) (he : e < 2 * 2 ^ cd 1) : fn_X7_weightOf I (zn e) = some (zn (zew cd e)) := by
  have hS := zCv_S hv
  obtain ⟨-, h2⟩ := hD e he
  obtain ⟨p1, p2⟩ := zpop_w (cd := cd) (s := e / 2) (show e % 2 < 2 by omega) hv.2.2.2.1 hv.2.2.2.2.1
  unfold fn_X7_weightOf
  rw [zn_in2 (show e < 128 by omega) (by omega), zb_gd, zn_nat (by omega), h2, zpop_c _ p1, zb_bd, p2]
  rfl
theorem zp_nx {I : pd_I} {cd : Nat → Nat} {e : Nat} (hD : zLD I cd (2 * 2 ^ cd 1)) (he : e < 2 * 2 ^ cd 1) : I 12 e = zn (zen2 cd e) := (hD e he).1
theorem zp_silent {I : pd_I} {cd : Nat → Nat} {e : Nat} (hv : zCv cd) (hD : zLD I cd (2 * 2 ^ cd 1)) (he : e < 2 * 2 ^ cd 1) : fn_X7_isSilent I (zn e) = some (zn (zsl cd e)) := by
  have hS := zCv_S hv
  have hw := zew_le (e := e) hv
  have hnx := zen2_lt (cd := cd) (e := e)
  unfold fn_X7_isSilent zsl
  rw [zp_wt hv hD he, zb_bd, zn_0, zi_eq (by omega) (by omega), zn_2, zn_div (by omega) (by omega), zi_eq (by omega) (by omega), zn_in2 (show e < 128 by omega) (by omega), zb_gd, zn_nat (by omega), zp_nx hD he, zi_eq (by omega) (by omega)]
  by_cases a : zew cd e = 0
  · rw [if_pos a]
    by_cases b : e / 2 = 0
    · rw [if_pos b]
      by_cases c : zen2 cd e = 0
      · rw [if_pos c, zb_bd, if_neg (by decide), if_neg (fun h => h.2 ⟨b, c⟩), zb_bd, zn_bo0, zb_gd]
      · rw [if_neg c, zb_bd, if_pos rfl, if_pos ⟨a, fun h => c h.2⟩, zb_bd, zn_1, zn_bo1, zb_gd]
    · rw [if_neg b, zb_bd, if_pos rfl, if_pos ⟨a, fun h => b h.1⟩, zb_bd, zn_1, zn_bo1, zb_gd]
  · rw [if_neg a, zb_bd, if_neg (by decide), if_neg (fun h => a h.1), zb_bd, zn_bo0, zb_gd]
/-! sums -/
theorem zcy_1 {F G : Nat → Nat} {s d : Nat} : ∀ n, s < n → (∀ i, i < n → i ≠ s → G i = F i) → G s = F s + d → zcy G n = zcy F n + d
  | 0, h, _, _ => absurd h (Nat.not_lt_zero s)
  | n + 1, h, h1, h2 => by
    show zcy G n + G n = zcy F n + F n + d
    by_cases e : s = n
    · subst e
      rw [zcy_c s (fun i hi => h1 i (by omega) (by omega)), h2]
      omega
    · rw [zcy_1 n (by omega) (fun i hi hne => h1 i (by omega) hne) h2, h1 n (by omega) (fun x => e x.symm)]
      omega
theorem zcy_0 {F : Nat → Nat} : ∀ n, zcy F n = 0 → ∀ i, i < n → F i = 0
  | 0, _, i, hi => absurd hi (Nat.not_lt_zero i)
  | n + 1, h, i, hi => by
    have h' : zcy F n + F n = 0 := h
    by_cases e : i = n
    · subst e; omega
    · exact zcy_0 n (by omega) i (by omega)
theorem zcy_p {F : Nat → Nat} : ∀ n, zcy F n ≠ 0 → ∃ i, i < n ∧ F i ≠ 0
  | 0, h => absurd rfl h
  | n + 1, h => by
    have h' : zcy F n + F n ≠ 0 := h
    by_cases e : F n = 0
    · obtain ⟨i, hi, hF⟩ := zcy_p n (F := F) (by omega)
      exact ⟨i, by omega, hF⟩
    · exact ⟨n, by omega, e⟩
theorem zcy_n {F : Nat → Nat} (h : ∀ i, F i ≤ 1) : ∀ n, zcy F n ≤ n
  | 0 => Nat.le_refl 0
  | n + 1 => by
    have := zcy_n h n
    have := h n
    show zcy F n + F n ≤ n + 1
    omega
/-- how many silent edges that are not done lead to v, of the first n -/
def zWt (cd dn : Nat → Nat) (v n : Nat) : Nat := zcy (fun e => if zsl cd e = 1 ∧ zen2 cd e = v ∧ dn e = 0 then 1 else 0) n
theorem zWt_le {cd dn : Nat → Nat} {v n : Nat} : zWt cd dn v n ≤ n := zcy_n (fun i => by split <;> omega) n
theorem zpg {S cnt v : Nat} {ord : Nat → Nat} (h1 : ∀ j, j < cnt → ord j < S) (h2 : ∀ j, j < cnt → ∀ k, k < j → ord j ≠ ord k) (hv : v < S) (hn : ∀ j, j < cnt → ord j ≠ v) : cnt < S := by
  by_cases c : cnt < S
  · exact c
  · obtain ⟨t, ht, e⟩ := zpigeon S ord (fun t ht => h1 t (by omega)) (fun t ht k hk => h2 t (by omega) k hk) v hv
    exact absurd e (hn t (by omega))
def zKI (I : pd_I) (cd dn : Nat → Nat) (cnt : Nat) (ord : Nat → Nat) (A : Nat → Prop) : Prop := (I 54 2 = zn cnt) ∧ (∀ j, j < cnt → I 55 j = zn (ord j) ∧ ord j < 2 ^ cd 1) ∧ (∀ j, j < cnt → ∀ k, k < j → ord j ≠ ord k) ∧ (∀ j, j < cnt → zWt cd dn (ord j) (2 * 2 ^ cd 1) = 0) ∧ (∀ b, b < cnt → ∀ e, e < 2 * 2 ^ cd 1 → zsl cd e = 1 → zen2 cd e = ord b → ∃ a, a < b ∧ ord a = e / 2) ∧ (∀ v, v < 2 ^ cd 1 → I 56 v = zn (zWt cd dn v (2 * 2 ^ cd 1))) ∧ (∀ e, e < 2 * 2 ^ cd 1 → dn e ≠ 0 → ∃ a, a < cnt ∧ ord a = e / 2) ∧ (∀ v, v < 2 ^ cd 1 → zWt cd dn v (2 * 2 ^ cd 1) = 0 → (∃ j, j < cnt ∧ ord j = v) ∨ A v)
theorem zKI.cn {I : pd_I} {cd dn : Nat → Nat} {cnt : Nat} {ord : Nat → Nat} {A : Nat → Prop} (K : zKI I cd dn cnt ord A) : I 54 2 = zn cnt := K.1
theorem zKI.od {I : pd_I} {cd dn : Nat → Nat} {cnt : Nat} {ord : Nat → Nat} {A : Nat → Prop} (K : zKI I cd dn cnt ord A) : ∀ j, j < cnt → I 55 j = zn (ord j) ∧ ord j < 2 ^ cd 1 := K.2.1
theorem zKI.ij {I : pd_I} {cd dn : Nat → Nat} {cnt : Nat} {ord : Nat → Nat} {A : Nat → Prop} (K : zKI I cd dn cnt ord A) : ∀ j, j < cnt → ∀ k, k < j → ord j ≠ ord k := K.2.2.1
theorem zKI.wz {I : pd_I} {cd dn : Nat → Nat} {cnt : Nat} {ord : Nat → Nat} {A : Nat → Prop} (K : zKI I cd dn cnt ord A) : ∀ j, j < cnt → zWt cd dn (ord j) (2 * 2 ^ cd 1) = 0 := K.2.2.2.1
theorem zKI.tp {I : pd_I} {cd dn : Nat → Nat} {cnt : Nat} {ord : Nat → Nat} {A : Nat → Prop} (K : zKI I cd dn cnt ord A) : ∀ b, b < cnt → ∀ e, e < 2 * 2 ^ cd 1 → zsl cd e = 1 → zen2 cd e = ord b → ∃ a, a < b ∧ ord a = e / 2 := K.2.2.2.2.1
theorem zKI.wt {I : pd_I} {cd dn : Nat → Nat} {cnt : Nat} {ord : Nat → Nat} {A : Nat → Prop} (K : zKI I cd dn cnt ord A) : ∀ v, v < 2 ^ cd 1 → I 56 v = zn (zWt cd dn v (2 * 2 ^ cd 1)) := K.2.2.2.2.2.1
theorem zKI.dn {I : pd_I} {cd dn : Nat → Nat} {cnt : Nat} {ord : Nat → Nat} {A : Nat → Prop} (K : zKI I cd dn cnt ord A) : ∀ e, e < 2 * 2 ^ cd 1 → dn e ≠ 0 → ∃ a, a < cnt ∧ ord a = e / 2 := K.2.2.2.2.2.2.1
theorem zKI.cp {I : pd_I} {cd dn : Nat → Nat} {cnt : Nat} {ord : Nat → Nat} {A : Nat → Prop} (K : zKI I cd dn cnt ord A) : ∀ v, v < 2 ^ cd 1 → zWt cd dn v (2 * 2 ^ cd 1) = 0 → (∃ j, j < cnt ∧ ord j = v) ∨ A v := K.2.2.2.2.2.2.2
theorem zq_addIfFree {I : pd_I} {cd dn ord : Nat → Nat} {cnt v : Nat} {A : Nat → Prop} (hv : zCv cd) (K : zKI I cd dn cnt ord A) (hvS : v < 2 ^ cd 1) (hn : ∀ j, j < cnt → ord j ≠ v) :
    zT (fn_X7_addIfFree I (zn v)) (fun I' => zF [54, 55] I I' ∧ ∃ cnt' ord', (∀ j, j < cnt → ord' j = ord j) ∧ cnt ≤ cnt' ∧ (∀ j, cnt ≤ j → j < cnt' → ord' j = v) ∧ zKI I' cd dn cnt' ord' (fun u => A u ∧ u ≠ v)) := by
  have hS := zCv_S hv
  have hlt := zpg (fun j hj => (K.od j hj).2) K.ij hvS hn
  have hW := zWt_le (cd := cd) (dn := dn) (v := v) (n := 2 * 2 ^ cd 1)
  unfold fn_X7_addIfFree
  rw [zn_in2 (show v < 64 by omega) (by omega), zb_gd, zn_nat (by omega), K.wt v hvS, zn_0, zi_eq (by omega) (by omega), K.cn]
  by_cases c : zWt cd dn v (2 * 2 ^ cd 1) = 0
  · rw [if_pos c, zn_64, zi_le (by omega) (by omega), if_neg (by omega), zb_bd, if_pos rfl, zn_in2 (show cnt < 64 by omega) (by omega), zb_gd, zn_nat (by omega), zb_let, zu_ne (by decide), K.cn, zn_1, zn_add, zb_let, zb_bd]
    have e0 : ∀ j, j < cnt → (if j = cnt then v else ord j) = ord j := fun j hj => if_neg (by omega)
    refine ⟨_, rfl, zF_u (by simp) (zF_u (by simp) zF_rfl), cnt + 1, fun j => if j = cnt then v else ord j, e0, by omega, fun j h1 h2 => if_pos (by omega), ?_⟩
    refine ⟨?_, ?_, ?_, ?_, ?_, ?_, ?_, ?_⟩
    · rw [zu_same, zu_at]
    · intro j hj
      rw [zu_ne (by decide), zu_same, zu_app]
      show (if j = cnt then zn v else I 55 j) = zn (if j = cnt then v else ord j) ∧ (if j = cnt then v else ord j) < _
      by_cases d : j = cnt
      · rw [if_pos d, if_pos d]; exact ⟨rfl, hvS⟩
      · rw [if_neg d, if_neg d]; exact K.od j (by omega)
    · intro j hj k hk
      show (if j = cnt then v else ord j) ≠ (if k = cnt then v else ord k)
      rw [if_neg (show k ≠ cnt by omega)]
      by_cases d : j = cnt
      · rw [if_pos d]; exact fun e => hn k (by omega) e.symm
      · rw [if_neg d]; exact K.ij j (by omega) k hk
    · intro j hj
      show zWt cd dn (if j = cnt then v else ord j) _ = 0
      by_cases d : j = cnt
      · rw [if_pos d]; exact c
      · rw [if_neg d]; exact K.wz j (by omega)
    · intro b hb e he h1 h2
      have h2' : zen2 cd e = if b = cnt then v else ord b := h2
      show ∃ a, a < b ∧ (if a = cnt then v else ord a) = e / 2
      by_cases d : b = cnt
      · rw [if_pos d] at h2'
        have hz := zcy_0 _ c e he
        have hd : dn e ≠ 0 := fun hh => by
          have hz' : (if zsl cd e = 1 ∧ zen2 cd e = v ∧ dn e = 0 then 1 else 0) = 0 := hz
          rw [if_pos ⟨h1, h2', hh⟩] at hz'
          omega
        obtain ⟨a, ha, hae⟩ := K.dn e he hd
        exact ⟨a, by omega, by rw [if_neg (by omega)]; exact hae⟩
      · rw [if_neg d] at h2'
        obtain ⟨a, ha, hae⟩ := K.tp b (by omega) e he h1 h2'
        exact ⟨a, ha, by rw [if_neg (by omega)]; exact hae⟩
    · intro u hu
      rw [zu_ne (by decide), zu_ne (by decide)]
      exact K.wt u hu
    · intro e he hd
      obtain ⟨a, ha, hae⟩ := K.dn e he hd
      exact ⟨a, by omega, by show (if a = cnt then v else ord a) = e / 2; rw [if_neg (by omega)]; exact hae⟩
    · intro u hu hz
      by_cases d : u = v
      · exact Or.inl ⟨cnt, by omega, by show (if cnt = cnt then v else ord cnt) = u; rw [if_pos rfl, d]⟩
      · rcases K.cp u hu hz with ⟨j, hj, e⟩ | h
        · exact Or.inl ⟨j, by omega, by show (if j = cnt then v else ord j) = u; rw [if_neg (by omega)]; exact e⟩
        · exact Or.inr ⟨h, d⟩
  · rw [if_neg c, zb_bd, if_neg (by decide), zb_bd]
    refine ⟨_, rfl, zF_rfl, cnt, ord, fun _ _ => rfl, Nat.le_refl _, fun j h1 h2 => by omega, K.cn, K.od, K.ij, K.wz, K.tp, K.wt, K.dn, fun u hu hz => ?_⟩
    rcases K.cp u hu hz with h | h
    · exact Or.inl h
    · exact Or.inr ⟨h, fun e => c (by rw [← e]; exact hz)⟩
