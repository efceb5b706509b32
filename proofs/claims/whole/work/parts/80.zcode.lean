/-! code -/
theorem zb_bc5 {α β γ δ ε ζ : Type} {a : α} {b : β} {c : γ} {d : δ} {e : ε} {h : String → Option ζ} {f : α → β → γ → δ → ε → Option ζ} : pd_bc5 (some (.ok (a, b, c, d, e))) h f = f a b c d e := (rfl)
theorem zb_bc5e {α β γ δ ε ζ : Type} {s : String} {h : String → Option ζ} {f : α → β → γ → δ → ε → Option ζ} : pd_bc5 (some (.error s)) h f = h s := (rfl)
def zO5 (c : Option (Int32 × pd_I × pd_J × pd_R × Nat)) (r : pd_I → Option (Int32 × pd_I)) : Prop := ∃ e I1 J Z n v I', c = some (e, I1, J, Z, n) ∧ r I1 = some (v, I') ∧ I' 92 0 = e ∧ (e = 0 → J 132 0 = v.toInt64) ∧ zCI I' Z n
theorem zrg_y {α : Type} {p : Int32} {a b : Nat} (ha : a < 2147483648) (hb : b < 2147483648) (h : ¬ zrg p a b) (y x : α) : (if p < zn a then y else if p ≤ zn b then x else y) = y := by
  by_cases c : p < zn a
  · rw [if_pos c]
  · rw [if_neg c]
    by_cases d : p ≤ zn b
    · exact absurd (zrg_of ha hb c d) h
    · rw [if_neg d]
theorem zrg_x {α : Type} {p : Int32} {a b : Nat} (hb : b < 2147483648) (h : zrg p a b) (y x : α) : (if p < zn a then y else if p ≤ zn b then x else y) = x := by
  obtain ⟨k, rfl, h1, h2⟩ := h
  rw [zi_lt (by omega) (by omega), if_neg (by omega), zi_le (by omega) (by omega), if_pos h2]
theorem zrg_u {α : Type} {p : Int32} {a b : Nat} (ha : a < 2147483648) (hb : b < 2147483648) (h : ¬ zrg p a b) (y x : α) : (if p < zn a then y else if zn b < p then y else x) = y := by
  by_cases c : p < zn a
  · rw [if_pos c]
  · rw [if_neg c]
    by_cases d : p ≤ zn b
    · exact absurd (zrg_of ha hb c d) h
    · rw [if_pos (Int32.not_le.mp d)]
theorem zrg_v {α : Type} {p : Int32} {a b : Nat} (hb : b < 2147483648) (h : zrg p a b) (y x : α) : (if p < zn a then y else if zn b < p then y else x) = x := by
  obtain ⟨k, rfl, h1, h2⟩ := h
  rw [zi_lt (by omega) (by omega), if_neg (by omega), zi_lt (by omega) (by omega), if_neg (by omega)]
def zcd (kd cl ou : Nat) : Nat → Nat := fun x => if x = 0 then kd else if x = 1 then cl else if x = 2 then ou else if x = 3 then 0 else if x = 4 then 1 else if x = 5 then 1 else if x < 11 then 1 else if x = 11 then 2 ^ (if kd = 5 then 2 * ou - 1 else ou) - 1 else 0
theorem zcd_w {kd ou : Nat} (h : ou ≤ 4) : (if kd = 5 then 2 * ou - 1 else ou) ≤ 7 := by split <;> omega
theorem zcd_t {kd cl ou o : Nat} (ho : o < 4) : zcd kd cl ou (7 + o) = 1 := by
  unfold zcd
  rw [if_neg (by omega), if_neg (by omega), if_neg (by omega), if_neg (by omega), if_neg (by omega), if_neg (by omega), if_pos (by omega)]
theorem zcd_k {kd cl ou i : Nat} : zcd kd cl ou (11 + i) = if i = 0 then 2 ^ (if kd = 5 then 2 * ou - 1 else ou) - 1 else 0 := by
  unfold zcd
  rw [if_neg (by omega), if_neg (by omega), if_neg (by omega), if_neg (by omega), if_neg (by omega), if_neg (by omega), if_neg (by omega)]
  by_cases c : i = 0
  · rw [if_pos (by omega), if_pos c]
  · rw [if_neg (by omega), if_neg c]
theorem zCv_cd {kd cl ou : Nat} (h1 : kd ≤ 5) (h2 : 1 ≤ cl) (h3 : cl ≤ 6) (h4 : 2 ≤ ou) (h5 : ou ≤ 4) : zCv (zcd kd cl ou) := by
  refine ⟨h1, h2, h3, h4, h5, ?_, ?_, ?_, ?_, ?_, fun o ho => by rw [zcd_t ho]; omega, fun i hi => ?_⟩
  · show 0 < 64; omega
  · show 1 ≤ 1; omega
  · show 1 ≤ 8; omega
  · show 1 ≤ 1; omega
  · show 1 ≤ 199; omega
  · rw [zcd_k]
    have := zp7 (zcd_w (kd := kd) h5)
    split <;> omega
theorem zcd_K {kd ou : Nat} (h1 : kd ≤ 5) (h4 : 2 ≤ ou) (h5 : ou ≤ 4) : ((1 : Int32) <<< ((if zn kd = 5 then 2 * zn ou - 1 else zn ou) &&& 31)) - 1 = zn (2 ^ (if kd = 5 then 2 * ou - 1 else ou) - 1) := by
  have hw := zcd_w (kd := kd) h5
  have e : (if zn kd = 5 then 2 * zn ou - 1 else zn ou) = zn (if kd = 5 then 2 * ou - 1 else ou) := by
    rw [zn_5, zi_eq (by omega) (by omega)]
    by_cases c : kd = 5
    · rw [if_pos c, if_pos c, zn_2, zn_1, zn_mul, zn_sub (by omega)]
    · rw [if_neg c, if_neg c]
  rw [e, zn_1, zn_31, zn_1shl _ (by omega), zn_sub (Nat.two_pow_pos _)]
theorem zic {I : pd_I} {n kd cl ou : Nat} (h1 : kd ≤ 5) (h4 : 2 ≤ ou) (h5 : ou ≤ 4) : (∀ b, b ≠ n → b ≠ n + 1 → b ≠ n + 2 → ic_X0_init n (zn kd) (zn cl) (zn ou) (pd_zi I n) b = I b) ∧ zCo (ic_X0_init n (zn kd) (zn cl) (zn ou) (pd_zi I n)) n (zcd kd cl ou) := by
  have t0 : (0 : Int32).toNatClampNeg = 0 := by decide
  have t1 : (1 : Int32).toNatClampNeg = 1 := by decide
  have t2 : (2 : Int32).toNatClampNeg = 2 := by decide
  have t3 : (3 : Int32).toNatClampNeg = 3 := by decide
  have a1 : n + 1 ≠ n := by omega
  have a2 : n + 1 + 1 ≠ n := by omega
  have a3 : n + 1 + 1 ≠ n + 1 := by omega
  have zz : ∀ (I : pd_I) (m b : Nat), pd_zi I m b = if b = m then fun _ => 0 else I b := fun _ _ _ => rfl
  unfold ic_X0_init
  rw [zcd_K h1 h4 h5, t0, t1, t2, t3]
  refine ⟨fun b h1 h2 h3 => ?_, ?_, ?_, ?_, ?_, ?_, ?_, fun o ho => ?_, fun i hi => ?_⟩
  · rw [zu_ne (show b ≠ n + 1 + 1 by omega), zu_ne h2, zu_ne h2, zu_ne h2, zu_ne h2, zu_ne h1, zu_ne h1, zu_ne h1, zz, if_neg (show b ≠ n + 1 + 1 by omega), zu_ne h1, zu_ne h1, zu_ne h1, zz, if_neg h2, zz, if_neg h1]
  · rw [zu_ne a2.symm, zu_ne a1.symm, zu_ne a1.symm, zu_ne a1.symm, zu_ne a1.symm, zu_same, zu_nat (by omega), zu_same, zu_nat (by omega), zu_same, zu_at]
    rfl
  · rw [zu_ne a2.symm, zu_ne a1.symm, zu_ne a1.symm, zu_ne a1.symm, zu_ne a1.symm, zu_same, zu_nat (by omega), zu_same, zu_at]
    rfl
  · rw [zu_ne a2.symm, zu_ne a1.symm, zu_ne a1.symm, zu_ne a1.symm, zu_ne a1.symm, zu_same, zu_at]
    rfl
  · rw [zu_ne a2.symm, zu_ne a1.symm, zu_ne a1.symm, zu_ne a1.symm, zu_ne a1.symm, zu_same, zu_nat (by omega), zu_same, zu_nat (by omega), zu_same, zu_nat (by omega), zz, if_neg a2.symm, zu_same, zu_nat (by omega), zu_same, zu_nat (by omega), zu_same, zu_at]
    rfl
  · rw [zu_ne a2.symm, zu_ne a1.symm, zu_ne a1.symm, zu_ne a1.symm, zu_ne a1.symm, zu_same, zu_nat (by omega), zu_same, zu_nat (by omega), zu_same, zu_nat (by omega), zz, if_neg a2.symm, zu_same, zu_nat (by omega), zu_same, zu_at]
    rfl
  · rw [zu_ne a2.symm, zu_ne a1.symm, zu_ne a1.symm, zu_ne a1.symm, zu_ne a1.symm, zu_same, zu_nat (by omega), zu_same, zu_nat (by omega), zu_same, zu_nat (by omega), zz, if_neg a2.symm, zu_same, zu_at]
    rfl
  · rw [zcd_t ho, zu_ne a3.symm, zu_same, zu_app, zu_same, zu_app, zu_same, zu_app, zu_same, zu_app]
    have : o = 0 ∨ o = 1 ∨ o = 2 ∨ o = 3 := by omega
    rcases this with e | e | e | e <;> subst e <;> rfl
  · rw [zcd_k, show n + 2 = n + 1 + 1 from rfl, zu_same, zu_app]
    by_cases c : i = 0
    · rw [if_pos c, if_pos c]
    · rw [if_neg c, if_neg c, zu_ne a3, zu_ne a3, zu_ne a3, zu_ne a3, zu_ne a2, zu_ne a2, zu_ne a2, zz, if_pos rfl, zn_0]
theorem zq_code118 {O : Type} {Q : O → Prop} {I : pd_I} {k : Nat} {kont : pd_I → Option O} (hk : k < 12) (hK : ∀ I', zF [103] I I' → (∀ i, i < 4 → I' 103 (4 * k + i) = zn 1) → (∀ i, i < 4 * k ∨ 4 * k + 4 ≤ i → I' 103 i = I 103 i) → zT (kont I') Q) : zT (fl_X12_code_118 (zn k) kont pd_FU (zn 0) I) Q := by
  refine zl_loop (fun fu j (s : pd_I) => fl_X12_code_118 (zn k) kont fu j s) 4 (fun j s => zF [103] I s ∧ (∀ i, i < j → s 103 (4 * k + i) = zn 1) ∧ ∀ i, i < 4 * k ∨ 4 * k + 4 ≤ i → s 103 i = I 103 i) ?_ ?_ pd_FU 0 _ (by omega) (zFU (by omega)) ⟨zF_rfl, fun i hi => by omega, fun _ _ => rfl⟩
  · rintro fu s ⟨h1, h2, h3⟩
    rw [fl_X12_code_118, zn_4, if_pos (Int32.le_refl _)]
    exact hK s h1 h2 h3
  · rintro fu j s hj ⟨h1, h2, h3⟩ ih
    rw [fl_X12_code_118, zn_4, zi_le (by omega) (by omega), if_neg (by omega), zn_mul, zn_add, zn_in2 (show 4 * k + j < 48 by omega) (by omega), zb_gd, zn_nat (by omega), zb_let, zb_let, zn_1, zn_add]
    refine ih _ ⟨zF_u (by simp) h1, fun i hi => ?_, fun i hi => by rw [zu_same, zu_nat (by omega)]; exact h3 i hi⟩
    rw [zu_same, zu_app]
    by_cases c : i = j
    · rw [if_pos (by rw [c])]
    · rw [if_neg (by omega)]; exact h2 i (by omega)
theorem zq_code146 {O : Type} {Q : O → Prop} {I : pd_I} {k : Nat} {kont : pd_I → Option O} (hk : k < 12) (hK : ∀ I', zF [104] I I' → (∀ i, i < 8 → I' 104 (8 * k + i) = zn 0) → (∀ i, i < 8 * k ∨ 8 * k + 8 ≤ i → I' 104 i = I 104 i) → zT (kont I') Q) : zT (fl_X12_code_146 (zn k) kont pd_FU (zn 0) I) Q := by
  refine zl_loop (fun fu j (s : pd_I) => fl_X12_code_146 (zn k) kont fu j s) 8 (fun j s => zF [104] I s ∧ (∀ i, i < j → s 104 (8 * k + i) = zn 0) ∧ ∀ i, i < 8 * k ∨ 8 * k + 8 ≤ i → s 104 i = I 104 i) ?_ ?_ pd_FU 0 _ (by omega) (zFU (by omega)) ⟨zF_rfl, fun i hi => by omega, fun _ _ => rfl⟩
  · rintro fu s ⟨h1, h2, h3⟩
    rw [fl_X12_code_146, zn_8, if_pos (Int32.le_refl _)]
    exact hK s h1 h2 h3
  · rintro fu j s hj ⟨h1, h2, h3⟩ ih
    rw [fl_X12_code_146, zn_8, zi_le (by omega) (by omega), if_neg (by omega), zn_mul, zn_add, zn_in2 (show 8 * k + j < 96 by omega) (by omega), zb_gd, zn_nat (by omega), zb_let, zb_let, zn_1, zn_add]
    refine ih _ ⟨zF_u (by simp) h1, fun i hi => ?_, fun i hi => by rw [zu_same, zu_nat (by omega)]; exact h3 i hi⟩
    rw [zu_same, zu_app]
    by_cases c : i = j
    · rw [if_pos (by rw [c]), zn_0]
    · rw [if_neg (by omega)]; exact h2 i (by omega)
theorem zm_code {I : pd_I} {c kd cl ou : Nat} (hc : I 92 5 = zn c) (hc12 : c < 12) (h1 : kd ≤ 5) (h2 : 1 ≤ cl) (h3 : cl ≤ 6) (h4 : 2 ≤ ou) (h5 : ou ≤ 4) : zT (fn_X12_code I (zn kd) (zn cl) (zn ou)) (fun x => x.1 = zn c ∧ zF [92, 97, 98, 99, 100, 101, 102, 103, 104] I x.2 ∧ (∀ j, j ≠ 0 → j ≠ 5 → x.2 92 j = I 92 j) ∧ x.2 92 0 = zn 0 ∧ x.2 92 5 = zn (c + 1) ∧ (∀ x', 97 ≤ x' → x' ≤ 102 → ∀ j, j ≠ c → x.2 x' j = I x' j) ∧ (∀ i, i < 4 * c ∨ 4 * c + 4 ≤ i → x.2 103 i = I 103 i) ∧ (∀ i, i < 8 * c ∨ 8 * c + 8 ≤ i → x.2 104 i = I 104 i) ∧ zCm x.2 c (zcd kd cl ou)) := by
  obtain ⟨I1, hI1⟩ : ∃ I1, I1 = pd_ui I 92 0 (zn 0) := ⟨_, rfl⟩
  have h92 : I1 92 0 = zn 0 := by rw [hI1, z92_0]
  have hc1 : I1 92 5 = zn c := by rw [hI1, z92_j (by omega), hc]
  have hin := zn_in2 (show c < 12 by omega) (by omega)
  have hna := zn_nat (show c < 2147483648 by omega)
  unfold fn_X12_code
  rw [zn_0, zb_let, ← hI1, zn_1, zn_2, zn_4, zn_5, zrg_v (by omega) ⟨kd, rfl, by omega, h1⟩, zn_6, zrg_v (by omega) ⟨cl, rfl, h2, h3⟩, zrg_v (by omega) ⟨ou, rfl, h4, h5⟩, zb_bd, if_pos rfl, zb_bd, zr_ok h92, zb_bd2, if_neg zn_p0, hc1, zn_12, zi_eq (by omega) (by omega), if_neg (by omega), zb_let, hin, zb_gd, hna, zb_let, zb_gd, zb_let, zb_gd, zb_let, zb_gd, zb_let, zb_gd, zb_let, zb_gd, zb_let]
  obtain ⟨I2, hI2⟩ : ∃ I2, I2 = pd_ui (pd_ui (pd_ui (pd_ui (pd_ui (pd_ui I1 97 c (zn kd)) 98 c (zn cl)) 99 c (zn ou)) 100 c (zn 0)) 101 c (zn 1)) 102 c (zn 1) := ⟨_, rfl⟩
  rw [← hI2]
  have b0 : ∀ b, b ≠ 97 → b ≠ 98 → b ≠ 99 → b ≠ 100 → b ≠ 101 → b ≠ 102 → I2 b = I1 b := fun b a1 a2 a3 a4 a5 a6 => by rw [hI2, zu_ne a6, zu_ne a5, zu_ne a4, zu_ne a3, zu_ne a2, zu_ne a1]
  have e97 : I2 97 = upd (I 97) c (zn kd) := by rw [hI2, zu_ne (by decide), zu_ne (by decide), zu_ne (by decide), zu_ne (by decide), zu_ne (by decide), zu_same, hI1, z92_b (by decide)]
  have e98 : I2 98 = upd (I 98) c (zn cl) := by rw [hI2, zu_ne (by decide), zu_ne (by decide), zu_ne (by decide), zu_ne (by decide), zu_same, zu_ne (by decide), hI1, z92_b (by decide)]
  have e99 : I2 99 = upd (I 99) c (zn ou) := by rw [hI2, zu_ne (by decide), zu_ne (by decide), zu_ne (by decide), zu_same, zu_ne (by decide), zu_ne (by decide), hI1, z92_b (by decide)]
  have e100 : I2 100 = upd (I 100) c (zn 0) := by rw [hI2, zu_ne (by decide), zu_ne (by decide), zu_same, zu_ne (by decide), zu_ne (by decide), zu_ne (by decide), hI1, z92_b (by decide)]
  have e101 : I2 101 = upd (I 101) c (zn 1) := by rw [hI2, zu_ne (by decide), zu_same, zu_ne (by decide), zu_ne (by decide), zu_ne (by decide), zu_ne (by decide), hI1, z92_b (by decide)]
  have e102 : I2 102 = upd (I 102) c (zn 1) := by rw [hI2, zu_same, zu_ne (by decide), zu_ne (by decide), zu_ne (by decide), zu_ne (by decide), zu_ne (by decide), hI1, z92_b (by decide)]
  refine zq_code118 hc12 (fun I3 p1 p2 p3 => ?_)
  refine zq_code146 hc12 (fun I4 r1 r2 r3 => ?_)
  have g : ∀ b, b ≠ 103 → b ≠ 104 → I4 b = I2 b := fun b a1 a2 => by rw [r1 b (by simp; omega), p1 b (by simp; omega)]
  have g3 : I4 103 = I3 103 := r1 103 (by simp)
  have hwi : fn_X12_wide I4 (zn c) = some (zn (if kd = 5 then 2 * ou - 1 else ou)) := by
    unfold fn_X12_wide
    rw [hin, zb_gd, zb_gd, zb_gd, hna, g 97 (by decide) (by decide), g 99 (by decide) (by decide), e97, e99, zu_at, zu_at, zn_5, zi_eq (by omega) (by omega)]
    by_cases d : kd = 5
    · rw [if_pos d, if_pos d, zn_2, zn_1, zn_mul, zn_sub (by omega)]; rfl
    · rw [if_neg d, if_neg d]; rfl
  have hw7 := zcd_w (kd := kd) h5
  rw [hwi, zb_bd, zn_8, zn_mul, zn_in2 (show 8 * c < 96 by omega) (by omega), zb_gd, zn_nat (by omega), zb_let, zn_31, zn_1shl _ (by omega), zn_sub (Nat.two_pow_pos _), zu_ne (by decide), g 92 (by decide) (by decide), b0 92 (by decide) (by decide) (by decide) (by decide) (by decide) (by decide), hc1, zn_add, zb_let]
  have f0 : ∀ b, b ≠ 92 → b ≠ 104 → pd_ui (pd_ui I4 104 (8 * c) (zn (2 ^ (if kd = 5 then 2 * ou - 1 else ou) - 1))) 92 5 (zn (c + 1)) b = I4 b := fun b a1 a2 => by rw [zu_ne a1, zu_ne a2]
  have f4 : pd_ui (pd_ui I4 104 (8 * c) (zn (2 ^ (if kd = 5 then 2 * ou - 1 else ou) - 1))) 92 5 (zn (c + 1)) 104 = upd (I4 104) (8 * c) (zn (2 ^ (if kd = 5 then 2 * ou - 1 else ou) - 1)) := by rw [zu_ne (by decide), zu_same]
  have f92 : pd_ui (pd_ui I4 104 (8 * c) (zn (2 ^ (if kd = 5 then 2 * ou - 1 else ou) - 1))) 92 5 (zn (c + 1)) 92 = upd (I1 92) 5 (zn (c + 1)) := by rw [zu_same, zu_ne (by decide), g 92 (by decide) (by decide), b0 92 (by decide) (by decide) (by decide) (by decide) (by decide) (by decide)]
  obtain ⟨I5, hI5⟩ : ∃ I5, I5 = pd_ui (pd_ui I4 104 (8 * c) (zn (2 ^ (if kd = 5 then 2 * ou - 1 else ou) - 1))) 92 5 (zn (c + 1)) := ⟨_, rfl⟩
  rw [← hI5] at f0 f4 f92 ⊢
  refine ⟨_, rfl, rfl, fun b hb => ?_, fun j hj hj5 => ?_, ?_, ?_, fun x h1 h2 j hj => ?_, fun i hi => ?_, fun i hi => ?_, hc12, ?_, ?_, ?_, ?_, ?_, ?_, fun o ho => ?_, fun i hi => ?_⟩
  · simp only [List.mem_cons, List.not_mem_nil, or_false, not_or] at hb
    show I5 b = I b
    rw [f0 b (by omega) (by omega), g b (by omega) (by omega), b0 b (by omega) (by omega) (by omega) (by omega) (by omega) (by omega), hI1, z92_b (by omega)]
  · show I5 92 j = I 92 j
    rw [f92, zu_nat hj5, hI1, z92_j hj]
  · show I5 92 0 = zn 0
    rw [f92, zu_nat (by omega), h92]
  · show I5 92 5 = zn (c + 1)
    rw [f92, zu_at]
  · show I5 x j = I x j
    rw [f0 x (by omega) (by omega), g x (by omega) (by omega)]
    have : x = 97 ∨ x = 98 ∨ x = 99 ∨ x = 100 ∨ x = 101 ∨ x = 102 := by omega
    rcases this with e | e | e | e | e | e <;> subst e
    · rw [e97, zu_nat hj]
    · rw [e98, zu_nat hj]
    · rw [e99, zu_nat hj]
    · rw [e100, zu_nat hj]
    · rw [e101, zu_nat hj]
    · rw [e102, zu_nat hj]
  · show I5 103 i = I 103 i
    rw [f0 103 (by omega) (by omega), g3, p3 i hi, b0 103 (by decide) (by decide) (by decide) (by decide) (by decide) (by decide), hI1, z92_b (by decide)]
  · show I5 104 i = I 104 i
    rw [f4, zu_nat (by omega), r3 i hi, p1 104 (by simp), b0 104 (by decide) (by decide) (by decide) (by decide) (by decide) (by decide), hI1, z92_b (by decide)]
  · show I5 97 c = zn kd
    rw [f0 97 (by decide) (by decide), g 97 (by decide) (by decide), e97, zu_at]
  · show I5 98 c = zn cl
    rw [f0 98 (by decide) (by decide), g 98 (by decide) (by decide), e98, zu_at]
  · show I5 99 c = zn ou
    rw [f0 99 (by decide) (by decide), g 99 (by decide) (by decide), e99, zu_at]
  · show I5 100 c = zn 0
    rw [f0 100 (by decide) (by decide), g 100 (by decide) (by decide), e100, zu_at]
  · show I5 101 c = zn 1
    rw [f0 101 (by decide) (by decide), g 101 (by decide) (by decide), e101, zu_at]
  · show I5 102 c = zn 1
    rw [f0 102 (by decide) (by decide), g 102 (by decide) (by decide), e102, zu_at]
  · show I5 103 (4 * c + o) = zn (zcd kd cl ou (7 + o))
    rw [zcd_t ho, f0 103 (by decide) (by decide), g3, p2 o ho]
  · show I5 104 (8 * c + i) = zn (zcd kd cl ou (11 + i))
    rw [zcd_k, f4, zu_app]
    by_cases d : i = 0
    · rw [if_pos (by omega), if_pos d]
    · rw [if_neg (by omega), if_neg d, r2 i hi]
