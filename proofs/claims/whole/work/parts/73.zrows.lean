/-! the law's operations on rows -/
theorem zb_bx {α β : Type} {a : α} {f : α → Option (Except String β)} : pd_bx (some (.ok a)) f = f a := (rfl)
theorem zb_bxe {α β : Type} {e : String} {f : α → Option (Except String β)} : pd_bx (some (.error e)) f = some (.error e) := (rfl)
theorem zb_bc {α β : Type} {a : α} {h : String → Option β} {f : α → Option β} : pd_bc (some (.ok a)) h f = f a := (rfl)
theorem zb_bce {α β : Type} {e : String} {h : String → Option β} {f : α → Option β} : pd_bc (some (.error e)) h f = h e := (rfl)
theorem zb_bc2 {α β γ : Type} {a : α} {b : β} {h : String → Option γ} {f : α → β → Option γ} : pd_bc2 (some (.ok (a, b))) h f = f a b := (rfl)
theorem zb_bc2e {α β γ : Type} {e : String} {h : String → Option γ} {f : α → β → Option γ} : pd_bc2 (some (.error e)) h f = h e := (rfl)
theorem zb_bc3 {α β γ δ : Type} {a : α} {b : β} {c : γ} {h : String → Option δ} {f : α → β → γ → Option δ} : pd_bc3 (some (.ok (a, b, c))) h f = f a b c := (rfl)
theorem zb_bc3e {α β γ δ : Type} {e : String} {h : String → Option δ} {f : α → β → γ → Option δ} : pd_bc3 (some (.error e)) h f = h e := (rfl)
theorem zb_in1 : pd_in 0 1 = true := by decide
theorem zb_j {J : pd_J} {x : Int64} : pd_uj J 132 (0 : Int32).toNatClampNeg x 132 0 = x := by unfold pd_uj; rw [if_pos rfl]; exact if_pos rfl
/-- what an operation that may write must give: the class first, then the reference on the memory it leaves -/
def zO3 (c : Option (Int32 × pd_I × pd_J)) (r : pd_I → Option (Int32 × pd_I)) (Z : pd_R) (n : Nat) : Prop := ∃ e I1 J v I', c = some (e, I1, J) ∧ r I1 = some (v, I') ∧ I' 92 0 = e ∧ (e = 0 → J 132 0 = v.toInt64) ∧ zCI I' Z n
def zO4 (c : Option (Int32 × pd_I × pd_J × pd_R)) (r : pd_I → Option (Int32 × pd_I)) (n : Nat) : Prop := ∃ e I1 J Z v I', c = some (e, I1, J, Z) ∧ r I1 = some (v, I') ∧ I' 92 0 = e ∧ (e = 0 → J 132 0 = v.toInt64) ∧ zCI I' Z n
theorem zOi_er {I : pd_I} {J : pd_J} {Z : pd_R} {n : Nat} {e : Int32} {c : Option (Int32 × pd_J)} {r : Option (Int32 × pd_I)} (h : zCI I Z n) (h1 : ¬ e = 0) (hc : c = some (e, J)) (hr : r = some (zn 0, pd_ui (pd_ui I 92 0 (zn 0)) 92 0 e)) : zOi c r Z n :=
  ⟨e, J, zn 0, _, hc, hr, by rw [zu_same, zu_at], fun hh => absurd hh h1, zCI_0 (zCI_0 h)⟩
theorem zO3_er {I : pd_I} {J : pd_J} {Z : pd_R} {n : Nat} {e : Int32} {c : Option (Int32 × pd_I × pd_J)} {r : pd_I → Option (Int32 × pd_I)} (h : zCI I Z n) (h1 : ¬ e = 0) (hc : c = some (e, I, J)) (hr : r I = some (zn 0, pd_ui (pd_ui I 92 0 (zn 0)) 92 0 e)) : zO3 c r Z n :=
  ⟨e, I, J, zn 0, _, hc, hr, by rw [zu_same, zu_at], fun hh => absurd hh h1, zCI_0 (zCI_0 h)⟩
theorem zO4_er {I : pd_I} {J : pd_J} {Z : pd_R} {n : Nat} {e : Int32} {c : Option (Int32 × pd_I × pd_J × pd_R)} {r : pd_I → Option (Int32 × pd_I)} (h : zCI I Z n) (h1 : ¬ e = 0) (hc : c = some (e, I, J, Z)) (hr : r I = some (zn 0, pd_ui (pd_ui I 92 0 (zn 0)) 92 0 e)) : zO4 c r n :=
  ⟨e, I, J, Z, zn 0, _, hc, hr, by rw [zu_same, zu_at], fun hh => absurd hh h1, zCI_0 (zCI_0 h)⟩
/-- the demands once more, with numbers as they are written -/
theorem zr_ok1 {I : pd_I} {e : Int32} (h : I 92 0 = zn 0) : fn_X12_right I 1 e = some (zn 1, I) := by rw [zn_1]; exact zr_ok h
theorem zr_noL {I : pd_I} {e : Int32} (h : I 92 0 = zn 0) (he : ¬ e = 0) : fn_X12_right I (zn 0) e = some (zn 0, pd_ui I 92 0 e) := by
  unfold fn_X12_right
  rw [h, zn_0, zi_eq (by omega) (by omega), if_pos rfl, zi_eq (by omega) (by omega), if_pos rfl, zb_bd, if_pos rfl, zb_let, zb_bd, zu_same, zu_at, ← zn_0, if_neg he, zb_bd, zn_0, zn_bo0, zb_gd]
theorem zr_rowL {I : pd_I} {p e : Int32} (h : I 92 0 = zn 0) (he : ¬ e = 0) (hp : ¬ zin p 16) : fn_X12_isRow I p e = some (zn 0, pd_ui I 92 0 e) := by
  unfold fn_X12_isRow
  rw [zn_16, zin_f (by omega) hp, zb_bd, if_neg (by decide), zb_bd, zn_0, zr_noL h he]
  rfl
theorem zr_nL {I : pd_I} {p e : Int32} (h : I 92 0 = zn 0) (he : ¬ e = 0) (hp : ¬ zrg p 1 200) : fn_X12_isN I p e = some (zn 0, pd_ui I 92 0 e) := by
  unfold fn_X12_isN
  rw [zn_1, zn_200, (zrg_f (by omega) (by omega) hp).1, zb_bd, if_neg (by decide), zb_bd, zn_0, zr_noL h he]
  rfl
theorem zr_codeL {I : pd_I} {p : Int32} {cnt : Nat} (hc : I 92 5 = zn cnt) (hc12 : cnt ≤ 12) (hp : ¬ zin p cnt) : fn_X12_isCode I p = some (zn 0, pd_ui (pd_ui I 92 0 (zn 0)) 92 0 1) := zr_code0 hc hc12 hp
theorem z92_0 {I : pd_I} : pd_ui I 92 0 (zn 0) 92 0 = zn 0 := by rw [zu_same, zu_at]
theorem z92_j {I : pd_I} {j : Nat} {x : Int32} (h : j ≠ 0) : pd_ui I 92 0 x 92 j = I 92 j := by rw [zu_same, zu_nat h]
theorem z92_b {I : pd_I} {b : Nat} {x : Int32} (h : b ≠ 92) : pd_ui I 92 0 x b = I b := zu_ne h
/-! a row is changed -/
theorem zCR_up {I I' : pd_I} {r m0 : Nat} {f0 : Nat → Nat} (k : zCR I) (hb : ∀ b, 60 ≤ b → b < 92 → b ≠ 60 + 2 * r → b ≠ 61 + 2 * r → I' b = I b) (h3 : ∀ j, j ≠ r → I' 93 j = I 93 j) (h4 : ∀ i, i < 600 * r ∨ 600 * r + 600 ≤ i → I' 94 i = I 94 i) (h1 : I' (60 + 2 * r) 1 = I' 93 r) (q1 : zRow I' (60 + 2 * r) m0 f0) (q2 : zRom I' r m0 f0) : zCR I' := by
  obtain ⟨m, f, q⟩ := k
  refine ⟨fun j => if j = r then m0 else m j, fun j => if j = r then f0 else f j, fun j hj => ?_⟩
  by_cases e : j = r
  · subst e
    show _ ∧ zRow I' (60 + 2 * j) (if j = j then m0 else m j) (if j = j then f0 else f j) ∧ zRom I' j (if j = j then m0 else m j) (if j = j then f0 else f j)
    rw [if_pos rfl, if_pos rfl]
    exact ⟨h1, q1, q2⟩
  · show _ ∧ zRow I' (60 + 2 * j) (if j = r then m0 else m j) (if j = r then f0 else f j) ∧ zRom I' j (if j = r then m0 else m j) (if j = r then f0 else f j)
    rw [if_neg e, if_neg e]
    have e0 : I' (60 + 2 * j) = I (60 + 2 * j) := hb _ (by omega) (by omega) (by omega) (by omega)
    have e1 : I' (60 + 2 * j + 1) = I (60 + 2 * j + 1) := hb _ (by omega) (by omega) (by omega) (by omega)
    obtain ⟨p1, p2, p3⟩ := q j hj
    refine ⟨by rw [e0, h3 j e]; exact p1, ?_, ?_⟩
    · unfold zRow; rw [e0, e1]; exact p2
    · refine ⟨p3.1, by rw [h3 j e]; exact p3.2.1, p3.2.2.1, fun i hi => ?_⟩
      have := p3.2.2.1
      rw [h4 _ (by omega)]
      exact p3.2.2.2 i hi
theorem zCI_row {I I' : pd_I} {Z : pd_R} {n r m0 : Nat} {f0 : Nat → Nat} (k : zCI I Z n) (hr : r < 16) (hF : zF [60 + 2 * r, 60 + 2 * r + 1, 92, 93, 94] I I') (h92 : ∀ j, j ≠ 0 → I' 92 j = I 92 j) (h3 : ∀ j, j ≠ r → I' 93 j = I 93 j) (h4 : ∀ i, i < 600 * r ∨ 600 * r + 600 ≤ i → I' 94 i = I 94 i) (h1 : I' (60 + 2 * r) 1 = I' 93 r) (q1 : zRow I' (60 + 2 * r) m0 f0) (q2 : zRom I' r m0 f0) : zCI I' Z n := by
  obtain ⟨a1, a2, a3, a4, a5, a6, a7, a8⟩ := k
  have e : ∀ b, b < 60 ∨ 95 ≤ b → I' b = I b := fun b hb => hF b (by simp; omega)
  refine ⟨zCR_up a1 (fun b _ _ h5 h6 => hF b (by simp; omega)) h3 h4 h1 q1 q2, zCT_F (e 7 (by omega)) (e 8 (by omega)) (e 95 (by omega)) (e 96 (by omega)) a2, ?_, ?_, ?_, ?_, a7, a8⟩
  · exact zCC_F (L := [60 + 2 * r, 60 + 2 * r + 1, 92, 93, 94]) (by simp; omega) (by simp; omega) hF (by rw [e 0 (by omega)]) (h92 5 (by omega)) rfl a3
  · exact zCW_F (fun b h1 h2 => e b (by omega)) (by rw [e 16 (by omega)]) (h92 14 (by omega)) (e 105 (by omega)) (e 106 (by omega)) (e 107 (by omega)) (e 108 (by omega)) rfl a4
  · exact zCS_F (by rw [e 0 (by omega)]) (h92 19 (by omega)) (e 59 (by omega)) (e 109 (by omega)) a5
  · exact zCA_F (by rw [e 0 (by omega)]) (h92 21 (by omega)) a6
theorem zbnd {k : Nat} (h : k ≤ 600) : fn_X11_bounded (zn k) 0 600 = some (zn k) := by
  unfold fn_X11_bounded pd_max pd_min
  rw [zn_0, zn_600, zi_lt (by omega) (by omega)]
  by_cases c : k < 600
  · rw [if_pos c, zi_lt (by omega) (by omega)]
    by_cases d : 0 < k
    · rw [if_pos d]
    · rw [if_neg d, show k = 0 by omega]
  · rw [if_neg c, zi_lt (by omega) (by omega), if_pos (by omega), show k = 600 by omega]
theorem zq_begin {I : pd_I} {b k : Nat} (hk : k ≤ 600) : zT (fn_X4_begin I b (zn k)) (fun I' => zF [b, b + 1] I I' ∧ I' b 1 = zn k ∧ ∀ i, i < k → I' (b + 1) i = 0) := by
  unfold fn_X4_begin
  rw [zbnd hk, zb_bd, zb_let]
  refine zl_loop (fun fu j (s : pd_I) => fl_X4_begin_14 b (fun zI3 => some zI3) fu j s) k (fun j s => zF [b, b + 1] I s ∧ s b 1 = zn k ∧ ∀ i, i < j → s (b + 1) i = 0) ?_ ?_ pd_FU 0 _ (by omega) (zFU (by omega)) ⟨zF_u (by simp) zF_rfl, by rw [zu_same, zu_at], fun i hi => by omega⟩
  · rintro fu s ⟨h1, h2, h3⟩
    rw [fl_X4_begin_14, h2, if_pos (Int32.le_refl _)]
    exact ⟨_, rfl, h1, h2, h3⟩
  · rintro fu j s hj ⟨h1, h2, h3⟩ ih
    rw [fl_X4_begin_14, h2, zi_le (by omega) (by omega), if_neg (by omega), zn_in2 (show j < 600 by omega) (by omega), zb_gd, zn_nat (by omega), zb_let, zb_let, zn_1, zn_add]
    refine ih _ ⟨zF_u (by simp) h1, by rw [zu_ne (by omega)]; exact h2, fun i hi => ?_⟩
    rw [zu_same]
    by_cases e : i = j
    · subst e; rw [zu_at]; decide
    · rw [zu_nat e]; exact h3 i (by omega)
theorem zq_row66 {O : Type} {Q : O → Prop} {I : pd_I} {r : Nat} {kont : pd_I → Option O} (hr : r < 16) (hK : ∀ I', zF [94] I I' → (∀ i, i < 600 → I' 94 (600 * r + i) = 0) → (∀ i, i < 600 * r ∨ 600 * r + 600 ≤ i → I' 94 i = I 94 i) → zT (kont I') Q) : zT (fl_X12_row_66 (zn r) kont pd_FU (zn 0) I) Q := by
  refine zl_loop (fun fu j (s : pd_I) => fl_X12_row_66 (zn r) kont fu j s) 600 (fun j s => zF [94] I s ∧ (∀ i, i < j → s 94 (600 * r + i) = 0) ∧ ∀ i, i < 600 * r ∨ 600 * r + 600 ≤ i → s 94 i = I 94 i) ?_ ?_ pd_FU 0 _ (by omega) (zFU (by omega)) ⟨zF_rfl, fun i hi => by omega, fun _ _ => rfl⟩
  · rintro fu s ⟨h1, h2, h3⟩
    rw [fl_X12_row_66, zn_600, if_pos (Int32.le_refl _)]
    exact hK s h1 h2 h3
  · rintro fu j s hj ⟨h1, h2, h3⟩ ih
    rw [fl_X12_row_66, zn_600, zi_le (by omega) (by omega), if_neg (by omega), zn_mul, zn_add, zn_in2 (show 600 * r + j < 9600 by omega) (by omega), zb_gd, zn_nat (by omega), zb_let, zb_let, zn_1, zn_add]
    refine ih _ ⟨zF_u (by simp) h1, fun i hi => ?_, fun i hi => ?_⟩
    · rw [zu_same]
      by_cases e : i = j
      · subst e; rw [zu_at]
      · rw [zu_nat (by omega)]; exact h2 i (by omega)
    · rw [zu_same, zu_nat (by omega)]; exact h3 i hi
theorem zr_rowI {I : pd_I} {r : Nat} (h : zCR I) (hr : r < 16) : ∃ m f, I (60 + 2 * r) 1 = I 93 r ∧ zRow I (60 + 2 * r) m f ∧ zRom I r m f := by
  obtain ⟨m, f, q⟩ := h
  exact ⟨m r, f r, q r hr⟩
theorem zm1 (x : Int32) : (if x = -1 then some (1 : Int32) else some (zn 0)) = some (zn (if x = -1 then 1 else 0)) := by
  by_cases c : x = -1
  · rw [if_pos c, if_pos c]; rfl
  · rw [if_neg c, if_neg c]
theorem zm1n (x : Int32) : (if x = -1 then some (zn 0) else some (1 : Int32)) = some (zn (if x = -1 then 0 else 1)) := by
  by_cases c : x = -1
  · rw [if_pos c, if_pos c]
  · rw [if_neg c, if_neg c]; rfl
theorem z01 {c : Prop} [Decidable c] : (if c then 1 else 0) ≤ 1 := by split <;> omega
theorem zr_missing {I : pd_I} {b : Nat} : fn_X4_isMissing I b = some (zn (if I b 1 = -1 then 1 else 0)) := by
  unfold fn_X4_isMissing
  rw [zn_0, zm1, zb_bd, zc_bo z01, zb_gd]
/-- row: the answer is a boolean -/
def zOb (c : Option (Int32 × pd_I × pd_J)) (r : pd_I → Option (Int32 × pd_I)) (Z : pd_R) (n : Nat) : Prop := ∃ e I1 J v I', c = some (e, I1, J) ∧ r I1 = some (v, I') ∧ I' 92 0 = e ∧ (e = 0 → (v = 0 ∨ v = 1) ∧ J 132 0 = v.toInt64) ∧ zCI I' Z n
theorem zOb_er {I : pd_I} {J : pd_J} {Z : pd_R} {n : Nat} {e : Int32} {c : Option (Int32 × pd_I × pd_J)} {r : pd_I → Option (Int32 × pd_I)} (h : zCI I Z n) (h1 : ¬ e = 0) (hc : c = some (e, I, J)) (hr : r I = some (zn 0, pd_ui (pd_ui I 92 0 (zn 0)) 92 0 e)) : zOb c r Z n :=
  ⟨e, I, J, zn 0, _, hc, hr, by rw [zu_same, zu_at], fun hh => absurd hh h1, zCI_0 (zCI_0 h)⟩
theorem zm_row {I : pd_I} {r k : Nat} (hr : r < 16) (hk : k ≤ 600) : zT (fn_X12_row I (zn r) (zn k)) (fun x => x.1 = zn (if I 93 r = -1 then 1 else 0) ∧ zF [92, 93, 94] I x.2 ∧ x.2 92 = pd_ui I 92 0 (zn 0) 92 ∧ x.2 93 = upd (I 93) r (zn k) ∧ (∀ i, i < 600 → x.2 94 (600 * r + i) = 0) ∧ ∀ i, i < 600 * r ∨ 600 * r + 600 ≤ i → x.2 94 i = I 94 i) := by
  unfold fn_X12_row
  rw [zn_0, zb_let, zr_row1 z92_0 ⟨r, rfl, hr⟩, zb_bd2, zb_jn, if_neg zn_p0, zn_600, (zrg_t (a := 0) (by omega) ⟨k, rfl, by omega, hk⟩).1, zb_bd, if_pos rfl, zb_bd, zr_ok1 z92_0, zb_bd2, if_neg zn_p0, zn_in2 hr (by omega), zb_gd, zn_nat (by omega), zm1, zb_bd, zb_gd, zb_let, z92_b (by decide)]
  refine zq_row66 hr (fun I' g1 g2 g3 => ?_)
  rw [zc_bo z01, zb_gd]
  have e92 : I' 92 = pd_ui I 92 0 (zn 0) 92 := by rw [g1 92 (by decide), zu_ne (by decide)]
  have e93 : I' 93 = upd (I 93) r (zn k) := by rw [g1 93 (by decide), zu_same, z92_b (by decide)]
  refine ⟨_, rfl, rfl, fun b hb => ?_, e92, e93, g2, fun i hi => ?_⟩
  · simp only [List.mem_cons, List.not_mem_nil, or_false, not_or] at hb
    show I' b = I b
    rw [g1 b (by simp; omega), zu_ne (by omega), z92_b (by omega)]
  · show I' 94 i = I 94 i
    rw [g3 i hi, zu_ne (by decide), z92_b (by decide)]
theorem z0_32 : (0 : Int32) + 32 = zn 32 := by decide
theorem zo_row {I : pd_I} {J : pd_J} {Z : pd_R} {n : Nat} {p q : Int32} (h : zCI I Z n) : zOb (fn_L_row I J Z n p q) (fun I1 => fn_X12_row I1 p q) Z n := by
  by_cases hp : zin p 16
  · by_cases hq : zrg q 0 600
    · obtain ⟨r, rfl, hr⟩ := hp
      obtain ⟨k, rfl, -, hk⟩ := hq
      obtain ⟨m, f, b1, b2, b3⟩ := zr_rowI h.1 hr
      obtain ⟨I1, e1, f1, f2, f3⟩ := zq_begin (I := I) (b := 60 + 2 * r) hk
      obtain ⟨⟨v, I2⟩, e2, rfl, g1, g2, g3, g4, g5⟩ := zm_row (I := I1) hr hk
      simp only [] at g1 g2 g3 g4 g5 ⊢
      have d93 : I1 93 = I 93 := f1 93 (by simp; omega)
      have d92 : I1 92 = I 92 := f1 92 (by simp; omega)
      have d94 : I1 94 = I 94 := f1 94 (by simp; omega)
      refine ⟨0, I1, pd_uj J 132 (0 : Int32).toNatClampNeg (if zn (if I (60 + 2 * r) 1 = -1 then 1 else 0) = 0 then 0 else 1), _, I2, ?_, e2, ?_, fun _ => ⟨?_, ?_⟩, ?_⟩
      · have hC : fn_X11_row I Z n (zn r) (zn k) = some (.ok (zn (if I (60 + 2 * r) 1 = -1 then 1 else 0), I1)) := by
          unfold fn_X11_row
          rw [zr_rowOf1 hr, zb_bx, za_row r hr, zb_gd, zn_0, zn_600, (zrg_t (a := 0) (by omega) ⟨k, rfl, by omega, hk⟩).2, zb_bd, if_pos rfl, zr_missing, zb_bd, e1, zb_bd, zc_bo z01, zb_gd]
        unfold fn_L_row
        rw [hC, zb_bc2]
        by_cases c : I (60 + 2 * r) 1 = -1
        · rw [if_pos c, zn_0, if_neg zn_p0, if_neg zn_p0, zb_bd, ← zn_0, zb_in1, zb_gd]; rfl
        · rw [if_neg c, zn_0, if_pos rfl, if_pos rfl, zb_bd, ← zn_0, zb_in1, zb_gd]; rfl
      · rw [g2, z92_0, zn_0]
      · rw [d93, ← b1]
        by_cases c : I (60 + 2 * r) 1 = -1
        · rw [if_pos c]; exact Or.inr rfl
        · rw [if_neg c]; exact Or.inl rfl
      · rw [zb_j, d93, ← b1]
        by_cases c : I (60 + 2 * r) 1 = -1
        · rw [if_pos c]; decide
        · rw [if_neg c]; decide
      · have c0 : I2 (60 + 2 * r) = I1 (60 + 2 * r) := g1 _ (by simp; omega)
        have c1 : I2 (60 + 2 * r + 1) = I1 (60 + 2 * r + 1) := g1 _ (by simp; omega)
        have hF : zF [60 + 2 * r, 60 + 2 * r + 1, 92, 93, 94] I I2 := fun b hb => by
          simp only [List.mem_cons, List.not_mem_nil, or_false, not_or] at hb
          rw [g1 b (by simp; omega), f1 b (by simp; omega)]
        refine zCI_row (m0 := k) (f0 := fun _ => 32) h hr hF (fun j hj => by rw [g2, z92_j hj, d92]) (fun j hj => by rw [g3, zu_nat hj, d93]) (fun i hi => by rw [g5 i hi, d94]) (by rw [c0, f2, g3, zu_at]) ⟨Or.inl (by rw [c0, f2]), hk, fun i hi => ⟨by rw [c1, f3 i hi]; exact z0_32, (by omega : (32 : Nat) < 64)⟩⟩ ⟨hr, Or.inl (by rw [g3, zu_at]), hk, fun i hi => ⟨by rw [g4 i (by omega)]; exact z0_32, (by omega : (32 : Nat) < 64)⟩⟩
    · obtain ⟨r, rfl, hr⟩ := hp
      refine zOb_er (J := J) (e := 2) h (by decide) ?_ ?_
      · unfold fn_L_row fn_X11_row
        rw [zr_rowOf1 hr, zb_bx, za_row r hr, zb_gd, zn_0, zn_600, (zrg_f (a := 0) (by omega) (by omega) hq).2, zb_bd, if_neg (by decide), zb_bc2e, if_neg (by decide), if_pos rfl]
      · show fn_X12_row I (zn r) q = _
        unfold fn_X12_row
        rw [zn_0, zb_let, zr_row1 z92_0 ⟨r, rfl, hr⟩, zb_bd2, zb_jn, if_neg zn_p0, zn_600, (zrg_f (a := 0) (by omega) (by omega) hq).1, zb_bd, if_neg (by decide), zb_bd, zr_noL z92_0 (by decide), zb_bd2, if_pos rfl]
  · refine zOb_er (J := J) (e := 1) h (by decide) ?_ ?_
    · unfold fn_L_row fn_X11_row
      rw [zr_rowOf0 hp, zb_bxe, zb_bc2e, if_pos rfl]
    · show fn_X12_row I p q = _
      unfold fn_X12_row
      rw [zn_0, zb_let, zr_rowL z92_0 (by decide) hp, zb_bd2, zb_jn, if_pos rfl]
