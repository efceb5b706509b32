/-! the law's operations: agreed, seems -/
theorem zCI_0 {I : pd_I} {Z : pd_R} {n : Nat} {x : Int32} (h : zCI I Z n) : zCI (pd_ui I 92 0 x) Z n := by
  obtain ⟨a1, a2, a3, a4, a5, a6, a7, a8⟩ := h
  have e : ∀ b, b ≠ 92 → pd_ui I 92 0 x b = I b := fun b hb => zu_ne hb
  have e2 : ∀ j, j ≠ 0 → pd_ui I 92 0 x 92 j = I 92 j := fun j hj => by rw [zu_same, zu_nat hj]
  refine ⟨zCR_F (fun b _ _ hb => e b hb) a1, zCT_F (e 7 (by decide)) (e 8 (by decide)) (e 95 (by decide)) (e 96 (by decide)) a2, ?_, ?_, ?_, ?_, a7, a8⟩
  · exact zCC_F (L := [92]) (by decide) (by decide) (zF_u (by decide) zF_rfl) (by rw [e 0 (by decide)]) (e2 5 (by decide)) rfl a3
  · exact zCW_F (fun b h1 h2 => e b (by omega)) (by rw [e 16 (by decide)]) (e2 14 (by decide)) (e 105 (by decide)) (e 106 (by decide)) (e 107 (by decide)) (e 108 (by decide)) rfl a4
  · exact zCS_F (by rw [e 0 (by decide)]) (e2 19 (by decide)) (e 59 (by decide)) (e 109 (by decide)) a5
  · exact zCA_F (by rw [e 0 (by decide)]) (e2 21 (by decide)) a6
theorem zo_agreed {I : pd_I} {Z : pd_R} {n : Nat} (h : zCI I Z n) : ∃ v I', fn_X11_agreed I = some v ∧ fn_X12_agreed I = some (v, I') ∧ zCI I' Z n := by
  have h0 := zCI_0 (x := 0) h
  obtain ⟨g, q1, q2, q3⟩ := h.2.2.2.2.2.1
  refine ⟨zn g, pd_ui I 92 0 0, ?_, ?_, h0⟩
  · unfold fn_X11_agreed
    rw [q2, zc_bo q1, zb_gd]
  · unfold fn_X12_agreed
    have e : pd_ui I 92 0 0 92 21 = zn g := by rw [zu_same, zu_nat (by decide), q3]
    rw [zb_let, e, zc_bo q1, zb_gd]
/-- what an operation with an int for an answer must give -/
def zOi (c : Option (Int32 × pd_J)) (r : Option (Int32 × pd_I)) (Z : pd_R) (n : Nat) : Prop := ∃ e J v I', c = some (e, J) ∧ r = some (v, I') ∧ I' 92 0 = e ∧ (e = 0 → J 132 0 = v.toInt64) ∧ zCI I' Z n
theorem zo_seems {I : pd_I} {J : pd_J} {Z : pd_R} {n : Nat} {p : Int32} (h : zCI I Z n) : zOi (fn_L_seems I J p) (fn_X12_seems I p) Z n := by
  have h0 := zCI_0 (x := zn 0) h
  obtain ⟨s, q1, q2, q3, q4⟩ := h.2.2.2.2.1
  obtain ⟨I1, hI1⟩ : ∃ I1, I1 = pd_ui I 92 0 (zn 0) := ⟨_, rfl⟩
  have e0 : I1 92 0 = zn 0 := by rw [hI1, zu_same, zu_at]
  have e19 : I1 92 19 = zn s := by rw [hI1, zu_same, zu_nat (by decide), q3]
  have e109 : I1 109 = I 109 := by rw [hI1]; exact zu_ne (by decide)
  rw [← hI1] at h0
  by_cases hp : zin p s
  · obtain ⟨k, rfl, hk⟩ := hp
    refine ⟨0, pd_uj J 132 0 (I 59 k).toInt64, I 59 k, I1, ?_, ?_, by rw [e0, zn_0], fun _ => ?_, h0⟩
    · unfold fn_L_seems fn_X11_seems
      rw [q2, zn_0, zi_lt (by omega) (by omega), if_neg (by omega), zi_lt (by omega) (by omega), if_pos hk, zb_bd, if_pos rfl, zn_in2 (show k < 200 by omega) (by omega), zb_gd, zn_nat (by omega)]
      rfl
    · unfold fn_X12_seems
      rw [zn_0, zb_let, ← hI1, e19, ← zn_0, zin_t (by omega) ⟨k, rfl, hk⟩, zb_bd, if_pos rfl, zb_bd, zn_1, zr_ok e0]
      show pd_bd (if zn 1 = 0 then some 0 else (pd_gd (pd_in (zn k) 200) (some (I1 109 (zn k).toNatClampNeg)))) (fun (zx2 : Int32) => some (zx2, I1)) = _
      rw [zn_0, zi_eq (by omega) (by omega), if_neg (by omega), zn_in2 (show k < 200 by omega) (by omega), zb_gd, zn_nat (by omega), zb_bd, e109, q4 k hk]
    · unfold pd_uj
      rw [if_pos rfl]
      exact if_pos rfl
  · refine ⟨1, J, 0, pd_ui I1 92 0 (zn 1), ?_, ?_, by rw [zu_same, zu_at, zn_1], fun hh => absurd hh (by decide), zCI_0 h0⟩
    · have hx : (if p < 0 then some false else (if p < zn s then some true else (some false))) = some false := by
        by_cases c : p < 0
        · rw [if_pos c]
        · rw [if_neg c]
          by_cases d : p < zn s
          · exact absurd (zn_rng c (Int32.not_le.mpr d) (by omega)) hp
          · rw [if_neg d]
      unfold fn_L_seems fn_X11_seems
      rw [q2, hx, zb_bd, if_neg (by decide)]
      show (if "java/util/NoSuchElementException" = "java/util/NoSuchElementException" then some (1, J) else none) = some ((1 : Int32), J)
      rw [if_pos rfl]
    · unfold fn_X12_seems
      rw [zn_0, zb_let, ← hI1, e19, ← zn_0, zin_f (by omega) hp, zb_bd, if_neg (by decide), zb_bd, zn_1, zn_0, zr_no e0 (by omega) (by omega)]
      rw [zb_bd2, if_pos rfl, zb_bd]
