/-! each, after its demands, in the class and in the reference -/
def zsd (cd : Nat → Nat) (P : Nat → Nat → Nat) (nn t : Nat) : Int32 := zdf (zLZ cd P nn 0 (zBg cd) t) (zLZ cd P nn 1 (zBg cd) t)
def zLE : List Nat := [0, 9, 10, 11, 12, 13, 14, 15, 44, 45, 46, 47, 48, 59]
def zLF : List Nat := [92, 109, 110, 115, 116, 117, 118]
theorem zq_eachC {I : pd_I} {Z : pd_R} {n a b m ow ft nn : Nat} {cd f : Nat → Nat} {T : Nat → Nat → Nat} (hn : 133 ≤ n) (ha : 133 ≤ a) (hb : 60 ≤ b) (h : zCo I a cd) (hv : zCv cd) (hr : zRow I b m f) (hT : zTab I T) (hZ : zZe Z ow ft) (hn1 : 1 ≤ nn) (hn2 : nn ≤ 200) (hP : ∀ t e, zPp cd (zmc m f T) t e ≤ 10000) :
    zT (pd_bd (fn_X11_prepare I a b (zn nn)) fun zI1 => pd_bd2 (fn_X6_tell zI1 Z n a (zn nn) 59) fun zI2 zZ1 => pd_let (pd_ui zI2 0 12 (zn nn)) fun zI3 => fl_X11_each_57 (zn nn) zI3 (fun zx3 => some (.ok (zx3, zI3, zZ1))) pd_FU 0 0)
      (zE (fun _ => False) (fun (r : Int32 × pd_I × pd_R) => r.1 = zn (zcn (fun t => zsay (zsd cd (zPp cd (zmc m f T)) nn t)) nn) ∧ (∃ ow ft, zZe r.2.2 ow ft) ∧ (∀ b, b ≠ 43 → r.2.2 b = Z b) ∧ zF zLE I r.2.1 ∧ (∀ j, j ≠ 12 → r.2.1 0 j = I 0 j) ∧ r.2.1 0 12 = zn nn ∧ ∀ t, t < nn → r.2.1 59 t = zsd cd (zPp cd (zmc m f T)) nn t)) := by
  have hst := zst_le (n := nn) hv
  rw [zT_bd]
  refine zT_mono (zq_prepare ha hb h hv hr hT hn2) (fun I1 ⟨hF1, hla⟩ => ?_)
  rw [zT_bd2]
  refine zT_mono (zq_tell (T := zst cd nn) (P := zPp cd (zmc m f T)) (b2 := 59) hn ha (zCo_F (by decide) ha hF1 h) hZ hv hla (by omega) (Nat.le_refl _) hn1 hn2 hP (Or.inl rfl)) (fun r ⟨p1, p2, p3, p4⟩ => ?_)
  rw [zb_let, zn_0]
  have e0 : ∀ x, pd_ui r.1 0 12 x 59 = r.1 59 := fun x => zu_ne (by decide)
  refine zq_each57 (d := zsd cd (zPp cd (zmc m f T)) nn) hn2 (fun t ht => by rw [e0]; exact p4 t ht) ⟨_, rfl, rfl, p1, p2, ?_, ?_, ?_, ?_⟩
  · exact zF_u (by decide) (zF_tr (zF_sub hF1 (by decide)) (zF_sub p3 (by decide)))
  · intro j hj
    show pd_ui r.1 0 12 (zn nn) 0 j = I 0 j
    rw [zu_same, zu_nat hj, p3 0 (by decide), hF1 0 (by decide)]
  · show pd_ui r.1 0 12 (zn nn) 0 12 = zn nn
    rw [zu_same, zu_at]
  · intro t ht
    show pd_ui r.1 0 12 (zn nn) 59 t = _
    rw [e0]; exact p4 t ht
theorem zq_eachM {I : pd_I} {c r m nn : Nat} {cd f : Nat → Nat} {T : Nat → Nat → Nat} (h : zCm I c cd) (hv : zCv cd) (hr : zRom I r m f) (hT : zTam I T) (hn1 : 1 ≤ nn) (hn2 : nn ≤ 200) (hP : ∀ t e, zPp cd (zmc m f T) t e ≤ 10000) :
    zT (pd_bd (fn_X12_costs I (zn c) (zn r) (zn nn)) fun zI2 => pd_bd (fn_X12_clearLeasts zI2 (zn nn)) fun zI3 => pd_gd (pd_in (zn c) 12) (pd_bd (if (zI3 97 (zn c).toNatClampNeg) = 4 then some 1 else (some 0)) fun (zx1 : Int32) => fl_X12_each_45 (zn c) (zn nn) zx1 (fun zI5 => pd_let (pd_ui zI5 92 19 (zn nn)) fun zI7 => fl_X12_each_109 (zn nn) (fun zx7 zI9 => some (zx7, zI9)) pd_FU 0 0 zI7) pd_FU 0 zI3))
      (fun r => r.1 = zn (zcn (fun t => zsay (zsd cd (zPp cd (zmc m f T)) nn t)) nn) ∧ zF zLF I r.2 ∧ (∀ j, j ≠ 19 → r.2 92 j = I 92 j) ∧ r.2 92 19 = zn nn ∧ ∀ t, t < nn → r.2 109 t = zsd cd (zPp cd (zmc m f T)) nn t) := by
  have hst := zst_le (n := nn) hv
  have hc := h.1
  have h5 : cd 0 ≤ 5 := hv.1
  rw [zT_bd]
  refine zT_mono (zq_costs h hv hr hT hn2) (fun I1 ⟨hF1, hma1⟩ => ?_)
  rw [zT_bd]
  refine zT_mono (zq_clearLeasts (I := I1) hn2) (fun I2 ⟨hF2, hz⟩ => ?_)
  have hF12 : zF [110, 117, 118] I I2 := zF_tr (zF_sub hF1 (by decide)) (zF_sub hF2 (by decide))
  have hcd := zCm_F (by decide) hF12 h
  have erg : (if zn (cd 0) = 4 then some (1 : Int32) else some 0) = some (zn (if cd 0 = 4 then 1 else 0)) := by
    rw [zn_4, zi_eq (by omega) (by omega)]
    split <;> rfl
  rw [zn_in2 hc (by omega), zb_gd, zn_nat (by omega), hcd.2.1, erg, zb_bd, zn_0]
  refine zq_each45 (T := zst cd nn) hcd hv (zMa_F (by decide) hF2 hma1) (Nat.le_refl _) (by omega) hn1 hn2 hP hz (fun I3 hF3 hD3 => ?_)
  rw [zb_let]
  have e1 : ∀ x, pd_ui I3 92 19 x 117 = I3 117 := fun x => zu_ne (by decide)
  have e2 : ∀ x, pd_ui I3 92 19 x 118 = I3 118 := fun x => zu_ne (by decide)
  refine zq_each109 (z := zLZ cd (zPp cd (zmc m f T)) nn 0 (zBg cd)) (o := zLZ cd (zPp cd (zmc m f T)) nn 1 (zBg cd)) hn2 (fun t ht => ⟨by rw [e1]; exact (hD3 t ht).1, by rw [e2]; exact (hD3 t ht).2, zLZ_le hv hP hn2 _ t ht, zLZ_le hv hP hn2 _ t ht⟩) (fun I4 hF4 hD4 => ⟨_, rfl, rfl, ?_, ?_, ?_, hD4⟩)
  · exact zF_tr (zF_u (by decide) (zF_tr (zF_sub hF12 (by decide)) (zF_sub hF3 (by decide)))) (zF_sub hF4 (by decide))
  · intro j hj
    show I4 92 j = I 92 j
    rw [hF4 92 (by decide), zu_same, zu_nat hj, hF3 92 (by decide), hF12 92 (by decide)]
  · show I4 92 19 = zn nn
    rw [hF4 92 (by decide), zu_same, zu_at]
