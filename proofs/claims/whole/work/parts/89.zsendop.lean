/-! the operations send, cost -/
def zL4 : List Nat := [4, 5, 9, 10, 119, 120]
theorem zCI_F4 {I I' : pd_I} {Z : pd_R} {n : Nat} (K : zCI I Z n) (h : zF zL4 I I') : zCI I' Z n := by
  obtain ⟨a1, a2, a3, a4, a5, a6, a7, a8⟩ := K
  refine ⟨zCR_F (fun b b1 b2 b3 => h b (by simp [zL4]; omega)) a1, zCT_F (h 7 (by decide)) (h 8 (by decide)) (h 95 (by decide)) (h 96 (by decide)) a2, zCC_F (L := zL4) (by decide) (by decide) h (by rw [h 0 (by decide)]) (by rw [h 92 (by decide)]) rfl a3, zCW_F (fun b b1 b2 => h b (by simp [zL4]; omega)) (by rw [h 16 (by decide)]) (by rw [h 92 (by decide)]) (h 105 (by decide)) (h 106 (by decide)) (h 107 (by decide)) (h 108 (by decide)) rfl a4, zCS_F (by rw [h 0 (by decide)]) (by rw [h 92 (by decide)]) (h 59 (by decide)) (h 109 (by decide)) a5, zCA_F (by rw [h 0 (by decide)]) (by rw [h 92 (by decide)]) a6, a7, a8⟩
theorem zCI_row4 {I I' : pd_I} {Z : pd_R} {n r m0 : Nat} {f0 : Nat → Nat} (k : zCI I Z n) (hr : r < 16) (hF : zF (zL4 ++ [60 + 2 * r, 60 + 2 * r + 1, 92, 93, 94]) I I') (h92 : ∀ j, j ≠ 0 → I' 92 j = I 92 j) (h3 : ∀ j, j ≠ r → I' 93 j = I 93 j) (h4 : ∀ i, i < 600 * r ∨ 600 * r + 600 ≤ i → I' 94 i = I 94 i) (h1 : I' (60 + 2 * r) 1 = I' 93 r) (q1 : zRow I' (60 + 2 * r) m0 f0) (q2 : zRom I' r m0 f0) : zCI I' Z n := by
  obtain ⟨X, hX⟩ : ∃ X : pd_I, X = fun b => if b ∈ zL4 then I' b else I b := ⟨_, rfl⟩
  have x1 : ∀ b, b ∉ zL4 → X b = I b := fun b hb => by rw [hX]; exact if_neg hb
  have x2 : ∀ b, b ∈ zL4 → X b = I' b := fun b hb => by rw [hX]; exact if_pos hb
  have kX : zCI X Z n := zCI_F4 k x1
  refine zCI_row kX hr (fun b hb => ?_) (fun j hj => by rw [h92 j hj, x1 92 (by decide)]) (fun j hj => by rw [h3 j hj, x1 93 (by decide)]) (fun i hi => by rw [h4 i hi, x1 94 (by decide)]) h1 q1 q2
  by_cases c : b ∈ zL4
  · rw [x2 b c]
  · rw [x1 b c, hF b (fun hh => (List.mem_append.mp hh).elim c hb)]
theorem zq_send83 {O : Type} {Q : O → Prop} {I : pd_I} {r N : Nat} {g : Nat → Nat} {kont : pd_I → Option O} (hr : r < 16) (hN : N ≤ 600) (hg : ∀ i, i < N → I 119 i = zn (g i) ∧ g i < 2) (hK : ∀ I', zF [94] I I' → (∀ i, i < N → I' 94 (600 * r + i) = zvv (g i)) → (∀ i, i < 600 * r ∨ 600 * r + 600 ≤ i → I' 94 i = I 94 i) → zT (kont I') Q) : zT (fl_X12_send_83 (zn r) (zn N) kont pd_FU (zn 0) I) Q := by
  refine zl_loop (fun fu j (s : pd_I) => fl_X12_send_83 (zn r) (zn N) kont fu j s) 600 (fun j s => zF [94] I s ∧ (∀ i, i < j → i < N → s 94 (600 * r + i) = zvv (g i)) ∧ ∀ i, i < 600 * r ∨ 600 * r + 600 ≤ i → s 94 i = I 94 i) ?_ ?_ pd_FU 0 _ (by omega) (zFU (by omega)) ⟨zF_rfl, fun i hi => by omega, fun _ _ => rfl⟩
  · rintro fu s ⟨h1, h2, h3⟩
    rw [fl_X12_send_83, zn_600, if_pos (Int32.le_refl _)]
    exact hK s h1 (fun i hi => h2 i (by omega) hi) h3
  · rintro fu j s hj ⟨h1, h2, h3⟩ ih
    have ev : (if zn N ≤ zn j then some (0 : Int32) else (pd_gd (pd_in (zn j) 1400) (if s 119 (zn j).toNatClampNeg = 1 then some (-16) else some 16))) = some (if j < N then zvv (g j) else 0) := by
      rw [zi_le (by omega) (by omega)]
      by_cases c : N ≤ j
      · rw [if_pos c, if_neg (by omega)]
      · obtain ⟨g1, g2⟩ := hg j (by omega)
        rw [if_neg c, if_pos (show j < N by omega), zn_in2 (show j < 1400 by omega) (by omega), zb_gd, zn_nat (by omega), h1 119 (by simp), g1]
        unfold zvv
        by_cases d : g j = 0
        · rw [d, if_neg (show ¬ zn 0 = 1 by decide), if_pos rfl]
        · rw [show g j = 1 by omega, if_pos (show zn 1 = 1 from rfl), if_neg (by omega)]
    rw [fl_X12_send_83, zn_600, zi_le (by omega) (by omega), if_neg (by omega), ev, zb_bd, zn_mul, zn_add, zn_in2 (show 600 * r + j < 9600 by omega) (by omega), zb_gd, zn_nat (by omega), zb_let, zb_let, zn_1, zn_add]
    refine ih _ ⟨zF_u (by simp) h1, fun i hi hi2 => ?_, fun i hi => ?_⟩
    · rw [zu_same, zu_app]
      by_cases c : i = j
      · rw [if_pos (by rw [c]), c, if_pos (by omega)]
      · rw [if_neg (by omega)]; exact h2 i (by omega) hi2
    · rw [zu_same, zu_nat (by omega)]; exact h3 i hi
theorem zvv_32 {s : Nat} : zvv s + 32 = zn (if s = 0 then 48 else 16) ∧ (if s = 0 then 48 else 16) < 64 := by
  unfold zvv
  by_cases c : s = 0
  · rw [if_pos c, if_pos c]; exact ⟨by decide, by omega⟩
  · rw [if_neg c, if_neg c]; exact ⟨by decide, by omega⟩
theorem zm_sendP {I : pd_I} {k cnt r r3 nn : Nat} {cd : Nat → Nat} (hc : I 92 5 = zn cnt) (hc12 : cnt ≤ 12) (hk : k < cnt) (hr : r < 16) (hr3 : r3 < 16) (hn1 : 1 ≤ nn) (hn2 : nn ≤ 200) : fn_X12_send I (zn k) (zn r) (zn nn) (zn r3) = pd_bd (fn_X12_takes (pd_ui I 92 0 (zn 0)) (zn r) (zn nn)) fun zI6 => pd_bd2 (fn_X12_sent zI6 (zn k) (zn nn)) fun zr5 zI7 => if zr5 = (-1) then some ((-1), zI7) else (if zr5 ≤ zn 600 then pd_gd (pd_in (zn r3) 16) (pd_let (pd_ui zI7 93 (zn r3).toNatClampNeg zr5) fun zI8 => fl_X12_send_83 (zn r3) zr5 (fun zI10 => some (zr5, zI10)) pd_FU (zn 0) zI8) else (some ((-2), zI7))) := by
  unfold fn_X12_send
  rw [zr_code1 hc hc12 ⟨k, rfl, hk⟩, zb_bd2, zb_jn, zn_0, if_neg zn_p0, zr_row1 z92_0 ⟨r, rfl, hr⟩, zb_bd2, if_neg zn_p0, zr_row1 z92_0 ⟨r3, rfl, hr3⟩, zb_bd2, if_neg zn_p0, zr_n1 z92_0 ⟨nn, rfl, hn1, hn2⟩, zb_bd2, if_neg zn_p0, zn_600]
theorem zm_costP {I : pd_I} {k cnt r r3 nn : Nat} (hc : I 92 5 = zn cnt) (hc12 : cnt ≤ 12) (hk : k < cnt) (hr : r < 16) (hr3 : r3 < 16) (hn1 : 1 ≤ nn) (hn2 : nn ≤ 200) : fn_X12_cost I (zn k) (zn r) (zn nn) (zn r3) = pd_bd (fn_X12_takes (pd_ui I 92 0 (zn 0)) (zn r) (zn nn)) fun zI6 => pd_bd2 (fn_X12_sent zI6 (zn k) (zn nn)) fun zr5 zI7 => if zr5 = (-1) then some ((-1), zI7) else (fl_X12_cost_66 (zn r3) zr5 zI7 (fun zx3 => some (zx3, zI7)) pd_FU (zn 0) (zn 0)) := by
  unfold fn_X12_cost
  rw [zr_code1 hc hc12 ⟨k, rfl, hk⟩, zb_bd2, zb_jn, zn_0, if_neg zn_p0, zr_row1 z92_0 ⟨r, rfl, hr⟩, zb_bd2, if_neg zn_p0, zr_row1 z92_0 ⟨r3, rfl, hr3⟩, zb_bd2, if_neg zn_p0, zr_n1 z92_0 ⟨nn, rfl, hn1, hn2⟩, zb_bd2, if_neg zn_p0]
/-- what can be sent, for class and reference -/
theorem zsn_or {I : pd_I} {k nn m : Nat} {cd f : Nat → Nat} (h : zCo I (133 + 3 * k) cd) (hM : zCm I k cd) (hv : zCv cd) (hn1 : 1 ≤ nn) (hn2 : nn ≤ 200) : ∃ o, (∀ I', zCo I' (133 + 3 * k) cd → fn_X0_ordersAll I' (133 + 3 * k) (zn nn) = some (zn o)) ∧ (∀ I', zCm I' k cd → fn_X12_isOrder I' (zn k) (zn nn) = some (zn o)) ∧ ((∃ b, zBe cd (zxb m f) nn b ∧ (cd 0 = 5 → o = 1)) ∨ (zBn cd (zxb m f) nn ∨ cd 0 = 5 ∧ o = 0)) := by
  obtain ⟨o, ho, e1, e2, e3⟩ := zc_orders (n := nn) h hM hv hn1 hn2
  refine ⟨o, fun I' h' => ?_, fun I' h' => ?_, ?_⟩
  · obtain ⟨o', ho', f1, f2, f3⟩ := zc_orders (n := nn) h' hM hv hn1 hn2
    rw [e2] at f2
    have e := Option.some.inj f2
    rw [zn_eq (by omega) (by omega)] at e
    rw [f1, e]
  · obtain ⟨o', ho', f1, f2, f3⟩ := zc_orders (n := nn) h h' hv hn1 hn2
    rw [e1] at f1
    have e := Option.some.inj f1
    rw [zn_eq (by omega) (by omega)] at e
    rw [f2, e]
  · rcases zBe_or cd (zxb m f) nn with ⟨b, hb⟩ | hb
    · by_cases c : cd 0 = 5
      · by_cases d : o = 1
        · exact Or.inl ⟨b, hb, fun _ => d⟩
        · exact Or.inr (Or.inr ⟨c, by omega⟩)
      · exact Or.inl ⟨b, hb, fun x => absurd x c⟩
    · exact Or.inr (Or.inl hb)
theorem zo_send {I : pd_I} {J : pd_J} {Z : pd_R} {n : Nat} {p q u v : Int32} (h : zCI I Z n) : zO3 (fn_L_send I J Z n p q u v) (fun I1 => fn_X12_send I1 p q u v) Z n := by
  obtain ⟨cnt, cd, q1, q2, q3, q4, q5⟩ := id h.2.2.1
  by_cases hp : zin p cnt
  · obtain ⟨k, rfl, hk⟩ := hp
    obtain ⟨g1, g2, g3, g4⟩ := q5 k hk
    by_cases hq : zin q 16
    · obtain ⟨r, rfl, hr⟩ := hq
      obtain ⟨m, f, b1, b2, b3⟩ := zr_rowI h.1 hr
      by_cases hw : zin v 16
      · obtain ⟨r3, rfl, hr3⟩ := hw
        by_cases hu : zrg u 1 200
        · obtain ⟨nn, rfl, hn1, hn2⟩ := hu
          obtain ⟨o, o1, o2, o3⟩ := zsn_or (m := m) (f := f) g3 g4 g2 hn1 hn2
          have hst := zst_le (n := nn) g2
          have hB := zpl_B g2 hn2
          rcases o3 with ⟨b, hb, ho⟩ | hno
          · obtain ⟨⟨w, I1⟩, eC, rfl, f1, f2⟩ := zk_encode (show 133 ≤ 133 + 3 * k by omega) (show 60 ≤ 60 + 2 * r by omega) g3 g2 b2 hn1 hn2 hb o1 ho
            simp only [] at f1 f2
            have c1 := zCo_F (by decide) (by omega) f1 g3
            have hsb := zc_sentBy (n := nn) c1 g2 (by omega)
            have hgo : ∀ t o, zgo (cd k) (zxb m f) nn b t o < 2 := fun t o => zgo_lt (fun t => zxb_lt)
            by_cases h6 : zsa (cd k) (zst (cd k) nn) ≤ 600
            · obtain ⟨I2, eB, k1, k2, -⟩ := zq_begin (I := I1) (b := 60 + 2 * r3) h6
              obtain ⟨I3, eW, l1, l2⟩ := zq_write (b := 60 + 2 * r3) (g := zgo (cd k) (zxb m f) nn b) (show 133 ≤ 133 + 3 * k by omega) (by omega) (by omega) (zCo_F (by simp; omega) (by omega) k1 c1) g2 hn2 h6 k2 (fun t ht o ho => ⟨by rw [k1 5 (by simp; omega)]; exact f2 t ht o ho, hgo t o⟩)
              have hF : ∀ b, b ≠ 4 → b ≠ 5 → b ≠ 60 + 2 * r3 → b ≠ 60 + 2 * r3 + 1 → I3 b = I b := fun b a1 a2 a3 a4 => by rw [l1 b (by simp; omega), k1 b (by simp; omega), f1 b (by simp; omega)]
              have hF0 : zF [4, 5, 60 + 2 * r3, 60 + 2 * r3 + 1, 92] I (pd_ui I3 92 0 (zn 0)) := fun b hb => by
                simp only [List.mem_cons, List.not_mem_nil, or_false, not_or] at hb
                rw [z92_b (by omega), hF b (by omega) (by omega) (by omega) (by omega)]
              obtain ⟨I4, eT, m1, m2⟩ := zq_takes (n := nn) (zRom_F (by simp; omega) (by simp; omega) hF0 b3) hn2
              have hM4 := zCm_F (by decide) m1 (zCm_F (by simp; omega) hF0 g4)
              obtain ⟨⟨w, I5⟩, eS, rfl, s1, s2⟩ := zq_sent (x := zxb m f) hM4 g2 hn1 hn2 (fun t => zxb_lt) m2 hb (o2 I4 hM4) ho
              simp only [] at s1 s2
              have hR : zT (fn_X12_send I3 (zn k) (zn r) (zn nn) (zn r3)) (fun x => x.1 = zn (zsa (cd k) (zst (cd k) nn)) ∧ zF [94] (pd_ui I5 93 r3 (zn (zsa (cd k) (zst (cd k) nn)))) x.2 ∧ (∀ i, i < zsa (cd k) (zst (cd k) nn) → x.2 94 (600 * r3 + i) = zvv (zsq (cd k) (zgo (cd k) (zxb m f) nn b) (zst (cd k) nn) i)) ∧ ∀ i, i < 600 * r3 ∨ 600 * r3 + 600 ≤ i → x.2 94 i = I 94 i) := by
                rw [zm_sendP (cd := cd k) (by rw [hF 92 (by omega) (by omega) (by omega) (by omega)]; exact q4) q1 hk hr hr3 hn1 hn2, eT, zb_bd, eS, zb_bd2, if_neg (zn_m1e (by omega)), zi_le (by omega) (by omega), if_pos h6, zn_in2 hr3 (by omega), zb_gd, zn_nat (by omega), zb_let]
                refine zq_send83 (g := zsq (cd k) (zgo (cd k) (zxb m f) nn b) (zst (cd k) nn)) hr3 h6 (fun i hi => ⟨by rw [zu_ne (by decide)]; exact s2 i hi, zsq_lt hgo _⟩) (fun I6 w1 w2 w3 => ⟨_, rfl, rfl, w1, w2, fun i hi => ?_⟩)
                show I6 94 i = I 94 i
                rw [w3 i hi, zu_ne (by decide), s1 94 (by decide), m1 94 (by decide), z92_b (by decide), hF 94 (by omega) (by omega) (by omega) (by omega)]
              obtain ⟨⟨w, I6⟩, eR, rfl, w1, w2, w3⟩ := hR
              simp only [] at w1 w2 w3
              have d0 : ∀ b, b ≠ 94 → b ≠ 93 → b ≠ 119 → b ≠ 120 → b ≠ 92 → I6 b = I3 b := fun b a1 a2 a3 a4 a5 => by rw [w1 b (by simp; omega), zu_ne a2, s1 b (by simp; omega), m1 b (by simp; omega), z92_b a5]
              have d92 : I6 92 = pd_ui I3 92 0 (zn 0) 92 := by rw [w1 92 (by simp), zu_ne (by decide), s1 92 (by decide), m1 92 (by decide)]
              have d93 : I6 93 = upd (I 93) r3 (zn (zsa (cd k) (zst (cd k) nn))) := by rw [w1 93 (by simp), zu_same, s1 93 (by decide), m1 93 (by decide), z92_b (by decide), hF 93 (by omega) (by omega) (by omega) (by omega)]
              refine ⟨0, I3, pd_uj J 132 (0 : Int32).toNatClampNeg (zn (zsa (cd k) (zst (cd k) nn))).toInt64, _, I6, ?_, eR, by rw [d92, z92_0, zn_0], fun _ => by rw [zb_j], ?_⟩
              · unfold fn_L_send fn_X11_send
                rw [zr_codeOf1 q3 q1 hk g1 (zci q2 hk), zb_bx, zci q2 hk, zb_gd, zr_rowOf1 hr, zb_bx, za_row r hr, zb_gd, zr_rowOf1 hr3, zb_bx, za_row r3 hr3, zb_gd, zr_bits1 ⟨nn, rfl, hn1, hn2⟩, zb_bx, eC, zb_bd2, if_neg (show ¬ zn 1 = 0 from zn_p0), hsb, zb_bd, zn_600, zi_le (by omega) (by omega), if_pos h6, eB, zb_bd, eW, zb_bd, zb_bc2, zb_in1, zb_gd]
                rfl
              · have e0 : I6 (60 + 2 * r3) = I3 (60 + 2 * r3) := d0 _ (by omega) (by omega) (by omega) (by omega) (by omega)
                have e1 : I6 (60 + 2 * r3 + 1) = I3 (60 + 2 * r3 + 1) := d0 _ (by omega) (by omega) (by omega) (by omega) (by omega)
                have e2 : I3 (60 + 2 * r3) 1 = zn (zsa (cd k) (zst (cd k) nn)) := by rw [l1 _ (by simp), k2]
                refine zCI_row4 (m0 := zsa (cd k) (zst (cd k) nn)) (f0 := fun i => if zsq (cd k) (zgo (cd k) (zxb m f) nn b) (zst (cd k) nn) i = 0 then 48 else 16) h hr3 (fun b hb => ?_) (fun j hj => ?_) (fun j hj => by rw [d93, zu_nat hj]) w3 (by rw [e0, e2, d93, zu_at]) ⟨Or.inl (by rw [e0, e2]), h6, fun i hi => ?_⟩ ⟨hr3, Or.inl (by rw [d93, zu_at]), h6, fun i hi => ?_⟩
                · simp only [zL4, List.cons_append, List.nil_append, List.mem_cons, List.not_mem_nil, or_false, not_or] at hb
                  rw [d0 b (by omega) (by omega) (by omega) (by omega) (by omega), hF b (by omega) (by omega) (by omega) (by omega)]
                · rw [d92, z92_j hj, hF 92 (by omega) (by omega) (by omega) (by omega)]
                · rw [e1, l2 i hi]; exact zvv_32
                · rw [w2 i hi]; exact zvv_32
            · have hF0 : zF [4, 5, 92] I (pd_ui I1 92 0 (zn 0)) := zF_u (by decide) (zF_sub f1 (by decide))
              obtain ⟨I4, eT, m1, m2⟩ := zq_takes (n := nn) (zRom_F (by decide) (by decide) hF0 b3) hn2
              have hM4 := zCm_F (by decide) m1 (zCm_F (by decide) hF0 g4)
              obtain ⟨⟨w, I5⟩, eS, rfl, s1, s2⟩ := zq_sent (x := zxb m f) hM4 g2 hn1 hn2 (fun t => zxb_lt) m2 hb (o2 I4 hM4) ho
              simp only [] at s1 s2
              refine ⟨0, I1, pd_uj J 132 (0 : Int32).toNatClampNeg (-2 : Int32).toInt64, -2, I5, ?_, ?_, ?_, fun _ => by rw [zb_j], ?_⟩
              · unfold fn_L_send fn_X11_send
                rw [zr_codeOf1 q3 q1 hk g1 (zci q2 hk), zb_bx, zci q2 hk, zb_gd, zr_rowOf1 hr, zb_bx, za_row r hr, zb_gd, zr_rowOf1 hr3, zb_bx, za_row r3 hr3, zb_gd, zr_bits1 ⟨nn, rfl, hn1, hn2⟩, zb_bx, eC, zb_bd2, if_neg (show ¬ zn 1 = 0 from zn_p0), hsb, zb_bd, zn_600, zi_le (by omega) (by omega), if_neg h6, zb_bc2, zb_in1, zb_gd]
                rfl
              · show fn_X12_send I1 (zn k) (zn r) (zn nn) (zn r3) = _
                rw [zm_sendP (cd := cd k) (by rw [f1 92 (by decide)]; exact q4) q1 hk hr hr3 hn1 hn2, eT, zb_bd, eS, zb_bd2, if_neg (zn_m1e (by omega)), zi_le (by omega) (by omega), if_neg h6]
              · rw [s1 92 (by decide), m1 92 (by decide), z92_0, zn_0]
              · refine zCI_F4 (zCI_0 (x := zn 0) h) (fun b hb => ?_)
                simp only [zL4, List.mem_cons, List.not_mem_nil, or_false, not_or] at hb
                rw [s1 b (by simp; omega), m1 b (by simp; omega)]
                by_cases c : b = 92
                · subst c; rw [zu_same, zu_same, f1 92 (by decide)]
                · rw [z92_b c, z92_b c, f1 b (by simp; omega)]
          · obtain ⟨⟨w, I1⟩, eC, rfl, f1⟩ := zk_encode0 (show 133 ≤ 133 + 3 * k by omega) (show 60 ≤ 60 + 2 * r by omega) g3 g2 b2 hn1 hn2 o1 hno
            simp only [] at f1
            have hF0 : zF [4, 5, 92] I (pd_ui I1 92 0 (zn 0)) := zF_u (by decide) (zF_sub f1 (by decide))
            obtain ⟨I4, eT, m1, m2⟩ := zq_takes (n := nn) (zRom_F (by decide) (by decide) hF0 b3) hn2
            have hM4 := zCm_F (by decide) m1 (zCm_F (by decide) hF0 g4)
            have eS := zq_sent0 (x := zxb m f) hM4 g2 hn2 (fun t => zxb_lt) m2 (o2 I4 hM4) hno
            refine ⟨0, I1, pd_uj J 132 (0 : Int32).toNatClampNeg (-1 : Int32).toInt64, -1, I4, ?_, ?_, ?_, fun _ => by rw [zb_j], ?_⟩
            · unfold fn_L_send fn_X11_send
              rw [zr_codeOf1 q3 q1 hk g1 (zci q2 hk), zb_bx, zci q2 hk, zb_gd, zr_rowOf1 hr, zb_bx, za_row r hr, zb_gd, zr_rowOf1 hr3, zb_bx, za_row r3 hr3, zb_gd, zr_bits1 ⟨nn, rfl, hn1, hn2⟩, zb_bx, eC, zb_bd2, if_pos (show zn 0 = 0 from rfl), zb_bc2, zb_in1, zb_gd]
              rfl
            · show fn_X12_send I1 (zn k) (zn r) (zn nn) (zn r3) = _
              rw [zm_sendP (cd := cd k) (by rw [f1 92 (by decide)]; exact q4) q1 hk hr hr3 hn1 hn2, eT, zb_bd, eS, zb_bd2, if_pos rfl]
            · rw [m1 92 (by decide), z92_0, zn_0]
            · refine zCI_F4 (zCI_0 (x := zn 0) h) (fun b hb => ?_)
              simp only [zL4, List.mem_cons, List.not_mem_nil, or_false, not_or] at hb
              rw [m1 b (by simp; omega)]
              by_cases c : b = 92
              · subst c; rw [zu_same, zu_same, f1 92 (by decide)]
              · rw [z92_b c, z92_b c, f1 b (by simp; omega)]
        · refine zO3_er (J := J) (e := 2) h (by decide) ?_ ?_
          · unfold fn_L_send fn_X11_send
            rw [zr_codeOf1 q3 q1 hk g1 (zci q2 hk), zb_bx, zci q2 hk, zb_gd, zr_rowOf1 hr, zb_bx, za_row r hr, zb_gd, zr_rowOf1 hr3, zb_bx, za_row r3 hr3, zb_gd, zr_bits0 hu, zb_bxe, zb_bc2e, if_neg (by decide), if_pos rfl]
          · show fn_X12_send I (zn k) (zn r) u (zn r3) = _
            unfold fn_X12_send
            rw [zr_code1 q4 q1 ⟨k, rfl, hk⟩, zb_bd2, zb_jn, zn_0, if_neg zn_p0, zr_row1 z92_0 ⟨r, rfl, hr⟩, zb_bd2, if_neg zn_p0, zr_row1 z92_0 ⟨r3, rfl, hr3⟩, zb_bd2, if_neg zn_p0, zr_nL z92_0 (by decide) hu, zb_bd2, if_pos rfl]
      · refine zO3_er (J := J) (e := 1) h (by decide) ?_ ?_
        · unfold fn_L_send fn_X11_send
          rw [zr_codeOf1 q3 q1 hk g1 (zci q2 hk), zb_bx, zci q2 hk, zb_gd, zr_rowOf1 hr, zb_bx, za_row r hr, zb_gd, zr_rowOf0 hw, zb_bxe, zb_bc2e, if_pos rfl]
        · show fn_X12_send I (zn k) (zn r) u v = _
          unfold fn_X12_send
          rw [zr_code1 q4 q1 ⟨k, rfl, hk⟩, zb_bd2, zb_jn, zn_0, if_neg zn_p0, zr_row1 z92_0 ⟨r, rfl, hr⟩, zb_bd2, if_neg zn_p0, zr_rowL z92_0 (by decide) hw, zb_bd2, if_pos rfl]
    · refine zO3_er (J := J) (e := 1) h (by decide) ?_ ?_
      · unfold fn_L_send fn_X11_send
        rw [zr_codeOf1 q3 q1 hk g1 (zci q2 hk), zb_bx, zci q2 hk, zb_gd, zr_rowOf0 hq, zb_bxe, zb_bc2e, if_pos rfl]
      · show fn_X12_send I (zn k) q u v = _
        unfold fn_X12_send
        rw [zr_code1 q4 q1 ⟨k, rfl, hk⟩, zb_bd2, zb_jn, zn_0, if_neg zn_p0, zr_rowL z92_0 (by decide) hq, zb_bd2, if_pos rfl]
  · refine zO3_er (J := J) (e := 1) h (by decide) ?_ ?_
    · unfold fn_L_send fn_X11_send
      rw [zr_codeOf0 q3 q1 hp, zb_bxe, zb_bc2e, if_pos rfl]
    · show fn_X12_send I p q u v = _
      unfold fn_X12_send
      rw [zr_codeL q4 q1 hp, zb_bd2, zb_jn, zn_0, if_pos rfl]
