/-! the invariant of the law's loop -/
def zCR (I : pd_I) : Prop := ∃ (m : Nat → Nat) (f : Nat → Nat → Nat), ∀ r, r < 16 → I (60 + 2 * r) 1 = I 93 r ∧ zRow I (60 + 2 * r) (m r) (f r) ∧ zRom I r (m r) (f r)
def zCT (I : pd_I) : Prop := ∃ T, zTab I T ∧ zTam I T
def zCC (I : pd_I) (Z : pd_R) (n : Nat) : Prop := ∃ (cnt : Nat) (cd : Nat → Nat → Nat), cnt ≤ 12 ∧ n = 133 + 3 * cnt ∧ I 0 2 = zn cnt ∧ I 92 5 = zn cnt ∧ ∀ k, k < cnt → Z 2 k = some (133 + 3 * k) ∧ zCv (cd k) ∧ zCo I (133 + 3 * k) (cd k) ∧ zCm I k (cd k)
def zCW (I : pd_I) (Z : pd_R) : Prop := zZw Z ∧ ∃ (m : Nat) (W : Nat → Nat × (Nat → Nat) × Nat) (nn : Nat → Nat), m ≤ 8 ∧ I 16 1 = zn m ∧ I 92 14 = zn m ∧ ∀ j, j < m → nn j ≤ 200 ∧ zWb (W j) ∧ (∃ w, Z 17 j = some w ∧ zWr I w (W j) (nn j)) ∧ zWm I j (W j) (nn j)
def zCS (I : pd_I) : Prop := ∃ s, s ≤ 200 ∧ I 0 12 = zn s ∧ I 92 19 = zn s ∧ ∀ t, t < s → I 59 t = I 109 t
def zCA (I : pd_I) : Prop := ∃ g, g ≤ 1 ∧ I 0 13 = zn g ∧ I 92 21 = zn g
def zCP (Z : pd_R) : Prop := (∃ na la nc lc, zZs Z na la nc lc) ∧ ∃ ow ft, zZe Z ow ft
def zCI (I : pd_I) (Z : pd_R) (n : Nat) : Prop := zCR I ∧ zCT I ∧ zCC I Z n ∧ zCW I Z ∧ zCS I ∧ zCA I ∧ zCP Z ∧ pd_fr (pd_RF Z) n
theorem zCR_F {I I' : pd_I} (h : ∀ b, 60 ≤ b → b < 95 → b ≠ 92 → I' b = I b) (k : zCR I) : zCR I' := by
  obtain ⟨m, f, q⟩ := k
  refine ⟨m, f, fun r hr => ?_⟩
  have e0 : I' (60 + 2 * r) = I (60 + 2 * r) := h _ (by omega) (by omega) (by omega)
  have e1 : I' (60 + 2 * r + 1) = I (60 + 2 * r + 1) := h _ (by omega) (by omega) (by omega)
  have e2 : I' 93 = I 93 := h _ (by omega) (by omega) (by omega)
  have e3 : I' 94 = I 94 := h _ (by omega) (by omega) (by omega)
  unfold zRow zRom
  rw [e0, e1, e2, e3]
  exact q r hr
theorem zCT_F {I I' : pd_I} (h7 : I' 7 = I 7) (h8 : I' 8 = I 8) (h5 : I' 95 = I 95) (h6 : I' 96 = I 96) (k : zCT I) : zCT I' := by
  obtain ⟨T, q1, q2⟩ := k
  refine ⟨T, ?_, ?_⟩
  · unfold zTab; rw [h7, h8]; exact q1
  · unfold zTam; rw [h5, h6]; exact q2
theorem zCC_F {L : List Nat} {I I' : pd_I} {Z Z' : pd_R} {n : Nat} (hL : ∀ x ∈ L, x < 133) (hM : ∀ x ∈ [97, 98, 99, 100, 101, 102, 103, 104], x ∉ L) (h : zF L I I') (h0 : I' 0 2 = I 0 2) (h5 : I' 92 5 = I 92 5) (h2 : Z' 2 = Z 2) (k : zCC I Z n) : zCC I' Z' n := by
  obtain ⟨cnt, cd, q1, q2, q3, q4, q5⟩ := k
  refine ⟨cnt, cd, q1, q2, by rw [h0]; exact q3, by rw [h5]; exact q4, fun j hj => ?_⟩
  obtain ⟨p1, p2, p3, p4⟩ := q5 j hj
  exact ⟨by rw [h2]; exact p1, p2, zCo_F hL (by omega) h p3, zCm_F hM h p4⟩
theorem zCW_F {I I' : pd_I} {Z Z' : pd_R} (hw : ∀ b, 18 ≤ b → b < 36 → I' b = I b) (h16 : I' 16 1 = I 16 1) (h14 : I' 92 14 = I 92 14) (h5 : I' 105 = I 105) (h6 : I' 106 = I 106) (h7 : I' 107 = I 107) (h8 : I' 108 = I 108) (h17 : Z' 17 = Z 17) (k : zCW I Z) : zCW I' Z' := by
  obtain ⟨q0, m, W, nn, q1, q2, q3, q4⟩ := k
  refine ⟨zZw_Z h17 q0, m, W, nn, q1, by rw [h16]; exact q2, by rw [h14]; exact q3, fun j hj => ?_⟩
  obtain ⟨p1, p2, ⟨w, p3, p4⟩, p5⟩ := q4 j hj
  have hww : pd_isWay w = true := by obtain ⟨w', e, q⟩ := q0.1 j (by omega); rw [p3] at e; cases e; exact q
  obtain ⟨w1, w2, w3⟩ := zw_way hww
  refine ⟨p1, p2, ⟨w, by rw [h17]; exact p3, ?_⟩, ?_⟩
  · unfold zWr
    rw [hw w w1 w2, hw (w + 1) (by omega) (by omega)]
    exact p4
  · unfold zWm
    rw [h5, h6, h7, h8]
    exact p5
theorem zCS_F {I I' : pd_I} (h0 : I' 0 12 = I 0 12) (h9 : I' 92 19 = I 92 19) (h5 : I' 59 = I 59) (h1 : I' 109 = I 109) (k : zCS I) : zCS I' := by
  obtain ⟨s, q1, q2, q3, q4⟩ := k
  exact ⟨s, q1, by rw [h0]; exact q2, by rw [h9]; exact q3, fun t ht => by rw [h5, h1]; exact q4 t ht⟩
theorem zCA_F {I I' : pd_I} (h0 : I' 0 13 = I 0 13) (h9 : I' 92 21 = I 92 21) (k : zCA I) : zCA I' := by
  obtain ⟨s, q1, q2, q3⟩ := k
  exact ⟨s, q1, by rw [h0]; exact q2, by rw [h9]; exact q3⟩
/-- the references stay below n -/
theorem zfr_Z {Z Z' : pd_R} {n : Nat} (hn : 133 ≤ n) (h : pd_fr (pd_RF Z) n) (hP : zCP Z') (hW : zZw Z') (h2 : Z' 2 = Z 2) : pd_fr (pd_RF Z') n := by
  intro b j k hb e
  unfold pd_RF at e
  by_cases c : pd_dy b j = true
  · rw [if_pos c] at e
    have c2 := of_decide_eq_true c
    rcases c2 with c2 | c2 | ⟨c2, c3, c4⟩ | ⟨c2, c3, c4⟩
    · subst c2
      rw [h2] at e
      exact h 2 j k hb (by unfold pd_RF; rw [if_pos c]; exact e)
    · subst c2
      by_cases hj : j < 9
      · obtain ⟨w, e1, e2⟩ := hW.1 j hj
        rw [e1] at e
        cases e
        have := zw_way e2
        omega
      · rw [hW.2.2 j (by omega)] at e
        cases e
    · subst c2
      obtain ⟨⟨na, la, nc, lc, g2, g3, g4, g5, g6, g7⟩, _⟩ := hP
      have hj : j = 2 ∨ j = 3 ∨ j = 4 ∨ j = 5 := by omega
      rcases hj with d | d | d | d
      · subst d; rw [g2] at e; cases e; omega
      · subst d; rw [g3] at e; cases e; omega
      · subst d; rw [g4] at e; cases e; omega
      · subst d; rw [g5] at e; cases e; omega
    · subst c2
      obtain ⟨_, ow, ft, g2, g3, g4⟩ := hP
      have hj : j = 2 ∨ j = 3 := by omega
      rcases hj with d | d
      · subst d; rw [g2] at e; cases e; omega
      · subst d; rw [g3] at e; cases e; omega
  · rw [if_neg c] at e
    exact h b j k hb (by unfold pd_RF; rw [if_neg c]; exact e)
theorem zCI_ok9 {I : pd_I} {Z : pd_R} {n : Nat} (h : zCI I Z n) : pd_ok9 Z n := by
  obtain ⟨_, _, ⟨cnt, cd, q1, q2, _⟩, _, _, _, _, q8⟩ := h
  exact ⟨by omega, by omega, q8, by omega⟩
