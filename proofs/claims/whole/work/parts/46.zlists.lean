/-! the rests stand in order -/
def zpx (cd : Nat → Nat) (P : Nat → Nat → Nat) (k n : Nat) (E F : Nat → Nat) : Nat → Nat → Nat → Nat → Nat
  | 0, _, _, _ => 0
  | d + 1, s, m, i => if i = 0 then zLb cd P k n E F d s m else zpx cd P k n E F d (znx cd s (zLb cd P k n E F d s m)) (zLr cd P k n E F d s m) (i - 1)
theorem zlx_shift {b1 b2 : Nat → Nat} {v : Nat} : ∀ d t, zlx b1 b2 v d (t + 1) = zlx (fun i => b1 (i + 1)) (fun i => b2 (i + 1)) v d t
  | 0, _ => rfl
  | d + 1, t => by
    unfold zlx
    rw [zlx_shift d (t + 1)]
theorem zsorted {cd E F : Nat → Nat} {P : Nat → Nat → Nat} {k n : Nat} (hk : 1 ≤ k) (hE : ∀ s, E s ≤ 1) : ∀ d s m, m + 1 < (zLs cd P k n E F d s).1 → (zLs cd P k n E F d s).2 m ≤ (zLs cd P k n E F d s).2 (m + 1) ∧ ((zLs cd P k n E F d s).2 m = (zLs cd P k n E F d s).2 (m + 1) → zlx (zpx cd P k n E F d s (m + 1)) (zpx cd P k n E F d s m) 0 d 0 = 0)
  | 0, s, m, h => by
    have := hE s
    have h2 : m + 1 < E s := h
    omega
  | d + 1, s, m, h => by
    have h2 : m + 1 < (zLs cd P k n E F d (znx cd s 0)).1 + (zLs cd P k n E F d (znx cd s 1)).1 := Nat.lt_of_lt_of_le h (Nat.min_le_right _ _)
    have ih0 := zsorted (cd := cd) (P := P) (n := n) (F := F) hk hE d (znx cd s 0)
    have ih1 := zsorted (cd := cd) (P := P) (n := n) (F := F) hk hE d (znx cd s 1)
    have r1 := zMr_lt (p0 := P (n - (d + 1)) (2 * s)) (p1 := P (n - (d + 1)) (2 * s + 1)) (c0 := (zLs cd P k n E F d (znx cd s 0)).2) (c1 := (zLs cd P k n E F d (znx cd s 1)).2) h2
    have r0 := zMr_lt (p0 := P (n - (d + 1)) (2 * s)) (p1 := P (n - (d + 1)) (2 * s + 1)) (c0 := (zLs cd P k n E F d (znx cd s 0)).2) (c1 := (zLs cd P k n E F d (znx cd s 1)).2) (Nat.lt_of_succ_lt h2)
    have hs := zM_succ (p0 := P (n - (d + 1)) (2 * s)) (p1 := P (n - (d + 1)) (2 * s + 1)) (n0 := (zLs cd P k n E F d (znx cd s 0)).1) (n1 := (zLs cd P k n E F d (znx cd s 1)).1) (c0 := (zLs cd P k n E F d (znx cd s 0)).2) (c1 := (zLs cd P k n E F d (znx cd s 1)).2) (m := m)
    have hl := zM_le (p0 := P (n - (d + 1)) (2 * s)) (p1 := P (n - (d + 1)) (2 * s + 1)) (n0 := (zLs cd P k n E F d (znx cd s 0)).1) (n1 := (zLs cd P k n E F d (znx cd s 1)).1) (c0 := (zLs cd P k n E F d (znx cd s 0)).2) (c1 := (zLs cd P k n E F d (znx cd s 1)).2) m
    -- what stands at m and at m + 1
    have cst : ∀ j, (zLs cd P k n E F (d + 1) s).2 j = zMc (P (n - (d + 1)) (2 * s)) (P (n - (d + 1)) (2 * s + 1)) (zLs cd P k n E F d (znx cd s 0)).1 (zLs cd P k n E F d (znx cd s 1)).1 (zLs cd P k n E F d (znx cd s 0)).2 (zLs cd P k n E F d (znx cd s 1)).2 j := fun j => rfl
    have z0' := zcb_0 (p0 := P (n - (d + 1)) (2 * s)) (p1 := P (n - (d + 1)) (2 * s + 1)) (n0 := (zLs cd P k n E F d (znx cd s 0)).1) (n1 := (zLs cd P k n E F d (znx cd s 1)).1) (c0 := (zLs cd P k n E F d (znx cd s 0)).2) (c1 := (zLs cd P k n E F d (znx cd s 1)).2) (i := zM (P (n - (d + 1)) (2 * s)) (P (n - (d + 1)) (2 * s + 1)) (zLs cd P k n E F d (znx cd s 0)).1 (zLs cd P k n E F d (znx cd s 1)).1 (zLs cd P k n E F d (znx cd s 0)).2 (zLs cd P k n E F d (znx cd s 1)).2 m) (j := m - zM (P (n - (d + 1)) (2 * s)) (P (n - (d + 1)) (2 * s + 1)) (zLs cd P k n E F d (znx cd s 0)).1 (zLs cd P k n E F d (znx cd s 1)).1 (zLs cd P k n E F d (znx cd s 0)).2 (zLs cd P k n E F d (znx cd s 1)).2 m)
    have z1' := zcb_1 (p0 := P (n - (d + 1)) (2 * s)) (p1 := P (n - (d + 1)) (2 * s + 1)) (n0 := (zLs cd P k n E F d (znx cd s 0)).1) (n1 := (zLs cd P k n E F d (znx cd s 1)).1) (c0 := (zLs cd P k n E F d (znx cd s 0)).2) (c1 := (zLs cd P k n E F d (znx cd s 1)).2) (i := zM (P (n - (d + 1)) (2 * s)) (P (n - (d + 1)) (2 * s + 1)) (zLs cd P k n E F d (znx cd s 0)).1 (zLs cd P k n E F d (znx cd s 1)).1 (zLs cd P k n E F d (znx cd s 0)).2 (zLs cd P k n E F d (znx cd s 1)).2 m) (j := m - zM (P (n - (d + 1)) (2 * s)) (P (n - (d + 1)) (2 * s + 1)) (zLs cd P k n E F d (znx cd s 0)).1 (zLs cd P k n E F d (znx cd s 1)).1 (zLs cd P k n E F d (znx cd s 0)).2 (zLs cd P k n E F d (znx cd s 1)).2 m)
    have hz0 : zMz (P (n - (d + 1)) (2 * s)) (P (n - (d + 1)) (2 * s + 1)) (zLs cd P k n E F d (znx cd s 0)).1 (zLs cd P k n E F d (znx cd s 1)).1 (zLs cd P k n E F d (znx cd s 0)).2 (zLs cd P k n E F d (znx cd s 1)).2 m = 0 → _ := z0'
    have hz1 : zMz (P (n - (d + 1)) (2 * s)) (P (n - (d + 1)) (2 * s + 1)) (zLs cd P k n E F d (znx cd s 0)).1 (zLs cd P k n E F d (znx cd s 1)).1 (zLs cd P k n E F d (znx cd s 0)).2 (zLs cd P k n E F d (znx cd s 1)).2 m = 1 → _ := z1'
    have hb : ∀ j, zLb cd P k n E F d s j = 1 - zMz (P (n - (d + 1)) (2 * s)) (P (n - (d + 1)) (2 * s + 1)) (zLs cd P k n E F d (znx cd s 0)).1 (zLs cd P k n E F d (znx cd s 1)).1 (zLs cd P k n E F d (znx cd s 0)).2 (zLs cd P k n E F d (znx cd s 1)).2 j := fun j => rfl
    have hr : ∀ j, zLr cd P k n E F d s j = zMr (P (n - (d + 1)) (2 * s)) (P (n - (d + 1)) (2 * s + 1)) (zLs cd P k n E F d (znx cd s 0)).1 (zLs cd P k n E F d (znx cd s 1)).1 (zLs cd P k n E F d (znx cd s 0)).2 (zLs cd P k n E F d (znx cd s 1)).2 j := fun j => rfl
    have same : ∀ x r r', zLb cd P k n E F d s (m + 1) = x → zLb cd P k n E F d s m = x → zLr cd P k n E F d s (m + 1) = r' → zLr cd P k n E F d s m = r → zlx (zpx cd P k n E F (d + 1) s (m + 1)) (zpx cd P k n E F (d + 1) s m) 0 (d + 1) 0 = zlx (zpx cd P k n E F d (znx cd s x) r') (zpx cd P k n E F d (znx cd s x) r) 0 d 0 := by
      intro x r r' e1 e2 e3 e4
      have f : ∀ j, zpx cd P k n E F (d + 1) s j 0 = zLb cd P k n E F d s j := fun j => by unfold zpx; rw [if_pos rfl]
      conv => lhs; unfold zlx
      rw [f, f, e1, e2, if_pos rfl, zlx_shift]
      refine zlx_congr d 0 (fun i _ _ => ?_)
      constructor
      · show zpx cd P k n E F (d + 1) s (m + 1) (i + 1) = _
        conv => lhs; unfold zpx
        rw [if_neg (by omega), e1, e3, Nat.add_sub_cancel]
      · show zpx cd P k n E F (d + 1) s m (i + 1) = _
        conv => lhs; unfold zpx
        rw [if_neg (by omega), e2, e4, Nat.add_sub_cancel]
    rw [cst, cst]
    unfold zMc
    rcases r0 with ⟨a1, a2, a3⟩ | ⟨a1, a2, a3⟩
    · rcases r1 with ⟨b1, b2, b3⟩ | ⟨b1, b2, b3⟩
      · rw [if_pos a1, if_pos b1]
        rw [a1] at hs
        rw [hs] at b2 b3 ⊢
        obtain ⟨g1, g2⟩ := ih0 _ b3
        refine ⟨by omega, fun e => ?_⟩
        rw [same 0 _ _ (by rw [hb, b1]) (by rw [hb, a1]) (by rw [hr, b2]) (by rw [hr, a2])]
        exact g2 (by omega)
      · rw [if_pos a1, if_neg (by omega)]
        rw [a1] at hs
        rw [hs] at b2 b3 ⊢
        have := (hz1 a1).2
        rw [show m + 1 - (zM (P (n - (d + 1)) (2 * s)) (P (n - (d + 1)) (2 * s + 1)) (zLs cd P k n E F d (znx cd s 0)).1 (zLs cd P k n E F d (znx cd s 1)).1 (zLs cd P k n E F d (znx cd s 0)).2 (zLs cd P k n E F d (znx cd s 1)).2 m + 1) = m - zM (P (n - (d + 1)) (2 * s)) (P (n - (d + 1)) (2 * s + 1)) (zLs cd P k n E F d (znx cd s 0)).1 (zLs cd P k n E F d (znx cd s 1)).1 (zLs cd P k n E F d (znx cd s 0)).2 (zLs cd P k n E F d (znx cd s 1)).2 m by omega] at b3 ⊢
        refine ⟨by omega, fun e => ?_⟩
        have f : ∀ j, zpx cd P k n E F (d + 1) s j 0 = zLb cd P k n E F d s j := fun j => by unfold zpx; rw [if_pos rfl]
        unfold zlx
        rw [f, f, hb, hb, a1, b1, if_neg (by omega), if_neg (by omega)]
    · rcases r1 with ⟨b1, b2, b3⟩ | ⟨b1, b2, b3⟩
      · rw [if_neg (by omega), if_pos b1]
        rw [a1] at hs
        simp only [Nat.add_zero] at hs
        rw [hs] at b2 b3 ⊢
        have := hz0 a1
        refine ⟨by omega, fun e => by omega⟩
      · rw [if_neg (by omega), if_neg (by omega)]
        rw [a1] at hs
        simp only [Nat.add_zero] at hs
        rw [hs] at b2 b3 ⊢
        rw [show m + 1 - zM (P (n - (d + 1)) (2 * s)) (P (n - (d + 1)) (2 * s + 1)) (zLs cd P k n E F d (znx cd s 0)).1 (zLs cd P k n E F d (znx cd s 1)).1 (zLs cd P k n E F d (znx cd s 0)).2 (zLs cd P k n E F d (znx cd s 1)).2 m = m - zM (P (n - (d + 1)) (2 * s)) (P (n - (d + 1)) (2 * s + 1)) (zLs cd P k n E F d (znx cd s 0)).1 (zLs cd P k n E F d (znx cd s 1)).1 (zLs cd P k n E F d (znx cd s 0)).2 (zLs cd P k n E F d (znx cd s 1)).2 m + 1 by omega] at b2 b3 ⊢
        obtain ⟨g1, g2⟩ := ih1 _ b3
        refine ⟨by omega, fun e => ?_⟩
        rw [same 1 _ _ (by rw [hb, b1]) (by rw [hb, a1]) (by rw [hr, b2]) (by rw [hr, a2])]
        exact g2 (by omega)
theorem zpx_ph {cd E F : Nat → Nat} {P : Nat → Nat → Nat} {k n begin rank : Nat} : ∀ t, t ≤ n → ∀ i, zpx cd P k n E F n begin rank (t + i) = zpx cd P k n E F (n - t) (zph cd P k n E F begin rank t).1 (zph cd P k n E F begin rank t).2 i
  | 0, _, i => by rw [Nat.zero_add]; rfl
  | t + 1, h, i => by
    rw [show t + 1 + i = t + (i + 1) by omega, zpx_ph t (by omega) (i + 1), show n - t = (n - (t + 1)) + 1 by omega]
    conv => lhs; unfold zpx
    rw [if_neg (by omega), Nat.add_sub_cancel]
    rfl
theorem zpb_px {cd E F : Nat → Nat} {P : Nat → Nat → Nat} {k n begin rank t : Nat} (h : t < n) : zpb cd P k n E F begin rank t = zpx cd P k n E F n begin rank t := by
  have e := zpx_ph (cd := cd) (E := E) (F := F) (P := P) (k := k) (begin := begin) (rank := rank) t (by omega : t ≤ n) 0
  rw [Nat.add_zero, show n - t = (n - (t + 1)) + 1 by omega] at e
  rw [e]
  unfold zpx
  rw [if_pos rfl]; rfl
/-- of the rests none is ahead of the one that it stands behind -/
theorem zah_sorted {cd E F : Nat → Nat} {P : Nat → Nat → Nat} {k n begin m : Nat} (hk : 1 ≤ k) (hE : ∀ s, E s ≤ 1) (h : m + 1 < (zLs cd P k n E F n begin).1) : zah n (zwy cd P k n E F begin (m + 1)) (zwy cd P k n E F begin m) = 0 := by
  obtain ⟨g1, g2⟩ := zsorted (P := P) (n := n) (F := F) hk hE n begin m h
  show (if (zLs cd P k n E F n begin).2 (m + 1) = (zLs cd P k n E F n begin).2 m then zlx (zpb cd P k n E F begin (m + 1)) (zpb cd P k n E F begin m) (if begin < begin then 1 else 0) n 0 else if (zLs cd P k n E F n begin).2 (m + 1) < (zLs cd P k n E F n begin).2 m then 1 else 0) = 0
  by_cases c : (zLs cd P k n E F n begin).2 (m + 1) = (zLs cd P k n E F n begin).2 m
  · rw [if_pos c, if_neg (Nat.lt_irrefl _)]
    rw [zlx_congr n 0 (fun i _ hi => ⟨zpb_px (by omega), zpb_px (by omega)⟩)]
    exact g2 c.symm
  · rw [if_neg c, if_neg (by omega)]
theorem zof_sorted {n k N : Nat} {wy W0 : Nat → Nat × (Nat → Nat) × Nat} (hN : N ≤ k) (hs : ∀ m, m + 1 < N → zah n (wy (m + 1)) (wy m) = 0) : ∀ r, r ≤ N → (zof n k wy 0 W0 r).1 = r ∧ (zof n k wy 0 W0 r).2.2 = 1 ∧ ∀ j, j < r → (zof n k wy 0 W0 r).2.1 j = wy j
  | 0, _ => ⟨rfl, rfl, fun j hj => by omega⟩
  | r + 1, h => by
    obtain ⟨h1, h2, h3⟩ := zof_sorted (W0 := W0) hN hs r (by omega)
    have e : zof n k wy 0 W0 (r + 1) = (r + 1, zbb n r (zuw (zof n k wy 0 W0 r).2.1 r (wy r)), if k ≤ zbp n r (zuw (zof n k wy 0 W0 r).2.1 r (wy r)) then 0 else 1) := by
      show (if _ then _ else _) = _
      rw [h2, if_neg (by omega)]
      rw [h1, if_neg (by omega)]
    have hb : zbb n r (zuw (zof n k wy 0 W0 r).2.1 r (wy r)) = zuw (zof n k wy 0 W0 r).2.1 r (wy r) ∧ zbp n r (zuw (zof n k wy 0 W0 r).2.1 r (wy r)) = r := by
      cases r with
      | zero => exact ⟨rfl, rfl⟩
      | succ q =>
        have f1 : zuw (zof n k wy 0 W0 (q + 1)).2.1 (q + 1) (wy (q + 1)) (q + 1) = wy (q + 1) := by unfold zuw; rw [if_pos rfl]
        have f0 : zuw (zof n k wy 0 W0 (q + 1)).2.1 (q + 1) (wy (q + 1)) q = wy q := by unfold zuw; rw [if_neg (by omega)]; exact h3 q (by omega)
        have hz := hs q (by omega)
        constructor
        · conv => lhs; unfold zbb
          rw [f1, f0, hz, if_neg (by omega)]
        · conv => lhs; unfold zbp
          rw [f1, f0, hz, if_neg (by omega)]
    rw [e, hb.1, hb.2]
    refine ⟨rfl, by show (if k ≤ r then 0 else 1) = 1; rw [if_neg (by omega)], fun j hj => ?_⟩
    show zuw _ r (wy r) j = _
    unfold zuw
    by_cases c : j = r
    · rw [if_pos c, c]
    · rw [if_neg c]; exact h3 j (by omega)
