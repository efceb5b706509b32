/-! the class finds the least ways -/
theorem zMz_0 {p0 p1 n0 n1 n0' n1' : Nat} {c0 c1 c0' c1' : Nat → Nat} (h0 : n0 = 0 ↔ n0' = 0) (h1 : n1 = 0 ↔ n1' = 0) (e0 : 0 < n0 → c0 0 = c0' 0) (e1 : 0 < n1 → c1 0 = c1' 0) : zMz p0 p1 n0 n1 c0 c1 0 = zMz p0 p1 n0' n1' c0' c1' 0 := by
  show zcb p0 p1 n0 n1 c0 c1 0 0 = zcb p0 p1 n0' n1' c0' c1' 0 0
  unfold zcb
  by_cases a0 : 0 < n0
  · rw [if_pos a0, if_pos (show 0 < n0' by omega), e0 a0]
    by_cases a1 : 0 < n1
    · rw [if_neg (show ¬ n1 ≤ 0 by omega), if_neg (show ¬ n1' ≤ 0 by omega), e1 a1]
    · rw [if_pos (show n1 ≤ 0 by omega), if_pos (show n1' ≤ 0 by omega)]
  · rw [if_neg a0, if_neg (show ¬ 0 < n0' by omega)]
theorem zMr_0 {p0 p1 n0 n1 : Nat} {c0 c1 : Nat → Nat} : zMr p0 p1 n0 n1 c0 c1 0 = 0 := by
  unfold zMr
  have : zM p0 p1 n0 n1 c0 c1 0 = 0 := rfl
  rw [this]; split <;> rfl
theorem zMc_0 {p0 p1 n0 n1 n0' n1' : Nat} {c0 c1 c0' c1' : Nat → Nat} (hp : 0 < n0 + n1) (h0 : n0 = 0 ↔ n0' = 0) (h1 : n1 = 0 ↔ n1' = 0) (e0 : 0 < n0 → c0 0 = c0' 0) (e1 : 0 < n1 → c1 0 = c1' 0) : zMc p0 p1 n0 n1 c0 c1 0 = zMc p0 p1 n0' n1' c0' c1' 0 := by
  have hz := zMz_0 (p0 := p0) (p1 := p1) h0 h1 e0 e1
  have hr := zMr_lt (p0 := p0) (p1 := p1) (c0 := c0) (c1 := c1) hp
  unfold zMc
  rw [← hz]
  have z0 : zM p0 p1 n0 n1 c0 c1 0 = 0 := rfl
  have z0' : zM p0 p1 n0' n1' c0' c1' 0 = 0 := rfl
  rw [z0] at hr
  rw [z0, z0']
  rcases hr with ⟨e, -, q⟩ | ⟨e, -, q⟩
  · rw [if_pos e, if_pos e, e0 q]
  · rw [if_neg (by omega), if_neg (by omega), e1 (by omega)]
theorem zL1 {cd E F : Nat → Nat} {P : Nat → Nat → Nat} {k n : Nat} (hk : 1 ≤ k) : ∀ d s, ((zLs cd P 1 n E F d s).1 = 0 ↔ (zLs cd P k n E F d s).1 = 0) ∧ (0 < (zLs cd P 1 n E F d s).1 → (zLs cd P 1 n E F d s).2 0 = (zLs cd P k n E F d s).2 0)
  | 0, s => ⟨Iff.rfl, fun _ => rfl⟩
  | d + 1, s => by
    obtain ⟨a0, b0⟩ := zL1 (cd := cd) (E := E) (F := F) (P := P) (n := n) hk d (znx cd s 0)
    obtain ⟨a1, b1⟩ := zL1 (cd := cd) (E := E) (F := F) (P := P) (n := n) hk d (znx cd s 1)
    refine ⟨?_, fun h => ?_⟩
    · show min 1 _ = 0 ↔ min k _ = 0
      omega
    · have h2 : 0 < (zLs cd P 1 n E F d (znx cd s 0)).1 + (zLs cd P 1 n E F d (znx cd s 1)).1 := Nat.lt_of_lt_of_le h (Nat.min_le_right _ _)
      exact zMc_0 h2 a0 a1 b0 b1
theorem zLb1 {cd E F : Nat → Nat} {P : Nat → Nat → Nat} {k n d s : Nat} (hk : 1 ≤ k) : zLb cd P 1 n E F d s 0 = zLb cd P k n E F d s 0 := by
  obtain ⟨a0, b0⟩ := zL1 (cd := cd) (E := E) (F := F) (P := P) (n := n) hk d (znx cd s 0)
  obtain ⟨a1, b1⟩ := zL1 (cd := cd) (E := E) (F := F) (P := P) (n := n) hk d (znx cd s 1)
  unfold zLb zMb
  rw [zMz_0 a0 a1 b0 b1]
theorem zph1 {cd E F : Nat → Nat} {P : Nat → Nat → Nat} {k n begin : Nat} (hk : 1 ≤ k) : ∀ t, zph cd P 1 n E F begin 0 t = zph cd P k n E F begin 0 t ∧ (zph cd P k n E F begin 0 t).2 = 0
  | 0 => ⟨rfl, rfl⟩
  | t + 1 => by
    obtain ⟨h1, h2⟩ := zph1 (cd := cd) (E := E) (F := F) (P := P) (n := n) (begin := begin) hk t
    have r : ∀ k', zLr cd P k' n E F (n - (t + 1)) (zph cd P k n E F begin 0 t).1 0 = 0 := fun k' => zMr_0
    unfold zph
    rw [h1, h2, zLb1 hk, r, r]
    exact ⟨rfl, rfl⟩
theorem zwy1 {cd E F : Nat → Nat} {P : Nat → Nat → Nat} {k n begin : Nat} (hk : 1 ≤ k) (h : 0 < (zLs cd P 1 n E F n begin).1) : (zwy cd P 1 n E F begin 0).1 = (zwy cd P k n E F begin 0).1 ∧ (∀ t, (zwy cd P 1 n E F begin 0).2.1 t = (zwy cd P k n E F begin 0).2.1 t) ∧ (zwy cd P 1 n E F begin 0).2.2 = (zwy cd P k n E F begin 0).2.2 := by
  refine ⟨(zL1 hk n begin).2 h, fun t => ?_, rfl⟩
  obtain ⟨h1, h2⟩ := zph1 (cd := cd) (E := E) (F := F) (P := P) (n := n) (begin := begin) hk t
  show zLb _ _ _ _ _ _ _ _ _ = zLb _ _ _ _ _ _ _ _ _
  rw [h1, h2]; exact zLb1 hk
/-! lists of ways -/
def zuw (W : Nat → Nat × (Nat → Nat) × Nat) (c : Nat) (X : Nat × (Nat → Nat) × Nat) (j : Nat) : Nat × (Nat → Nat) × Nat := if j = c then X else W j
/-- how many, the ways, whether the last one was kept; after r ways were offered -/
def zof (n k : Nat) (wy : Nat → Nat × (Nat → Nat) × Nat) (c0 : Nat) (W0 : Nat → Nat × (Nat → Nat) × Nat) : Nat → Nat × (Nat → Nat × (Nat → Nat) × Nat) × Nat
  | 0 => (c0, W0, 1)
  | r + 1 => if (zof n k wy c0 W0 r).2.2 = 0 then zof n k wy c0 W0 r else
      (if k ≤ (zof n k wy c0 W0 r).1 then (zof n k wy c0 W0 r).1 else (zof n k wy c0 W0 r).1 + 1, zbb n (zof n k wy c0 W0 r).1 (zuw (zof n k wy c0 W0 r).2.1 (zof n k wy c0 W0 r).1 (wy r)), if k ≤ zbp n (zof n k wy c0 W0 r).1 (zuw (zof n k wy c0 W0 r).2.1 (zof n k wy c0 W0 r).1 (wy r)) then 0 else 1)
theorem zof_stick {n k c0 : Nat} {wy W0 : Nat → Nat × (Nat → Nat) × Nat} {r : Nat} (h : (zof n k wy c0 W0 r).2.2 = 0) : ∀ d, zof n k wy c0 W0 (r + d) = zof n k wy c0 W0 r
  | 0 => rfl
  | d + 1 => by
    have ih := zof_stick h d
    show (if (zof n k wy c0 W0 (r + d)).2.2 = 0 then zof n k wy c0 W0 (r + d) else _) = _
    rw [ih, if_pos h]
theorem zof_k {n k c0 : Nat} {wy W0 : Nat → Nat × (Nat → Nat) × Nat} (h : c0 ≤ k) : ∀ r, (zof n k wy c0 W0 r).1 ≤ k ∧ (zof n k wy c0 W0 r).2.2 ≤ 1
  | 0 => ⟨h, Nat.le_refl _⟩
  | r + 1 => by
    obtain ⟨h1, h2⟩ := zof_k (n := n) (wy := wy) (W0 := W0) h r
    unfold zof
    split
    · exact ⟨h1, h2⟩
    · constructor
      · show (if k ≤ (zof n k wy c0 W0 r).1 then (zof n k wy c0 W0 r).1 else (zof n k wy c0 W0 r).1 + 1) ≤ k
        split <;> omega
      · show (if _ then _ else _) ≤ 1
        split <;> omega
def zLW : List Nat := [16, 18, 19, 20, 21, 22, 23, 24, 25, 26, 27, 28, 29, 30, 31, 32, 33, 34, 35]
theorem zLW_w : ∀ w < 36, 18 ≤ w → w ∈ zLW := by decide
theorem zLW_r : ∀ x ∈ zLW, x = 16 ∨ (18 ≤ x ∧ x < 36) := by decide
theorem zF_w {L : List Nat} {I I' : pd_I} {w : Nat} (hw : pd_isWay w = true) (hL : ∀ x, 18 ≤ x → x < 36 → x ∈ L) (h : zF [w, w + 1] I I') : zF L I I' := by
  obtain ⟨h1, h2, h3⟩ := zw_way hw
  refine zF_sub h (fun x hx => ?_)
  simp at hx
  rcases hx with e | e
  · rw [e]; exact hL _ h1 h2
  · rw [e]; exact hL _ (by omega) (by omega)
theorem zRep_F {L : List Nat} {I I' : pd_I} {Z : pd_R} {W : Nat → Nat × (Nat → Nat) × Nat} {m n : Nat} (hL : ∀ x ∈ L, x < 18 ∨ 36 ≤ x) (hm : m ≤ 9) (hZ : zZw Z) (h : zF L I I') (k : zRep I Z W m n) : zRep I' Z W m n := by
  intro j hj
  obtain ⟨w, e, q⟩ := k j hj
  obtain ⟨w', e', q'⟩ := hZ.1 j (by omega)
  rw [e] at e'; cases e'
  obtain ⟨h1, h2, h3⟩ := zw_way q'
  refine ⟨w, e, ?_⟩
  unfold zWr
  rw [h w (fun hx => by have := hL _ hx; omega), h (w + 1) (fun hx => by have := hL _ hx; omega)]
  exact q
theorem zRep_Z {I : pd_I} {Z Z' : pd_R} {W : Nat → Nat × (Nat → Nat) × Nat} {m n : Nat} (h : Z' 17 = Z 17) (k : zRep I Z W m n) : zRep I Z' W m n := by
  unfold zRep; rw [h]; exact k
theorem zZw_Z {Z Z' : pd_R} (h : Z' 17 = Z 17) (k : zZw Z) : zZw Z' := by unfold zZw; rw [h]; exact k
theorem zRep_m {I : pd_I} {Z : pd_R} {W : Nat → Nat × (Nat → Nat) × Nat} {m m' n : Nat} (h : m' ≤ m) (k : zRep I Z W m n) : zRep I Z W m' n := fun j hj => k j (by omega)
/-- a way was written at the place c -/
theorem zRep_w {I I' : pd_I} {Z : pd_R} {W : Nat → Nat × (Nat → Nat) × Nat} {c n w : Nat} {X : Nat × (Nat → Nat) × Nat} (hc : c ≤ 8) (hZ : zZw Z) (hw : Z 17 c = some w) (hw2 : pd_isWay w = true) (hF : zF [w, w + 1] I I') (hX : zWr I' w X n) (k : zRep I Z W c n) : zRep I' Z (zuw W c X) (c + 1) n := by
  obtain ⟨h1, h2, h3⟩ := zw_way hw2
  intro j hj
  unfold zuw
  by_cases e : j = c
  · rw [if_pos e, e]; exact ⟨w, hw, hX⟩
  · rw [if_neg e]
    obtain ⟨v, e1, e2⟩ := k j (by omega)
    obtain ⟨v', e3, e4⟩ := hZ.1 j (by omega)
    rw [e1] at e3; cases e3
    obtain ⟨g1, g2, g3⟩ := zw_way e4
    have hne : v ≠ w := fun e5 => e (hZ.2.1 j c (by omega) (by omega) (by rw [e1, hw, e5]))
    refine ⟨v, e1, ?_⟩
    unfold zWr
    rw [hF v (by simp; omega), hF (v + 1) (by simp; omega)]
    exact e2
/-- the WAYS of the class are these -/
def zCl (I : pd_I) (Z : pd_R) (n k cnt : Nat) (W : Nat → Nat × (Nat → Nat) × Nat) : Prop := I 16 1 = zn cnt ∧ I 16 2 = zn k ∧ cnt ≤ k ∧ zZw Z ∧ zRep I Z W cnt n ∧ ∀ j, j < cnt → zWb (W j)
theorem zCl_F {L : List Nat} {I I' : pd_I} {Z Z' : pd_R} {n k cnt : Nat} {W : Nat → Nat × (Nat → Nat) × Nat} (hL : ∀ x ∈ L, x < 16 ∨ 36 ≤ x) (hk : k ≤ 8) (h : zF L I I') (hZ : Z' 17 = Z 17) (q : zCl I Z n k cnt W) : zCl I' Z' n k cnt W := by
  obtain ⟨q1, q2, q3, q4, q5, q6⟩ := q
  have e16 := h 16 (fun hx => by have := hL _ hx; omega)
  exact ⟨by rw [e16]; exact q1, by rw [e16]; exact q2, q3, zZw_Z hZ q4, zRep_Z hZ (zRep_F (fun x hx => by have := hL _ hx; omega) (by omega) q4 h q5), q6⟩
theorem zq_settle {I : pd_I} {Z : pd_R} {n nn k cnt : Nat} {W : Nat → Nat × (Nat → Nat) × Nat} (hk8 : k ≤ 8) (hck : cnt ≤ k) (hn : nn ≤ 200) (h1 : I 16 1 = zn cnt) (h2 : I 16 2 = zn k) (hZ : zZw Z) (hR : zRep I Z W (cnt + 1) nn) (hB : ∀ j, j < cnt + 1 → zWb (W j)) :
    zT (fn_X10_settle I Z n) (fun r => r.1 = zn (if k ≤ zbp nn cnt W then 0 else 1) ∧ zF [16] I r.2.1 ∧ (∀ b, b ≠ 17 → r.2.2 b = Z b) ∧ zCl r.2.1 r.2.2 nn k (if k ≤ cnt then cnt else cnt + 1) (zbb nn cnt W)) := by
  have hpb := zbp_le (n := nn) cnt W
  unfold fn_X10_settle
  rw [zb_let, h1]
  refine zq_settle5 (m := cnt + 1) (by omega) hn cnt pd_FU Z W (by omega) (by show cnt < 65536; omega) hZ hR hB (fun Z' g1 g2 g3 g4 => ?_)
  have hB2 := zbb_all (n := nn) (Pr := zWb) cnt W (cnt + 1) (by omega) hB
  rw [h2, zi_le (by omega) (by omega)]
  by_cases c : k ≤ cnt
  · rw [if_pos c, zb_bd, h2, zi_le (by omega) (by omega)]
    have hs : (if k ≤ zbp nn cnt W then some (0 : Int32) else some 1) = some (zn (if k ≤ zbp nn cnt W then 0 else 1)) := by split <;> rfl
    rw [hs, zb_bd, zc_bo (by split <;> omega), zb_gd]
    refine ⟨_, rfl, rfl, zF_rfl, g3, ?_⟩
    rw [if_pos c]
    exact ⟨h1, h2, hck, g1, zRep_m (by omega) g2, fun j hj => hB2 j (by omega)⟩
  · have e2 : pd_ui I 16 1 (zn (cnt + 1)) 16 2 = zn k := by rw [zu_same, zu_nat (by omega)]; exact h2
    rw [if_neg c, zb_let, zb_bd, zn_1, zn_add, e2, zi_le (by omega) (by omega)]
    have hs : (if k ≤ zbp nn cnt W then some (0 : Int32) else some (zn 1)) = some (zn (if k ≤ zbp nn cnt W then 0 else 1)) := by split <;> rfl
    rw [hs, zb_bd, zc_bo (by split <;> omega), zb_gd]
    refine ⟨_, rfl, rfl, zF_u (by decide) zF_rfl, g3, ?_⟩
    rw [if_neg c]
    exact ⟨by show pd_ui I 16 1 (zn (cnt + 1)) 16 1 = _; rw [zu_same, zu_at], e2, by omega, g1, zRep_F (L := [16]) (by decide) (by omega) g1 (zF_u (by decide) zF_rfl) g2, hB2⟩

theorem zZs_Z {Z Z' : pd_R} {na la nc lc : Nat} (h : Z' 36 = Z 36) (k : zZs Z na la nc lc) : zZs Z' na la nc lc := by unfold zZs; rw [h]; exact k
theorem zwy_b {cd E F : Nat → Nat} {P : Nat → Nat → Nat} {k n begin rank : Nat} (hP : ∀ t e, P t e ≤ 10000) (hF : ∀ s, F s ≤ 100000) (hn : n ≤ 200) (hb : begin < 64) (hr : rank < (zLs cd P k n E F n begin).1) : zWb (zwy cd P k n E F begin rank) := by
  refine ⟨?_, fun t => zLb_lt, hb⟩
  have h1 := zLs_le hP hF n begin rank hr
  have h2 : 10000 * n ≤ 10000 * 200 := Nat.mul_le_mul_left _ hn
  show (zLs cd P k n E F n begin).2 rank < _
  omega
theorem zq_offer {I : pd_I} {Z : pd_R} {n na la nc lc nn k T c0 begin : Nat} {cd E F : Nat → Nat} {P : Nat → Nat → Nat} {W0 : Nat → Nat × (Nat → Nat) × Nat} (hn : 133 ≤ n) (hZ : zZs Z na la nc lc) (hv : zCv cd) (hla : zLa I cd T P) (hn2 : nn ≤ 200) (hk : 1 ≤ k) (hk8 : k ≤ 8) (hE : ∀ s, E s ≤ 1) (hP : ∀ t e, P t e ≤ 10000) (hF1 : ∀ s, F s ≤ 100000)
    (hL : zLvO I la lc (2 ^ cd 1) (zLs cd P k nn E F nn)) (hO : zOnO I cd P k nn E F nn) (hb : begin < 2 ^ cd 1) (hC : zCl I Z nn k c0 W0) :
    zT (fn_X5_offerAll I Z n (zn begin) (zn nn)) (fun r => zF zLW I r.1 ∧ (∀ b, b ≠ 17 → r.2 b = Z b) ∧ zCl r.1 r.2 nn k (zof nn k (zwy cd P k nn E F begin) c0 W0 (zLs cd P k nn E F nn begin).1).1 (zof nn k (zwy cd P k nn E F begin) c0 W0 (zLs cd P k nn E F nn begin).1).2.1) := by
  have hS := zCv_S hv
  obtain ⟨ha1, ha2, ha3, ha4⟩ := zZs_a hZ hn
  have hN8 : (zLs cd P k nn E F nn begin).1 ≤ 8 := Nat.le_trans (zLs_cnt hk hE _ _) hk8
  have hlac : (∀ x ∈ zLW, x ≠ la ∧ x ≠ lc ∧ x ≠ 41) := by
    intro x hx
    have h1 := zLW_r x hx
    have h2 := hZ.2.2.2.2.1
    have h3 := hZ.2.2.2.2.2
    omega
  unfold fn_X5_offerAll
  rw [zn_0, zn_1]
  refine zl_loop (fun fu r (st : Int32 × pd_I × pd_R) => fl_X5_offerAll_5 (zn begin) (zn nn) n (fun zI2 zZ2 => some (zI2, zZ2)) fu st.1 r st.2.1 st.2.2) (zLs cd P k nn E F nn begin).1 (fun r st => st.1 = zn (zof nn k (zwy cd P k nn E F begin) c0 W0 r).2.2 ∧ zF zLW I st.2.1 ∧ (∀ b, b ≠ 17 → st.2.2 b = Z b) ∧ zCl st.2.1 st.2.2 nn k (zof nn k (zwy cd P k nn E F begin) c0 W0 r).1 (zof nn k (zwy cd P k nn E F begin) c0 W0 r).2.1) ?_ ?_ pd_FU 0 (zn 1, I, Z) (by omega) (zFU (by omega)) ⟨rfl, zF_rfl, fun _ _ => rfl, hC⟩
  · rintro fu ⟨kp, I', Z'⟩ ⟨e1, hF, hZ', hC'⟩
    try simp only [] at e1 hF hZ' hC' ⊢
    have g5 : Z' 36 5 = some lc := by rw [hZ' 36 (by omega)]; exact hZ.2.2.2.1
    have elc : I' lc begin = zn (zLs cd P k nn E F nn begin).1 := by
      rw [hF lc (fun hx => (hlac _ hx).2.1 rfl)]; exact (hL begin hb).1
    rw [fl_X5_offerAll_5, g5, zb_bd, ha4, zb_gd, zn_in2 (by omega) (by omega), zb_gd, zn_nat (by omega), elc, if_pos (by rw [zn_le (by omega) (by omega)]; omega), zb_bd, if_neg (by decide)]
    exact ⟨_, rfl, hF, hZ', hC'⟩
  · rintro fu r ⟨kp, I', Z'⟩ hr ⟨e1, hF, hZ', hC'⟩ ih
    try simp only [] at e1 hF hZ' hC' ih ⊢
    have g5 : Z' 36 5 = some lc := by rw [hZ' 36 (by omega)]; exact hZ.2.2.2.1
    have elc : I' lc begin = zn (zLs cd P k nn E F nn begin).1 := by
      rw [hF lc (fun hx => (hlac _ hx).2.1 rfl)]; exact (hL begin hb).1
    obtain ⟨q1, q2⟩ := zof_k (n := nn) (wy := zwy cd P k nn E F begin) (W0 := W0) hC.2.2.1 r
    rw [fl_X5_offerAll_5, g5, zb_bd, ha4, zb_gd, zn_in2 (by omega) (by omega), zb_gd, zn_nat (by omega), elc, if_neg (by rw [zn_le (by omega) (by omega)]; omega), e1, zn_0, zi_eq (by omega) (by omega)]
    by_cases c : (zof nn k (zwy cd P k nn E F begin) c0 W0 r).2.2 = 0
    · rw [if_pos c, zb_bd, if_neg (by decide)]
      have hst := zof_stick c ((zLs cd P k nn E F nn begin).1 - r)
      rw [show r + ((zLs cd P k nn E F nn begin).1 - r) = (zLs cd P k nn E F nn begin).1 by omega] at hst
      rw [hst]
      exact ⟨_, rfl, hF, hZ', hC'⟩
    · rw [if_neg c, zb_bd, if_pos rfl, zT_bd]
      obtain ⟨w, hw, hw2⟩ := hC'.2.2.2.1.1 (zof nn k (zwy cd P k nn E F begin) c0 W0 r).1 (by omega)
      have hla' : zLa I' cd T P := zLa_F (by decide) (by decide) (by decide) (by decide) hF hla
      have hL' : zLvO I' la lc (2 ^ cd 1) (zLs cd P k nn E F nn) := by
        unfold zLvO; rw [hF la (fun hx => (hlac _ hx).1 rfl), hF lc (fun hx => (hlac _ hx).2.1 rfl)]; exact hL
      have hO' : zOnO I' cd P k nn E F nn := by
        unfold zOnO; rw [hF 41 (fun hx => (hlac _ hx).2.2 rfl)]; exact hO
      refine zT_mono (zq_follow hn (zZs_Z (hZ' 36 (by omega)) hZ) hv hla' hn2 hk hk8 hE hL' hO' hC'.1 (by omega) hw hw2 hb hr) (fun I3 ⟨hF3, hX3⟩ => ?_)
      rw [zT_bd3]
      have hF3' : zF zLW I' I3 := zF_w hw2 (fun x h1 h2 => zLW_w x h2 h1) hF3
      have e16 : I3 16 = I' 16 := hF3 16 (by have := zw_way hw2; simp; omega)
      refine zT_mono (zq_settle (W := zuw (zof nn k (zwy cd P k nn E F begin) c0 W0 r).2.1 (zof nn k (zwy cd P k nn E F begin) c0 W0 r).1 (zwy cd P k nn E F begin r)) hk8 q1 hn2 (by rw [e16]; exact hC'.1) (by rw [e16]; exact hC'.2.1) hC'.2.2.2.1 (zRep_w (by omega) hC'.2.2.2.1 hw hw2 hF3 hX3 hC'.2.2.2.2.1) (fun j hj => ?_)) (fun r4 ⟨s1, s2, s3, s4⟩ => ?_)
      · unfold zuw
        by_cases e : j = (zof nn k (zwy cd P k nn E F begin) c0 W0 r).1
        · rw [if_pos e]; exact zwy_b hP hF1 hn2 (by omega) hr
        · rw [if_neg e]; exact hC'.2.2.2.2.2 j (by omega)
      · rw [zb_let, zn_1, zn_add]
        have hz : zof nn k (zwy cd P k nn E F begin) c0 W0 (r + 1) = (if k ≤ (zof nn k (zwy cd P k nn E F begin) c0 W0 r).1 then (zof nn k (zwy cd P k nn E F begin) c0 W0 r).1 else (zof nn k (zwy cd P k nn E F begin) c0 W0 r).1 + 1, zbb nn (zof nn k (zwy cd P k nn E F begin) c0 W0 r).1 (zuw (zof nn k (zwy cd P k nn E F begin) c0 W0 r).2.1 (zof nn k (zwy cd P k nn E F begin) c0 W0 r).1 (zwy cd P k nn E F begin r)), if k ≤ zbp nn (zof nn k (zwy cd P k nn E F begin) c0 W0 r).1 (zuw (zof nn k (zwy cd P k nn E F begin) c0 W0 r).2.1 (zof nn k (zwy cd P k nn E F begin) c0 W0 r).1 (zwy cd P k nn E F begin r)) then 0 else 1) := by
          show (if _ then _ else _) = _
          rw [if_neg c]
        refine ih (r4.1, r4.2.1, r4.2.2) ⟨?_, zF_tr hF (zF_tr hF3' (zF_sub s2 (by decide))), fun b hb2 => by show r4.2.2 b = _; rw [s3 b hb2, hZ' b hb2], ?_⟩
        · rw [hz]; exact s1
        · rw [hz]; exact s4
