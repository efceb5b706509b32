/-! the merge of two lists of rests, in numbers: n0 (n1) rests with 0 (1), costs c0 (c1), prices p0 (p1) -/
def zch (p0 p1 n0 n1 : Nat) (c0 c1 : Nat → Nat) (i j : Nat) : Prop := i < n0 ∧ (n1 ≤ j ∨ c0 i + p0 ≤ c1 j + p1)
theorem zch_dec (p0 p1 n0 n1 : Nat) (c0 c1 : Nat → Nat) (i j : Nat) : zch p0 p1 n0 n1 c0 c1 i j ∨ ¬ zch p0 p1 n0 n1 c0 c1 i j := Classical.em _
/-- whether the one with 0 is chosen: 1 or 0 -/
def zcb (p0 p1 n0 n1 : Nat) (c0 c1 : Nat → Nat) (i j : Nat) : Nat := if i < n0 then (if n1 ≤ j then 1 else if c0 i + p0 ≤ c1 j + p1 then 1 else 0) else 0
/-- how many with 0 are among the first m -/
def zM (p0 p1 n0 n1 : Nat) (c0 c1 : Nat → Nat) : Nat → Nat
  | 0 => 0
  | m + 1 => zM p0 p1 n0 n1 c0 c1 m + zcb p0 p1 n0 n1 c0 c1 (zM p0 p1 n0 n1 c0 c1 m) (m - zM p0 p1 n0 n1 c0 c1 m)
def zMz (p0 p1 n0 n1 : Nat) (c0 c1 : Nat → Nat) (m : Nat) : Nat := zcb p0 p1 n0 n1 c0 c1 (zM p0 p1 n0 n1 c0 c1 m) (m - zM p0 p1 n0 n1 c0 c1 m)
/-- the m-th: its cost, its bit, its rank -/
def zMc (p0 p1 n0 n1 : Nat) (c0 c1 : Nat → Nat) (m : Nat) : Nat := if zMz p0 p1 n0 n1 c0 c1 m = 1 then c0 (zM p0 p1 n0 n1 c0 c1 m) + p0 else c1 (m - zM p0 p1 n0 n1 c0 c1 m) + p1
def zMb (p0 p1 n0 n1 : Nat) (c0 c1 : Nat → Nat) (m : Nat) : Nat := 1 - zMz p0 p1 n0 n1 c0 c1 m
def zMr (p0 p1 n0 n1 : Nat) (c0 c1 : Nat → Nat) (m : Nat) : Nat := if zMz p0 p1 n0 n1 c0 c1 m = 1 then zM p0 p1 n0 n1 c0 c1 m else m - zM p0 p1 n0 n1 c0 c1 m
theorem zcb_le {p0 p1 n0 n1 : Nat} {c0 c1 : Nat → Nat} {i j : Nat} : zcb p0 p1 n0 n1 c0 c1 i j ≤ 1 := by
  unfold zcb; repeat (first | split | omega)
theorem zcb_1 {p0 p1 n0 n1 : Nat} {c0 c1 : Nat → Nat} {i j : Nat} (h : zcb p0 p1 n0 n1 c0 c1 i j = 1) : i < n0 ∧ (n1 ≤ j ∨ c0 i + p0 ≤ c1 j + p1) := by
  unfold zcb at h
  split at h
  · split at h
    · omega
    · split at h
      · omega
      · omega
  · omega
theorem zcb_0 {p0 p1 n0 n1 : Nat} {c0 c1 : Nat → Nat} {i j : Nat} (h : zcb p0 p1 n0 n1 c0 c1 i j = 0) : n0 ≤ i ∨ (j < n1 ∧ c1 j + p1 < c0 i + p0) := by
  unfold zcb at h
  split at h
  · split at h
    · omega
    · split at h
      · omega
      · omega
  · omega
theorem zM_le {p0 p1 n0 n1 : Nat} {c0 c1 : Nat → Nat} : ∀ m, zM p0 p1 n0 n1 c0 c1 m ≤ m ∧ zM p0 p1 n0 n1 c0 c1 m ≤ n0 ∧ (m ≤ n0 + n1 → m - zM p0 p1 n0 n1 c0 c1 m ≤ n1)
  | 0 => ⟨Nat.le_refl _, Nat.zero_le _, fun _ => by simp⟩
  | m + 1 => by
    have h := zM_le (p0 := p0) (p1 := p1) (n0 := n0) (n1 := n1) (c0 := c0) (c1 := c1) m
    have hc := zcb_le (p0 := p0) (p1 := p1) (n0 := n0) (n1 := n1) (c0 := c0) (c1 := c1) (i := zM p0 p1 n0 n1 c0 c1 m) (j := m - zM p0 p1 n0 n1 c0 c1 m)
    unfold zM
    rcases (show zcb p0 p1 n0 n1 c0 c1 (zM p0 p1 n0 n1 c0 c1 m) (m - zM p0 p1 n0 n1 c0 c1 m) = 0 ∨ zcb p0 p1 n0 n1 c0 c1 (zM p0 p1 n0 n1 c0 c1 m) (m - zM p0 p1 n0 n1 c0 c1 m) = 1 by omega) with e | e
    · have := zcb_0 e
      rw [e]; omega
    · have := zcb_1 e
      rw [e]; omega
theorem zMz_le {p0 p1 n0 n1 : Nat} {c0 c1 : Nat → Nat} {m : Nat} : zMz p0 p1 n0 n1 c0 c1 m ≤ 1 := zcb_le
theorem zM_succ {p0 p1 n0 n1 : Nat} {c0 c1 : Nat → Nat} {m : Nat} : zM p0 p1 n0 n1 c0 c1 (m + 1) = zM p0 p1 n0 n1 c0 c1 m + zMz p0 p1 n0 n1 c0 c1 m := rfl
/-- the rank is one of the list that it comes from -/
theorem zMr_lt {p0 p1 n0 n1 : Nat} {c0 c1 : Nat → Nat} {m : Nat} (h : m < n0 + n1) : (zMz p0 p1 n0 n1 c0 c1 m = 1 ∧ zMr p0 p1 n0 n1 c0 c1 m = zM p0 p1 n0 n1 c0 c1 m ∧ zM p0 p1 n0 n1 c0 c1 m < n0) ∨ (zMz p0 p1 n0 n1 c0 c1 m = 0 ∧ zMr p0 p1 n0 n1 c0 c1 m = m - zM p0 p1 n0 n1 c0 c1 m ∧ m - zM p0 p1 n0 n1 c0 c1 m < n1) := by
  have hl := zM_le (p0 := p0) (p1 := p1) (n0 := n0) (n1 := n1) (c0 := c0) (c1 := c1) m
  have hc := zMz_le (p0 := p0) (p1 := p1) (n0 := n0) (n1 := n1) (c0 := c0) (c1 := c1) (m := m)
  rcases (show zMz p0 p1 n0 n1 c0 c1 m = 0 ∨ zMz p0 p1 n0 n1 c0 c1 m = 1 by omega) with e | e
  · refine Or.inr ⟨e, by unfold zMr; rw [e]; rfl, ?_⟩
    have := zcb_0 e
    omega
  · exact Or.inl ⟨e, by unfold zMr; rw [e]; rfl, (zcb_1 e).1⟩
/-! the lists of rests: k how many are kept, n bits; E, F the ends and what they cost. d bits are left -/
def zLs (cd : Nat → Nat) (P : Nat → Nat → Nat) (k n : Nat) (E F : Nat → Nat) : Nat → Nat → Nat × (Nat → Nat)
  | 0, s => (E s, fun _ => F s)
  | d + 1, s => (min k ((zLs cd P k n E F d (znx cd s 0)).1 + (zLs cd P k n E F d (znx cd s 1)).1),
      zMc (P (n - (d + 1)) (2 * s)) (P (n - (d + 1)) (2 * s + 1)) (zLs cd P k n E F d (znx cd s 0)).1 (zLs cd P k n E F d (znx cd s 1)).1 (zLs cd P k n E F d (znx cd s 0)).2 (zLs cd P k n E F d (znx cd s 1)).2)
def zLb (cd : Nat → Nat) (P : Nat → Nat → Nat) (k n : Nat) (E F : Nat → Nat) (d s m : Nat) : Nat := zMb (P (n - (d + 1)) (2 * s)) (P (n - (d + 1)) (2 * s + 1)) (zLs cd P k n E F d (znx cd s 0)).1 (zLs cd P k n E F d (znx cd s 1)).1 (zLs cd P k n E F d (znx cd s 0)).2 (zLs cd P k n E F d (znx cd s 1)).2 m
def zLr (cd : Nat → Nat) (P : Nat → Nat → Nat) (k n : Nat) (E F : Nat → Nat) (d s m : Nat) : Nat := zMr (P (n - (d + 1)) (2 * s)) (P (n - (d + 1)) (2 * s + 1)) (zLs cd P k n E F d (znx cd s 0)).1 (zLs cd P k n E F d (znx cd s 1)).1 (zLs cd P k n E F d (znx cd s 0)).2 (zLs cd P k n E F d (znx cd s 1)).2 m
theorem zLs_cnt {cd : Nat → Nat} {P : Nat → Nat → Nat} {k n : Nat} {E F : Nat → Nat} (hk : 1 ≤ k) (hE : ∀ s, E s ≤ 1) : ∀ d s, (zLs cd P k n E F d s).1 ≤ k
  | 0, s => by have := hE s; show E s ≤ k; omega
  | d + 1, s => Nat.min_le_left _ _
theorem zLb_lt {cd : Nat → Nat} {P : Nat → Nat → Nat} {k n : Nat} {E F : Nat → Nat} {d s m : Nat} : zLb cd P k n E F d s m < 2 := by unfold zLb zMb; omega
theorem zMc_le {p0 p1 n0 n1 : Nat} {c0 c1 : Nat → Nat} {m B C : Nat} (h : m < n0 + n1) (h0 : ∀ i, i < n0 → c0 i ≤ C) (h1 : ∀ i, i < n1 → c1 i ≤ C) (hp0 : p0 ≤ B) (hp1 : p1 ≤ B) : zMc p0 p1 n0 n1 c0 c1 m ≤ C + B := by
  unfold zMc
  rcases zMr_lt (p0 := p0) (p1 := p1) (c0 := c0) (c1 := c1) h with ⟨e, -, q⟩ | ⟨e, -, q⟩
  · rw [if_pos e]; have := h0 _ q; omega
  · rw [if_neg (by omega)]; have := h1 _ q; omega
theorem zLs_le {cd : Nat → Nat} {P : Nat → Nat → Nat} {k n B C : Nat} {E F : Nat → Nat} (hP : ∀ t e, P t e ≤ B) (hF : ∀ s, F s ≤ C) : ∀ d s m, m < (zLs cd P k n E F d s).1 → (zLs cd P k n E F d s).2 m ≤ C + B * d
  | 0, s, m, _ => by show F s ≤ _; have := hF s; omega
  | d + 1, s, m, h => by
    have h2 : m < (zLs cd P k n E F d (znx cd s 0)).1 + (zLs cd P k n E F d (znx cd s 1)).1 := Nat.lt_of_lt_of_le h (Nat.min_le_right _ _)
    rw [Nat.mul_succ, ← Nat.add_assoc]
    exact zMc_le h2 (fun i hi => zLs_le hP hF d _ i hi) (fun i hi => zLs_le hP hF d _ i hi) (hP _ _) (hP _ _)
/-! arrays that are there -/
theorem za_37 {n : Nat} (h : 133 ≤ n) : pd_isArr 37 512 n = true := decide_eq_true ⟨by omega, by decide +kernel⟩
theorem za_38 {n : Nat} (h : 133 ≤ n) : pd_isArr 38 512 n = true := decide_eq_true ⟨by omega, by decide +kernel⟩
theorem za_39 {n : Nat} (h : 133 ≤ n) : pd_isArr 39 64 n = true := decide_eq_true ⟨by omega, by decide +kernel⟩
theorem za_40 {n : Nat} (h : 133 ≤ n) : pd_isArr 40 64 n = true := decide_eq_true ⟨by omega, by decide +kernel⟩
/-- the four arrays of the search: now, later, nowCount, laterCount -/
def zZs (Z : pd_R) (na la nc lc : Nat) : Prop := Z 36 2 = some na ∧ Z 36 3 = some la ∧ Z 36 4 = some nc ∧ Z 36 5 = some lc ∧ (na = 37 ∧ la = 38 ∨ na = 38 ∧ la = 37) ∧ (nc = 39 ∧ lc = 40 ∨ nc = 40 ∧ lc = 39)
theorem zZs_a {Z : pd_R} {na la nc lc n : Nat} (h : zZs Z na la nc lc) (hn : 133 ≤ n) : pd_isArr na 512 n = true ∧ pd_isArr la 512 n = true ∧ pd_isArr nc 64 n = true ∧ pd_isArr lc 64 n = true := by
  obtain ⟨-, -, -, -, h1, h2⟩ := h
  refine ⟨?_, ?_, ?_, ?_⟩
  · rcases h1 with ⟨e, -⟩ | ⟨e, -⟩
    · rw [e]; exact za_37 hn
    · rw [e]; exact za_38 hn
  · rcases h1 with ⟨-, e⟩ | ⟨-, e⟩
    · rw [e]; exact za_38 hn
    · rw [e]; exact za_37 hn
  · rcases h2 with ⟨e, -⟩ | ⟨e, -⟩
    · rw [e]; exact za_39 hn
    · rw [e]; exact za_40 hn
  · rcases h2 with ⟨-, e⟩ | ⟨-, e⟩
    · rw [e]; exact za_40 hn
    · rw [e]; exact za_39 hn
theorem zn_by8 : ∀ v < 128, (zn v).toInt8.toInt32.toInt8.toInt32 = zn v := by decide +kernel
