/-! TURNS in numbers */ -/
theorem zpigeon : ∀ (n : Nat) (f : Nat → Nat), (∀ t, t < n → f t < n) → (∀ t, t < n → ∀ k, k < t → f t ≠ f k) → ∀ i, i < n → ∃ t, t < n ∧ f t = i
  | 0, _, _, _, i, hi => absurd hi (Nat.not_lt_zero i)
  | n + 1, f, h1, h2, i, hi => by
    have hg1 : ∀ t, t < n → (if f t = n then f n else f t) < n := by
      intro t ht
      have a := h1 t (by omega)
      have b := h1 n (by omega)
      have c := h2 n (by omega) t ht
      by_cases e : f t = n
      · rw [if_pos e]; omega
      · rw [if_neg e]; omega
    have hg2 : ∀ t, t < n → ∀ k, k < t → (if f t = n then f n else f t) ≠ (if f k = n then f n else f k) := by
      intro t ht k hk
      have a := h2 t (by omega) k hk
      have b := h2 n (by omega) t ht
      have c := h2 n (by omega) k (by omega)
      by_cases e1 : f t = n
      · by_cases e2 : f k = n
        · omega
        · rw [if_pos e1, if_neg e2]; exact c
      · by_cases e2 : f k = n
        · rw [if_neg e1, if_pos e2]; exact fun h => b h.symm
        · rw [if_neg e1, if_neg e2]; exact a
    have ih := zpigeon n (fun t => if f t = n then f n else f t) hg1 hg2
    by_cases c1 : i = f n
    · exact ⟨n, by omega, c1.symm⟩
    · by_cases c2 : i = n
      · have b := h1 n (by omega)
        obtain ⟨t, ht, e⟩ := ih (f n) (by omega)
        have c := h2 n (by omega) t ht
        by_cases e1 : f t = n
        · exact ⟨t, by omega, by rw [e1, c2]⟩
        · have e' : (if f t = n then f n else f t) = f n := e
          rw [if_neg e1] at e'; exact absurd e'.symm c
      · obtain ⟨t, ht, e⟩ := ih i (by omega)
        have e' : (if f t = n then f n else f t) = i := e
        by_cases e1 : f t = n
        · rw [if_pos e1] at e'; exact absurd e'.symm c1
        · rw [if_neg e1] at e'; exact ⟨t, by omega, e'⟩
def zsr (s n i : Nat) : Nat → Nat
  | 0 => 0
  | k + 1 => if k * s % n = i then k else zsr s n i k
theorem zsr_ok {s n t : Nat} (h : ∀ t, t < n → ∀ k, k < t → t * s % n ≠ k * s % n) (ht : t < n) : ∀ k, t < k → k ≤ n → zsr s n (t * s % n) k = t
  | 0, h1, _ => absurd h1 (Nat.not_lt_zero t)
  | k + 1, h1, h2 => by
    unfold zsr
    by_cases e : k = t
    · rw [e, if_pos rfl]
    · rw [if_neg (h k (by omega) t (by omega))]
      exact zsr_ok h ht k (by omega) (by omega)
/-- step by bit, bit by step, of a half -/
def zti (cd : Nat → Nat) (n h t : Nat) : Nat := if h = 1 then t * cd 5 % n else t
def ztj (cd : Nat → Nat) (n h i : Nat) : Nat := if h = 1 then zsr (cd 5) n i n else i
theorem zti_ok {cd : Nat → Nat} {n h : Nat} (hn : 1 ≤ n) (hinj : ∀ t, t < n → ∀ k, k < t → t * cd 5 % n ≠ k * cd 5 % n) : (∀ t, t < n → zti cd n h t < n ∧ ztj cd n h (zti cd n h t) = t) ∧ ∀ i, i < n → ztj cd n h i < n ∧ zti cd n h (ztj cd n h i) = i := by
  unfold zti ztj
  by_cases c : h = 1
  · simp only [if_pos c]
    refine ⟨fun t ht => ⟨Nat.mod_lt _ (by omega), zsr_ok hinj ht n ht (Nat.le_refl _)⟩, fun i hi => ?_⟩
    obtain ⟨t, ht, e⟩ := zpigeon n (fun t => t * cd 5 % n) (fun t _ => Nat.mod_lt _ (by omega)) hinj i hi
    have e' : t * cd 5 % n = i := e
    subst e'
    rw [zsr_ok hinj ht n ht (Nat.le_refl _)]
    exact ⟨ht, rfl⟩
  · simp only [if_neg c]
    exact ⟨fun t ht => ⟨ht, trivial⟩, fun i hi => ⟨hi, trivial⟩⟩
/-! ints with a sign -/
def zI (v : Int) : Int32 := Int32.ofInt v
theorem zI_n {k : Nat} : zI (k : Int) = zn k := Int32.ofInt_eq_ofNat
theorem zI_t {v : Int} (h1 : -2147483648 ≤ v) (h2 : v < 2147483648) : (zI v).toInt = v := Int32.toInt_ofInt_of_le h1 h2
theorem zI_neg {v : Int} : -(zI v) = zI (-v) := (Int32.ofInt_neg v).symm
theorem zI_x {x : Int32} : zI x.toInt = x := Int32.ofInt_toInt x
theorem zI_lt {a b : Int} (a1 : -2147483648 ≤ a) (a2 : a < 2147483648) (b1 : -2147483648 ≤ b) (b2 : b < 2147483648) : zI a < zI b ↔ a < b := by rw [Int32.lt_iff_toInt_lt, zI_t a1 a2, zI_t b1 b2]
theorem zI_0 : (0 : Int32) = zI 0 := rfl
theorem zI_5 : (5000 : Int32) = zI 5000 := (rfl)
theorem zI_m5 : (-5000 : Int32) = zI (-5000) := by decide
theorem zp_max0 {v : Int} (h1 : -5000 ≤ v) (h2 : v ≤ 5000) : pd_max 0 (zI v) = zn v.toNat ∧ pd_max (zI v) 0 = zn v.toNat := by
  unfold pd_max
  rw [zI_0, ← zI_n]
  constructor
  · by_cases c : 0 < v
    · rw [if_pos (by rw [zI_lt (by omega) (by omega) (by omega) (by omega)]; exact c)]; congr 1; omega
    · rw [if_neg (by rw [zI_lt (by omega) (by omega) (by omega) (by omega)]; exact c)]; congr 1; omega
  · by_cases c : v < 0
    · rw [if_pos (by rw [zI_lt (by omega) (by omega) (by omega) (by omega)]; exact c)]; congr 1; omega
    · rw [if_neg (by rw [zI_lt (by omega) (by omega) (by omega) (by omega)]; exact c)]; congr 1; omega
def zcl (y : Int) : Int := if y < -5000 then -5000 else if 5000 < y then 5000 else y
theorem zcl_b {y : Int} : -5000 ≤ zcl y ∧ zcl y ≤ 5000 := by
  unfold zcl; split
  · omega
  · split <;> omega
theorem zp_clamp {x : Int32} : fn_X11_bounded x (-5000) 5000 = some (zI (zcl x.toInt)) := by
  unfold fn_X11_bounded pd_max pd_min zcl
  have t5 : (5000 : Int32).toInt = 5000 := by decide
  have tm : (-5000 : Int32).toInt = -5000 := by decide
  congr 1
  by_cases c1 : x.toInt < 5000
  · have p1 : x < 5000 := by rw [Int32.lt_iff_toInt_lt, t5]; exact c1
    rw [if_pos p1]
    by_cases c2 : -5000 < x.toInt
    · have p2 : -5000 < x := by rw [Int32.lt_iff_toInt_lt, tm]; exact c2
      rw [if_pos p2, if_neg (by omega), if_neg (by omega), zI_x]
    · have p2 : ¬ -5000 < x := by rw [Int32.lt_iff_toInt_lt, tm]; exact c2
      rw [if_neg p2]
      by_cases c3 : x.toInt < -5000
      · rw [if_pos c3, zI_m5]
      · rw [if_neg c3, if_neg (by omega), show x.toInt = -5000 by omega, zI_m5]
  · have p1 : ¬ x < 5000 := by rw [Int32.lt_iff_toInt_lt, t5]; exact c1
    have p2 : (-5000 : Int32) < 5000 := by decide
    rw [if_neg p1, if_pos p2, if_neg (by omega)]
    by_cases c3 : 5000 < x.toInt
    · rw [if_pos c3, zI_5]
    · rw [if_neg c3, show x.toInt = 5000 by omega, zI_5]
theorem zp_clampM {x : Int32} : (if (-5000) ≤ x then if x ≤ 5000 then some x else (some 5000) else (some (-5000))) = some (zI (zcl x.toInt)) := by
  unfold zcl
  have t5 : (5000 : Int32).toInt = 5000 := by decide
  have tm : (-5000 : Int32).toInt = -5000 := by decide
  by_cases c1 : x.toInt < -5000
  · rw [if_neg (by rw [Int32.le_iff_toInt_le, tm]; omega), if_pos c1, zI_m5]
  · rw [if_pos (by rw [Int32.le_iff_toInt_le, tm]; omega), if_neg c1]
    by_cases c2 : 5000 < x.toInt
    · rw [if_neg (by rw [Int32.le_iff_toInt_le, t5]; omega), if_pos c2, zI_5]
    · rw [if_pos (by rw [Int32.le_iff_toInt_le, t5]; omega), if_neg c2, zI_x]
/-- what OUT o of step t costs in a half, if it is b -/
def zTg (cd : Nat → Nat) (mc : Nat → Nat → Nat) (n h : Nat) (N : Nat → Int) (t o b : Nat) : Nat := if o = 0 then zrc cd mc b (zti cd n h t) 0 + (if b = 1 then (N (zti cd n h t)).toNat else (-(N (zti cd n h t))).toNat) else zrc cd mc b t (o + (if h = 1 then cd 2 - 1 else 0))
def zTP (cd : Nat → Nat) (mc : Nat → Nat → Nat) (n h : Nat) (N : Nat → Int) (t e : Nat) : Nat := zps (zTg cd mc n h N t) cd (e / 2) (e % 2) (cd 2)
/-- what a bit seems, its news for the other half -/
def zTE (cd : Nat → Nat) (mc : Nat → Nat → Nat) (n h : Nat) (N : Nat → Int) (i : Nat) : Int32 := zdf (zLZ cd (zTP cd mc n h N) n 0 1 (ztj cd n h i)) (zLZ cd (zTP cd mc n h N) n 1 1 (ztj cd n h i))
def zTN (cd : Nat → Nat) (mc : Nat → Nat → Nat) (n h : Nat) (N : Nat → Int) (i : Nat) : Int := zcl ((zTE cd mc n h N i - zI (N i)) - (zn (zrc cd mc 1 i 0) - zn (zrc cd mc 0 i 0))).toInt
theorem zTP_le {cd : Nat → Nat} {mc : Nat → Nat → Nat} {n h : Nat} {N : Nat → Int} (hv : zCv cd) (hmc : ∀ b, b < 2 → ∀ i, mc b i ≤ 1000) (hN : ∀ i, -5000 ≤ N i ∧ N i ≤ 5000) (t e : Nat) : zTP cd mc n h N t e ≤ 10000 := by
  have h4 : cd 2 ≤ 4 := hv.2.2.2.2.1
  have hx : e % 2 < 2 := Nat.mod_lt _ (by decide)
  have key : ∀ k, zps (zTg cd mc n h N t) cd (e / 2) (e % 2) k ≤ 5000 + 1000 * k := by
    intro k
    induction k with
    | zero => unfold zps; omega
    | succ k ih =>
      unfold zps
      have hs := zsg_lt (cd := cd) (s := e / 2) (o := k) hx
      by_cases c : k = 0
      · subst c
        unfold zTg
        rw [if_pos rfl]
        have h1 := zrc_le (cd := cd) (t := zti cd n h t) (o := 0) (fun i => hmc _ hs i)
        have h2 := hN (zti cd n h t)
        have h0 : zps (fun o b => if o = 0 then zrc cd mc b (zti cd n h t) 0 + (if b = 1 then (N (zti cd n h t)).toNat else (-(N (zti cd n h t))).toNat) else zrc cd mc b t (o + (if h = 1 then cd 2 - 1 else 0))) cd (e / 2) (e % 2) 0 = 0 := rfl
        rw [h0]
        split <;> omega
      · have h1 := zrc_le (cd := cd) (t := t) (o := k + (if h = 1 then cd 2 - 1 else 0)) (fun i => hmc _ hs i)
        have : zTg cd mc n h N t k (zsg cd (e / 2) (e % 2) k) = zrc cd mc (zsg cd (e / 2) (e % 2) k) t (k + (if h = 1 then cd 2 - 1 else 0)) := by
          unfold zTg; rw [if_neg c]
        omega
  have := key (cd 2)
  unfold zTP; omega
