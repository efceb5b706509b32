/-! how many ways of a WEIGHT: sums of longs; the class -/
def zsi (F : Nat → Int64) : Nat → Int64
  | 0 => 0
  | n + 1 => zsi F n + F n
theorem zsi_c {F G : Nat → Int64} : ∀ n, (∀ i, i < n → F i = G i) → zsi F n = zsi G n
  | 0, _ => rfl
  | n + 1, h => by
    show zsi F n + F n = zsi G n + G n
    rw [zsi_c n (fun i hi => h i (by omega)), h n (by omega)]
theorem zsi_1 {F G : Nat → Int64} {s : Nat} {d : Int64} : ∀ n, s < n → (∀ i, i < n → i ≠ s → G i = F i) → G s = F s + d → zsi G n = zsi F n + d
  | 0, h, _, _ => absurd h (Nat.not_lt_zero s)
  | n + 1, h, h1, h2 => by
    show zsi G n + G n = zsi F n + F n + d
    by_cases e : s = n
    · subst e
      rw [zsi_c s (fun i hi => h1 i (by omega) (by omega)), h2]
      ac_rfl
    · rw [zsi_1 n (by omega) (fun i hi hne => h1 i (by omega) hne) h2, h1 n (by omega) (fun x => e x.symm)]
      ac_rfl
theorem zsi_z {F : Nat → Int64} : ∀ n, (∀ i, i < n → F i = 0) → zsi F n = 0
  | 0, _ => rfl
  | n + 1, h => by
    show zsi F n + F n = 0
    rw [zsi_z n (fun i hi => h i (by omega)), h n (by omega), Int64.add_zero]
theorem zsi_a {F G : Nat → Int64} : ∀ n, zsi (fun i => F i + G i) n = zsi F n + zsi G n
  | 0 => by show (0 : Int64) = 0 + 0; rw [Int64.add_zero]
  | n + 1 => by
    show zsi (fun i => F i + G i) n + (F n + G n) = zsi F n + F n + (zsi G n + G n)
    rw [zsi_a n]
    ac_rfl
theorem zuj_same {J : pd_J} {a k : Nat} {x : Int64} : pd_uj J a k x a = vp_updL (J a) k x := if_pos rfl
theorem zuj_ne {J : pd_J} {a k b : Nat} {x : Int64} (h : b ≠ a) : pd_uj J a k x b = J b := if_neg h
theorem zul {f : Nat → Int64} {k j : Nat} {x : Int64} : vp_updL f k x j = if j = k then x else f j := rfl
def zJF (L : List Nat) (J J' : pd_J) : Prop := ∀ b, b ∉ L → J' b = J b
theorem zJF_rfl {L : List Nat} {J : pd_J} : zJF L J J := fun _ _ => rfl
theorem zJF_tr {L : List Nat} {J J' J'' : pd_J} (h : zJF L J J') (k : zJF L J' J'') : zJF L J J'' := fun b hb => by rw [k b hb, h b hb]
theorem zJF_sub {L M : List Nat} {J J' : pd_J} (h : zJF L J J') (k : ∀ x ∈ L, x ∈ M) : zJF M J J' := fun b hb => h b (fun m => hb (k b m))
theorem zJF_u {L : List Nat} {J J' : pd_J} {a k : Nat} {x : Int64} (ha : a ∈ L) (h : zJF L J J') : zJF L J (pd_uj J' a k x) := fun b hb => by
  rw [zuj_ne (fun e => hb (by rw [e]; exact ha)), h b hb]
/-- what the edges that are done have brought to sum and v, from the states at weight W -/
def zcv (cd dn : Nat → Nat) (C : Nat → Int64) (W sum v : Nat) : Int64 := zsi (fun e => if 2 ≤ e ∧ zen2 cd e = v ∧ W + zew cd e = sum ∧ dn e ≠ 0 then C (W * 64 + e / 2) else 0) (2 * 2 ^ cd 1)
def zWI (cd dn : Nat → Nat) (W p : Nat) (C0 C : Nat → Int64) : Prop := ∀ sum, sum ≤ p → ∀ v, v < 2 ^ cd 1 → C (sum * 64 + v) = C0 (sum * 64 + v) + zcv cd dn C W sum v
theorem zWI_step {cd dn pos : Nat → Nat} {W p e0 : Nat} {C0 C : Nat → Int64} (hv : zCv cd) (hp : zPo cd pos) (h : zWI cd dn W p C0 C) (h2 : 2 ≤ e0) (he : e0 < 2 * 2 ^ cd 1) (hd0 : dn e0 = 0) (hd : ∀ e, 2 ≤ e → e < 2 * 2 ^ cd 1 → dn e ≠ 0 → pos (e / 2) ≤ pos (e0 / 2)) (hW : W ≤ p) :
    zWI cd (fun e => if e = e0 then 1 else dn e) W p C0 (if W + zew cd e0 ≤ p then vp_updL C ((W + zew cd e0) * 64 + zen2 cd e0) (C ((W + zew cd e0) * 64 + zen2 cd e0) + C (W * 64 + e0 / 2)) else C) := by
  have hS := zCv_S hv
  have hnx := zen2_lt (cd := cd) (e := e0)
  obtain ⟨C', hC'⟩ : ∃ C', C' = if W + zew cd e0 ≤ p then vp_updL C ((W + zew cd e0) * 64 + zen2 cd e0) (C ((W + zew cd e0) * 64 + zen2 cd e0) + C (W * 64 + e0 / 2)) else C := ⟨_, rfl⟩
  rw [← hC']
  have keep : ∀ e, 2 ≤ e → e < 2 * 2 ^ cd 1 → (dn e ≠ 0 ∨ e = e0) → C' (W * 64 + e / 2) = C (W * 64 + e / 2) := fun e k1 k2 k3 => by
    rw [hC']
    by_cases c : W + zew cd e0 ≤ p
    · rw [if_pos c, zul, if_neg]
      intro hh
      have hpe : pos (e / 2) ≤ pos (e0 / 2) := by
        rcases k3 with k3 | k3
        · exact hd e k1 k2 k3
        · rw [k3]; exact Nat.le_refl _
      have hw : zew cd e0 = 0 := by omega
      have hs : zsl cd e0 = 1 := if_pos ⟨hw, fun x => by omega⟩
      have := hp.2 e0 he hs
      rw [show zen2 cd e0 = e / 2 by omega] at this
      omega
    · rw [if_neg c]
  intro sum hsum v hvS
  have hz : zcv cd (fun e => if e = e0 then 1 else dn e) C' W sum v = zcv cd dn C W sum v + (if zen2 cd e0 = v ∧ W + zew cd e0 = sum then C (W * 64 + e0 / 2) else 0) := by
    unfold zcv
    refine zsi_1 (s := e0) _ he (fun i hi hne => ?_) ?_
    · show (if 2 ≤ i ∧ zen2 cd i = v ∧ W + zew cd i = sum ∧ (if i = e0 then 1 else dn i) ≠ 0 then C' (W * 64 + i / 2) else 0) = (if 2 ≤ i ∧ zen2 cd i = v ∧ W + zew cd i = sum ∧ dn i ≠ 0 then C (W * 64 + i / 2) else 0)
      rw [if_neg hne]
      by_cases c : 2 ≤ i ∧ zen2 cd i = v ∧ W + zew cd i = sum ∧ dn i ≠ 0
      · rw [if_pos c, if_pos c, keep i c.1 hi (Or.inl c.2.2.2)]
      · rw [if_neg c, if_neg c]
    · show (if 2 ≤ e0 ∧ zen2 cd e0 = v ∧ W + zew cd e0 = sum ∧ (if e0 = e0 then 1 else dn e0) ≠ 0 then C' (W * 64 + e0 / 2) else 0) = (if 2 ≤ e0 ∧ zen2 cd e0 = v ∧ W + zew cd e0 = sum ∧ dn e0 ≠ 0 then C (W * 64 + e0 / 2) else 0) + _
      rw [if_pos (show e0 = e0 from rfl), if_neg (show ¬ (2 ≤ e0 ∧ zen2 cd e0 = v ∧ W + zew cd e0 = sum ∧ dn e0 ≠ 0) from fun hh => hh.2.2.2 hd0), Int64.zero_add]
      by_cases c : zen2 cd e0 = v ∧ W + zew cd e0 = sum
      · rw [if_pos ⟨h2, c.1, c.2, by omega⟩, if_pos c, keep e0 h2 he (Or.inr rfl)]
      · rw [if_neg (fun hh => c ⟨hh.2.1, hh.2.2.1⟩), if_neg c]
  rw [hz]
  have hold := h sum hsum v hvS
  by_cases c : zen2 cd e0 = v ∧ W + zew cd e0 = sum
  · rw [if_pos c, hC', if_pos (by omega), zul, if_pos (by rw [c.1, c.2]), c.1, c.2, hold]
    ac_rfl
  · rw [if_neg c, Int64.add_zero, ← hold, hC']
    by_cases d : W + zew cd e0 ≤ p
    · rw [if_pos d, zul, if_neg]
      intro hh
      exact c ⟨by omega, by omega⟩
    · rw [if_neg d]
theorem zq_spread {I : pd_I} {J : pd_J} {cd dn pos : Nat → Nat} {W p s : Nat} {C0 : Nat → Int64} (hv : zCv cd) (hD : zLD I cd (2 * 2 ^ cd 1)) (hp : zPo cd pos) (hp30 : p ≤ 30) (hW : W ≤ p) (hs1 : 1 ≤ s) (hs : s < 2 ^ cd 1) (h : zWI cd dn W p C0 (J 58)) (hdn : ∀ e, 2 ≤ e → e < 2 * 2 ^ cd 1 → dn e ≠ 0 → pos (e / 2) ≤ pos s ∧ e / 2 ≠ s) :
    zT (fn_X7_spread I J (zn W) (zn s) (zn p)) (fun J' => zJF [58] J J' ∧ ∃ dn', zWI cd dn' W p C0 (J' 58) ∧ ∀ e, 2 ≤ e → e < 2 * 2 ^ cd 1 → (dn' e ≠ 0 ↔ dn e ≠ 0 ∨ e / 2 = s)) := by
  have hS := zCv_S hv
  unfold fn_X7_spread
  rw [zn_2, zn_mul, zb_let]
  refine zl_loop (fun fu j (J' : pd_J) => fl_X7_spread_5 (zn W) (zn s) (zn p) I (fun zJ2 => some zJ2) fu j J') (2 * s + 2) (fun j J' => 2 * s ≤ j ∧ zJF [58] J J' ∧ ∃ dn', zWI cd dn' W p C0 (J' 58) ∧ ∀ e, 2 ≤ e → e < 2 * 2 ^ cd 1 → (dn' e ≠ 0 ↔ dn e ≠ 0 ∨ e / 2 = s ∧ e < j)) ?_ ?_ pd_FU (2 * s) J (by omega) (zFU (by omega)) ⟨Nat.le_refl _, zJF_rfl, dn, h, fun e _ _ => ⟨fun x => Or.inl x, fun x => x.elim id (fun y => by omega)⟩⟩
  · rintro fu J' ⟨-, k1, dn', k2, k3⟩
    rw [fl_X7_spread_5, zn_2, zn_1, zn_mul, zn_add, zi_lt (by omega) (by omega), if_pos (by omega)]
    refine ⟨J', rfl, k1, dn', k2, fun e e1 e2 => ?_⟩
    rw [k3 e e1 e2]
    exact ⟨fun x => x.elim Or.inl (fun y => Or.inr y.1), fun x => x.elim Or.inl (fun y => Or.inr ⟨y, by omega⟩)⟩
  · rintro fu j J' hj ⟨h0, k1, dn', k2, k3⟩ ih
    have hjS : j < 2 * 2 ^ cd 1 := by omega
    have hj2 : j / 2 = s := by omega
    have hnx := zen2_lt (cd := cd) (e := j)
    have hw := zew_le (e := j) hv
    have hd0 : dn' j = 0 := by
      by_cases c : dn' j = 0
      · exact c
      · rcases (k3 j (by omega) hjS).mp c with x | x
        · exact absurd hj2 (hdn j (by omega) hjS x).2
        · omega
    have st := zWI_step hv hp k2 (show 2 ≤ j by omega) hjS hd0 (fun e e1 e2 e3 => by
      rw [hj2]
      rcases (k3 e e1 e2).mp e3 with x | x
      · exact (hdn e e1 e2 x).1
      · rw [x.1]; exact Nat.le_refl _) hW
    rw [hj2] at st
    have hpr : ∀ e, 2 ≤ e → e < 2 * 2 ^ cd 1 → ((if e = j then 1 else dn' e) ≠ 0 ↔ dn e ≠ 0 ∨ e / 2 = s ∧ e < j + 1) := fun e e1 e2 => by
      by_cases c : e = j
      · rw [if_pos c]
        exact ⟨fun _ => Or.inr ⟨by rw [c, hj2], by omega⟩, fun _ => by omega⟩
      · rw [if_neg c, k3 e e1 e2]
        exact ⟨fun x => x.elim Or.inl (fun y => Or.inr ⟨y.1, by omega⟩), fun x => x.elim Or.inl (fun y => Or.inr ⟨y.1, by omega⟩)⟩
    rw [fl_X7_spread_5, zn_2, zn_1, zn_mul, zn_add, zi_lt (by omega) (by omega), if_neg (by omega), zp_wt hv hD hjS, zb_bd, zn_add, zb_let, zi_lt (by omega) (by omega)]
    by_cases c : W + zew cd j ≤ p
    · rw [if_pos c] at st
      rw [if_neg (by omega), zn_in2 (show j < 128 by omega) (by omega), zb_gd, zn_nat (by omega), zp_nx hD hjS, zn_64, zn_mul, zn_mul, zn_add, zn_add, zn_in2 (show (W + zew cd j) * 64 + zen2 cd j < 1984 by omega) (by omega), zb_gd, zn_in2 (show W * 64 + s < 1984 by omega) (by omega), zb_gd, zb_gd, zn_nat (by omega), zn_nat (by omega), zb_let, zb_bd, zb_let, zn_add]
      refine ih _ ⟨by omega, zJF_u (by simp) k1, fun e => if e = j then 1 else dn' e, ?_, hpr⟩
      rw [zuj_same]
      exact st
    · rw [if_neg c] at st
      rw [if_pos (by omega), zb_bd, zb_let, zn_add]
      exact ih J' ⟨by omega, k1, fun e => if e = j then 1 else dn' e, st, hpr⟩
/-- all edges of a weight -/
def zRW (cd : Nat → Nat) (W p : Nat) (C0 C : Nat → Int64) : Prop := ∀ sum, sum ≤ p → ∀ v, v < 2 ^ cd 1 → C (sum * 64 + v) = C0 (sum * 64 + v) + zsi (fun e => if 2 ≤ e ∧ zen2 cd e = v ∧ W + zew cd e = sum then C (W * 64 + e / 2) else 0) (2 * 2 ^ cd 1)
theorem zq_ww59 {O : Type} {Q : O → Prop} {I : pd_I} {J : pd_J} {cd pos ord : Nat → Nat} {W p : Nat} {kont : pd_J → Option O} (hv : zCv cd) (hD : zLD I cd (2 * 2 ^ cd 1)) (hp : zPo cd pos) (ec : I 54 2 = zn (2 ^ cd 1)) (eo : ∀ j, j < 2 ^ cd 1 → I 55 j = zn (ord j) ∧ ord j < 2 ^ cd 1 ∧ pos (ord j) = j) (hop : ∀ v, v < 2 ^ cd 1 → ord (pos v) = v) (hp30 : p ≤ 30) (hW : W ≤ p)
    (hK : ∀ J', zJF [58] J J' → zRW cd W p (J 58) (J' 58) → zT (kont J') Q) : zT (fl_X7_waysOfWeight_59 (zn p) (zn W) I kont pd_FU (zn 0) J) Q := by
  have hS := zCv_S hv
  refine zl_loop (fun fu j (J' : pd_J) => fl_X7_waysOfWeight_59 (zn p) (zn W) I kont fu j J') (2 ^ cd 1) (fun i J' => zJF [58] J J' ∧ ∃ dn, zWI cd dn W p (J 58) (J' 58) ∧ ∀ e, 2 ≤ e → e < 2 * 2 ^ cd 1 → (dn e ≠ 0 ↔ pos (e / 2) < i)) ?_ ?_ pd_FU 0 J (by omega) (zFU (by omega)) ⟨zJF_rfl, fun _ => 0, fun sum hsum v hvS => ?_, fun e _ _ => ⟨fun x => absurd rfl x, fun x => absurd x (Nat.not_lt_zero _)⟩⟩
  · rintro fu J' ⟨k1, dn, k2, k3⟩
    rw [fl_X7_waysOfWeight_59, ec, if_pos (Int32.le_refl _)]
    refine hK J' k1 (fun sum hsum v hvS => ?_)
    rw [k2 sum hsum v hvS]
    congr 1
    unfold zcv
    refine zsi_c _ (fun e he => ?_)
    show (if 2 ≤ e ∧ zen2 cd e = v ∧ W + zew cd e = sum ∧ dn e ≠ 0 then J' 58 (W * 64 + e / 2) else 0) = (if 2 ≤ e ∧ zen2 cd e = v ∧ W + zew cd e = sum then J' 58 (W * 64 + e / 2) else 0)
    by_cases c : 2 ≤ e ∧ zen2 cd e = v ∧ W + zew cd e = sum
    · rw [if_pos c, if_pos ⟨c.1, c.2.1, c.2.2, (k3 e c.1 he).mpr (hp.1 _ (by omega))⟩]
    · rw [if_neg c, if_neg (fun x => c ⟨x.1, x.2.1, x.2.2.1⟩)]
  · rintro fu i J' hi ⟨k1, dn, k2, k3⟩ ih
    obtain ⟨o1, o2, o3⟩ := eo i hi
    rw [fl_X7_waysOfWeight_59, ec, zi_le (by omega) (by omega), if_neg (by omega), zn_in2 (show i < 64 by omega) (by omega), zb_gd, zb_gd, zn_nat (by omega), o1, zn_0, zi_eq (by omega) (by omega)]
    by_cases c : ord i = 0
    · rw [if_pos c, zb_bd, zb_let, zn_1, zn_add]
      refine ih J' ⟨k1, dn, k2, fun e e1 e2 => ?_⟩
      rw [k3 e e1 e2]
      have hne : pos (e / 2) ≠ i := fun x => by
        have := hop (e / 2) (by omega)
        rw [x, c] at this
        omega
      omega
    · rw [if_neg c, zT_bd, zT_bd]
      refine zT_mono (zq_spread hv hD hp hp30 hW (by omega) o2 k2 (fun e e1 e2 e3 => ?_)) (fun J2 ⟨f1, dn', f2, f3⟩ => ?_)
      · have := (k3 e e1 e2).mp e3
        rw [o3]
        exact ⟨by omega, fun x => by rw [x, o3] at this; omega⟩
      · rw [zT_some, zb_let, zn_1, zn_add]
        refine ih J2 ⟨zJF_tr k1 f1, dn', f2, fun e e1 e2 => ?_⟩
        rw [f3 e e1 e2, k3 e e1 e2]
        constructor
        · rintro (x | x)
          · omega
          · rw [x, o3]; omega
        · intro x
          by_cases d : pos (e / 2) < i
          · exact Or.inl d
          · refine Or.inr ?_
            have hpe : pos (e / 2) = i := by omega
            have := hop (e / 2) (by omega)
            rw [hpe] at this
            exact this.symm
  · show J 58 (sum * 64 + v) = J 58 (sum * 64 + v) + zcv cd (fun _ => 0) (J 58) W sum v
    unfold zcv
    rw [zsi_z _ (fun e he => if_neg (fun x => x.2.2.2 rfl)), Int64.add_zero]
