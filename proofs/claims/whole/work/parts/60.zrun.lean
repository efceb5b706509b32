/-! the class takes turns */ -/
def zsay (x : Int32) : Nat := if 0 ≤ x then 0 else 1
theorem zsay_e {x : Int32} : (if 0 ≤ x then some (0 : Int32) else some 1) = some (zn (zsay x)) := by
  unfold zsay
  by_cases c : 0 ≤ x
  · rw [if_pos c, if_pos c]; rfl
  · rw [if_neg c, if_neg c]; rfl
theorem zsay_lt {x : Int32} : zsay x < 2 := by unfold zsay; split <;> omega
/-- the news ahead of turn k, what the halves of turn k say, whether they say the same -/
def zNN (cd : Nat → Nat) (mc : Nat → Nat → Nat) (n : Nat) : Nat → Nat → Int
  | 0, _ => 0
  | k + 1, i => zTN cd mc n 1 (zTN cd mc n 0 (zNN cd mc n k)) i
def zE0 (cd : Nat → Nat) (mc : Nat → Nat → Nat) (n k i : Nat) : Int32 := zTE cd mc n 0 (zNN cd mc n k) i
def zE1 (cd : Nat → Nat) (mc : Nat → Nat → Nat) (n k i : Nat) : Int32 := zTE cd mc n 1 (zTN cd mc n 0 (zNN cd mc n k)) i
def zag (cd : Nat → Nat) (mc : Nat → Nat → Nat) (n k : Nat) : Nat → Nat
  | 0 => 1
  | i + 1 => if zag cd mc n k i = 1 ∧ zsay (zE0 cd mc n k i) = zsay (zE1 cd mc n k i) then 1 else 0
/-- how many turns are done of at most k, and whether they agreed -/
def zru (cd : Nat → Nat) (mc : Nat → Nat → Nat) (n : Nat) : Nat → Nat × Nat
  | 0 => (0, 0)
  | k + 1 => if (zru cd mc n k).2 = 1 then zru cd mc n k else ((zru cd mc n k).1 + 1, zag cd mc n (zru cd mc n k).1 n)
theorem zag_le {cd : Nat → Nat} {mc : Nat → Nat → Nat} {n k : Nat} : ∀ i, zag cd mc n k i ≤ 1
  | 0 => Nat.le_refl _
  | i + 1 => by unfold zag; split <;> omega
theorem zag_0 {cd : Nat → Nat} {mc : Nat → Nat → Nat} {n k i : Nat} (h : zag cd mc n k i = 0) : ∀ d, zag cd mc n k (i + d) = 0
  | 0 => h
  | d + 1 => by
    have := zag_0 h d
    show (if zag cd mc n k (i + d) = 1 ∧ _ then 1 else 0) = 0
    rw [if_neg (by omega)]
theorem zru_le {cd : Nat → Nat} {mc : Nat → Nat → Nat} {n : Nat} : ∀ k, (zru cd mc n k).2 ≤ 1 ∧ (zru cd mc n k).1 ≤ k
  | 0 => ⟨Nat.zero_le _, Nat.le_refl _⟩
  | k + 1 => by
    have h := zru_le (cd := cd) (mc := mc) (n := n) k
    unfold zru
    split
    · omega
    · exact ⟨zag_le _, by show (zru cd mc n k).1 + 1 ≤ k + 1; omega⟩
theorem zru_stick {cd : Nat → Nat} {mc : Nat → Nat → Nat} {n k : Nat} (h : (zru cd mc n k).2 = 1) : ∀ d, zru cd mc n (k + d) = zru cd mc n k
  | 0 => rfl
  | d + 1 => by
    have ih := zru_stick h d
    show (if (zru cd mc n (k + d)).2 = 1 then zru cd mc n (k + d) else _) = _
    rw [ih, if_pos h]
theorem zNN_b {cd : Nat → Nat} {mc : Nat → Nat → Nat} {n : Nat} : ∀ k i, -5000 ≤ zNN cd mc n k i ∧ zNN cd mc n k i ≤ 5000
  | 0, _ => by unfold zNN; omega
  | k + 1, i => zcl_b
theorem zq_sayTheSame {I : pd_I} {cd : Nat → Nat} {mc : Nat → Nat → Nat} {n k : Nat} (hn2 : n ≤ 200) (h0 : ∀ i, i < n → I 52 i = zE0 cd mc n k i) (h1 : ∀ i, i < n → I 53 i = zE1 cd mc n k i) : fn_X8_sayTheSame I (zn n) = some (zn (zag cd mc n k n)) := by
  have key : ∀ j fu lo, lo + j = n → j < fu → zag cd mc n k lo = 1 → fl_X8_sayTheSame_2 (zn n) I (fun _ => some 1) fu (zn lo) = some (zn (zag cd mc n k n)) := by
    intro j
    induction j with
    | zero =>
      intro fu lo e1 e2 e3
      obtain ⟨fu, rfl⟩ : ∃ f, fu = f + 1 := ⟨fu - 1, by omega⟩
      have e4 : lo = n := by omega
      subst e4
      rw [fl_X8_sayTheSame_2, if_pos (by rw [zn_le (by omega) (by omega)]; omega), e3]; rfl
    | succ j ih =>
      intro fu lo e1 e2 e3
      obtain ⟨fu, rfl⟩ : ∃ f, fu = f + 1 := ⟨fu - 1, by omega⟩
      have a := zsay_lt (x := zE0 cd mc n k lo)
      have b := zsay_lt (x := zE1 cd mc n k lo)
      rw [fl_X8_sayTheSame_2, if_neg (by rw [zn_le (by omega) (by omega)]; omega), zn_in2 (show lo < 200 by omega) (by omega), zb_gd, zn_nat (by omega), h0 lo (by omega), h1 lo (by omega), zsay_e, zb_bd, zb_gd, zsay_e, zb_bd, zi_eq (by omega) (by omega)]
      by_cases c : zsay (zE0 cd mc n k lo) = zsay (zE1 cd mc n k lo)
      · rw [if_pos c, zb_let, zn_1, zn_add]
        refine ih fu (lo + 1) (by omega) (by omega) ?_
        unfold zag
        rw [if_pos ⟨e3, c⟩]
      · have h0 : zag cd mc n k (lo + 1) = 0 := by
          unfold zag
          rw [if_neg (fun h => c h.2)]
        have h2 := zag_0 h0 (n - (lo + 1))
        rw [show lo + 1 + (n - (lo + 1)) = n by omega] at h2
        rw [if_neg c, h2]; rfl
  unfold fn_X8_sayTheSame
  rw [zn_0]
  exact key n pd_FU 0 (by omega) (by show n < 65536; omega) rfl
theorem zq_run {I : pd_I} {Z : pd_R} {m a n mo ow ft : Nat} {cd : Nat → Nat} {mc : Nat → Nat → Nat} (hm : 133 ≤ m) (hC : zCo I a cd) (ha : 133 ≤ a) (hv : zCv cd) (h5 : cd 0 = 5) (hn1 : 1 ≤ n) (hn2 : n ≤ 200) (hm1 : 1 ≤ mo) (hm10 : mo ≤ 10) (hinj : ∀ t, t < n → ∀ k, k < t → t * cd 5 % n ≠ k * cd 5 % n) (hZ : zZe Z ow ft) (hR : zRD I cd mc n 0) (h3 : I 11 3 = zn (2 ^ cd 1)) (hLD : zLD I cd (2 * 2 ^ cd 1)) (hmc : ∀ b, b < 2 → ∀ i, mc b i ≤ 1000) :
    zT (fn_X8_run I Z m a (zn n) (zn mo)) (fun r => r.1 = zn (zru cd mc n mo).1 ∧ (∃ ow ft, zZe r.2.2 ow ft) ∧ (∀ b, b ≠ 43 → r.2.2 b = Z b) ∧ zF [14, 15, 44, 45, 46, 47, 48, 49, 50, 51, 52, 53] I r.2.1 ∧ r.2.1 49 7 = zn (zru cd mc n mo).2 ∧ ∀ i, i < n → r.2.1 53 i = zE1 cd mc n ((zru cd mc n mo).1 - 1) i) := by
  unfold fn_X8_run
  generalize hkt : (fun zI2 => pd_let (pd_ui zI2 49 7 0) fun zI4 => fl_X8_run_31 a (zn n) (zn mo) m (fun zx3 zI6 zZ2 => some (zx3, zI6, zZ2)) pd_FU 0 zI4 Z) = kt
  rw [zn_0]
  refine zl_loop (fun fu t (st : pd_I) => fl_X8_run_3 (zn n) kt fu t st) n (fun t st => zF [50] I st ∧ ∀ t', t' < t → st 50 t' = zI 0) ?_ ?_ pd_FU 0 I (by omega) (zFU (by omega)) ⟨zF_rfl, fun t h => absurd h (Nat.not_lt_zero _)⟩
  · rintro fu I1 ⟨hF1, hD1⟩
    try simp only []
    rw [fl_X8_run_3, if_pos (by rw [zn_le (by omega) (by omega)]; omega), ← hkt]
    simp only []
    rw [zb_let, zn_0]
    have hF2 : zF [14, 15, 44, 45, 46, 47, 48, 49, 50, 51, 52, 53] I (pd_ui I1 49 7 (zn 0)) := zF_u (by decide) (zF_sub hF1 (by decide))
    refine zl_loop (fun fu k (st : pd_I × pd_R) => fl_X8_run_31 a (zn n) (zn mo) m (fun zx3 zI6 zZ2 => some (zx3, zI6, zZ2)) fu k st.1 st.2) mo (fun k st => (zru cd mc n k).1 = k ∧ (∃ ow ft, zZe st.2 ow ft) ∧ (∀ b, b ≠ 43 → st.2 b = Z b) ∧ zF [14, 15, 44, 45, 46, 47, 48, 49, 50, 51, 52, 53] I st.1 ∧ st.1 49 7 = zn (zru cd mc n k).2 ∧ (∀ i, i < n → st.1 50 i = zI (zNN cd mc n k i)) ∧ (1 ≤ k → ∀ i, i < n → st.1 53 i = zE1 cd mc n (k - 1) i)) ?_ ?_ pd_FU 0 (pd_ui I1 49 7 (zn 0), Z) (by omega) (zFU (by omega)) ⟨rfl, ⟨ow, ft, hZ⟩, fun _ _ => rfl, hF2, ?_, fun i hi => ?_, fun h => absurd h (by omega)⟩
    · rintro fu ⟨I3, Z3⟩ ⟨q0, q1, q2, q3, q4, q5, q6⟩
      try simp only [] at q0 q1 q2 q3 q4 q5 q6 ⊢
      rw [fl_X8_run_31, if_pos (by rw [zn_le (by omega) (by omega)]; omega), zb_bd, if_neg (by decide)]
      refine ⟨_, rfl, by rw [q0], q1, q2, q3, q4, ?_⟩
      rw [q0]; exact q6 hm1
    · rintro fu k ⟨I3, Z3⟩ hk ⟨q0, ⟨ow, ft, q1⟩, q2, q3, q4, q5, q6⟩ ih
      try simp only [] at q0 q1 q2 q3 q4 q5 q6 ih ⊢
      have hl := zru_le (cd := cd) (mc := mc) (n := n) k
      rw [fl_X8_run_31, if_neg (by rw [zn_le (by omega) (by omega)]; omega), q4, zn_0, zi_eq (by omega) (by omega)]
      by_cases c : (zru cd mc n k).2 = 0
      · rw [if_pos c, zb_bd, if_pos rfl, zT_bd2]
        have hcd3 := zCo_F (by decide) ha q3 hC
        have hR3 : zRD I3 cd mc n 0 := by unfold zRD; rw [q3 9 (by decide), q3 10 (by decide)]; exact hR
        have h33 : I3 11 3 = zn (2 ^ cd 1) := by rw [q3 11 (by decide)]; exact h3
        have hL3 : zLD I3 cd (2 * 2 ^ cd 1) := by unfold zLD; rw [q3 12 (by decide), q3 13 (by decide)]; exact hLD
        refine zT_mono (zq_doHalf (h := 0) (mc := mc) (N := zNN cd mc n k) hm hcd3 ha hv h5 hn1 hn2 (by omega) hinj q1 hR3 h33 hL3 q5 (zNN_b k) hmc) (fun r ⟨⟨ow, ft, p1⟩, p2, p3, p4, p5, p6⟩ => ?_)
        have hcd4 := zCo_F (by decide) ha p3 hcd3
        have hR4 : zRD r.1 cd mc n 0 := by unfold zRD; rw [p3 9 (by decide), p3 10 (by decide)]; exact hR3
        have h34 : r.1 11 3 = zn (2 ^ cd 1) := by rw [p3 11 (by decide)]; exact h33
        have hL4 : zLD r.1 cd (2 * 2 ^ cd 1) := by unfold zLD; rw [p3 12 (by decide), p3 13 (by decide)]; exact hL3
        rw [zT_bd2, zn_1]
        refine zT_mono (zq_doHalf (h := 1) (mc := mc) (N := zTN cd mc n 0 (zNN cd mc n k)) hm hcd4 ha hv h5 hn1 hn2 (by omega) hinj p1 hR4 h34 hL4 p4 (fun i => zcl_b) hmc) (fun r2 ⟨o1, o2, o3, o4, o5, o6⟩ => ?_)
        rw [if_neg (by omega)] at p5
        rw [if_pos rfl] at o5
        have e52 : ∀ i, i < n → r2.1 52 i = zE0 cd mc n k i := fun i hi => by rw [o6 rfl]; exact p5 i hi
        rw [zq_sayTheSame (cd := cd) (mc := mc) (k := k) hn2 e52 o5, zb_bd, zc_bo (zag_le _), zb_gd, zb_let, zb_let, zn_add]
        have hz : zru cd mc n (k + 1) = (k + 1, zag cd mc n k n) := by
          show (if (zru cd mc n k).2 = 1 then zru cd mc n k else ((zru cd mc n k).1 + 1, zag cd mc n (zru cd mc n k).1 n)) = _
          rw [if_neg (by omega), q0]
        obtain ⟨I4, hI4⟩ : ∃ I4, I4 = pd_ui r2.1 49 7 (zn (zag cd mc n k n)) := ⟨_, rfl⟩
        rw [← hI4]
        have hF4 : zF [14, 15, 44, 45, 46, 47, 48, 49, 50, 51, 52, 53] I I4 := by
          rw [hI4]
          exact zF_u (by decide) (zF_tr q3 (zF_tr (zF_sub p3 (by decide)) (zF_sub o3 (by decide))))
        refine ih (I4, r2.2) ⟨by rw [hz], o1, fun b hb => by show r2.2 b = _; rw [o2 b hb, p2 b hb, q2 b hb], hF4, ?_, fun i hi => ?_, fun _ i hi => ?_⟩
        · show I4 49 7 = _; rw [hI4, zu_same, zu_at, hz]
        · show I4 50 i = _; rw [hI4, zu_ne (by decide), o4 i hi]; rfl
        · show I4 53 i = _; rw [hI4, zu_ne (by decide), o5 i hi]; rfl
      · have c1 : (zru cd mc n k).2 = 1 := by omega
        rw [if_neg c, zb_bd, if_neg (by decide)]
        have hst := zru_stick c1 (mo - k)
        rw [show k + (mo - k) = mo by omega] at hst
        have hk1 : 1 ≤ k := by
          rcases Nat.eq_zero_or_pos k with e | e
          · rw [e] at c1; exact absurd c1 (by show ¬ (0 : Nat) = 1; omega)
          · exact e
        rw [hst, q0]
        exact ⟨_, rfl, rfl, ⟨ow, ft, q1⟩, q2, q3, q4, q6 hk1⟩
    · show pd_ui I1 49 7 (zn 0) 49 7 = _; rw [zu_same, zu_at]; rfl
    · show pd_ui I1 49 7 (zn 0) 50 i = _; rw [zu_ne (by decide)]; exact hD1 i hi
  · rintro fu t I1 ht ⟨hF1, hD1⟩ ih
    try simp only [] at ih ⊢
    rw [fl_X8_run_3, if_neg (by rw [zn_le (by omega) (by omega)]; omega), zn_in2 (show t < 200 by omega) (by omega), zb_gd, zn_nat (by omega), zb_let, zb_let, zn_1, zn_add]
    refine ih _ ⟨zF_u (by decide) hF1, fun t' ht' => ?_⟩
    rw [zu_same, zu_app]
    by_cases e : t' = t
    · rw [if_pos e]; rfl
    · rw [if_neg e]; exact hD1 t' (by omega)
