/-! where a ring begins; the class's encode; the reference's message -/
theorem zfst (P : Nat → Prop) : ∀ N, (∃ b, b < N ∧ P b ∧ ∀ b', b' < b → ¬ P b') ∨ ∀ b, b < N → ¬ P b
  | 0 => Or.inr (fun b hb => by omega)
  | N + 1 => by
    rcases zfst P N with ⟨b, h1, h2, h3⟩ | h
    · exact Or.inl ⟨b, by omega, h2, h3⟩
    · by_cases c : P N
      · exact Or.inl ⟨N, by omega, c, h⟩
      · refine Or.inr (fun b hb => ?_)
        by_cases d : b = N
        · rw [d]; exact c
        · exact h b (by omega)
theorem zq_ring16 {O : Type} {I : pd_I} {a n b : Nat} {cd x : Nat → Nat} {kont : Int32 → Option O} (h : zCo I a cd) (hv : zCv cd) (hn : n ≤ 200) (hb : b < 64) (hx : ∀ t, x t < 2) (hI : ∀ t, t < n → I 4 t = zn (x t)) : fl_X2_ringBeginning_16 a (zn n) I kont pd_FU (zn b) (zn 0) = kont (zn (zs1 cd x n b n)) := by
  refine zl_eq (fun fu k (w : Int32) => fl_X2_ringBeginning_16 a (zn n) I kont fu w k) n 0 (fun k => zn (zs1 cd x n b k)) _ (fun fu => ?_) (fun fu k _ hk => ?_) pd_FU 0 (by omega) (by omega) (zFU (by omega))
  · try simp only []
    rw [fl_X2_ringBeginning_16, if_pos (Int32.le_refl _)]
  · try simp only []
    rw [fl_X2_ringBeginning_16, zi_le (by omega) (by omega), if_neg (by omega), zn_in2 (show k < 200 by omega) (by omega), zb_gd, zn_nat (by omega), hI k hk, zc_stateAfter h hv (zs1_lt hv hb) (hx k), zb_bd, zb_let, zn_1, zn_add]
    show _ = fl_X2_ringBeginning_16 a (zn n) I kont fu (zn (znx cd (zs1 cd x n b k) (if k < n then x k else zfb cd (zs1 cd x n b k)))) (zn (k + 1))
    rw [if_pos hk]
theorem zq_ring {I : pd_I} {a n : Nat} {cd x : Nat → Nat} {v : Option Int32} (h : zCo I a cd) (hv : zCv cd) (hn : n ≤ 200) (hx : ∀ t, x t < 2) (hI : ∀ t, t < n → I 4 t = zn (x t)) (hE : (∃ b, b < 2 ^ cd 1 ∧ zs1 cd x n b n = b ∧ (∀ b', b' < b → ¬ zs1 cd x n b' n = b') ∧ v = some (zn b)) ∨ ((∀ b, b < 2 ^ cd 1 → ¬ zs1 cd x n b n = b) ∧ v = some (-1))) : fn_X2_ringBeginning I a (zn n) = v := by
  have hS := zCv_S hv
  unfold fn_X2_ringBeginning
  rcases hE with ⟨b, h1, h2, h3, rfl⟩ | ⟨h1, rfl⟩
  · refine zl_eq (fun fu k (_ : Unit) => fl_X2_ringBeginning_2 a (zn n) I (fun _ => some (-1)) fu k) b 0 (fun _ => ()) _ (fun fu => ?_) (fun fu k _ hk => ?_) pd_FU 0 (by omega) (by omega) (zFU (by omega))
    · try simp only []
      rw [fl_X2_ringBeginning_2, zc_states h hv, zb_bd, zi_le (by omega) (by omega), if_neg (by omega), zn_0, zq_ring16 h hv hn (by omega) hx hI, h2, if_pos rfl]
    · try simp only []
      have hs := zs1_lt (x := x) (n := n) (t := n) (b := k) hv (by omega)
      rw [fl_X2_ringBeginning_2, zc_states h hv, zb_bd, zi_le (by omega) (by omega), if_neg (by omega), zn_0, zq_ring16 h hv hn (by omega) hx hI, zi_eq (by omega) (by omega), if_neg (h3 k hk), zb_let, zn_1, zn_add]
  · refine zl_eq (fun fu k (_ : Unit) => fl_X2_ringBeginning_2 a (zn n) I (fun _ => some (-1)) fu k) (2 ^ cd 1) 0 (fun _ => ()) _ (fun fu => ?_) (fun fu k _ hk => ?_) pd_FU 0 (by omega) (by omega) (zFU (by omega))
    · try simp only []
      rw [fl_X2_ringBeginning_2, zc_states h hv, zb_bd, if_pos (Int32.le_refl _)]
    · try simp only []
      have hs := zs1_lt (x := x) (n := n) (t := n) (b := k) hv (by omega)
      rw [fl_X2_ringBeginning_2, zc_states h hv, zb_bd, zi_le (by omega) (by omega), if_neg (by omega), zn_0, zq_ring16 h hv hn (by omega) hx hI, zi_eq (by omega) (by omega), if_neg (h1 k hk), zb_let, zn_1, zn_add]
/-- the beginning b of the first way; or that there is none -/
def zBe (cd x : Nat → Nat) (n b : Nat) : Prop := (cd 0 ≠ 4 ∧ b = 0) ∨ (cd 0 = 4 ∧ b < 2 ^ cd 1 ∧ zs1 cd x n b n = b ∧ ∀ b', b' < b → ¬ zs1 cd x n b' n = b')
def zBn (cd x : Nat → Nat) (n : Nat) : Prop := cd 0 = 4 ∧ ∀ b, b < 2 ^ cd 1 → ¬ zs1 cd x n b n = b
theorem zBe_or (cd x : Nat → Nat) (n : Nat) : (∃ b, zBe cd x n b) ∨ zBn cd x n := by
  by_cases c : cd 0 = 4
  · rcases zfst (fun b => zs1 cd x n b n = b) (2 ^ cd 1) with ⟨b, h1, h2, h3⟩ | h
    · exact Or.inl ⟨b, Or.inr ⟨c, h1, h2, h3⟩⟩
    · exact Or.inr ⟨c, h⟩
  · exact Or.inl ⟨0, Or.inl ⟨c, rfl⟩⟩
theorem zBe_lt {cd x : Nat → Nat} {n b : Nat} (hv : zCv cd) (h : zBe cd x n b) : b < 64 := by
  have := zCv_S hv
  rcases h with ⟨-, e⟩ | ⟨-, e, -⟩ <;> omega
theorem zq_beg {I : pd_I} {a n b : Nat} {cd x : Nat → Nat} (h : zCo I a cd) (hv : zCv cd) (hn : n ≤ 200) (hx : ∀ t, x t < 2) (hI : ∀ t, t < n → I 4 t = zn (x t)) (hB : zBe cd x n b) : (if I a 0 = 4 then pd_bd (fn_X2_ringBeginning I a (zn n)) fun zr3 => some zr3 else some (0 : Int32)) = some (zn b) := by
  have v0 := hv.1
  rw [h.1, zn_4, zi_eq (by omega) (by omega)]
  rcases hB with ⟨c, e⟩ | ⟨c, h1, h2, h3⟩
  · rw [if_neg c, e]; rfl
  · rw [if_pos c, zq_ring h hv hn hx hI (Or.inl ⟨b, h1, h2, h3, rfl⟩), zb_bd]
theorem zk_encode {I : pd_I} {a b m n be o : Nat} {cd f : Nat → Nat} (ha : 133 ≤ a) (hb : 60 ≤ b) (h : zCo I a cd) (hv : zCv cd) (hr : zRow I b m f) (hn1 : 1 ≤ n) (hn : n ≤ 200) (hB : zBe cd (zxb m f) n be) (hO : ∀ I', zCo I' a cd → fn_X0_ordersAll I' a (zn n) = some (zn o)) (ho : cd 0 = 5 → o = 1) : zT (fn_X2_encode I a b (zn n)) (fun x => x.1 = zn 1 ∧ zF [4, 5] I x.2 ∧ ∀ t, t < zst cd n → ∀ k, k < zwd cd → x.2 5 (t * 7 + k) = zn (zgo cd (zxb m f) n be t k)) := by
  have v0 := hv.1
  have h24 := hv.2.2.2.2.1
  have h22 := hv.2.2.2.1
  have hbe := zBe_lt hv hB
  unfold fn_X2_encode
  refine zq_encode3 hb hr hn (fun I1 f1 f2 => ?_)
  have h1 := zCo_F (by decide) ha f1 h
  have e2 : (if zn be = -1 then some false else if I1 a 0 = 5 then pd_bd (fn_X0_ordersAll I1 a (zn n)) fun zr2 => if zr2 = 0 then some false else some true else some true) = some true := by
    rw [if_neg (zn_m1e (by omega)), h1.1, zn_5, zi_eq (by omega) (by omega)]
    by_cases c : cd 0 = 5
    · rw [if_pos c, hO I1 h1, ho c, zb_bd, zn_0, if_neg zn_p0]
    · rw [if_neg c]
  rw [zq_beg h1 hv hn (fun t => zxb_lt) f2 hB, zb_bd, e2, zb_bd, if_pos rfl, zT_bd]
  refine zT_mono (zq_encF ha h1 hv hn hbe (fun t => zxb_lt) f2) (fun I2 ⟨g1, g2⟩ => ?_)
  have h2 := zCo_F (by decide) ha g1 h1
  rw [h2.1, zn_5, zi_eq (by omega) (by omega)]
  by_cases c : cd 0 = 5
  · rw [if_pos c, zT_bd, zT_bd]
    refine zT_mono (zq_encS (x := zxb m f) ha h2 hv hn1 hn (fun t => zxb_lt) (fun t ht => by rw [g1 4 (by simp)]; exact f2 t ht)) (fun I3 ⟨k1, k2, k3⟩ => ?_)
    have hst : zst cd n = n := by unfold zst; rw [if_neg (by omega)]
    have hwd : zwd cd = 2 * cd 2 - 1 := by unfold zwd; rw [if_pos c]
    refine ⟨I3, rfl, _, rfl, rfl, zF_tr (zF_sub f1 (by simp)) (zF_tr (zF_sub g1 (by simp)) (zF_sub k1 (by simp))), fun t ht k hk => ?_⟩
    show I3 5 (t * 7 + k) = _
    unfold zgo
    by_cases d : k < cd 2
    · rw [if_pos d, k3 t (by omega) k d, g2 t ht k d]
    · rw [if_neg d, show t * 7 + k = t * 7 + cd 2 - 1 + (k - cd 2 + 1) by omega, k2 t (by omega) (k - cd 2 + 1) (by omega) (by omega)]
  · rw [if_neg c, zb_bd]
    have hwd : zwd cd = cd 2 := by unfold zwd; rw [if_neg c]
    refine ⟨_, rfl, rfl, zF_tr (zF_sub f1 (by simp)) (zF_sub g1 (by simp)), fun t ht k hk => ?_⟩
    show I2 5 (t * 7 + k) = _
    unfold zgo
    rw [if_pos (by omega), g2 t ht k (by omega)]
theorem zk_encode0 {I : pd_I} {a b m n o : Nat} {cd f : Nat → Nat} (ha : 133 ≤ a) (hb : 60 ≤ b) (h : zCo I a cd) (hv : zCv cd) (hr : zRow I b m f) (hn1 : 1 ≤ n) (hn : n ≤ 200) (hO : ∀ I', zCo I' a cd → fn_X0_ordersAll I' a (zn n) = some (zn o)) (hB : zBn cd (zxb m f) n ∨ cd 0 = 5 ∧ o = 0) : zT (fn_X2_encode I a b (zn n)) (fun x => x.1 = zn 0 ∧ zF [4, 5] I x.2) := by
  have v0 := hv.1
  unfold fn_X2_encode
  refine zq_encode3 hb hr hn (fun I1 f1 f2 => ?_)
  have h1 := zCo_F (by decide) ha f1 h
  rcases hB with ⟨c, hB⟩ | ⟨c, ho⟩
  · rw [h1.1, zn_4, zi_eq (by omega) (by omega), if_pos c, zq_ring h1 hv hn (fun t => zxb_lt) f2 (Or.inr ⟨hB, rfl⟩), zb_bd, zb_bd, if_pos rfl, zb_bd, if_neg (by decide)]
    exact ⟨_, rfl, rfl, zF_sub f1 (by simp)⟩
  · rw [h1.1, zn_4, zi_eq (by omega) (by omega), if_neg (by omega), zb_bd, if_neg (by decide), zn_5, zi_eq (by omega) (by omega), if_pos c, hO I1 h1, ho, zb_bd, if_pos (show zn 0 = 0 from rfl), zb_bd, if_neg (by decide)]
    exact ⟨_, rfl, rfl, zF_sub f1 (by simp)⟩
/-! the reference's message and beginning -/
theorem zq_takes {I : pd_I} {r m n : Nat} {f : Nat → Nat} (h : zRom I r m f) (hn : n ≤ 200) : zT (fn_X12_takes I (zn r) (zn n)) (fun I' => zF [120] I I' ∧ ∀ t, t < n → I' 120 t = zn (zxb m f t)) := by
  have hr := h.1
  unfold fn_X12_takes
  refine zl_loop (fun fu j (s : pd_I) => fl_X12_takes_2 (zn r) (zn n) (fun zI2 => some zI2) fu j s) n (fun j s => zF [120] I s ∧ ∀ t, t < j → s 120 t = zn (zxb m f t)) ?_ ?_ pd_FU 0 _ (by omega) (zFU (by omega)) ⟨zF_rfl, fun i hi => by omega⟩
  · rintro fu s ⟨h1, h2⟩
    rw [fl_X12_takes_2, if_pos (Int32.le_refl _)]
    exact ⟨_, rfl, h1, h2⟩
  · rintro fu j s hj ⟨h1, h2⟩ ih
    obtain ⟨k0, k1, k2, k3⟩ := zRom_F (by decide) (by decide) h1 h
    have e : (if s 93 r ≤ zn j then some (0 : Int32) else pd_gd (pd_in (600 * zn r + zn j) 9600) (some (s 94 (600 * zn r + zn j).toNatClampNeg &&& 1))) = some (zn (zxb m f j)) := by
      unfold zxb
      by_cases c : j < m
      · obtain ⟨e1, e2⟩ := k3 j c
        have em : s 93 r = zn m := by
          rcases k1 with e | ⟨-, e⟩
          · exact e
          · omega
        rw [em, zi_le (by omega) (by omega), if_neg (by omega), if_pos c, zn_600, zn_mul, zn_add, zn_in2 (show 600 * r + j < 9600 by omega) (by omega), zb_gd, zn_nat (by omega), zmk_v e1, zbit32 _ e2]
      · rw [if_neg c]
        rcases k1 with e | ⟨e, -⟩
        · rw [e, zi_le (by omega) (by omega), if_pos (by omega)]; rfl
        · rw [e, if_pos (Int32.le_of_lt (zn_m1 (by omega)))]; rfl
    rw [fl_X12_takes_2, zi_le (by omega) (by omega), if_neg (by omega), zn_in2 hr (by omega), zb_gd, zn_nat (show r < 2147483648 by omega), e, zb_bd, zn_in2 (show j < 200 by omega) (by omega), zb_gd, zn_nat (by omega), zb_let, zb_let, zn_1, zn_add]
    refine ih _ ⟨zF_u (by simp) h1, fun t ht => ?_⟩
    rw [zu_same, zu_app]
    by_cases c : t = j
    · rw [if_pos c, c]
    · rw [if_neg c]; exact h2 t (by omega)
theorem zq_ends {I : pd_I} {k n b : Nat} {cd x : Nat → Nat} (h : zCm I k cd) (hv : zCv cd) (hn : n ≤ 200) (hx : ∀ t, x t < 2) (hI : ∀ t, t < n → I 120 t = zn (x t)) : fn_X12_ends I (zn k) (zn n) (zn b) = some (zn (zs1 cd x n b n)) := by
  unfold fn_X12_ends
  refine zl_eq (fun fu k' (w : Int32) => fl_X12_ends_6 (zn k) (zn n) I (fun zx3 => some zx3) fu w k') n 0 (fun k' => zn (zs1 cd x n b k')) _ (fun fu => ?_) (fun fu k' _ hk => ?_) pd_FU 0 (by omega) (by omega) (zFU (by omega))
  · try simp only []
    rw [fl_X12_ends_6, if_pos (Int32.le_refl _)]
  · try simp only []
    rw [fl_X12_ends_6, zi_le (by omega) (by omega), if_neg (by omega), zn_in2 (show k' < 200 by omega) (by omega), zb_gd, zn_nat (by omega), hI k' hk, zc_next h hv (hx k'), zb_bd, zb_let, zn_1, zn_add]
    show _ = fl_X12_ends_6 (zn k) (zn n) I _ fu (zn (znx cd (zs1 cd x n b k') (if k' < n then x k' else zfb cd (zs1 cd x n b k')))) (zn (k' + 1))
    rw [if_pos hk]
theorem zq_sent12 {O : Type} {I : pd_I} {k n b : Nat} {cd x : Nat → Nat} {kont : Int32 → Option O} (h : zCm I k cd) (hv : zCv cd) (hn : n ≤ 200) (hx : ∀ t, x t < 2) (hI : ∀ t, t < n → I 120 t = zn (x t)) (hb : b ≤ 2 ^ cd 1) (h1 : ∀ b', b' < b → ¬ zs1 cd x n b' n = b') (h2 : b < 2 ^ cd 1 → zs1 cd x n b n = b) : fl_X12_sent_12 (zn k) (zn n) I kont pd_FU (zn 0) = kont (zn b) := by
  have hS := zCv_S hv
  have hk12 := h.1
  have e98 := h.2.2.1
  have hsh : (1 : Int32) <<< (zn (cd 1) &&& 31) = zn (2 ^ cd 1) := by rw [zn_1, zn_31, zn_1shl _ (by have := hv.2.2.1; omega)]
  refine zl_eq (fun fu k' (_ : Unit) => fl_X12_sent_12 (zn k) (zn n) I kont fu k') b 0 (fun _ => ()) _ (fun fu => ?_) (fun fu k' _ hk => ?_) pd_FU 0 (by omega) (by omega) (zFU (by omega))
  · try simp only []
    rw [fl_X12_sent_12, zn_in2 (show k < 12 by omega) (by omega), zb_gd, zn_nat (show k < 2147483648 by omega), e98, hsh, zi_le (by omega) (by omega)]
    by_cases c : 2 ^ cd 1 ≤ b
    · rw [if_pos c, zb_bd, if_neg (by decide)]
    · rw [if_neg c, zq_ends h hv hn hx hI, zb_bd, h2 (by omega), if_pos rfl, zb_bd, if_neg (by decide)]
  · try simp only []
    have hs := zs1_lt (x := x) (n := n) (t := n) (b := k') hv (by omega)
    rw [fl_X12_sent_12, zn_in2 (show k < 12 by omega) (by omega), zb_gd, zn_nat (show k < 2147483648 by omega), e98, hsh, zi_le (by omega) (by omega), if_neg (by omega), zq_ends h hv hn hx hI, zb_bd, zi_eq (by omega) (by omega), if_neg (h1 k' hk), zb_bd, if_pos rfl, zb_let, zn_1, zn_add]
