/-! the law's loop -/
noncomputable def pd_gp {α : Type} (P : Prop) (k : Option α) : Option α := @ite _ P (Classical.propDecidable P) k none
theorem pd_gp_some {α : Type} {P : Prop} {k : Option α} {o : α} (h : pd_gp P k = some o) : P ∧ k = some o := by
  unfold pd_gp at h
  by_cases hp : P
  · rw [if_pos hp] at h; exact ⟨hp, h⟩
  · rw [if_neg hp] at h; cases h
/-- what a round of the law needs of the references and of the number of objects -/
def pd_ok9 (Z : pd_R) (n : Nat) : Prop := 133 ≤ n ∧ n ≤ 999999 ∧ pd_fr (pd_RF Z) n ∧ (n - 133) % 3 = 0
noncomputable def gl_law (L : Nat) (xs : Nat → Int32) : Nat → Int32 → pd_I → pd_J → pd_R → Nat → Option Unit
  | 0, _, _, _, _, _ => none
  | fu + 1, v, I, J, Z, n => pd_gp (pd_ok9 Z n) (fb_law L xs (gl_law L xs fu) (fun _ _ _ _ => some ()) v I J Z n)
theorem el_law {cx : pd_X} (C : pd_C cx "PathDecoderLaw" cL_law room_1) {b L : Nat} {xs : Nat → Int32} (hX : pd_scr cx b L xs)
    (KE : ∀ kc ks v I J Z n, kc ≤ 601024 → ks ≤ 7293034 → pd_V cx kc ks 2092 [some (.ref 999999), some (.ref 0), some (.ref 92), some (.ref 132), some (.int v), none, none, none] [] I J (pd_RF Z) n) :
    ∀ fu kc ks v I J Z n, kc + 20 * fu ≤ 601024 → ks + 120 * fu ≤ 7293034 → gl_law L xs fu v I J Z n = some () →
      pd_V cx kc ks 23 [some (.ref 999999), some (.ref 0), some (.ref 92), some (.ref 132), some (.int v), none, none, none] [] I J (pd_RF Z) n := by
  intro fu
  induction fu with
  | zero => intro kc ks v I J Z n _ _ h; cases h
  | succ fu ih =>
    intro kc ks v I J Z n h1 h2 h
    rw [gl_law] at h
    obtain ⟨⟨g1, g2, g3, g4⟩, hF⟩ := pd_gp_some h
    exact eb_law C hX g1 g2 g3 g4 (by omega) (by omega) (fun v' I' J' Z' n' hk => ih _ _ v' I' J' Z' n' (by omega) (by omega) hk) (fun I' J' Z' n' _ => KE _ _ v I' J' Z' n' (by omega) (by omega)) hF
