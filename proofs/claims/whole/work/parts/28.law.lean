/-! the law's script: an array of ints beyond the numbered objects -/
def pd_scr : pd_X → Nat → Nat → (Nat → Int32) → Prop
  | (_, _, _, _, s, _, _, _, _, _, _, _, A, _, n0, ad0, _), b, L, xs => va_X b L xs s s.heap ∧ b < s.heap.size ∧ ¬ A b ∧ ad0 999999 = b ∧ n0 ≤ 999999
theorem pd_oLb {n n' k : Nat} {ls : List (Option Value)} (hk : n' ≤ k) (h : pd_oldL n n' ls) : pd_oldL n n' (some (.ref k) :: ls) := fun v hv => by
  rcases List.mem_cons.mp hv with e | e
  · cases e; intro k' e'; cases e'; exact Or.inr hk
  · exact h v e
section
variable {cx : pd_X} {own : String} {cc : ByteArray} {rm : Room} {kc ks pc : Nat} {ls : List (Option Value)} {st : List Value} {I : pd_I} {J : pd_J} {F : pd_R} {n : Nat}
theorem pd_sld (C : pd_C cx own cc rm) {b L : Nat} {xs : Nat → Int32} (X : pd_scr cx b L xs) (hn9 : n ≤ 999999) {i : Int32} (hi : pd_in i L = true) (d : decode cc pc = .ok (.iaload, 1)) (kk : pd_V cx kc ks (pc + 1) ls (.int (xs i.toNatClampNeg) :: st) I J F n) : pd_V cx kc ks pc ls (.int i :: .ref 999999 :: st) I J F n := by
  obtain ⟨p, l, e, R, s, m, args, below, meth, c, D, tc, A, Q, n0, ad0, nL⟩ := cx
  intro ad H locs lsA hag hn hP hD hS hl hz
  obtain ⟨x1, x2, x3, x4, x5⟩ := X
  have had : ad 999999 = b := (hag 999999 (Or.inr hn9)).trans x4
  show W p l e R s m args below meth c H locs kc ks Q (F0 m pc lsA (.int i :: .ref (ad 999999) :: st.map (pd_v ad)))
  rw [had]
  exact va_sld C.1 C.2.1 x1 x2 x3 hS (pd_in_vp hi) d (kk ad H locs lsA hag hn hP hD hS hl hz)
theorem pd_slen (C : pd_C cx own cc rm) {b L : Nat} {xs : Nat → Int32} (X : pd_scr cx b L xs) (hn9 : n ≤ 999999) (d : decode cc pc = .ok (.arraylength, 1)) (kk : pd_V cx kc ks (pc + 1) ls (.int (Int32.ofNat L) :: st) I J F n) : pd_V cx kc ks pc ls (.ref 999999 :: st) I J F n := by
  obtain ⟨p, l, e, R, s, m, args, below, meth, c, D, tc, A, Q, n0, ad0, nL⟩ := cx
  intro ad H locs lsA hag hn hP hD hS hl hz
  obtain ⟨x1, x2, x3, x4, x5⟩ := X
  have had : ad 999999 = b := (hag 999999 (Or.inr hn9)).trans x4
  show W p l e R s m args below meth c H locs kc ks Q (F0 m pc lsA (.ref (ad 999999) :: st.map (pd_v ad)))
  rw [had]
  exact va_slen C.1 C.2.1 x1 x2 x3 hS d (kk ad H locs lsA hag hn hP hD hS hl hz)
end
def fb_law {O : Type} (L : Nat) (xs : Nat → Int32) (kk : Int32 → pd_I → pd_J → pd_R → Nat → Option O) (ke : pd_I → pd_J → pd_R → Nat → Option O) (v : Int32) (I : pd_I) (J : pd_J) (Z : pd_R) (n : Nat) : Option O := if ((Int32.ofNat L) - 5) < v then ke I J Z n else (pd_gd (pd_in v L) (if ((xs v.toNatClampNeg) &&& 31) = 0 then pd_gd (pd_in (v + 1) L) (pd_gd (pd_in (v + 2) L) (pd_bd3 (fn_L_row I J Z n (xs (v + 1).toNatClampNeg) (xs (v + 2).toNatClampNeg)) fun zr1 zI1 zJ1 => pd_gd (pd_in (v + 1) L) (pd_gd (pd_in (v + 2) L) (pd_bd2 (fn_X12_row zI1 (xs (v + 1).toNatClampNeg) (xs (v + 2).toNatClampNeg)) fun zr2 zI2 => pd_bd (fn_X12_thrown zI2) fun zr3 => if zr3 = zr1 then pd_jn (fun (_ : Unit) => pd_let (v + 5) fun zv1 => kk zv1 zI2 zJ1 Z n) fun zj1 => if zr1 = 0 then pd_gd (pd_in 0 1) (pd_bd (if zr2 = 0 then some 0 else (some 1)) fun (zy1 : Int64) => if (lg_cmp (zJ1 132 (0 : Int32).toNatClampNeg) zy1) = 0 then zj1 () else (none)) else (zj1 ()) else (none))))) else (if ((xs v.toNatClampNeg) &&& 31) = 1 then pd_gd (pd_in (v + 1) L) (pd_gd (pd_in (v + 2) L) (pd_gd (pd_in (v + 3) L) (pd_bd3 (fn_L_put I J Z n (xs (v + 1).toNatClampNeg) (xs (v + 2).toNatClampNeg) (xs (v + 3).toNatClampNeg)) fun zr4 zI3 zJ2 => pd_gd (pd_in (v + 1) L) (pd_gd (pd_in (v + 2) L) (pd_gd (pd_in (v + 3) L) (pd_bd2 (fn_X12_put zI3 (xs (v + 1).toNatClampNeg) (xs (v + 2).toNatClampNeg) (xs (v + 3).toNatClampNeg)) fun zr5 zI4 => pd_bd (fn_X12_thrown zI4) fun zr6 => if zr6 = zr4 then pd_bd (if zr4 = 0 then pd_gd (pd_in 0 1) (if (lg_cmp (zJ2 132 (0 : Int32).toNatClampNeg) zr5.toInt64) = 0 then some false else (some true)) else (some false)) fun zc5 => if zc5 = true then none else (pd_let (v + 5) fun zv2 => kk zv2 zI4 zJ2 Z n) else (none))))))) else (if ((xs v.toNatClampNeg) &&& 31) = 2 then pd_gd (pd_in (v + 1) L) (pd_gd (pd_in (v + 2) L) (pd_gd (pd_in (v + 3) L) (pd_gd (pd_in (v + 4) L) (pd_bd3 (fn_L_five I J Z n (xs (v + 1).toNatClampNeg) (xs (v + 2).toNatClampNeg) (xs (v + 3).toNatClampNeg) (xs (v + 4).toNatClampNeg)) fun zr7 zI5 zJ3 => pd_gd (pd_in (v + 1) L) (pd_gd (pd_in (v + 2) L) (pd_gd (pd_in (v + 3) L) (pd_gd (pd_in (v + 4) L) (pd_bd2 (fn_X12_five zI5 (xs (v + 1).toNatClampNeg) (xs (v + 2).toNatClampNeg) (xs (v + 3).toNatClampNeg) (xs (v + 4).toNatClampNeg)) fun zr8 zI6 => pd_bd (fn_X12_thrown zI6) fun zr9 => if zr9 = zr7 then pd_bd (if zr7 = 0 then pd_gd (pd_in 0 1) (if (lg_cmp (zJ3 132 (0 : Int32).toNatClampNeg) zr8.toInt64) = 0 then some false else (some true)) else (some false)) fun zc9 => if zc9 = true then none else (pd_let (v + 5) fun zv3 => kk zv3 zI6 zJ3 Z n) else (none))))))))) else (if ((xs v.toNatClampNeg) &&& 31) = 3 then pd_gd (pd_in (v + 1) L) (pd_gd (pd_in (v + 2) L) (pd_bd2 (fn_L_at I J Z n (xs (v + 1).toNatClampNeg) (xs (v + 2).toNatClampNeg)) fun zr10 zJ4 => pd_gd (pd_in (v + 1) L) (pd_gd (pd_in (v + 2) L) (pd_bd2 (fn_X12_at I (xs (v + 1).toNatClampNeg) (xs (v + 2).toNatClampNeg)) fun zr11 zI7 => pd_bd (fn_X12_thrown zI7) fun zr12 => if zr12 = zr10 then pd_bd (if zr10 = 0 then pd_gd (pd_in 0 1) (if (lg_cmp (zJ4 132 (0 : Int32).toNatClampNeg) zr11.toInt64) = 0 then some false else (some true)) else (some false)) fun zc13 => if zc13 = true then none else (pd_let (v + 5) fun zv4 => kk zv4 zI7 zJ4 Z n) else (none))))) else (if ((xs v.toNatClampNeg) &&& 31) = 4 then pd_gd (pd_in (v + 1) L) (pd_gd (pd_in (v + 2) L) (pd_bd3 (fn_L_tear I J Z n (xs (v + 1).toNatClampNeg) (xs (v + 2).toNatClampNeg)) fun zr13 zI8 zJ5 => pd_gd (pd_in (v + 1) L) (pd_gd (pd_in (v + 2) L) (pd_bd2 (fn_X12_tear zI8 (xs (v + 1).toNatClampNeg) (xs (v + 2).toNatClampNeg)) fun zr14 zI9 => pd_bd (fn_X12_thrown zI9) fun zr15 => if zr15 = zr13 then pd_bd (if zr13 = 0 then pd_gd (pd_in 0 1) (if (lg_cmp (zJ5 132 (0 : Int32).toNatClampNeg) zr14.toInt64) = 0 then some false else (some true)) else (some false)) fun zc17 => if zc17 = true then none else (pd_let (v + 5) fun zv5 => kk zv5 zI9 zJ5 Z n) else (none))))) else (if ((xs v.toNatClampNeg) &&& 31) = 5 then pd_gd (pd_in (v + 1) L) (pd_gd (pd_in (v + 2) L) (pd_gd (pd_in (v + 3) L) (pd_bd3 (fn_L_noise I J (xs (v + 1).toNatClampNeg) (xs (v + 2).toNatClampNeg) (xs (v + 3).toNatClampNeg)) fun zr16 zI10 zJ6 => pd_gd (pd_in (v + 1) L) (pd_gd (pd_in (v + 2) L) (pd_gd (pd_in (v + 3) L) (pd_bd2 (fn_X12_noise zI10 (xs (v + 1).toNatClampNeg) (xs (v + 2).toNatClampNeg) (xs (v + 3).toNatClampNeg)) fun zr17 zI11 => pd_bd (fn_X12_thrown zI11) fun zr18 => if zr18 = zr16 then pd_bd (if zr16 = 0 then pd_gd (pd_in 0 1) (if (lg_cmp (zJ6 132 (0 : Int32).toNatClampNeg) zr17.toInt64) = 0 then some false else (some true)) else (some false)) fun zc21 => if zc21 = true then none else (pd_let (v + 5) fun zv6 => kk zv6 zI11 zJ6 Z n) else (none))))))) else (if ((xs v.toNatClampNeg) &&& 31) = 6 then pd_gd (pd_in (v + 1) L) (pd_gd (pd_in (v + 2) L) (pd_gd (pd_in (v + 3) L) (pd_bd5 (fn_L_code I J Z n (xs (v + 1).toNatClampNeg) (xs (v + 2).toNatClampNeg) (xs (v + 3).toNatClampNeg)) fun zr19 zI12 zJ7 zZ1 zn1 => pd_gd (decide (133 ≤ zn1 ∧ zn1 ≤ 999999)) (pd_gd (pd_in (v + 1) L) (pd_gd (pd_in (v + 2) L) (pd_gd (pd_in (v + 3) L) (pd_bd2 (fn_X12_code zI12 (xs (v + 1).toNatClampNeg) (xs (v + 2).toNatClampNeg) (xs (v + 3).toNatClampNeg)) fun zr20 zI13 => pd_bd (fn_X12_thrown zI13) fun zr21 => if zr21 = zr19 then pd_bd (if zr19 = 0 then pd_gd (pd_in 0 1) (if (lg_cmp (zJ7 132 (0 : Int32).toNatClampNeg) zr20.toInt64) = 0 then some false else (some true)) else (some false)) fun zc25 => if zc25 = true then none else (pd_let (v + 5) fun zv7 => kk zv7 zI13 zJ7 zZ1 zn1) else (none)))))))) else (if ((xs v.toNatClampNeg) &&& 31) = 7 then pd_gd (pd_in (v + 1) L) (pd_gd (pd_in (v + 2) L) (pd_gd (pd_in (v + 3) L) (pd_bd3 (fn_L_tap I J Z n (xs (v + 1).toNatClampNeg) (xs (v + 2).toNatClampNeg) (xs (v + 3).toNatClampNeg)) fun zr22 zI14 zJ8 => pd_gd (pd_in (v + 1) L) (pd_gd (pd_in (v + 2) L) (pd_gd (pd_in (v + 3) L) (pd_bd2 (fn_X12_tap zI14 (xs (v + 1).toNatClampNeg) (xs (v + 2).toNatClampNeg) (xs (v + 3).toNatClampNeg)) fun zr23 zI15 => pd_bd (fn_X12_thrown zI15) fun zr24 => if zr24 = zr22 then pd_bd (if zr22 = 0 then pd_gd (pd_in 0 1) (if (lg_cmp (zJ8 132 (0 : Int32).toNatClampNeg) zr23.toInt64) = 0 then some false else (some true)) else (some false)) fun zc29 => if zc29 = true then none else (pd_let (v + 5) fun zv8 => kk zv8 zI15 zJ8 Z n) else (none))))))) else (if ((xs v.toNatClampNeg) &&& 31) = 8 then pd_gd (pd_in (v + 1) L) (pd_gd (pd_in (v + 2) L) (pd_gd (pd_in (v + 3) L) (pd_gd (pd_in (v + 4) L) (pd_bd3 (fn_L_keep I J Z n (xs (v + 1).toNatClampNeg) (xs (v + 2).toNatClampNeg) (xs (v + 3).toNatClampNeg) (xs (v + 4).toNatClampNeg)) fun zr25 zI16 zJ9 => pd_gd (pd_in (v + 1) L) (pd_gd (pd_in (v + 2) L) (pd_gd (pd_in (v + 3) L) (pd_gd (pd_in (v + 4) L) (pd_bd2 (fn_X12_keep zI16 (xs (v + 1).toNatClampNeg) (xs (v + 2).toNatClampNeg) (xs (v + 3).toNatClampNeg) (xs (v + 4).toNatClampNeg)) fun zr26 zI17 => pd_bd (fn_X12_thrown zI17) fun zr27 => if zr27 = zr25 then pd_bd (if zr25 = 0 then pd_gd (pd_in 0 1) (if (lg_cmp (zJ9 132 (0 : Int32).toNatClampNeg) zr26.toInt64) = 0 then some false else (some true)) else (some false)) fun zc33 => if zc33 = true then none else (pd_let (v + 5) fun zv9 => kk zv9 zI17 zJ9 Z n) else (none))))))))) else (if ((xs v.toNatClampNeg) &&& 31) = 9 then pd_gd (pd_in (v + 1) L) (pd_gd (pd_in (v + 2) L) (pd_bd3 (fn_L_stride I J Z n (xs (v + 1).toNatClampNeg) (xs (v + 2).toNatClampNeg)) fun zr28 zI18 zJ10 => pd_gd (pd_in (v + 1) L) (pd_gd (pd_in (v + 2) L) (pd_bd2 (fn_X12_stride zI18 (xs (v + 1).toNatClampNeg) (xs (v + 2).toNatClampNeg)) fun zr29 zI19 => pd_bd (fn_X12_thrown zI19) fun zr30 => if zr30 = zr28 then pd_bd (if zr28 = 0 then pd_gd (pd_in 0 1) (if (lg_cmp (zJ10 132 (0 : Int32).toNatClampNeg) zr29.toInt64) = 0 then some false else (some true)) else (some false)) fun zc37 => if zc37 = true then none else (pd_let (v + 5) fun zv10 => kk zv10 zI19 zJ10 Z n) else (none))))) else (if ((xs v.toNatClampNeg) &&& 31) = 10 then pd_gd (pd_in (v + 1) L) (pd_gd (pd_in (v + 2) L) (pd_gd (pd_in (v + 3) L) (pd_gd (pd_in (v + 4) L) (pd_bd3 (fn_L_send I J Z n (xs (v + 1).toNatClampNeg) (xs (v + 2).toNatClampNeg) (xs (v + 3).toNatClampNeg) (xs (v + 4).toNatClampNeg)) fun zr31 zI20 zJ11 => pd_gd (pd_in (v + 1) L) (pd_gd (pd_in (v + 2) L) (pd_gd (pd_in (v + 3) L) (pd_gd (pd_in (v + 4) L) (pd_bd2 (fn_X12_send zI20 (xs (v + 1).toNatClampNeg) (xs (v + 2).toNatClampNeg) (xs (v + 3).toNatClampNeg) (xs (v + 4).toNatClampNeg)) fun zr32 zI21 => pd_bd (fn_X12_thrown zI21) fun zr33 => if zr33 = zr31 then pd_bd (if zr31 = 0 then pd_gd (pd_in 0 1) (if (lg_cmp (zJ11 132 (0 : Int32).toNatClampNeg) zr32.toInt64) = 0 then some false else (some true)) else (some false)) fun zc41 => if zc41 = true then none else (pd_let (v + 5) fun zv11 => kk zv11 zI21 zJ11 Z n) else (none))))))))) else (if ((xs v.toNatClampNeg) &&& 31) = 11 then pd_gd (pd_in (v + 1) L) (pd_gd (pd_in (v + 2) L) (pd_bd2 (fn_L_length I J Z n (xs (v + 1).toNatClampNeg) (xs (v + 2).toNatClampNeg)) fun zr34 zJ12 => pd_gd (pd_in (v + 1) L) (pd_gd (pd_in (v + 2) L) (pd_bd2 (fn_X12_length I (xs (v + 1).toNatClampNeg) (xs (v + 2).toNatClampNeg)) fun zr35 zI22 => pd_bd (fn_X12_thrown zI22) fun zr36 => if zr36 = zr34 then pd_bd (if zr34 = 0 then pd_gd (pd_in 0 1) (if (lg_cmp (zJ12 132 (0 : Int32).toNatClampNeg) zr35.toInt64) = 0 then some false else (some true)) else (some false)) fun zc45 => if zc45 = true then none else (pd_let (v + 5) fun zv12 => kk zv12 zI22 zJ12 Z n) else (none))))) else (if ((xs v.toNatClampNeg) &&& 31) = 12 then pd_gd (pd_in (v + 1) L) (pd_gd (pd_in (v + 2) L) (pd_gd (pd_in (v + 3) L) (pd_gd (pd_in (v + 4) L) (pd_bd3 (fn_L_cost I J Z n (xs (v + 1).toNatClampNeg) (xs (v + 2).toNatClampNeg) (xs (v + 3).toNatClampNeg) (xs (v + 4).toNatClampNeg)) fun zr37 zI23 zJ13 => pd_gd (pd_in (v + 1) L) (pd_gd (pd_in (v + 2) L) (pd_gd (pd_in (v + 3) L) (pd_gd (pd_in (v + 4) L) (pd_bd2 (fn_X12_cost zI23 (xs (v + 1).toNatClampNeg) (xs (v + 2).toNatClampNeg) (xs (v + 3).toNatClampNeg) (xs (v + 4).toNatClampNeg)) fun zr38 zI24 => pd_bd (fn_X12_thrown zI24) fun zr39 => if zr39 = zr37 then pd_bd (if zr37 = 0 then pd_gd (pd_in 0 1) (if (lg_cmp (zJ13 132 (0 : Int32).toNatClampNeg) zr38.toInt64) = 0 then some false else (some true)) else (some false)) fun zc49 => if zc49 = true then none else (pd_let (v + 5) fun zv13 => kk zv13 zI24 zJ13 Z n) else (none))))))))) else (if ((xs v.toNatClampNeg) &&& 31) = 13 then pd_gd (pd_in (v + 1) L) (pd_gd (pd_in (v + 2) L) (pd_gd (pd_in (v + 3) L) (pd_bd4 (fn_L_best I J Z n (xs (v + 1).toNatClampNeg) (xs (v + 2).toNatClampNeg) (xs (v + 3).toNatClampNeg)) fun zr40 zI25 zJ14 zZ2 => pd_gd (pd_in (v + 1) L) (pd_gd (pd_in (v + 2) L) (pd_gd (pd_in (v + 3) L) (pd_bd2 (fn_X12_best zI25 (xs (v + 1).toNatClampNeg) (xs (v + 2).toNatClampNeg) (xs (v + 3).toNatClampNeg)) fun zr41 zI26 => pd_bd (fn_X12_thrown zI26) fun zr42 => if zr42 = zr40 then pd_bd (if zr40 = 0 then pd_gd (pd_in 0 1) (if (lg_cmp (zJ14 132 (0 : Int32).toNatClampNeg) zr41.toInt64) = 0 then some false else (some true)) else (some false)) fun zc53 => if zc53 = true then none else (pd_let (v + 5) fun zv14 => kk zv14 zI26 zJ14 zZ2 n) else (none))))))) else (if ((xs v.toNatClampNeg) &&& 31) = 14 then pd_gd (pd_in (v + 1) L) (pd_gd (pd_in (v + 2) L) (pd_gd (pd_in (v + 3) L) (pd_gd (pd_in (v + 4) L) (pd_bd4 (fn_L_list I J Z n (xs (v + 1).toNatClampNeg) (xs (v + 2).toNatClampNeg) (xs (v + 3).toNatClampNeg) (xs (v + 4).toNatClampNeg)) fun zr43 zI27 zJ15 zZ3 => pd_gd (pd_in (v + 1) L) (pd_gd (pd_in (v + 2) L) (pd_gd (pd_in (v + 3) L) (pd_gd (pd_in (v + 4) L) (pd_bd2 (fn_X12_list zI27 (xs (v + 1).toNatClampNeg) (xs (v + 2).toNatClampNeg) (xs (v + 3).toNatClampNeg) (xs (v + 4).toNatClampNeg)) fun zr44 zI28 => pd_bd (fn_X12_thrown zI28) fun zr45 => if zr45 = zr43 then pd_bd (if zr43 = 0 then pd_gd (pd_in 0 1) (if (lg_cmp (zJ15 132 (0 : Int32).toNatClampNeg) zr44.toInt64) = 0 then some false else (some true)) else (some false)) fun zc57 => if zc57 = true then none else (pd_let (v + 5) fun zv15 => kk zv15 zI28 zJ15 zZ3 n) else (none))))))))) else (if ((xs v.toNatClampNeg) &&& 31) = 15 then pd_gd (pd_in (v + 1) L) (pd_gd (pd_in (v + 2) L) (pd_gd (pd_in (v + 3) L) (pd_gd (pd_in (v + 4) L) (pd_bd4 (fn_L_few I J Z n (xs (v + 1).toNatClampNeg) (xs (v + 2).toNatClampNeg) (xs (v + 3).toNatClampNeg) (xs (v + 4).toNatClampNeg)) fun zr46 zI29 zJ16 zZ4 => pd_gd (pd_in (v + 1) L) (pd_gd (pd_in (v + 2) L) (pd_gd (pd_in (v + 3) L) (pd_gd (pd_in (v + 4) L) (pd_bd2 (fn_X12_few zI29 (xs (v + 1).toNatClampNeg) (xs (v + 2).toNatClampNeg) (xs (v + 3).toNatClampNeg) (xs (v + 4).toNatClampNeg)) fun zr47 zI30 => pd_bd (fn_X12_thrown zI30) fun zr48 => if zr48 = zr46 then pd_bd (if zr46 = 0 then pd_gd (pd_in 0 1) (if (lg_cmp (zJ16 132 (0 : Int32).toNatClampNeg) zr47.toInt64) = 0 then some false else (some true)) else (some false)) fun zc61 => if zc61 = true then none else (pd_let (v + 5) fun zv16 => kk zv16 zI30 zJ16 zZ4 n) else (none))))))))) else (if ((xs v.toNatClampNeg) &&& 31) = 16 then pd_gd (pd_in (v + 1) L) (pd_gd (pd_in (v + 2) L) (pd_gd (pd_in (v + 3) L) (pd_bd4 (fn_L_each I J Z n (xs (v + 1).toNatClampNeg) (xs (v + 2).toNatClampNeg) (xs (v + 3).toNatClampNeg)) fun zr49 zI31 zJ17 zZ5 => pd_gd (pd_in (v + 1) L) (pd_gd (pd_in (v + 2) L) (pd_gd (pd_in (v + 3) L) (pd_bd2 (fn_X12_each zI31 (xs (v + 1).toNatClampNeg) (xs (v + 2).toNatClampNeg) (xs (v + 3).toNatClampNeg)) fun zr50 zI32 => pd_bd (fn_X12_thrown zI32) fun zr51 => if zr51 = zr49 then pd_bd (if zr49 = 0 then pd_gd (pd_in 0 1) (if (lg_cmp (zJ17 132 (0 : Int32).toNatClampNeg) zr50.toInt64) = 0 then some false else (some true)) else (some false)) fun zc65 => if zc65 = true then none else (pd_let (v + 5) fun zv17 => kk zv17 zI32 zJ17 zZ5 n) else (none))))))) else (if ((xs v.toNatClampNeg) &&& 31) = 17 then pd_gd (pd_in (v + 1) L) (pd_gd (pd_in (v + 2) L) (pd_gd (pd_in (v + 3) L) (pd_gd (pd_in (v + 4) L) (pd_bd4 (fn_L_talk I J Z n (xs (v + 1).toNatClampNeg) (xs (v + 2).toNatClampNeg) (xs (v + 3).toNatClampNeg) (xs (v + 4).toNatClampNeg)) fun zr52 zI33 zJ18 zZ6 => pd_gd (pd_in (v + 1) L) (pd_gd (pd_in (v + 2) L) (pd_gd (pd_in (v + 3) L) (pd_gd (pd_in (v + 4) L) (pd_bd2 (fn_X12_talk zI33 (xs (v + 1).toNatClampNeg) (xs (v + 2).toNatClampNeg) (xs (v + 3).toNatClampNeg) (xs (v + 4).toNatClampNeg)) fun zr53 zI34 => pd_bd (fn_X12_thrown zI34) fun zr54 => if zr54 = zr52 then pd_bd (if zr52 = 0 then pd_gd (pd_in 0 1) (if (lg_cmp (zJ18 132 (0 : Int32).toNatClampNeg) zr53.toInt64) = 0 then some false else (some true)) else (some false)) fun zc69 => if zc69 = true then none else (pd_let (v + 5) fun zv18 => kk zv18 zI34 zJ18 zZ6 n) else (none))))))))) else (if ((xs v.toNatClampNeg) &&& 31) = 18 then pd_bd (fn_X11_agreed I) fun zr55 => pd_bd2 (fn_X12_agreed I) fun zr56 zI35 => if zr55 = zr56 then pd_let (v + 5) fun zv19 => kk zv19 zI35 J Z n else (none) else (if ((xs v.toNatClampNeg) &&& 31) = 19 then pd_gd (pd_in (v + 1) L) (pd_bd2 (fn_L_seems I J (xs (v + 1).toNatClampNeg)) fun zr57 zJ19 => pd_gd (pd_in (v + 1) L) (pd_bd2 (fn_X12_seems I (xs (v + 1).toNatClampNeg)) fun zr58 zI36 => pd_bd (fn_X12_thrown zI36) fun zr59 => if zr59 = zr57 then pd_bd (if zr57 = 0 then pd_gd (pd_in 0 1) (if (lg_cmp (zJ19 132 (0 : Int32).toNatClampNeg) zr58.toInt64) = 0 then some false else (some true)) else (some false)) fun zc74 => if zc74 = true then none else (pd_let (v + 5) fun zv20 => kk zv20 zI36 zJ19 Z n) else (none))) else (if ((xs v.toNatClampNeg) &&& 31) = 20 then pd_gd (pd_in (v + 1) L) (pd_gd (pd_in (v + 2) L) (pd_bd2 (fn_L_way I J Z n (xs (v + 1).toNatClampNeg) (xs (v + 2).toNatClampNeg)) fun zr60 zJ20 => pd_gd (pd_in (v + 1) L) (pd_gd (pd_in (v + 2) L) (pd_bd2 (fn_X12_way I (xs (v + 1).toNatClampNeg) (xs (v + 2).toNatClampNeg)) fun zr61 zI37 => pd_bd (fn_X12_thrown zI37) fun zr62 => if zr62 = zr60 then pd_bd (if zr60 = 0 then pd_gd (pd_in 0 1) (if (lg_cmp (zJ20 132 (0 : Int32).toNatClampNeg) zr61.toInt64) = 0 then some false else (some true)) else (some false)) fun zc78 => if zc78 = true then none else (pd_let (v + 5) fun zv21 => kk zv21 zI37 zJ20 Z n) else (none))))) else (if ((xs v.toNatClampNeg) &&& 31) = 21 then pd_gd (pd_in (v + 1) L) (pd_gd (pd_in (v + 2) L) (pd_bd3 (fn_L_take I J Z n (xs (v + 1).toNatClampNeg) (xs (v + 2).toNatClampNeg)) fun zr63 zI38 zJ21 => pd_gd (pd_in (v + 1) L) (pd_gd (pd_in (v + 2) L) (pd_bd2 (fn_X12_take zI38 (xs (v + 1).toNatClampNeg) (xs (v + 2).toNatClampNeg)) fun zr64 zI39 => pd_bd (fn_X12_thrown zI39) fun zr65 => if zr65 = zr63 then pd_bd (if zr63 = 0 then pd_gd (pd_in 0 1) (if (lg_cmp (zJ21 132 (0 : Int32).toNatClampNeg) zr64.toInt64) = 0 then some false else (some true)) else (some false)) fun zc82 => if zc82 = true then none else (pd_let (v + 5) fun zv22 => kk zv22 zI39 zJ21 Z n) else (none))))) else (if ((xs v.toNatClampNeg) &&& 31) = 22 then pd_gd (pd_in (v + 1) L) (pd_bd3 (fn_L_bad I J Z n (xs (v + 1).toNatClampNeg)) fun zr66 zI40 zJ22 => pd_gd (pd_in (v + 1) L) (pd_bd2 (fn_X12_bad zI40 (xs (v + 1).toNatClampNeg)) fun zr67 zI41 => pd_bd (fn_X12_thrown zI41) fun zr68 => if zr68 = zr66 then pd_jn (fun (_ : Unit) => pd_let (v + 5) fun zv23 => kk zv23 zI41 zJ22 Z n) fun zj2 => if zr66 = 0 then pd_gd (pd_in 0 1) (pd_bd (if zr67 = 0 then some 0 else (some 1)) fun (zy2 : Int64) => if (lg_cmp (zJ22 132 (0 : Int32).toNatClampNeg) zy2) = 0 then zj2 () else (none)) else (zj2 ()) else (none))) else (if ((xs v.toNatClampNeg) &&& 31) = 23 then pd_gd (pd_in (v + 1) L) (pd_bd3 (fn_L_free I J Z n (xs (v + 1).toNatClampNeg)) fun zr69 zI42 zJ23 => pd_gd (pd_in (v + 1) L) (pd_bd2 (fn_X12_free zI42 (xs (v + 1).toNatClampNeg)) fun zr70 zI43 => pd_bd (fn_X12_thrown zI43) fun zr71 => if zr71 = zr69 then pd_bd (if zr69 = 0 then pd_gd (pd_in 0 1) (if (lg_cmp (zJ23 132 (0 : Int32).toNatClampNeg) zr70.toInt64) = 0 then some false else (some true)) else (some false)) fun zc90 => if zc90 = true then none else (pd_let (v + 5) fun zv24 => kk zv24 zI43 zJ23 Z n) else (none))) else (if ((xs v.toNatClampNeg) &&& 31) = 24 then pd_gd (pd_in (v + 1) L) (pd_gd (pd_in (v + 2) L) (pd_bd3 (fn_L_weights I J Z n (xs (v + 1).toNatClampNeg) (xs (v + 2).toNatClampNeg)) fun zr72 zI44 zJ24 => pd_gd (pd_in (v + 1) L) (pd_gd (pd_in (v + 2) L) (pd_bd3 (fn_X12_weights zI44 zJ24 (xs (v + 1).toNatClampNeg) (xs (v + 2).toNatClampNeg)) fun zy3 zI45 zJ25 => pd_bd (fn_X12_thrown zI45) fun zr73 => if zr73 = zr72 then pd_bd (if zr72 = 0 then pd_gd (pd_in 0 1) (if (lg_cmp (zJ25 132 (0 : Int32).toNatClampNeg) zy3) = 0 then some false else (some true)) else (some false)) fun zc94 => if zc94 = true then none else (pd_let (v + 5) fun zv25 => kk zv25 zI45 zJ25 Z n) else (none))))) else (if ((xs v.toNatClampNeg) &&& 31) = 25 then pd_gd (pd_in (v + 1) L) (pd_gd (pd_in (v + 2) L) (pd_bd2 (fn_L_about I J Z n (xs (v + 1).toNatClampNeg) (xs (v + 2).toNatClampNeg)) fun zr74 zJ26 => pd_gd (pd_in (v + 1) L) (pd_gd (pd_in (v + 2) L) (pd_bd2 (fn_X12_about I (xs (v + 1).toNatClampNeg) (xs (v + 2).toNatClampNeg)) fun zr75 zI46 => pd_bd (fn_X12_thrown zI46) fun zr76 => if zr76 = zr74 then pd_bd (if zr74 = 0 then pd_gd (pd_in 0 1) (if (lg_cmp (zJ26 132 (0 : Int32).toNatClampNeg) zr75.toInt64) = 0 then some false else (some true)) else (some false)) fun zc98 => if zc98 = true then none else (pd_let (v + 5) fun zv26 => kk zv26 zI46 zJ26 Z n) else (none))))) else (pd_let (v + 5) fun zv27 => kk zv27 I J Z n))))))))))))))))))))))))))))
set_option maxHeartbeats 1000000 in
set_option maxRecDepth 100000 in
theorem eb_law {cx : pd_X} (C : pd_C cx "PathDecoderLaw" cL_law room_1) {b L : Nat} {xs : Nat → Int32} (hX : pd_scr cx b L xs) {O : Type} {out : O} {kk : Int32 → pd_I → pd_J → pd_R → Nat → Option O} {ke : pd_I → pd_J → pd_R → Nat → Option O} {zk zs : Nat} {v : Int32} {I : pd_I} {J : pd_J} {Z : pd_R} {n : Nat} (hn : 133 ≤ n) (hn9 : n ≤ 999999) (hfr : pd_fr (pd_RF Z) n) (hn3 : (n - 133) % 3 = 0) (hkc : zk + 20 ≤ 601024) (hks : zs + 120 ≤ 7293034)
    (KK : ∀ v I J Z n, kk v I J Z n = some out → pd_V cx (zk + 20) (zs + 120) 23 [some (.ref 999999), some (.ref 0), some (.ref 92), some (.ref 132), some (.int v), none, none, none] [] I J (pd_RF Z) n)
    (KE : ∀ I J Z n, ke I J Z n = some out → pd_V cx (zk + 20) (zs + 120) 2092 [some (.ref 999999), some (.ref 0), some (.ref 92), some (.ref 132), some (.int v), none, none, none] [] I J (pd_RF Z) n)
    (hF : fb_law L xs kk ke v I J Z n = some out) : pd_V cx zk zs 23 [some (.ref 999999), some (.ref 0), some (.ref 92), some (.ref 132), some (.int v), none, none, none] [] I J (pd_RF Z) n := by
  unfold fb_law at hF
  refine pd_iload C dL_law_23 rfl ?_
  refine pd_aload_n C dL_law_25 rfl rfl ?_
  refine pd_slen C hX hn9 dL_law_26 ?_
  refine pd_iconst (v := 5) C dL_law_27 (by decide) ?_
  refine pd_isub C dL_law_28 ?_
  refine pd_icmp_gt (tgt := 2092) C dL_law_29 (by decide) (fun zc102 => ?_) (fun zc102 => ?_)
  · have hF := pd_t zc102 hF
    exact pd_widen (by omega) (by omega) (KE _ _ _ _ hF)
  · have hF := pd_f zc102 hF
    refine pd_aload_n C dL_law_32 rfl rfl ?_
    refine pd_iload C dL_law_33 rfl ?_
    obtain ⟨zg1, hF⟩ := pd_gd_some hF
    refine pd_sld C hX hn9 zg1 dL_law_35 ?_
    refine pd_bipush (v := 31) C dL_law_36 (by decide) ?_
    refine pd_iand C dL_law_38 ?_
    by_cases hs0 : ((xs v.toNatClampNeg) &&& 31) = 0
    · have hF := pd_t hs0 hF
      refine pd_tabAt (tgt := 156) C dL_law_39 hs0 (by decide) (by decide) rfl (by decide) ?_
      refine pd_aload_n C dL_law_156 rfl rfl ?_
      refine pd_aload_n C dL_law_157 rfl rfl ?_
      refine pd_iload C dL_law_158 rfl ?_
      refine pd_iconst (v := 1) C dL_law_160 (by decide) ?_
      refine pd_iadd C dL_law_161 ?_
      obtain ⟨zg2, hF⟩ := pd_gd_some hF
      refine pd_sld C hX hn9 zg2 dL_law_162 ?_
      refine pd_aload_n C dL_law_163 rfl rfl ?_
      refine pd_iload C dL_law_164 rfl ?_
      refine pd_iconst (v := 2) C dL_law_166 (by decide) ?_
      refine pd_iadd C dL_law_167 ?_
      obtain ⟨zg3, hF⟩ := pd_gd_some hF
      refine pd_sld C hX hn9 zg3 dL_law_168 ?_
      refine pd_aload_n C dL_law_169 rfl rfl ?_
      obtain ⟨zr1, zI1, zJ1, zh1, hF⟩ := pd_bd3_some hF
      refine pd_callW C [.ref 0, .int (xs (v + 1).toNatClampNeg), .int (xs (v + 2).toNatClampNeg), .ref 132] [] (em_L_row (pd_C_st C) hn  zh1) mw_L_row wd_2_79 ⟨by decide, by decide, (by have h1 : rm_L_row.cells = 2 := rfl; have h2 : room_1.cells = 601024 := rfl; omega), (by have h1 : rm_L_row.slots = 12 := rfl; have h2 : room_1.slots = 7293034 := rfl; omega)⟩ rfl (Nat.le_of_ble_eq_true rfl) pd_oldL_same (fun _ _ => pd_old_same _) dL_law_170 (stk' := [.int zr1]) rfl ?_
      refine pd_widen (kc' := (zk + 2)) (ks' := (zs + 12)) (by have h1 : rm_L_row.cells = 2 := rfl; omega) (by have h1 : rm_L_row.slots = 12 := rfl; omega) ?_
      refine pd_istore (ls' := [some (.ref 999999), some (.ref 0), some (.ref 92), some (.ref 132), some (.int v), some (.int zr1), none, none]) C dL_law_173 (Nat.le_of_ble_eq_true rfl) rfl rfl ?_
      refine pd_aload_n C dL_law_175 rfl rfl ?_
      refine pd_aload_n C dL_law_176 rfl rfl ?_
      refine pd_iload C dL_law_177 rfl ?_
      refine pd_iconst (v := 1) C dL_law_179 (by decide) ?_
      refine pd_iadd C dL_law_180 ?_
      obtain ⟨zg4, hF⟩ := pd_gd_some hF
      refine pd_sld C hX hn9 zg4 dL_law_181 ?_
      refine pd_aload_n C dL_law_182 rfl rfl ?_
      refine pd_iload C dL_law_183 rfl ?_
      refine pd_iconst (v := 2) C dL_law_185 (by decide) ?_
      refine pd_iadd C dL_law_186 ?_
      obtain ⟨zg5, hF⟩ := pd_gd_some hF
      refine pd_sld C hX hn9 zg5 dL_law_187 ?_
      obtain ⟨zr2, zI2, zh2, hF⟩ := pd_bd2_some hF
      refine pd_callV C [.int (xs (v + 1).toNatClampNeg), .int (xs (v + 2).toNatClampNeg)] [] (em_X12_row (pd_C_st C) hn  zh2) mw_X12_row wd_6_22 rfl (by decide) (pd_lt (by decide) hn) sh_92 ⟨by decide, by decide, (by have h1 : rm_X12_row.cells = 0 := rfl; have h2 : room_1.cells = 601024 := rfl; omega), (by have h1 : rm_X12_row.slots = 0 := rfl; have h2 : room_1.slots = 7293034 := rfl; omega)⟩ rfl (Nat.le_of_ble_eq_true rfl) pd_oldL_same (fun _ _ => pd_old_same _) dL_law_188 (stk' := [.int zr2]) rfl ?_
      refine pd_widen (kc' := (zk + 2)) (ks' := (zs + 12)) (by have h1 : rm_X12_row.cells = 0 := rfl; omega) (by have h1 : rm_X12_row.slots = 0 := rfl; omega) ?_
      refine pd_istore (ls' := [some (.ref 999999), some (.ref 0), some (.ref 92), some (.ref 132), some (.int v), some (.int zr1), some (.int zr2), none]) C dL_law_191 (Nat.le_of_ble_eq_true rfl) rfl rfl ?_
      refine pd_aload_n C dL_law_193 rfl rfl ?_
      obtain ⟨zr3, zh3, hF⟩ := pd_bd_some hF
      refine pd_callV C [] [] (em_X12_thrown (pd_C_st C) hn  zh3) mw_X12_thrown wd_6_18 rfl (by decide) (pd_lt (by decide) hn) sh_92 ⟨by decide, by decide, (by have h1 : rm_X12_thrown.cells = 0 := rfl; have h2 : room_1.cells = 601024 := rfl; omega), (by have h1 : rm_X12_thrown.slots = 0 := rfl; have h2 : room_1.slots = 7293034 := rfl; omega)⟩ rfl (Nat.le_of_ble_eq_true rfl) pd_oldL_same (fun _ _ => pd_old_same _) dL_law_194 (stk' := [.int zr3]) rfl ?_
      refine pd_widen (kc' := (zk + 2)) (ks' := (zs + 12)) (by have h1 : rm_X12_thrown.cells = 0 := rfl; omega) (by have h1 : rm_X12_thrown.slots = 0 := rfl; omega) ?_
      refine pd_iload C dL_law_197 rfl ?_
      refine pd_icmp_eq (tgt := 204) C dL_law_199 (by decide) (fun zc4 => ?_) (fun zc4 => ?_)
      · have hF := pd_t zc4 hF
        refine pd_iload C dL_law_204 rfl ?_
        refine pd_jn_use hF (fun j => ∀ (_u : Unit), j _u = some out → pd_V cx (zk + 2) (zs + 12) 228 [some (.ref 999999), some (.ref 0), some (.ref 92), some (.ref 132), some (.int v), none, none, none] [] zI2 zJ1 (pd_RF Z) n) (fun _u hF => ?_) (fun zj1 hzj1 hF => ?_)
        · refine pd_goto (tgt := 2086) C dL_law_228 (by decide) ?_
          refine pd_iincG (zz := 5) C dL_law_2086 rfl (by decide) rfl (fun zv1 hzv1 => ?_)
          have hF := pd_let_at hF hzv1
          refine pd_lsE (ls' := [some (.ref 999999), some (.ref 0), some (.ref 92), some (.ref 132), some (.int zv1), none, none, none]) rfl ?_
          refine pd_goto (tgt := 23) C dL_law_2089 (by decide) ?_
          exact pd_widen (by omega) (by omega) (KK _ _ _ _ _ hF)
        · refine pd_if_ne (tgt := 228) C dL_law_206 (by decide) (fun zc3 => ?_) (fun zc3 => ?_)
          · have hF := pd_f zc3 hF
            refine pd_wk (ls' := [some (.ref 999999), some (.ref 0), some (.ref 92), some (.ref 132), some (.int v), none, none, none]) (And.intro rfl (And.intro rfl (And.intro rfl (And.intro rfl (And.intro rfl True.intro))))) ?_
            exact hzj1 _ hF
          · have hF := pd_t zc3 hF
            refine pd_aload_n C dL_law_209 rfl rfl ?_
            refine pd_iconst (v := 0) C dL_law_210 (by decide) ?_
            obtain ⟨zg6, hF⟩ := pd_gd_some hF
            refine pd_lald C (pd_lt (by decide) hn) sh_132 zg6 dL_law_211 ?_
            refine pd_iload C dL_law_212 rfl ?_
            obtain ⟨zy1, hS, hF⟩ := pd_bd_some hF
            have hJ222 : pd_V cx (zk + 2) (zs + 12) 222 [some (.ref 999999), some (.ref 0), some (.ref 92), some (.ref 132), some (.int v), none, none, none] [.long zy1, .long (zJ1 132 (0 : Int32).toNatClampNeg)] zI2 zJ1 (pd_RF Z) n := by
              refine pd_lcmp C dL_law_222 ?_
              refine pd_if_eq (tgt := 228) C dL_law_223 (by decide) (fun zc1 => ?_) (fun zc1 => ?_)
              · have hF := pd_t zc1 hF
                exact hzj1 _ hF
              · have hF := pd_f zc1 hF
                refine pd_iconst (v := 0) C dL_law_226 (by decide) ?_
                cases hF
            replace hF := hS
            clear hS
            refine pd_if_eq (tgt := 221) C dL_law_214 (by decide) (fun zc2 => ?_) (fun zc2 => ?_)
            · have hF := pd_t zc2 hF
              refine pd_lconst (v := 0) C dL_law_221 (by decide) ?_
              refine pd_wk (ls' := [some (.ref 999999), some (.ref 0), some (.ref 92), some (.ref 132), some (.int v), none, none, none]) (And.intro rfl (And.intro rfl (And.intro rfl (And.intro rfl (And.intro rfl True.intro))))) ?_
              have hF := hF.symm
              cases hF
              exact hJ222
            · have hF := pd_f zc2 hF
              refine pd_lconst (v := 1) C dL_law_217 (by decide) ?_
              refine pd_goto (tgt := 222) C dL_law_218 (by decide) ?_
              refine pd_wk (ls' := [some (.ref 999999), some (.ref 0), some (.ref 92), some (.ref 132), some (.int v), none, none, none]) (And.intro rfl (And.intro rfl (And.intro rfl (And.intro rfl (And.intro rfl True.intro))))) ?_
              have hF := hF.symm
              cases hF
              exact hJ222
      · have hF := pd_f zc4 hF
        refine pd_iconst (v := 0) C dL_law_202 (by decide) ?_
        cases hF
    have hF := pd_f hs0 hF
    by_cases hs1 : ((xs v.toNatClampNeg) &&& 31) = 1
    · have hF := pd_t hs1 hF
      refine pd_tabAt (tgt := 231) C dL_law_39 hs1 (by decide) (by decide) rfl (by decide) ?_
      refine pd_aload_n C dL_law_231 rfl rfl ?_
      refine pd_aload_n C dL_law_232 rfl rfl ?_
      refine pd_iload C dL_law_233 rfl ?_
      refine pd_iconst (v := 1) C dL_law_235 (by decide) ?_
      refine pd_iadd C dL_law_236 ?_
      obtain ⟨zg7, hF⟩ := pd_gd_some hF
      refine pd_sld C hX hn9 zg7 dL_law_237 ?_
      refine pd_aload_n C dL_law_238 rfl rfl ?_
      refine pd_iload C dL_law_239 rfl ?_
      refine pd_iconst (v := 2) C dL_law_241 (by decide) ?_
      refine pd_iadd C dL_law_242 ?_
      obtain ⟨zg8, hF⟩ := pd_gd_some hF
      refine pd_sld C hX hn9 zg8 dL_law_243 ?_
      refine pd_aload_n C dL_law_244 rfl rfl ?_
      refine pd_iload C dL_law_245 rfl ?_
      refine pd_iconst (v := 3) C dL_law_247 (by decide) ?_
      refine pd_iadd C dL_law_248 ?_
      obtain ⟨zg9, hF⟩ := pd_gd_some hF
      refine pd_sld C hX hn9 zg9 dL_law_249 ?_
      refine pd_aload_n C dL_law_250 rfl rfl ?_
      obtain ⟨zr4, zI3, zJ2, zh4, hF⟩ := pd_bd3_some hF
      refine pd_callW C [.ref 0, .int (xs (v + 1).toNatClampNeg), .int (xs (v + 2).toNatClampNeg), .int (xs (v + 3).toNatClampNeg), .ref 132] [] (em_L_put (pd_C_st C) hn  zh4) mw_L_put wd_2_192 ⟨by decide, by decide, (by have h1 : rm_L_put.cells = 4 := rfl; have h2 : room_1.cells = 601024 := rfl; omega), (by have h1 : rm_L_put.slots = 24 := rfl; have h2 : room_1.slots = 7293034 := rfl; omega)⟩ rfl (Nat.le_of_ble_eq_true rfl) pd_oldL_same (fun _ _ => pd_old_same _) dL_law_251 (stk' := [.int zr4]) rfl ?_
      refine pd_widen (kc' := (zk + 4)) (ks' := (zs + 24)) (by have h1 : rm_L_put.cells = 4 := rfl; omega) (by have h1 : rm_L_put.slots = 24 := rfl; omega) ?_
      refine pd_istore (ls' := [some (.ref 999999), some (.ref 0), some (.ref 92), some (.ref 132), some (.int v), some (.int zr4), none, none]) C dL_law_254 (Nat.le_of_ble_eq_true rfl) rfl rfl ?_
      refine pd_aload_n C dL_law_256 rfl rfl ?_
      refine pd_aload_n C dL_law_257 rfl rfl ?_
      refine pd_iload C dL_law_258 rfl ?_
      refine pd_iconst (v := 1) C dL_law_260 (by decide) ?_
      refine pd_iadd C dL_law_261 ?_
      obtain ⟨zg10, hF⟩ := pd_gd_some hF
      refine pd_sld C hX hn9 zg10 dL_law_262 ?_
      refine pd_aload_n C dL_law_263 rfl rfl ?_
      refine pd_iload C dL_law_264 rfl ?_
      refine pd_iconst (v := 2) C dL_law_266 (by decide) ?_
      refine pd_iadd C dL_law_267 ?_
      obtain ⟨zg11, hF⟩ := pd_gd_some hF
      refine pd_sld C hX hn9 zg11 dL_law_268 ?_
      refine pd_aload_n C dL_law_269 rfl rfl ?_
      refine pd_iload C dL_law_270 rfl ?_
      refine pd_iconst (v := 3) C dL_law_272 (by decide) ?_
      refine pd_iadd C dL_law_273 ?_
      obtain ⟨zg12, hF⟩ := pd_gd_some hF
      refine pd_sld C hX hn9 zg12 dL_law_274 ?_
      obtain ⟨zr5, zI4, zh5, hF⟩ := pd_bd2_some hF
      refine pd_callV C [.int (xs (v + 1).toNatClampNeg), .int (xs (v + 2).toNatClampNeg), .int (xs (v + 3).toNatClampNeg)] [] (em_X12_put (pd_C_st C) hn  zh5) mw_X12_put wd_6_34 rfl (by decide) (pd_lt (by decide) hn) sh_92 ⟨by decide, by decide, (by have h1 : rm_X12_put.cells = 0 := rfl; have h2 : room_1.cells = 601024 := rfl; omega), (by have h1 : rm_X12_put.slots = 0 := rfl; have h2 : room_1.slots = 7293034 := rfl; omega)⟩ rfl (Nat.le_of_ble_eq_true rfl) pd_oldL_same (fun _ _ => pd_old_same _) dL_law_275 (stk' := [.int zr5]) rfl ?_
      refine pd_widen (kc' := (zk + 4)) (ks' := (zs + 24)) (by have h1 : rm_X12_put.cells = 0 := rfl; omega) (by have h1 : rm_X12_put.slots = 0 := rfl; omega) ?_
      refine pd_istore (ls' := [some (.ref 999999), some (.ref 0), some (.ref 92), some (.ref 132), some (.int v), some (.int zr4), some (.int zr5), none]) C dL_law_278 (Nat.le_of_ble_eq_true rfl) rfl rfl ?_
      refine pd_aload_n C dL_law_280 rfl rfl ?_
      obtain ⟨zr6, zh6, hF⟩ := pd_bd_some hF
      refine pd_callV C [] [] (em_X12_thrown (pd_C_st C) hn  zh6) mw_X12_thrown wd_6_18 rfl (by decide) (pd_lt (by decide) hn) sh_92 ⟨by decide, by decide, (by have h1 : rm_X12_thrown.cells = 0 := rfl; have h2 : room_1.cells = 601024 := rfl; omega), (by have h1 : rm_X12_thrown.slots = 0 := rfl; have h2 : room_1.slots = 7293034 := rfl; omega)⟩ rfl (Nat.le_of_ble_eq_true rfl) pd_oldL_same (fun _ _ => pd_old_same _) dL_law_281 (stk' := [.int zr6]) rfl ?_
      refine pd_widen (kc' := (zk + 4)) (ks' := (zs + 24)) (by have h1 : rm_X12_thrown.cells = 0 := rfl; omega) (by have h1 : rm_X12_thrown.slots = 0 := rfl; omega) ?_
      refine pd_iload C dL_law_284 rfl ?_
      refine pd_icmp_eq (tgt := 291) C dL_law_286 (by decide) (fun zc8 => ?_) (fun zc8 => ?_)
      · have hF := pd_t zc8 hF
        refine pd_iload C dL_law_291 rfl ?_
        obtain ⟨zc5, hS, hF⟩ := pd_bd_some hF
        have hTzc5 : zc5 = true → pd_V cx (zk + 4) (zs + 24) 306 [some (.ref 999999), some (.ref 0), some (.ref 92), some (.ref 132), some (.int v), some (.int zr4), some (.int zr5), none] [] zI4 zJ2 (pd_RF Z) n := by
          intro hc
          have hF := pd_t hc hF
          refine pd_iconst (v := 0) C dL_law_306 (by decide) ?_
          cases hF
        have hEzc5 : zc5 = false → pd_V cx (zk + 4) (zs + 24) 308 [some (.ref 999999), some (.ref 0), some (.ref 92), some (.ref 132), some (.int v), some (.int zr4), some (.int zr5), none] [] zI4 zJ2 (pd_RF Z) n := by
          intro hc
          have hF := pd_bf hc hF
          refine pd_goto (tgt := 2086) C dL_law_308 (by decide) ?_
          refine pd_iincG (zz := 5) C dL_law_2086 rfl (by decide) rfl (fun zv2 hzv2 => ?_)
          have hF := pd_let_at hF hzv2
          refine pd_lsE (ls' := [some (.ref 999999), some (.ref 0), some (.ref 92), some (.ref 132), some (.int zv2), some (.int zr4), some (.int zr5), none]) rfl ?_
          refine pd_goto (tgt := 23) C dL_law_2089 (by decide) ?_
          refine pd_wk (ls' := [some (.ref 999999), some (.ref 0), some (.ref 92), some (.ref 132), some (.int zv2), none, none, none]) (And.intro rfl (And.intro rfl (And.intro rfl (And.intro rfl (And.intro rfl True.intro))))) ?_
          exact pd_widen (by omega) (by omega) (KK _ _ _ _ _ hF)
        replace hF := hS
        clear hS
        refine pd_if_ne (tgt := 308) C dL_law_293 (by decide) (fun zc7 => ?_) (fun zc7 => ?_)
        · have hF := pd_f zc7 hF
          cases hF
          exact hEzc5 rfl
        · have hF := pd_t zc7 hF
          refine pd_aload_n C dL_law_296 rfl rfl ?_
          refine pd_iconst (v := 0) C dL_law_297 (by decide) ?_
          obtain ⟨zg13, hF⟩ := pd_gd_some hF
          refine pd_lald C (pd_lt (by decide) hn) sh_132 zg13 dL_law_298 ?_
          refine pd_iload C dL_law_299 rfl ?_
          refine pd_i2l C dL_law_301 ?_
          refine pd_lcmp C dL_law_302 ?_
          refine pd_if_eq (tgt := 308) C dL_law_303 (by decide) (fun zc6 => ?_) (fun zc6 => ?_)
          · have hF := pd_t zc6 hF
            cases hF
            exact hEzc5 rfl
          · have hF := pd_f zc6 hF
            cases hF
            exact hTzc5 rfl
      · have hF := pd_f zc8 hF
        refine pd_iconst (v := 0) C dL_law_289 (by decide) ?_
        cases hF
    have hF := pd_f hs1 hF
    by_cases hs2 : ((xs v.toNatClampNeg) &&& 31) = 2
    · have hF := pd_t hs2 hF
      refine pd_tabAt (tgt := 311) C dL_law_39 hs2 (by decide) (by decide) rfl (by decide) ?_
      refine pd_aload_n C dL_law_311 rfl rfl ?_
      refine pd_aload_n C dL_law_312 rfl rfl ?_
      refine pd_iload C dL_law_313 rfl ?_
      refine pd_iconst (v := 1) C dL_law_315 (by decide) ?_
      refine pd_iadd C dL_law_316 ?_
      obtain ⟨zg14, hF⟩ := pd_gd_some hF
      refine pd_sld C hX hn9 zg14 dL_law_317 ?_
      refine pd_aload_n C dL_law_318 rfl rfl ?_
      refine pd_iload C dL_law_319 rfl ?_
      refine pd_iconst (v := 2) C dL_law_321 (by decide) ?_
      refine pd_iadd C dL_law_322 ?_
      obtain ⟨zg15, hF⟩ := pd_gd_some hF
      refine pd_sld C hX hn9 zg15 dL_law_323 ?_
      refine pd_aload_n C dL_law_324 rfl rfl ?_
      refine pd_iload C dL_law_325 rfl ?_
      refine pd_iconst (v := 3) C dL_law_327 (by decide) ?_
      refine pd_iadd C dL_law_328 ?_
      obtain ⟨zg16, hF⟩ := pd_gd_some hF
      refine pd_sld C hX hn9 zg16 dL_law_329 ?_
      refine pd_aload_n C dL_law_330 rfl rfl ?_
      refine pd_iload C dL_law_331 rfl ?_
      refine pd_iconst (v := 4) C dL_law_333 (by decide) ?_
      refine pd_iadd C dL_law_334 ?_
      obtain ⟨zg17, hF⟩ := pd_gd_some hF
      refine pd_sld C hX hn9 zg17 dL_law_335 ?_
      refine pd_aload_n C dL_law_336 rfl rfl ?_
      obtain ⟨zr7, zI5, zJ3, zh7, hF⟩ := pd_bd3_some hF
      refine pd_callW C [.ref 0, .int (xs (v + 1).toNatClampNeg), .int (xs (v + 2).toNatClampNeg), .int (xs (v + 3).toNatClampNeg), .int (xs (v + 4).toNatClampNeg), .ref 132] [] (em_L_five (pd_C_st C) hn  zh7) mw_L_five wd_2_239 ⟨by decide, by decide, (by have h1 : rm_L_five.cells = 2 := rfl; have h2 : room_1.cells = 601024 := rfl; omega), (by have h1 : rm_L_five.slots = 12 := rfl; have h2 : room_1.slots = 7293034 := rfl; omega)⟩ rfl (Nat.le_of_ble_eq_true rfl) pd_oldL_same (fun _ _ => pd_old_same _) dL_law_337 (stk' := [.int zr7]) rfl ?_
      refine pd_widen (kc' := (zk + 2)) (ks' := (zs + 12)) (by have h1 : rm_L_five.cells = 2 := rfl; omega) (by have h1 : rm_L_five.slots = 12 := rfl; omega) ?_
      refine pd_istore (ls' := [some (.ref 999999), some (.ref 0), some (.ref 92), some (.ref 132), some (.int v), some (.int zr7), none, none]) C dL_law_340 (Nat.le_of_ble_eq_true rfl) rfl rfl ?_
      refine pd_aload_n C dL_law_342 rfl rfl ?_
      refine pd_aload_n C dL_law_343 rfl rfl ?_
      refine pd_iload C dL_law_344 rfl ?_
      refine pd_iconst (v := 1) C dL_law_346 (by decide) ?_
      refine pd_iadd C dL_law_347 ?_
      obtain ⟨zg18, hF⟩ := pd_gd_some hF
      refine pd_sld C hX hn9 zg18 dL_law_348 ?_
      refine pd_aload_n C dL_law_349 rfl rfl ?_
      refine pd_iload C dL_law_350 rfl ?_
      refine pd_iconst (v := 2) C dL_law_352 (by decide) ?_
      refine pd_iadd C dL_law_353 ?_
      obtain ⟨zg19, hF⟩ := pd_gd_some hF
      refine pd_sld C hX hn9 zg19 dL_law_354 ?_
      refine pd_aload_n C dL_law_355 rfl rfl ?_
      refine pd_iload C dL_law_356 rfl ?_
      refine pd_iconst (v := 3) C dL_law_358 (by decide) ?_
      refine pd_iadd C dL_law_359 ?_
      obtain ⟨zg20, hF⟩ := pd_gd_some hF
      refine pd_sld C hX hn9 zg20 dL_law_360 ?_
      refine pd_aload_n C dL_law_361 rfl rfl ?_
      refine pd_iload C dL_law_362 rfl ?_
      refine pd_iconst (v := 4) C dL_law_364 (by decide) ?_
      refine pd_iadd C dL_law_365 ?_
      obtain ⟨zg21, hF⟩ := pd_gd_some hF
      refine pd_sld C hX hn9 zg21 dL_law_366 ?_
      obtain ⟨zr8, zI6, zh8, hF⟩ := pd_bd2_some hF
      refine pd_callV C [.int (xs (v + 1).toNatClampNeg), .int (xs (v + 2).toNatClampNeg), .int (xs (v + 3).toNatClampNeg), .int (xs (v + 4).toNatClampNeg)] [] (em_X12_five (pd_C_st C) hn  zh8) mw_X12_five wd_6_41 rfl (by decide) (pd_lt (by decide) hn) sh_92 ⟨by decide, by decide, (by have h1 : rm_X12_five.cells = 0 := rfl; have h2 : room_1.cells = 601024 := rfl; omega), (by have h1 : rm_X12_five.slots = 0 := rfl; have h2 : room_1.slots = 7293034 := rfl; omega)⟩ rfl (Nat.le_of_ble_eq_true rfl) pd_oldL_same (fun _ _ => pd_old_same _) dL_law_367 (stk' := [.int zr8]) rfl ?_
      refine pd_widen (kc' := (zk + 2)) (ks' := (zs + 12)) (by have h1 : rm_X12_five.cells = 0 := rfl; omega) (by have h1 : rm_X12_five.slots = 0 := rfl; omega) ?_
      refine pd_istore (ls' := [some (.ref 999999), some (.ref 0), some (.ref 92), some (.ref 132), some (.int v), some (.int zr7), some (.int zr8), none]) C dL_law_370 (Nat.le_of_ble_eq_true rfl) rfl rfl ?_
      refine pd_aload_n C dL_law_372 rfl rfl ?_
      obtain ⟨zr9, zh9, hF⟩ := pd_bd_some hF
      refine pd_callV C [] [] (em_X12_thrown (pd_C_st C) hn  zh9) mw_X12_thrown wd_6_18 rfl (by decide) (pd_lt (by decide) hn) sh_92 ⟨by decide, by decide, (by have h1 : rm_X12_thrown.cells = 0 := rfl; have h2 : room_1.cells = 601024 := rfl; omega), (by have h1 : rm_X12_thrown.slots = 0 := rfl; have h2 : room_1.slots = 7293034 := rfl; omega)⟩ rfl (Nat.le_of_ble_eq_true rfl) pd_oldL_same (fun _ _ => pd_old_same _) dL_law_373 (stk' := [.int zr9]) rfl ?_
      refine pd_widen (kc' := (zk + 2)) (ks' := (zs + 12)) (by have h1 : rm_X12_thrown.cells = 0 := rfl; omega) (by have h1 : rm_X12_thrown.slots = 0 := rfl; omega) ?_
      refine pd_iload C dL_law_376 rfl ?_
      refine pd_icmp_eq (tgt := 383) C dL_law_378 (by decide) (fun zc12 => ?_) (fun zc12 => ?_)
      · have hF := pd_t zc12 hF
        refine pd_iload C dL_law_383 rfl ?_
        obtain ⟨zc9, hS, hF⟩ := pd_bd_some hF
        have hTzc9 : zc9 = true → pd_V cx (zk + 2) (zs + 12) 398 [some (.ref 999999), some (.ref 0), some (.ref 92), some (.ref 132), some (.int v), some (.int zr7), some (.int zr8), none] [] zI6 zJ3 (pd_RF Z) n := by
          intro hc
          have hF := pd_t hc hF
          refine pd_iconst (v := 0) C dL_law_398 (by decide) ?_
          cases hF
        have hEzc9 : zc9 = false → pd_V cx (zk + 2) (zs + 12) 400 [some (.ref 999999), some (.ref 0), some (.ref 92), some (.ref 132), some (.int v), some (.int zr7), some (.int zr8), none] [] zI6 zJ3 (pd_RF Z) n := by
          intro hc
          have hF := pd_bf hc hF
          refine pd_goto (tgt := 2086) C dL_law_400 (by decide) ?_
          refine pd_iincG (zz := 5) C dL_law_2086 rfl (by decide) rfl (fun zv3 hzv3 => ?_)
          have hF := pd_let_at hF hzv3
          refine pd_lsE (ls' := [some (.ref 999999), some (.ref 0), some (.ref 92), some (.ref 132), some (.int zv3), some (.int zr7), some (.int zr8), none]) rfl ?_
          refine pd_goto (tgt := 23) C dL_law_2089 (by decide) ?_
          refine pd_wk (ls' := [some (.ref 999999), some (.ref 0), some (.ref 92), some (.ref 132), some (.int zv3), none, none, none]) (And.intro rfl (And.intro rfl (And.intro rfl (And.intro rfl (And.intro rfl True.intro))))) ?_
          exact pd_widen (by omega) (by omega) (KK _ _ _ _ _ hF)
        replace hF := hS
        clear hS
        refine pd_if_ne (tgt := 400) C dL_law_385 (by decide) (fun zc11 => ?_) (fun zc11 => ?_)
        · have hF := pd_f zc11 hF
          cases hF
          exact hEzc9 rfl
        · have hF := pd_t zc11 hF
          refine pd_aload_n C dL_law_388 rfl rfl ?_
          refine pd_iconst (v := 0) C dL_law_389 (by decide) ?_
          obtain ⟨zg22, hF⟩ := pd_gd_some hF
          refine pd_lald C (pd_lt (by decide) hn) sh_132 zg22 dL_law_390 ?_
          refine pd_iload C dL_law_391 rfl ?_
          refine pd_i2l C dL_law_393 ?_
          refine pd_lcmp C dL_law_394 ?_
          refine pd_if_eq (tgt := 400) C dL_law_395 (by decide) (fun zc10 => ?_) (fun zc10 => ?_)
          · have hF := pd_t zc10 hF
            cases hF
            exact hEzc9 rfl
          · have hF := pd_f zc10 hF
            cases hF
            exact hTzc9 rfl
      · have hF := pd_f zc12 hF
        refine pd_iconst (v := 0) C dL_law_381 (by decide) ?_
        cases hF
    have hF := pd_f hs2 hF
    by_cases hs3 : ((xs v.toNatClampNeg) &&& 31) = 3
    · have hF := pd_t hs3 hF
      refine pd_tabAt (tgt := 403) C dL_law_39 hs3 (by decide) (by decide) rfl (by decide) ?_
      refine pd_aload_n C dL_law_403 rfl rfl ?_
      refine pd_aload_n C dL_law_404 rfl rfl ?_
      refine pd_iload C dL_law_405 rfl ?_
      refine pd_iconst (v := 1) C dL_law_407 (by decide) ?_
      refine pd_iadd C dL_law_408 ?_
      obtain ⟨zg23, hF⟩ := pd_gd_some hF
      refine pd_sld C hX hn9 zg23 dL_law_409 ?_
      refine pd_aload_n C dL_law_410 rfl rfl ?_
      refine pd_iload C dL_law_411 rfl ?_
      refine pd_iconst (v := 2) C dL_law_413 (by decide) ?_
      refine pd_iadd C dL_law_414 ?_
      obtain ⟨zg24, hF⟩ := pd_gd_some hF
      refine pd_sld C hX hn9 zg24 dL_law_415 ?_
      refine pd_aload_n C dL_law_416 rfl rfl ?_
      obtain ⟨zr10, zJ4, zh10, hF⟩ := pd_bd2_some hF
      refine pd_callW C [.ref 0, .int (xs (v + 1).toNatClampNeg), .int (xs (v + 2).toNatClampNeg), .ref 132] [] (em_L_at (pd_C_st C) hn  zh10) mw_L_at wd_3_11 ⟨by decide, by decide, (by have h1 : rm_L_at.cells = 3 := rfl; have h2 : room_1.cells = 601024 := rfl; omega), (by have h1 : rm_L_at.slots = 18 := rfl; have h2 : room_1.slots = 7293034 := rfl; omega)⟩ rfl (Nat.le_of_ble_eq_true rfl) pd_oldL_same (fun _ _ => pd_old_same _) dL_law_417 (stk' := [.int zr10]) rfl ?_
      refine pd_widen (kc' := (zk + 3)) (ks' := (zs + 18)) (by have h1 : rm_L_at.cells = 3 := rfl; omega) (by have h1 : rm_L_at.slots = 18 := rfl; omega) ?_
      refine pd_istore (ls' := [some (.ref 999999), some (.ref 0), some (.ref 92), some (.ref 132), some (.int v), some (.int zr10), none, none]) C dL_law_420 (Nat.le_of_ble_eq_true rfl) rfl rfl ?_
      refine pd_aload_n C dL_law_422 rfl rfl ?_
      refine pd_aload_n C dL_law_423 rfl rfl ?_
      refine pd_iload C dL_law_424 rfl ?_
      refine pd_iconst (v := 1) C dL_law_426 (by decide) ?_
      refine pd_iadd C dL_law_427 ?_
      obtain ⟨zg25, hF⟩ := pd_gd_some hF
      refine pd_sld C hX hn9 zg25 dL_law_428 ?_
      refine pd_aload_n C dL_law_429 rfl rfl ?_
      refine pd_iload C dL_law_430 rfl ?_
      refine pd_iconst (v := 2) C dL_law_432 (by decide) ?_
      refine pd_iadd C dL_law_433 ?_
      obtain ⟨zg26, hF⟩ := pd_gd_some hF
      refine pd_sld C hX hn9 zg26 dL_law_434 ?_
      obtain ⟨zr11, zI7, zh11, hF⟩ := pd_bd2_some hF
      refine pd_callV C [.int (xs (v + 1).toNatClampNeg), .int (xs (v + 2).toNatClampNeg)] [] (em_X12_at (pd_C_st C) hn  zh11) mw_X12_at wd_6_45 rfl (by decide) (pd_lt (by decide) hn) sh_92 ⟨by decide, by decide, (by have h1 : rm_X12_at.cells = 0 := rfl; have h2 : room_1.cells = 601024 := rfl; omega), (by have h1 : rm_X12_at.slots = 0 := rfl; have h2 : room_1.slots = 7293034 := rfl; omega)⟩ rfl (Nat.le_of_ble_eq_true rfl) pd_oldL_same (fun _ _ => pd_old_same _) dL_law_435 (stk' := [.int zr11]) rfl ?_
      refine pd_widen (kc' := (zk + 3)) (ks' := (zs + 18)) (by have h1 : rm_X12_at.cells = 0 := rfl; omega) (by have h1 : rm_X12_at.slots = 0 := rfl; omega) ?_
      refine pd_istore (ls' := [some (.ref 999999), some (.ref 0), some (.ref 92), some (.ref 132), some (.int v), some (.int zr10), some (.int zr11), none]) C dL_law_438 (Nat.le_of_ble_eq_true rfl) rfl rfl ?_
      refine pd_aload_n C dL_law_440 rfl rfl ?_
      obtain ⟨zr12, zh12, hF⟩ := pd_bd_some hF
      refine pd_callV C [] [] (em_X12_thrown (pd_C_st C) hn  zh12) mw_X12_thrown wd_6_18 rfl (by decide) (pd_lt (by decide) hn) sh_92 ⟨by decide, by decide, (by have h1 : rm_X12_thrown.cells = 0 := rfl; have h2 : room_1.cells = 601024 := rfl; omega), (by have h1 : rm_X12_thrown.slots = 0 := rfl; have h2 : room_1.slots = 7293034 := rfl; omega)⟩ rfl (Nat.le_of_ble_eq_true rfl) pd_oldL_same (fun _ _ => pd_old_same _) dL_law_441 (stk' := [.int zr12]) rfl ?_
      refine pd_widen (kc' := (zk + 3)) (ks' := (zs + 18)) (by have h1 : rm_X12_thrown.cells = 0 := rfl; omega) (by have h1 : rm_X12_thrown.slots = 0 := rfl; omega) ?_
      refine pd_iload C dL_law_444 rfl ?_
      refine pd_icmp_eq (tgt := 451) C dL_law_446 (by decide) (fun zc16 => ?_) (fun zc16 => ?_)
      · have hF := pd_t zc16 hF
        refine pd_iload C dL_law_451 rfl ?_
        obtain ⟨zc13, hS, hF⟩ := pd_bd_some hF
        have hTzc13 : zc13 = true → pd_V cx (zk + 3) (zs + 18) 466 [some (.ref 999999), some (.ref 0), some (.ref 92), some (.ref 132), some (.int v), some (.int zr10), some (.int zr11), none] [] zI7 zJ4 (pd_RF Z) n := by
          intro hc
          have hF := pd_t hc hF
          refine pd_iconst (v := 0) C dL_law_466 (by decide) ?_
          cases hF
        have hEzc13 : zc13 = false → pd_V cx (zk + 3) (zs + 18) 468 [some (.ref 999999), some (.ref 0), some (.ref 92), some (.ref 132), some (.int v), some (.int zr10), some (.int zr11), none] [] zI7 zJ4 (pd_RF Z) n := by
          intro hc
          have hF := pd_bf hc hF
          refine pd_goto (tgt := 2086) C dL_law_468 (by decide) ?_
          refine pd_iincG (zz := 5) C dL_law_2086 rfl (by decide) rfl (fun zv4 hzv4 => ?_)
          have hF := pd_let_at hF hzv4
          refine pd_lsE (ls' := [some (.ref 999999), some (.ref 0), some (.ref 92), some (.ref 132), some (.int zv4), some (.int zr10), some (.int zr11), none]) rfl ?_
          refine pd_goto (tgt := 23) C dL_law_2089 (by decide) ?_
          refine pd_wk (ls' := [some (.ref 999999), some (.ref 0), some (.ref 92), some (.ref 132), some (.int zv4), none, none, none]) (And.intro rfl (And.intro rfl (And.intro rfl (And.intro rfl (And.intro rfl True.intro))))) ?_
          exact pd_widen (by omega) (by omega) (KK _ _ _ _ _ hF)
        replace hF := hS
        clear hS
        refine pd_if_ne (tgt := 468) C dL_law_453 (by decide) (fun zc15 => ?_) (fun zc15 => ?_)
        · have hF := pd_f zc15 hF
          cases hF
          exact hEzc13 rfl
        · have hF := pd_t zc15 hF
          refine pd_aload_n C dL_law_456 rfl rfl ?_
          refine pd_iconst (v := 0) C dL_law_457 (by decide) ?_
          obtain ⟨zg27, hF⟩ := pd_gd_some hF
          refine pd_lald C (pd_lt (by decide) hn) sh_132 zg27 dL_law_458 ?_
          refine pd_iload C dL_law_459 rfl ?_
          refine pd_i2l C dL_law_461 ?_
          refine pd_lcmp C dL_law_462 ?_
          refine pd_if_eq (tgt := 468) C dL_law_463 (by decide) (fun zc14 => ?_) (fun zc14 => ?_)
          · have hF := pd_t zc14 hF
            cases hF
            exact hEzc13 rfl
          · have hF := pd_f zc14 hF
            cases hF
            exact hTzc13 rfl
      · have hF := pd_f zc16 hF
        refine pd_iconst (v := 0) C dL_law_449 (by decide) ?_
        cases hF
    have hF := pd_f hs3 hF
    by_cases hs4 : ((xs v.toNatClampNeg) &&& 31) = 4
    · have hF := pd_t hs4 hF
      refine pd_tabAt (tgt := 471) C dL_law_39 hs4 (by decide) (by decide) rfl (by decide) ?_
      refine pd_aload_n C dL_law_471 rfl rfl ?_
      refine pd_aload_n C dL_law_472 rfl rfl ?_
      refine pd_iload C dL_law_473 rfl ?_
      refine pd_iconst (v := 1) C dL_law_475 (by decide) ?_
      refine pd_iadd C dL_law_476 ?_
      obtain ⟨zg28, hF⟩ := pd_gd_some hF
      refine pd_sld C hX hn9 zg28 dL_law_477 ?_
      refine pd_aload_n C dL_law_478 rfl rfl ?_
      refine pd_iload C dL_law_479 rfl ?_
      refine pd_iconst (v := 2) C dL_law_481 (by decide) ?_
      refine pd_iadd C dL_law_482 ?_
      obtain ⟨zg29, hF⟩ := pd_gd_some hF
      refine pd_sld C hX hn9 zg29 dL_law_483 ?_
      refine pd_aload_n C dL_law_484 rfl rfl ?_
      obtain ⟨zr13, zI8, zJ5, zh13, hF⟩ := pd_bd3_some hF
      refine pd_callW C [.ref 0, .int (xs (v + 1).toNatClampNeg), .int (xs (v + 2).toNatClampNeg), .ref 132] [] (em_L_tear (pd_C_st C) hn  zh13) mw_L_tear wd_3_18 ⟨by decide, by decide, (by have h1 : rm_L_tear.cells = 2 := rfl; have h2 : room_1.cells = 601024 := rfl; omega), (by have h1 : rm_L_tear.slots = 12 := rfl; have h2 : room_1.slots = 7293034 := rfl; omega)⟩ rfl (Nat.le_of_ble_eq_true rfl) pd_oldL_same (fun _ _ => pd_old_same _) dL_law_485 (stk' := [.int zr13]) rfl ?_
      refine pd_widen (kc' := (zk + 2)) (ks' := (zs + 12)) (by have h1 : rm_L_tear.cells = 2 := rfl; omega) (by have h1 : rm_L_tear.slots = 12 := rfl; omega) ?_
      refine pd_istore (ls' := [some (.ref 999999), some (.ref 0), some (.ref 92), some (.ref 132), some (.int v), some (.int zr13), none, none]) C dL_law_488 (Nat.le_of_ble_eq_true rfl) rfl rfl ?_
      refine pd_aload_n C dL_law_490 rfl rfl ?_
      refine pd_aload_n C dL_law_491 rfl rfl ?_
      refine pd_iload C dL_law_492 rfl ?_
      refine pd_iconst (v := 1) C dL_law_494 (by decide) ?_
      refine pd_iadd C dL_law_495 ?_
      obtain ⟨zg30, hF⟩ := pd_gd_some hF
      refine pd_sld C hX hn9 zg30 dL_law_496 ?_
      refine pd_aload_n C dL_law_497 rfl rfl ?_
      refine pd_iload C dL_law_498 rfl ?_
      refine pd_iconst (v := 2) C dL_law_500 (by decide) ?_
      refine pd_iadd C dL_law_501 ?_
      obtain ⟨zg31, hF⟩ := pd_gd_some hF
      refine pd_sld C hX hn9 zg31 dL_law_502 ?_
      obtain ⟨zr14, zI9, zh14, hF⟩ := pd_bd2_some hF
      refine pd_callV C [.int (xs (v + 1).toNatClampNeg), .int (xs (v + 2).toNatClampNeg)] [] (em_X12_tear (pd_C_st C) hn  zh14) mw_X12_tear wd_6_49 rfl (by decide) (pd_lt (by decide) hn) sh_92 ⟨by decide, by decide, (by have h1 : rm_X12_tear.cells = 0 := rfl; have h2 : room_1.cells = 601024 := rfl; omega), (by have h1 : rm_X12_tear.slots = 0 := rfl; have h2 : room_1.slots = 7293034 := rfl; omega)⟩ rfl (Nat.le_of_ble_eq_true rfl) pd_oldL_same (fun _ _ => pd_old_same _) dL_law_503 (stk' := [.int zr14]) rfl ?_
      refine pd_widen (kc' := (zk + 2)) (ks' := (zs + 12)) (by have h1 : rm_X12_tear.cells = 0 := rfl; omega) (by have h1 : rm_X12_tear.slots = 0 := rfl; omega) ?_
      refine pd_istore (ls' := [some (.ref 999999), some (.ref 0), some (.ref 92), some (.ref 132), some (.int v), some (.int zr13), some (.int zr14), none]) C dL_law_506 (Nat.le_of_ble_eq_true rfl) rfl rfl ?_
      refine pd_aload_n C dL_law_508 rfl rfl ?_
      obtain ⟨zr15, zh15, hF⟩ := pd_bd_some hF
      refine pd_callV C [] [] (em_X12_thrown (pd_C_st C) hn  zh15) mw_X12_thrown wd_6_18 rfl (by decide) (pd_lt (by decide) hn) sh_92 ⟨by decide, by decide, (by have h1 : rm_X12_thrown.cells = 0 := rfl; have h2 : room_1.cells = 601024 := rfl; omega), (by have h1 : rm_X12_thrown.slots = 0 := rfl; have h2 : room_1.slots = 7293034 := rfl; omega)⟩ rfl (Nat.le_of_ble_eq_true rfl) pd_oldL_same (fun _ _ => pd_old_same _) dL_law_509 (stk' := [.int zr15]) rfl ?_
      refine pd_widen (kc' := (zk + 2)) (ks' := (zs + 12)) (by have h1 : rm_X12_thrown.cells = 0 := rfl; omega) (by have h1 : rm_X12_thrown.slots = 0 := rfl; omega) ?_
      refine pd_iload C dL_law_512 rfl ?_
      refine pd_icmp_eq (tgt := 519) C dL_law_514 (by decide) (fun zc20 => ?_) (fun zc20 => ?_)
      · have hF := pd_t zc20 hF
        refine pd_iload C dL_law_519 rfl ?_
        obtain ⟨zc17, hS, hF⟩ := pd_bd_some hF
        have hTzc17 : zc17 = true → pd_V cx (zk + 2) (zs + 12) 534 [some (.ref 999999), some (.ref 0), some (.ref 92), some (.ref 132), some (.int v), some (.int zr13), some (.int zr14), none] [] zI9 zJ5 (pd_RF Z) n := by
          intro hc
          have hF := pd_t hc hF
          refine pd_iconst (v := 0) C dL_law_534 (by decide) ?_
          cases hF
        have hEzc17 : zc17 = false → pd_V cx (zk + 2) (zs + 12) 536 [some (.ref 999999), some (.ref 0), some (.ref 92), some (.ref 132), some (.int v), some (.int zr13), some (.int zr14), none] [] zI9 zJ5 (pd_RF Z) n := by
          intro hc
          have hF := pd_bf hc hF
          refine pd_goto (tgt := 2086) C dL_law_536 (by decide) ?_
          refine pd_iincG (zz := 5) C dL_law_2086 rfl (by decide) rfl (fun zv5 hzv5 => ?_)
          have hF := pd_let_at hF hzv5
          refine pd_lsE (ls' := [some (.ref 999999), some (.ref 0), some (.ref 92), some (.ref 132), some (.int zv5), some (.int zr13), some (.int zr14), none]) rfl ?_
          refine pd_goto (tgt := 23) C dL_law_2089 (by decide) ?_
          refine pd_wk (ls' := [some (.ref 999999), some (.ref 0), some (.ref 92), some (.ref 132), some (.int zv5), none, none, none]) (And.intro rfl (And.intro rfl (And.intro rfl (And.intro rfl (And.intro rfl True.intro))))) ?_
          exact pd_widen (by omega) (by omega) (KK _ _ _ _ _ hF)
        replace hF := hS
        clear hS
        refine pd_if_ne (tgt := 536) C dL_law_521 (by decide) (fun zc19 => ?_) (fun zc19 => ?_)
        · have hF := pd_f zc19 hF
          cases hF
          exact hEzc17 rfl
        · have hF := pd_t zc19 hF
          refine pd_aload_n C dL_law_524 rfl rfl ?_
          refine pd_iconst (v := 0) C dL_law_525 (by decide) ?_
          obtain ⟨zg32, hF⟩ := pd_gd_some hF
          refine pd_lald C (pd_lt (by decide) hn) sh_132 zg32 dL_law_526 ?_
          refine pd_iload C dL_law_527 rfl ?_
          refine pd_i2l C dL_law_529 ?_
          refine pd_lcmp C dL_law_530 ?_
          refine pd_if_eq (tgt := 536) C dL_law_531 (by decide) (fun zc18 => ?_) (fun zc18 => ?_)
          · have hF := pd_t zc18 hF
            cases hF
            exact hEzc17 rfl
          · have hF := pd_f zc18 hF
            cases hF
            exact hTzc17 rfl
      · have hF := pd_f zc20 hF
        refine pd_iconst (v := 0) C dL_law_517 (by decide) ?_
        cases hF
    have hF := pd_f hs4 hF
    by_cases hs5 : ((xs v.toNatClampNeg) &&& 31) = 5
    · have hF := pd_t hs5 hF
      refine pd_tabAt (tgt := 539) C dL_law_39 hs5 (by decide) (by decide) rfl (by decide) ?_
      refine pd_aload_n C dL_law_539 rfl rfl ?_
      refine pd_aload_n C dL_law_540 rfl rfl ?_
      refine pd_iload C dL_law_541 rfl ?_
      refine pd_iconst (v := 1) C dL_law_543 (by decide) ?_
      refine pd_iadd C dL_law_544 ?_
      obtain ⟨zg33, hF⟩ := pd_gd_some hF
      refine pd_sld C hX hn9 zg33 dL_law_545 ?_
      refine pd_aload_n C dL_law_546 rfl rfl ?_
      refine pd_iload C dL_law_547 rfl ?_
      refine pd_iconst (v := 2) C dL_law_549 (by decide) ?_
      refine pd_iadd C dL_law_550 ?_
      obtain ⟨zg34, hF⟩ := pd_gd_some hF
      refine pd_sld C hX hn9 zg34 dL_law_551 ?_
      refine pd_aload_n C dL_law_552 rfl rfl ?_
      refine pd_iload C dL_law_553 rfl ?_
      refine pd_iconst (v := 3) C dL_law_555 (by decide) ?_
      refine pd_iadd C dL_law_556 ?_
      obtain ⟨zg35, hF⟩ := pd_gd_some hF
      refine pd_sld C hX hn9 zg35 dL_law_557 ?_
      refine pd_aload_n C dL_law_558 rfl rfl ?_
      obtain ⟨zr16, zI10, zJ6, zh16, hF⟩ := pd_bd3_some hF
      refine pd_callW C [.ref 0, .int (xs (v + 1).toNatClampNeg), .int (xs (v + 2).toNatClampNeg), .int (xs (v + 3).toNatClampNeg), .ref 132] [] (em_L_noise (pd_C_st C) hn  zh16) mw_L_noise wd_3_29 ⟨by decide, by decide, (by have h1 : rm_L_noise.cells = 2 := rfl; have h2 : room_1.cells = 601024 := rfl; omega), (by have h1 : rm_L_noise.slots = 12 := rfl; have h2 : room_1.slots = 7293034 := rfl; omega)⟩ rfl (Nat.le_of_ble_eq_true rfl) pd_oldL_same (fun _ _ => pd_old_same _) dL_law_559 (stk' := [.int zr16]) rfl ?_
      refine pd_widen (kc' := (zk + 2)) (ks' := (zs + 12)) (by have h1 : rm_L_noise.cells = 2 := rfl; omega) (by have h1 : rm_L_noise.slots = 12 := rfl; omega) ?_
      refine pd_istore (ls' := [some (.ref 999999), some (.ref 0), some (.ref 92), some (.ref 132), some (.int v), some (.int zr16), none, none]) C dL_law_562 (Nat.le_of_ble_eq_true rfl) rfl rfl ?_
      refine pd_aload_n C dL_law_564 rfl rfl ?_
      refine pd_aload_n C dL_law_565 rfl rfl ?_
      refine pd_iload C dL_law_566 rfl ?_
      refine pd_iconst (v := 1) C dL_law_568 (by decide) ?_
      refine pd_iadd C dL_law_569 ?_
      obtain ⟨zg36, hF⟩ := pd_gd_some hF
      refine pd_sld C hX hn9 zg36 dL_law_570 ?_
      refine pd_aload_n C dL_law_571 rfl rfl ?_
      refine pd_iload C dL_law_572 rfl ?_
      refine pd_iconst (v := 2) C dL_law_574 (by decide) ?_
      refine pd_iadd C dL_law_575 ?_
      obtain ⟨zg37, hF⟩ := pd_gd_some hF
      refine pd_sld C hX hn9 zg37 dL_law_576 ?_
      refine pd_aload_n C dL_law_577 rfl rfl ?_
      refine pd_iload C dL_law_578 rfl ?_
      refine pd_iconst (v := 3) C dL_law_580 (by decide) ?_
      refine pd_iadd C dL_law_581 ?_
      obtain ⟨zg38, hF⟩ := pd_gd_some hF
      refine pd_sld C hX hn9 zg38 dL_law_582 ?_
      obtain ⟨zr17, zI11, zh17, hF⟩ := pd_bd2_some hF
      refine pd_callV C [.int (xs (v + 1).toNatClampNeg), .int (xs (v + 2).toNatClampNeg), .int (xs (v + 3).toNatClampNeg)] [] (em_X12_noise (pd_C_st C) hn  zh17) mw_X12_noise wd_6_53 rfl (by decide) (pd_lt (by decide) hn) sh_92 ⟨by decide, by decide, (by have h1 : rm_X12_noise.cells = 0 := rfl; have h2 : room_1.cells = 601024 := rfl; omega), (by have h1 : rm_X12_noise.slots = 0 := rfl; have h2 : room_1.slots = 7293034 := rfl; omega)⟩ rfl (Nat.le_of_ble_eq_true rfl) pd_oldL_same (fun _ _ => pd_old_same _) dL_law_583 (stk' := [.int zr17]) rfl ?_
      refine pd_widen (kc' := (zk + 2)) (ks' := (zs + 12)) (by have h1 : rm_X12_noise.cells = 0 := rfl; omega) (by have h1 : rm_X12_noise.slots = 0 := rfl; omega) ?_
      refine pd_istore (ls' := [some (.ref 999999), some (.ref 0), some (.ref 92), some (.ref 132), some (.int v), some (.int zr16), some (.int zr17), none]) C dL_law_586 (Nat.le_of_ble_eq_true rfl) rfl rfl ?_
      refine pd_aload_n C dL_law_588 rfl rfl ?_
      obtain ⟨zr18, zh18, hF⟩ := pd_bd_some hF
      refine pd_callV C [] [] (em_X12_thrown (pd_C_st C) hn  zh18) mw_X12_thrown wd_6_18 rfl (by decide) (pd_lt (by decide) hn) sh_92 ⟨by decide, by decide, (by have h1 : rm_X12_thrown.cells = 0 := rfl; have h2 : room_1.cells = 601024 := rfl; omega), (by have h1 : rm_X12_thrown.slots = 0 := rfl; have h2 : room_1.slots = 7293034 := rfl; omega)⟩ rfl (Nat.le_of_ble_eq_true rfl) pd_oldL_same (fun _ _ => pd_old_same _) dL_law_589 (stk' := [.int zr18]) rfl ?_
      refine pd_widen (kc' := (zk + 2)) (ks' := (zs + 12)) (by have h1 : rm_X12_thrown.cells = 0 := rfl; omega) (by have h1 : rm_X12_thrown.slots = 0 := rfl; omega) ?_
      refine pd_iload C dL_law_592 rfl ?_
      refine pd_icmp_eq (tgt := 599) C dL_law_594 (by decide) (fun zc24 => ?_) (fun zc24 => ?_)
      · have hF := pd_t zc24 hF
        refine pd_iload C dL_law_599 rfl ?_
        obtain ⟨zc21, hS, hF⟩ := pd_bd_some hF
        have hTzc21 : zc21 = true → pd_V cx (zk + 2) (zs + 12) 614 [some (.ref 999999), some (.ref 0), some (.ref 92), some (.ref 132), some (.int v), some (.int zr16), some (.int zr17), none] [] zI11 zJ6 (pd_RF Z) n := by
          intro hc
          have hF := pd_t hc hF
          refine pd_iconst (v := 0) C dL_law_614 (by decide) ?_
          cases hF
        have hEzc21 : zc21 = false → pd_V cx (zk + 2) (zs + 12) 616 [some (.ref 999999), some (.ref 0), some (.ref 92), some (.ref 132), some (.int v), some (.int zr16), some (.int zr17), none] [] zI11 zJ6 (pd_RF Z) n := by
          intro hc
          have hF := pd_bf hc hF
          refine pd_goto (tgt := 2086) C dL_law_616 (by decide) ?_
          refine pd_iincG (zz := 5) C dL_law_2086 rfl (by decide) rfl (fun zv6 hzv6 => ?_)
          have hF := pd_let_at hF hzv6
          refine pd_lsE (ls' := [some (.ref 999999), some (.ref 0), some (.ref 92), some (.ref 132), some (.int zv6), some (.int zr16), some (.int zr17), none]) rfl ?_
          refine pd_goto (tgt := 23) C dL_law_2089 (by decide) ?_
          refine pd_wk (ls' := [some (.ref 999999), some (.ref 0), some (.ref 92), some (.ref 132), some (.int zv6), none, none, none]) (And.intro rfl (And.intro rfl (And.intro rfl (And.intro rfl (And.intro rfl True.intro))))) ?_
          exact pd_widen (by omega) (by omega) (KK _ _ _ _ _ hF)
        replace hF := hS
        clear hS
        refine pd_if_ne (tgt := 616) C dL_law_601 (by decide) (fun zc23 => ?_) (fun zc23 => ?_)
        · have hF := pd_f zc23 hF
          cases hF
          exact hEzc21 rfl
        · have hF := pd_t zc23 hF
          refine pd_aload_n C dL_law_604 rfl rfl ?_
          refine pd_iconst (v := 0) C dL_law_605 (by decide) ?_
          obtain ⟨zg39, hF⟩ := pd_gd_some hF
          refine pd_lald C (pd_lt (by decide) hn) sh_132 zg39 dL_law_606 ?_
          refine pd_iload C dL_law_607 rfl ?_
          refine pd_i2l C dL_law_609 ?_
          refine pd_lcmp C dL_law_610 ?_
          refine pd_if_eq (tgt := 616) C dL_law_611 (by decide) (fun zc22 => ?_) (fun zc22 => ?_)
          · have hF := pd_t zc22 hF
            cases hF
            exact hEzc21 rfl
          · have hF := pd_f zc22 hF
            cases hF
            exact hTzc21 rfl
      · have hF := pd_f zc24 hF
        refine pd_iconst (v := 0) C dL_law_597 (by decide) ?_
        cases hF
    have hF := pd_f hs5 hF
    by_cases hs6 : ((xs v.toNatClampNeg) &&& 31) = 6
    · have hF := pd_t hs6 hF
      refine pd_tabAt (tgt := 619) C dL_law_39 hs6 (by decide) (by decide) rfl (by decide) ?_
      refine pd_aload_n C dL_law_619 rfl rfl ?_
      refine pd_aload_n C dL_law_620 rfl rfl ?_
      refine pd_iload C dL_law_621 rfl ?_
      refine pd_iconst (v := 1) C dL_law_623 (by decide) ?_
      refine pd_iadd C dL_law_624 ?_
      obtain ⟨zg40, hF⟩ := pd_gd_some hF
      refine pd_sld C hX hn9 zg40 dL_law_625 ?_
      refine pd_aload_n C dL_law_626 rfl rfl ?_
      refine pd_iload C dL_law_627 rfl ?_
      refine pd_iconst (v := 2) C dL_law_629 (by decide) ?_
      refine pd_iadd C dL_law_630 ?_
      obtain ⟨zg41, hF⟩ := pd_gd_some hF
      refine pd_sld C hX hn9 zg41 dL_law_631 ?_
      refine pd_aload_n C dL_law_632 rfl rfl ?_
      refine pd_iload C dL_law_633 rfl ?_
      refine pd_iconst (v := 3) C dL_law_635 (by decide) ?_
      refine pd_iadd C dL_law_636 ?_
      obtain ⟨zg42, hF⟩ := pd_gd_some hF
      refine pd_sld C hX hn9 zg42 dL_law_637 ?_
      refine pd_aload_n C dL_law_638 rfl rfl ?_
      obtain ⟨zr19, zI12, zJ7, zZ1, zn1, zh19, hF⟩ := pd_bd5_some hF
      obtain ⟨zg43, hF⟩ := pd_gd_some hF
      obtain ⟨hn, hn9⟩ := of_decide_eq_true zg43
      refine pd_callW C [.ref 0, .int (xs (v + 1).toNatClampNeg), .int (xs (v + 2).toNatClampNeg), .int (xs (v + 3).toNatClampNeg), .ref 132] [] (em_L_code (pd_C_st C) (by assumption) hfr hn3 zh19) mw_L_code wd_3_41 ⟨by decide, by decide, (by have h1 : rm_L_code.cells = 6 := rfl; have h2 : room_1.cells = 601024 := rfl; omega), (by have h1 : rm_L_code.slots = 38 := rfl; have h2 : room_1.slots = 7293034 := rfl; omega)⟩ rfl (Nat.le_of_ble_eq_true rfl) (pd_oLb (by omega) (pd_oLr (by omega) (pd_oLr (by omega) (pd_oLr (by omega) (pd_oLi (pd_oLn (pd_oLn (pd_oLn pd_oL0)))))))) pd_oS0 dL_law_639 (stk' := [.int zr19]) rfl ?_
      refine pd_widen (kc' := (zk + 6)) (ks' := (zs + 38)) (by have h1 : rm_L_code.cells = 6 := rfl; omega) (by have h1 : rm_L_code.slots = 38 := rfl; omega) ?_
      refine pd_istore (ls' := [some (.ref 999999), some (.ref 0), some (.ref 92), some (.ref 132), some (.int v), some (.int zr19), none, none]) C dL_law_642 (Nat.le_of_ble_eq_true rfl) rfl rfl ?_
      refine pd_aload_n C dL_law_644 rfl rfl ?_
      refine pd_aload_n C dL_law_645 rfl rfl ?_
      refine pd_iload C dL_law_646 rfl ?_
      refine pd_iconst (v := 1) C dL_law_648 (by decide) ?_
      refine pd_iadd C dL_law_649 ?_
      obtain ⟨zg44, hF⟩ := pd_gd_some hF
      refine pd_sld C hX hn9 zg44 dL_law_650 ?_
      refine pd_aload_n C dL_law_651 rfl rfl ?_
      refine pd_iload C dL_law_652 rfl ?_
      refine pd_iconst (v := 2) C dL_law_654 (by decide) ?_
      refine pd_iadd C dL_law_655 ?_
      obtain ⟨zg45, hF⟩ := pd_gd_some hF
      refine pd_sld C hX hn9 zg45 dL_law_656 ?_
      refine pd_aload_n C dL_law_657 rfl rfl ?_
      refine pd_iload C dL_law_658 rfl ?_
      refine pd_iconst (v := 3) C dL_law_660 (by decide) ?_
      refine pd_iadd C dL_law_661 ?_
      obtain ⟨zg46, hF⟩ := pd_gd_some hF
      refine pd_sld C hX hn9 zg46 dL_law_662 ?_
      obtain ⟨zr20, zI13, zh20, hF⟩ := pd_bd2_some hF
      refine pd_callV C [.int (xs (v + 1).toNatClampNeg), .int (xs (v + 2).toNatClampNeg), .int (xs (v + 3).toNatClampNeg)] [] (em_X12_code (pd_C_st C) hn  zh20) mw_X12_code wd_6_57 rfl (by decide) (pd_lt (by decide) hn) sh_92 ⟨by decide, by decide, (by have h1 : rm_X12_code.cells = 0 := rfl; have h2 : room_1.cells = 601024 := rfl; omega), (by have h1 : rm_X12_code.slots = 0 := rfl; have h2 : room_1.slots = 7293034 := rfl; omega)⟩ rfl (Nat.le_of_ble_eq_true rfl) pd_oldL_same (fun _ _ => pd_old_same _) dL_law_663 (stk' := [.int zr20]) rfl ?_
      refine pd_widen (kc' := (zk + 6)) (ks' := (zs + 38)) (by have h1 : rm_X12_code.cells = 0 := rfl; omega) (by have h1 : rm_X12_code.slots = 0 := rfl; omega) ?_
      refine pd_istore (ls' := [some (.ref 999999), some (.ref 0), some (.ref 92), some (.ref 132), some (.int v), some (.int zr19), some (.int zr20), none]) C dL_law_666 (Nat.le_of_ble_eq_true rfl) rfl rfl ?_
      refine pd_aload_n C dL_law_668 rfl rfl ?_
      obtain ⟨zr21, zh21, hF⟩ := pd_bd_some hF
      refine pd_callV C [] [] (em_X12_thrown (pd_C_st C) hn  zh21) mw_X12_thrown wd_6_18 rfl (by decide) (pd_lt (by decide) hn) sh_92 ⟨by decide, by decide, (by have h1 : rm_X12_thrown.cells = 0 := rfl; have h2 : room_1.cells = 601024 := rfl; omega), (by have h1 : rm_X12_thrown.slots = 0 := rfl; have h2 : room_1.slots = 7293034 := rfl; omega)⟩ rfl (Nat.le_of_ble_eq_true rfl) pd_oldL_same (fun _ _ => pd_old_same _) dL_law_669 (stk' := [.int zr21]) rfl ?_
      refine pd_widen (kc' := (zk + 6)) (ks' := (zs + 38)) (by have h1 : rm_X12_thrown.cells = 0 := rfl; omega) (by have h1 : rm_X12_thrown.slots = 0 := rfl; omega) ?_
      refine pd_iload C dL_law_672 rfl ?_
      refine pd_icmp_eq (tgt := 679) C dL_law_674 (by decide) (fun zc28 => ?_) (fun zc28 => ?_)
      · have hF := pd_t zc28 hF
        refine pd_iload C dL_law_679 rfl ?_
        obtain ⟨zc25, hS, hF⟩ := pd_bd_some hF
        have hTzc25 : zc25 = true → pd_V cx (zk + 6) (zs + 38) 694 [some (.ref 999999), some (.ref 0), some (.ref 92), some (.ref 132), some (.int v), some (.int zr19), some (.int zr20), none] [] zI13 zJ7 (pd_RF zZ1) zn1 := by
          intro hc
          have hF := pd_t hc hF
          refine pd_iconst (v := 0) C dL_law_694 (by decide) ?_
          cases hF
        have hEzc25 : zc25 = false → pd_V cx (zk + 6) (zs + 38) 696 [some (.ref 999999), some (.ref 0), some (.ref 92), some (.ref 132), some (.int v), some (.int zr19), some (.int zr20), none] [] zI13 zJ7 (pd_RF zZ1) zn1 := by
          intro hc
          have hF := pd_bf hc hF
          refine pd_goto (tgt := 2086) C dL_law_696 (by decide) ?_
          refine pd_iincG (zz := 5) C dL_law_2086 rfl (by decide) rfl (fun zv7 hzv7 => ?_)
          have hF := pd_let_at hF hzv7
          refine pd_lsE (ls' := [some (.ref 999999), some (.ref 0), some (.ref 92), some (.ref 132), some (.int zv7), some (.int zr19), some (.int zr20), none]) rfl ?_
          refine pd_goto (tgt := 23) C dL_law_2089 (by decide) ?_
          refine pd_wk (ls' := [some (.ref 999999), some (.ref 0), some (.ref 92), some (.ref 132), some (.int zv7), none, none, none]) (And.intro rfl (And.intro rfl (And.intro rfl (And.intro rfl (And.intro rfl True.intro))))) ?_
          exact pd_widen (by omega) (by omega) (KK _ _ _ _ _ hF)
        replace hF := hS
        clear hS
        refine pd_if_ne (tgt := 696) C dL_law_681 (by decide) (fun zc27 => ?_) (fun zc27 => ?_)
        · have hF := pd_f zc27 hF
          cases hF
          exact hEzc25 rfl
        · have hF := pd_t zc27 hF
          refine pd_aload_n C dL_law_684 rfl rfl ?_
          refine pd_iconst (v := 0) C dL_law_685 (by decide) ?_
          obtain ⟨zg47, hF⟩ := pd_gd_some hF
          refine pd_lald C (pd_lt (by decide) hn) sh_132 zg47 dL_law_686 ?_
          refine pd_iload C dL_law_687 rfl ?_
          refine pd_i2l C dL_law_689 ?_
          refine pd_lcmp C dL_law_690 ?_
          refine pd_if_eq (tgt := 696) C dL_law_691 (by decide) (fun zc26 => ?_) (fun zc26 => ?_)
          · have hF := pd_t zc26 hF
            cases hF
            exact hEzc25 rfl
          · have hF := pd_f zc26 hF
            cases hF
            exact hTzc25 rfl
      · have hF := pd_f zc28 hF
        refine pd_iconst (v := 0) C dL_law_677 (by decide) ?_
        cases hF
    have hF := pd_f hs6 hF
    by_cases hs7 : ((xs v.toNatClampNeg) &&& 31) = 7
    · have hF := pd_t hs7 hF
      refine pd_tabAt (tgt := 699) C dL_law_39 hs7 (by decide) (by decide) rfl (by decide) ?_
      refine pd_aload_n C dL_law_699 rfl rfl ?_
      refine pd_aload_n C dL_law_700 rfl rfl ?_
      refine pd_iload C dL_law_701 rfl ?_
      refine pd_iconst (v := 1) C dL_law_703 (by decide) ?_
      refine pd_iadd C dL_law_704 ?_
      obtain ⟨zg48, hF⟩ := pd_gd_some hF
      refine pd_sld C hX hn9 zg48 dL_law_705 ?_
      refine pd_aload_n C dL_law_706 rfl rfl ?_
      refine pd_iload C dL_law_707 rfl ?_
      refine pd_iconst (v := 2) C dL_law_709 (by decide) ?_
      refine pd_iadd C dL_law_710 ?_
      obtain ⟨zg49, hF⟩ := pd_gd_some hF
      refine pd_sld C hX hn9 zg49 dL_law_711 ?_
      refine pd_aload_n C dL_law_712 rfl rfl ?_
      refine pd_iload C dL_law_713 rfl ?_
      refine pd_iconst (v := 3) C dL_law_715 (by decide) ?_
      refine pd_iadd C dL_law_716 ?_
      obtain ⟨zg50, hF⟩ := pd_gd_some hF
      refine pd_sld C hX hn9 zg50 dL_law_717 ?_
      refine pd_aload_n C dL_law_718 rfl rfl ?_
      obtain ⟨zr22, zI14, zJ8, zh22, hF⟩ := pd_bd3_some hF
      refine pd_callW C [.ref 0, .int (xs (v + 1).toNatClampNeg), .int (xs (v + 2).toNatClampNeg), .int (xs (v + 3).toNatClampNeg), .ref 132] [] (em_L_tap (pd_C_st C) hn  zh22) mw_L_tap wd_3_93 ⟨by decide, by decide, (by have h1 : rm_L_tap.cells = 4 := rfl; have h2 : room_1.cells = 601024 := rfl; omega), (by have h1 : rm_L_tap.slots = 24 := rfl; have h2 : room_1.slots = 7293034 := rfl; omega)⟩ rfl (Nat.le_of_ble_eq_true rfl) pd_oldL_same (fun _ _ => pd_old_same _) dL_law_719 (stk' := [.int zr22]) rfl ?_
      refine pd_widen (kc' := (zk + 4)) (ks' := (zs + 24)) (by have h1 : rm_L_tap.cells = 4 := rfl; omega) (by have h1 : rm_L_tap.slots = 24 := rfl; omega) ?_
      refine pd_istore (ls' := [some (.ref 999999), some (.ref 0), some (.ref 92), some (.ref 132), some (.int v), some (.int zr22), none, none]) C dL_law_722 (Nat.le_of_ble_eq_true rfl) rfl rfl ?_
      refine pd_aload_n C dL_law_724 rfl rfl ?_
      refine pd_aload_n C dL_law_725 rfl rfl ?_
      refine pd_iload C dL_law_726 rfl ?_
      refine pd_iconst (v := 1) C dL_law_728 (by decide) ?_
      refine pd_iadd C dL_law_729 ?_
      obtain ⟨zg51, hF⟩ := pd_gd_some hF
      refine pd_sld C hX hn9 zg51 dL_law_730 ?_
      refine pd_aload_n C dL_law_731 rfl rfl ?_
      refine pd_iload C dL_law_732 rfl ?_
      refine pd_iconst (v := 2) C dL_law_734 (by decide) ?_
      refine pd_iadd C dL_law_735 ?_
      obtain ⟨zg52, hF⟩ := pd_gd_some hF
      refine pd_sld C hX hn9 zg52 dL_law_736 ?_
      refine pd_aload_n C dL_law_737 rfl rfl ?_
      refine pd_iload C dL_law_738 rfl ?_
      refine pd_iconst (v := 3) C dL_law_740 (by decide) ?_
      refine pd_iadd C dL_law_741 ?_
      obtain ⟨zg53, hF⟩ := pd_gd_some hF
      refine pd_sld C hX hn9 zg53 dL_law_742 ?_
      obtain ⟨zr23, zI15, zh23, hF⟩ := pd_bd2_some hF
      refine pd_callV C [.int (xs (v + 1).toNatClampNeg), .int (xs (v + 2).toNatClampNeg), .int (xs (v + 3).toNatClampNeg)] [] (em_X12_tap (pd_C_st C) hn  zh23) mw_X12_tap wd_6_65 rfl (by decide) (pd_lt (by decide) hn) sh_92 ⟨by decide, by decide, (by have h1 : rm_X12_tap.cells = 0 := rfl; have h2 : room_1.cells = 601024 := rfl; omega), (by have h1 : rm_X12_tap.slots = 0 := rfl; have h2 : room_1.slots = 7293034 := rfl; omega)⟩ rfl (Nat.le_of_ble_eq_true rfl) pd_oldL_same (fun _ _ => pd_old_same _) dL_law_743 (stk' := [.int zr23]) rfl ?_
      refine pd_widen (kc' := (zk + 4)) (ks' := (zs + 24)) (by have h1 : rm_X12_tap.cells = 0 := rfl; omega) (by have h1 : rm_X12_tap.slots = 0 := rfl; omega) ?_
      refine pd_istore (ls' := [some (.ref 999999), some (.ref 0), some (.ref 92), some (.ref 132), some (.int v), some (.int zr22), some (.int zr23), none]) C dL_law_746 (Nat.le_of_ble_eq_true rfl) rfl rfl ?_
      refine pd_aload_n C dL_law_748 rfl rfl ?_
      obtain ⟨zr24, zh24, hF⟩ := pd_bd_some hF
      refine pd_callV C [] [] (em_X12_thrown (pd_C_st C) hn  zh24) mw_X12_thrown wd_6_18 rfl (by decide) (pd_lt (by decide) hn) sh_92 ⟨by decide, by decide, (by have h1 : rm_X12_thrown.cells = 0 := rfl; have h2 : room_1.cells = 601024 := rfl; omega), (by have h1 : rm_X12_thrown.slots = 0 := rfl; have h2 : room_1.slots = 7293034 := rfl; omega)⟩ rfl (Nat.le_of_ble_eq_true rfl) pd_oldL_same (fun _ _ => pd_old_same _) dL_law_749 (stk' := [.int zr24]) rfl ?_
      refine pd_widen (kc' := (zk + 4)) (ks' := (zs + 24)) (by have h1 : rm_X12_thrown.cells = 0 := rfl; omega) (by have h1 : rm_X12_thrown.slots = 0 := rfl; omega) ?_
      refine pd_iload C dL_law_752 rfl ?_
      refine pd_icmp_eq (tgt := 759) C dL_law_754 (by decide) (fun zc32 => ?_) (fun zc32 => ?_)
      · have hF := pd_t zc32 hF
        refine pd_iload C dL_law_759 rfl ?_
        obtain ⟨zc29, hS, hF⟩ := pd_bd_some hF
        have hTzc29 : zc29 = true → pd_V cx (zk + 4) (zs + 24) 774 [some (.ref 999999), some (.ref 0), some (.ref 92), some (.ref 132), some (.int v), some (.int zr22), some (.int zr23), none] [] zI15 zJ8 (pd_RF Z) n := by
          intro hc
          have hF := pd_t hc hF
          refine pd_iconst (v := 0) C dL_law_774 (by decide) ?_
          cases hF
        have hEzc29 : zc29 = false → pd_V cx (zk + 4) (zs + 24) 776 [some (.ref 999999), some (.ref 0), some (.ref 92), some (.ref 132), some (.int v), some (.int zr22), some (.int zr23), none] [] zI15 zJ8 (pd_RF Z) n := by
          intro hc
          have hF := pd_bf hc hF
          refine pd_goto (tgt := 2086) C dL_law_776 (by decide) ?_
          refine pd_iincG (zz := 5) C dL_law_2086 rfl (by decide) rfl (fun zv8 hzv8 => ?_)
          have hF := pd_let_at hF hzv8
          refine pd_lsE (ls' := [some (.ref 999999), some (.ref 0), some (.ref 92), some (.ref 132), some (.int zv8), some (.int zr22), some (.int zr23), none]) rfl ?_
          refine pd_goto (tgt := 23) C dL_law_2089 (by decide) ?_
          refine pd_wk (ls' := [some (.ref 999999), some (.ref 0), some (.ref 92), some (.ref 132), some (.int zv8), none, none, none]) (And.intro rfl (And.intro rfl (And.intro rfl (And.intro rfl (And.intro rfl True.intro))))) ?_
          exact pd_widen (by omega) (by omega) (KK _ _ _ _ _ hF)
        replace hF := hS
        clear hS
        refine pd_if_ne (tgt := 776) C dL_law_761 (by decide) (fun zc31 => ?_) (fun zc31 => ?_)
        · have hF := pd_f zc31 hF
          cases hF
          exact hEzc29 rfl
        · have hF := pd_t zc31 hF
          refine pd_aload_n C dL_law_764 rfl rfl ?_
          refine pd_iconst (v := 0) C dL_law_765 (by decide) ?_
          obtain ⟨zg54, hF⟩ := pd_gd_some hF
          refine pd_lald C (pd_lt (by decide) hn) sh_132 zg54 dL_law_766 ?_
          refine pd_iload C dL_law_767 rfl ?_
          refine pd_i2l C dL_law_769 ?_
          refine pd_lcmp C dL_law_770 ?_
          refine pd_if_eq (tgt := 776) C dL_law_771 (by decide) (fun zc30 => ?_) (fun zc30 => ?_)
          · have hF := pd_t zc30 hF
            cases hF
            exact hEzc29 rfl
          · have hF := pd_f zc30 hF
            cases hF
            exact hTzc29 rfl
      · have hF := pd_f zc32 hF
        refine pd_iconst (v := 0) C dL_law_757 (by decide) ?_
        cases hF
    have hF := pd_f hs7 hF
    by_cases hs8 : ((xs v.toNatClampNeg) &&& 31) = 8
    · have hF := pd_t hs8 hF
      refine pd_tabAt (tgt := 779) C dL_law_39 hs8 (by decide) (by decide) rfl (by decide) ?_
      refine pd_aload_n C dL_law_779 rfl rfl ?_
      refine pd_aload_n C dL_law_780 rfl rfl ?_
      refine pd_iload C dL_law_781 rfl ?_
      refine pd_iconst (v := 1) C dL_law_783 (by decide) ?_
      refine pd_iadd C dL_law_784 ?_
      obtain ⟨zg55, hF⟩ := pd_gd_some hF
      refine pd_sld C hX hn9 zg55 dL_law_785 ?_
      refine pd_aload_n C dL_law_786 rfl rfl ?_
      refine pd_iload C dL_law_787 rfl ?_
      refine pd_iconst (v := 2) C dL_law_789 (by decide) ?_
      refine pd_iadd C dL_law_790 ?_
      obtain ⟨zg56, hF⟩ := pd_gd_some hF
      refine pd_sld C hX hn9 zg56 dL_law_791 ?_
      refine pd_aload_n C dL_law_792 rfl rfl ?_
      refine pd_iload C dL_law_793 rfl ?_
      refine pd_iconst (v := 3) C dL_law_795 (by decide) ?_
      refine pd_iadd C dL_law_796 ?_
      obtain ⟨zg57, hF⟩ := pd_gd_some hF
      refine pd_sld C hX hn9 zg57 dL_law_797 ?_
      refine pd_aload_n C dL_law_798 rfl rfl ?_
      refine pd_iload C dL_law_799 rfl ?_
      refine pd_iconst (v := 4) C dL_law_801 (by decide) ?_
      refine pd_iadd C dL_law_802 ?_
      obtain ⟨zg58, hF⟩ := pd_gd_some hF
      refine pd_sld C hX hn9 zg58 dL_law_803 ?_
      refine pd_aload_n C dL_law_804 rfl rfl ?_
      obtain ⟨zr25, zI16, zJ9, zh25, hF⟩ := pd_bd3_some hF
      refine pd_callW C [.ref 0, .int (xs (v + 1).toNatClampNeg), .int (xs (v + 2).toNatClampNeg), .int (xs (v + 3).toNatClampNeg), .int (xs (v + 4).toNatClampNeg), .ref 132] [] (em_L_keep (pd_C_st C) hn  zh25) mw_L_keep wd_3_115 ⟨by decide, by decide, (by have h1 : rm_L_keep.cells = 5 := rfl; have h2 : room_1.cells = 601024 := rfl; omega), (by have h1 : rm_L_keep.slots = 30 := rfl; have h2 : room_1.slots = 7293034 := rfl; omega)⟩ rfl (Nat.le_of_ble_eq_true rfl) pd_oldL_same (fun _ _ => pd_old_same _) dL_law_805 (stk' := [.int zr25]) rfl ?_
      refine pd_widen (kc' := (zk + 5)) (ks' := (zs + 30)) (by have h1 : rm_L_keep.cells = 5 := rfl; omega) (by have h1 : rm_L_keep.slots = 30 := rfl; omega) ?_
      refine pd_istore (ls' := [some (.ref 999999), some (.ref 0), some (.ref 92), some (.ref 132), some (.int v), some (.int zr25), none, none]) C dL_law_808 (Nat.le_of_ble_eq_true rfl) rfl rfl ?_
      refine pd_aload_n C dL_law_810 rfl rfl ?_
      refine pd_aload_n C dL_law_811 rfl rfl ?_
      refine pd_iload C dL_law_812 rfl ?_
      refine pd_iconst (v := 1) C dL_law_814 (by decide) ?_
      refine pd_iadd C dL_law_815 ?_
      obtain ⟨zg59, hF⟩ := pd_gd_some hF
      refine pd_sld C hX hn9 zg59 dL_law_816 ?_
      refine pd_aload_n C dL_law_817 rfl rfl ?_
      refine pd_iload C dL_law_818 rfl ?_
      refine pd_iconst (v := 2) C dL_law_820 (by decide) ?_
      refine pd_iadd C dL_law_821 ?_
      obtain ⟨zg60, hF⟩ := pd_gd_some hF
      refine pd_sld C hX hn9 zg60 dL_law_822 ?_
      refine pd_aload_n C dL_law_823 rfl rfl ?_
      refine pd_iload C dL_law_824 rfl ?_
      refine pd_iconst (v := 3) C dL_law_826 (by decide) ?_
      refine pd_iadd C dL_law_827 ?_
      obtain ⟨zg61, hF⟩ := pd_gd_some hF
      refine pd_sld C hX hn9 zg61 dL_law_828 ?_
      refine pd_aload_n C dL_law_829 rfl rfl ?_
      refine pd_iload C dL_law_830 rfl ?_
      refine pd_iconst (v := 4) C dL_law_832 (by decide) ?_
      refine pd_iadd C dL_law_833 ?_
      obtain ⟨zg62, hF⟩ := pd_gd_some hF
      refine pd_sld C hX hn9 zg62 dL_law_834 ?_
      obtain ⟨zr26, zI17, zh26, hF⟩ := pd_bd2_some hF
      refine pd_callV C [.int (xs (v + 1).toNatClampNeg), .int (xs (v + 2).toNatClampNeg), .int (xs (v + 3).toNatClampNeg), .int (xs (v + 4).toNatClampNeg)] [] (em_X12_keep (pd_C_st C) hn  zh26) mw_X12_keep wd_6_76 rfl (by decide) (pd_lt (by decide) hn) sh_92 ⟨by decide, by decide, (by have h1 : rm_X12_keep.cells = 0 := rfl; have h2 : room_1.cells = 601024 := rfl; omega), (by have h1 : rm_X12_keep.slots = 0 := rfl; have h2 : room_1.slots = 7293034 := rfl; omega)⟩ rfl (Nat.le_of_ble_eq_true rfl) pd_oldL_same (fun _ _ => pd_old_same _) dL_law_835 (stk' := [.int zr26]) rfl ?_
      refine pd_widen (kc' := (zk + 5)) (ks' := (zs + 30)) (by have h1 : rm_X12_keep.cells = 0 := rfl; omega) (by have h1 : rm_X12_keep.slots = 0 := rfl; omega) ?_
      refine pd_istore (ls' := [some (.ref 999999), some (.ref 0), some (.ref 92), some (.ref 132), some (.int v), some (.int zr25), some (.int zr26), none]) C dL_law_838 (Nat.le_of_ble_eq_true rfl) rfl rfl ?_
      refine pd_aload_n C dL_law_840 rfl rfl ?_
      obtain ⟨zr27, zh27, hF⟩ := pd_bd_some hF
      refine pd_callV C [] [] (em_X12_thrown (pd_C_st C) hn  zh27) mw_X12_thrown wd_6_18 rfl (by decide) (pd_lt (by decide) hn) sh_92 ⟨by decide, by decide, (by have h1 : rm_X12_thrown.cells = 0 := rfl; have h2 : room_1.cells = 601024 := rfl; omega), (by have h1 : rm_X12_thrown.slots = 0 := rfl; have h2 : room_1.slots = 7293034 := rfl; omega)⟩ rfl (Nat.le_of_ble_eq_true rfl) pd_oldL_same (fun _ _ => pd_old_same _) dL_law_841 (stk' := [.int zr27]) rfl ?_
      refine pd_widen (kc' := (zk + 5)) (ks' := (zs + 30)) (by have h1 : rm_X12_thrown.cells = 0 := rfl; omega) (by have h1 : rm_X12_thrown.slots = 0 := rfl; omega) ?_
      refine pd_iload C dL_law_844 rfl ?_
      refine pd_icmp_eq (tgt := 851) C dL_law_846 (by decide) (fun zc36 => ?_) (fun zc36 => ?_)
      · have hF := pd_t zc36 hF
        refine pd_iload C dL_law_851 rfl ?_
        obtain ⟨zc33, hS, hF⟩ := pd_bd_some hF
        have hTzc33 : zc33 = true → pd_V cx (zk + 5) (zs + 30) 866 [some (.ref 999999), some (.ref 0), some (.ref 92), some (.ref 132), some (.int v), some (.int zr25), some (.int zr26), none] [] zI17 zJ9 (pd_RF Z) n := by
          intro hc
          have hF := pd_t hc hF
          refine pd_iconst (v := 0) C dL_law_866 (by decide) ?_
          cases hF
        have hEzc33 : zc33 = false → pd_V cx (zk + 5) (zs + 30) 868 [some (.ref 999999), some (.ref 0), some (.ref 92), some (.ref 132), some (.int v), some (.int zr25), some (.int zr26), none] [] zI17 zJ9 (pd_RF Z) n := by
          intro hc
          have hF := pd_bf hc hF
          refine pd_goto (tgt := 2086) C dL_law_868 (by decide) ?_
          refine pd_iincG (zz := 5) C dL_law_2086 rfl (by decide) rfl (fun zv9 hzv9 => ?_)
          have hF := pd_let_at hF hzv9
          refine pd_lsE (ls' := [some (.ref 999999), some (.ref 0), some (.ref 92), some (.ref 132), some (.int zv9), some (.int zr25), some (.int zr26), none]) rfl ?_
          refine pd_goto (tgt := 23) C dL_law_2089 (by decide) ?_
          refine pd_wk (ls' := [some (.ref 999999), some (.ref 0), some (.ref 92), some (.ref 132), some (.int zv9), none, none, none]) (And.intro rfl (And.intro rfl (And.intro rfl (And.intro rfl (And.intro rfl True.intro))))) ?_
          exact pd_widen (by omega) (by omega) (KK _ _ _ _ _ hF)
        replace hF := hS
        clear hS
        refine pd_if_ne (tgt := 868) C dL_law_853 (by decide) (fun zc35 => ?_) (fun zc35 => ?_)
        · have hF := pd_f zc35 hF
          cases hF
          exact hEzc33 rfl
        · have hF := pd_t zc35 hF
          refine pd_aload_n C dL_law_856 rfl rfl ?_
          refine pd_iconst (v := 0) C dL_law_857 (by decide) ?_
          obtain ⟨zg63, hF⟩ := pd_gd_some hF
          refine pd_lald C (pd_lt (by decide) hn) sh_132 zg63 dL_law_858 ?_
          refine pd_iload C dL_law_859 rfl ?_
          refine pd_i2l C dL_law_861 ?_
          refine pd_lcmp C dL_law_862 ?_
          refine pd_if_eq (tgt := 868) C dL_law_863 (by decide) (fun zc34 => ?_) (fun zc34 => ?_)
          · have hF := pd_t zc34 hF
            cases hF
            exact hEzc33 rfl
          · have hF := pd_f zc34 hF
            cases hF
            exact hTzc33 rfl
      · have hF := pd_f zc36 hF
        refine pd_iconst (v := 0) C dL_law_849 (by decide) ?_
        cases hF
    have hF := pd_f hs8 hF
    by_cases hs9 : ((xs v.toNatClampNeg) &&& 31) = 9
    · have hF := pd_t hs9 hF
      refine pd_tabAt (tgt := 871) C dL_law_39 hs9 (by decide) (by decide) rfl (by decide) ?_
      refine pd_aload_n C dL_law_871 rfl rfl ?_
      refine pd_aload_n C dL_law_872 rfl rfl ?_
      refine pd_iload C dL_law_873 rfl ?_
      refine pd_iconst (v := 1) C dL_law_875 (by decide) ?_
      refine pd_iadd C dL_law_876 ?_
      obtain ⟨zg64, hF⟩ := pd_gd_some hF
      refine pd_sld C hX hn9 zg64 dL_law_877 ?_
      refine pd_aload_n C dL_law_878 rfl rfl ?_
      refine pd_iload C dL_law_879 rfl ?_
      refine pd_iconst (v := 2) C dL_law_881 (by decide) ?_
      refine pd_iadd C dL_law_882 ?_
      obtain ⟨zg65, hF⟩ := pd_gd_some hF
      refine pd_sld C hX hn9 zg65 dL_law_883 ?_
      refine pd_aload_n C dL_law_884 rfl rfl ?_
      obtain ⟨zr28, zI18, zJ10, zh28, hF⟩ := pd_bd3_some hF
      refine pd_callW C [.ref 0, .int (xs (v + 1).toNatClampNeg), .int (xs (v + 2).toNatClampNeg), .ref 132] [] (em_L_stride (pd_C_st C) hn  zh28) mw_L_stride wd_3_138 ⟨by decide, by decide, (by have h1 : rm_L_stride.cells = 3 := rfl; have h2 : room_1.cells = 601024 := rfl; omega), (by have h1 : rm_L_stride.slots = 18 := rfl; have h2 : room_1.slots = 7293034 := rfl; omega)⟩ rfl (Nat.le_of_ble_eq_true rfl) pd_oldL_same (fun _ _ => pd_old_same _) dL_law_885 (stk' := [.int zr28]) rfl ?_
      refine pd_widen (kc' := (zk + 3)) (ks' := (zs + 18)) (by have h1 : rm_L_stride.cells = 3 := rfl; omega) (by have h1 : rm_L_stride.slots = 18 := rfl; omega) ?_
      refine pd_istore (ls' := [some (.ref 999999), some (.ref 0), some (.ref 92), some (.ref 132), some (.int v), some (.int zr28), none, none]) C dL_law_888 (Nat.le_of_ble_eq_true rfl) rfl rfl ?_
      refine pd_aload_n C dL_law_890 rfl rfl ?_
      refine pd_aload_n C dL_law_891 rfl rfl ?_
      refine pd_iload C dL_law_892 rfl ?_
      refine pd_iconst (v := 1) C dL_law_894 (by decide) ?_
      refine pd_iadd C dL_law_895 ?_
      obtain ⟨zg66, hF⟩ := pd_gd_some hF
      refine pd_sld C hX hn9 zg66 dL_law_896 ?_
      refine pd_aload_n C dL_law_897 rfl rfl ?_
      refine pd_iload C dL_law_898 rfl ?_
      refine pd_iconst (v := 2) C dL_law_900 (by decide) ?_
      refine pd_iadd C dL_law_901 ?_
      obtain ⟨zg67, hF⟩ := pd_gd_some hF
      refine pd_sld C hX hn9 zg67 dL_law_902 ?_
      obtain ⟨zr29, zI19, zh29, hF⟩ := pd_bd2_some hF
      refine pd_callV C [.int (xs (v + 1).toNatClampNeg), .int (xs (v + 2).toNatClampNeg)] [] (em_X12_stride (pd_C_st C) hn  zh29) mw_X12_stride wd_6_81 rfl (by decide) (pd_lt (by decide) hn) sh_92 ⟨by decide, by decide, (by have h1 : rm_X12_stride.cells = 0 := rfl; have h2 : room_1.cells = 601024 := rfl; omega), (by have h1 : rm_X12_stride.slots = 0 := rfl; have h2 : room_1.slots = 7293034 := rfl; omega)⟩ rfl (Nat.le_of_ble_eq_true rfl) pd_oldL_same (fun _ _ => pd_old_same _) dL_law_903 (stk' := [.int zr29]) rfl ?_
      refine pd_widen (kc' := (zk + 3)) (ks' := (zs + 18)) (by have h1 : rm_X12_stride.cells = 0 := rfl; omega) (by have h1 : rm_X12_stride.slots = 0 := rfl; omega) ?_
      refine pd_istore (ls' := [some (.ref 999999), some (.ref 0), some (.ref 92), some (.ref 132), some (.int v), some (.int zr28), some (.int zr29), none]) C dL_law_906 (Nat.le_of_ble_eq_true rfl) rfl rfl ?_
      refine pd_aload_n C dL_law_908 rfl rfl ?_
      obtain ⟨zr30, zh30, hF⟩ := pd_bd_some hF
      refine pd_callV C [] [] (em_X12_thrown (pd_C_st C) hn  zh30) mw_X12_thrown wd_6_18 rfl (by decide) (pd_lt (by decide) hn) sh_92 ⟨by decide, by decide, (by have h1 : rm_X12_thrown.cells = 0 := rfl; have h2 : room_1.cells = 601024 := rfl; omega), (by have h1 : rm_X12_thrown.slots = 0 := rfl; have h2 : room_1.slots = 7293034 := rfl; omega)⟩ rfl (Nat.le_of_ble_eq_true rfl) pd_oldL_same (fun _ _ => pd_old_same _) dL_law_909 (stk' := [.int zr30]) rfl ?_
      refine pd_widen (kc' := (zk + 3)) (ks' := (zs + 18)) (by have h1 : rm_X12_thrown.cells = 0 := rfl; omega) (by have h1 : rm_X12_thrown.slots = 0 := rfl; omega) ?_
      refine pd_iload C dL_law_912 rfl ?_
      refine pd_icmp_eq (tgt := 919) C dL_law_914 (by decide) (fun zc40 => ?_) (fun zc40 => ?_)
      · have hF := pd_t zc40 hF
        refine pd_iload C dL_law_919 rfl ?_
        obtain ⟨zc37, hS, hF⟩ := pd_bd_some hF
        have hTzc37 : zc37 = true → pd_V cx (zk + 3) (zs + 18) 934 [some (.ref 999999), some (.ref 0), some (.ref 92), some (.ref 132), some (.int v), some (.int zr28), some (.int zr29), none] [] zI19 zJ10 (pd_RF Z) n := by
          intro hc
          have hF := pd_t hc hF
          refine pd_iconst (v := 0) C dL_law_934 (by decide) ?_
          cases hF
        have hEzc37 : zc37 = false → pd_V cx (zk + 3) (zs + 18) 936 [some (.ref 999999), some (.ref 0), some (.ref 92), some (.ref 132), some (.int v), some (.int zr28), some (.int zr29), none] [] zI19 zJ10 (pd_RF Z) n := by
          intro hc
          have hF := pd_bf hc hF
          refine pd_goto (tgt := 2086) C dL_law_936 (by decide) ?_
          refine pd_iincG (zz := 5) C dL_law_2086 rfl (by decide) rfl (fun zv10 hzv10 => ?_)
          have hF := pd_let_at hF hzv10
          refine pd_lsE (ls' := [some (.ref 999999), some (.ref 0), some (.ref 92), some (.ref 132), some (.int zv10), some (.int zr28), some (.int zr29), none]) rfl ?_
          refine pd_goto (tgt := 23) C dL_law_2089 (by decide) ?_
          refine pd_wk (ls' := [some (.ref 999999), some (.ref 0), some (.ref 92), some (.ref 132), some (.int zv10), none, none, none]) (And.intro rfl (And.intro rfl (And.intro rfl (And.intro rfl (And.intro rfl True.intro))))) ?_
          exact pd_widen (by omega) (by omega) (KK _ _ _ _ _ hF)
        replace hF := hS
        clear hS
        refine pd_if_ne (tgt := 936) C dL_law_921 (by decide) (fun zc39 => ?_) (fun zc39 => ?_)
        · have hF := pd_f zc39 hF
          cases hF
          exact hEzc37 rfl
        · have hF := pd_t zc39 hF
          refine pd_aload_n C dL_law_924 rfl rfl ?_
          refine pd_iconst (v := 0) C dL_law_925 (by decide) ?_
          obtain ⟨zg68, hF⟩ := pd_gd_some hF
          refine pd_lald C (pd_lt (by decide) hn) sh_132 zg68 dL_law_926 ?_
          refine pd_iload C dL_law_927 rfl ?_
          refine pd_i2l C dL_law_929 ?_
          refine pd_lcmp C dL_law_930 ?_
          refine pd_if_eq (tgt := 936) C dL_law_931 (by decide) (fun zc38 => ?_) (fun zc38 => ?_)
          · have hF := pd_t zc38 hF
            cases hF
            exact hEzc37 rfl
          · have hF := pd_f zc38 hF
            cases hF
            exact hTzc37 rfl
      · have hF := pd_f zc40 hF
        refine pd_iconst (v := 0) C dL_law_917 (by decide) ?_
        cases hF
    have hF := pd_f hs9 hF
    by_cases hs10 : ((xs v.toNatClampNeg) &&& 31) = 10
    · have hF := pd_t hs10 hF
      refine pd_tabAt (tgt := 939) C dL_law_39 hs10 (by decide) (by decide) rfl (by decide) ?_
      refine pd_aload_n C dL_law_939 rfl rfl ?_
      refine pd_aload_n C dL_law_940 rfl rfl ?_
      refine pd_iload C dL_law_941 rfl ?_
      refine pd_iconst (v := 1) C dL_law_943 (by decide) ?_
      refine pd_iadd C dL_law_944 ?_
      obtain ⟨zg69, hF⟩ := pd_gd_some hF
      refine pd_sld C hX hn9 zg69 dL_law_945 ?_
      refine pd_aload_n C dL_law_946 rfl rfl ?_
      refine pd_iload C dL_law_947 rfl ?_
      refine pd_iconst (v := 2) C dL_law_949 (by decide) ?_
      refine pd_iadd C dL_law_950 ?_
      obtain ⟨zg70, hF⟩ := pd_gd_some hF
      refine pd_sld C hX hn9 zg70 dL_law_951 ?_
      refine pd_aload_n C dL_law_952 rfl rfl ?_
      refine pd_iload C dL_law_953 rfl ?_
      refine pd_iconst (v := 3) C dL_law_955 (by decide) ?_
      refine pd_iadd C dL_law_956 ?_
      obtain ⟨zg71, hF⟩ := pd_gd_some hF
      refine pd_sld C hX hn9 zg71 dL_law_957 ?_
      refine pd_aload_n C dL_law_958 rfl rfl ?_
      refine pd_iload C dL_law_959 rfl ?_
      refine pd_iconst (v := 4) C dL_law_961 (by decide) ?_
      refine pd_iadd C dL_law_962 ?_
      obtain ⟨zg72, hF⟩ := pd_gd_some hF
      refine pd_sld C hX hn9 zg72 dL_law_963 ?_
      refine pd_aload_n C dL_law_964 rfl rfl ?_
      obtain ⟨zr31, zI20, zJ11, zh31, hF⟩ := pd_bd3_some hF
      refine pd_callW C [.ref 0, .int (xs (v + 1).toNatClampNeg), .int (xs (v + 2).toNatClampNeg), .int (xs (v + 3).toNatClampNeg), .int (xs (v + 4).toNatClampNeg), .ref 132] [] (em_L_send (pd_C_st C) hn  zh31) mw_L_send wd_3_147 ⟨by decide, by decide, (by have h1 : rm_L_send.cells = 4 := rfl; have h2 : room_1.cells = 601024 := rfl; omega), (by have h1 : rm_L_send.slots = 24 := rfl; have h2 : room_1.slots = 7293034 := rfl; omega)⟩ rfl (Nat.le_of_ble_eq_true rfl) pd_oldL_same (fun _ _ => pd_old_same _) dL_law_965 (stk' := [.int zr31]) rfl ?_
      refine pd_widen (kc' := (zk + 4)) (ks' := (zs + 24)) (by have h1 : rm_L_send.cells = 4 := rfl; omega) (by have h1 : rm_L_send.slots = 24 := rfl; omega) ?_
      refine pd_istore (ls' := [some (.ref 999999), some (.ref 0), some (.ref 92), some (.ref 132), some (.int v), some (.int zr31), none, none]) C dL_law_968 (Nat.le_of_ble_eq_true rfl) rfl rfl ?_
      refine pd_aload_n C dL_law_970 rfl rfl ?_
      refine pd_aload_n C dL_law_971 rfl rfl ?_
      refine pd_iload C dL_law_972 rfl ?_
      refine pd_iconst (v := 1) C dL_law_974 (by decide) ?_
      refine pd_iadd C dL_law_975 ?_
      obtain ⟨zg73, hF⟩ := pd_gd_some hF
      refine pd_sld C hX hn9 zg73 dL_law_976 ?_
      refine pd_aload_n C dL_law_977 rfl rfl ?_
      refine pd_iload C dL_law_978 rfl ?_
      refine pd_iconst (v := 2) C dL_law_980 (by decide) ?_
      refine pd_iadd C dL_law_981 ?_
      obtain ⟨zg74, hF⟩ := pd_gd_some hF
      refine pd_sld C hX hn9 zg74 dL_law_982 ?_
      refine pd_aload_n C dL_law_983 rfl rfl ?_
      refine pd_iload C dL_law_984 rfl ?_
      refine pd_iconst (v := 3) C dL_law_986 (by decide) ?_
      refine pd_iadd C dL_law_987 ?_
      obtain ⟨zg75, hF⟩ := pd_gd_some hF
      refine pd_sld C hX hn9 zg75 dL_law_988 ?_
      refine pd_aload_n C dL_law_989 rfl rfl ?_
      refine pd_iload C dL_law_990 rfl ?_
      refine pd_iconst (v := 4) C dL_law_992 (by decide) ?_
      refine pd_iadd C dL_law_993 ?_
      obtain ⟨zg76, hF⟩ := pd_gd_some hF
      refine pd_sld C hX hn9 zg76 dL_law_994 ?_
      obtain ⟨zr32, zI21, zh32, hF⟩ := pd_bd2_some hF
      refine pd_callV C [.int (xs (v + 1).toNatClampNeg), .int (xs (v + 2).toNatClampNeg), .int (xs (v + 3).toNatClampNeg), .int (xs (v + 4).toNatClampNeg)] [] (em_X12_send (pd_C_st C) hn  zh32) mw_X12_send wd_6_89 rfl (by decide) (pd_lt (by decide) hn) sh_92 ⟨by decide, by decide, (by have h1 : rm_X12_send.cells = 0 := rfl; have h2 : room_1.cells = 601024 := rfl; omega), (by have h1 : rm_X12_send.slots = 0 := rfl; have h2 : room_1.slots = 7293034 := rfl; omega)⟩ rfl (Nat.le_of_ble_eq_true rfl) pd_oldL_same (fun _ _ => pd_old_same _) dL_law_995 (stk' := [.int zr32]) rfl ?_
      refine pd_widen (kc' := (zk + 4)) (ks' := (zs + 24)) (by have h1 : rm_X12_send.cells = 0 := rfl; omega) (by have h1 : rm_X12_send.slots = 0 := rfl; omega) ?_
      refine pd_istore (ls' := [some (.ref 999999), some (.ref 0), some (.ref 92), some (.ref 132), some (.int v), some (.int zr31), some (.int zr32), none]) C dL_law_998 (Nat.le_of_ble_eq_true rfl) rfl rfl ?_
      refine pd_aload_n C dL_law_1000 rfl rfl ?_
      obtain ⟨zr33, zh33, hF⟩ := pd_bd_some hF
      refine pd_callV C [] [] (em_X12_thrown (pd_C_st C) hn  zh33) mw_X12_thrown wd_6_18 rfl (by decide) (pd_lt (by decide) hn) sh_92 ⟨by decide, by decide, (by have h1 : rm_X12_thrown.cells = 0 := rfl; have h2 : room_1.cells = 601024 := rfl; omega), (by have h1 : rm_X12_thrown.slots = 0 := rfl; have h2 : room_1.slots = 7293034 := rfl; omega)⟩ rfl (Nat.le_of_ble_eq_true rfl) pd_oldL_same (fun _ _ => pd_old_same _) dL_law_1001 (stk' := [.int zr33]) rfl ?_
      refine pd_widen (kc' := (zk + 4)) (ks' := (zs + 24)) (by have h1 : rm_X12_thrown.cells = 0 := rfl; omega) (by have h1 : rm_X12_thrown.slots = 0 := rfl; omega) ?_
      refine pd_iload C dL_law_1004 rfl ?_
      refine pd_icmp_eq (tgt := 1011) C dL_law_1006 (by decide) (fun zc44 => ?_) (fun zc44 => ?_)
      · have hF := pd_t zc44 hF
        refine pd_iload C dL_law_1011 rfl ?_
        obtain ⟨zc41, hS, hF⟩ := pd_bd_some hF
        have hTzc41 : zc41 = true → pd_V cx (zk + 4) (zs + 24) 1026 [some (.ref 999999), some (.ref 0), some (.ref 92), some (.ref 132), some (.int v), some (.int zr31), some (.int zr32), none] [] zI21 zJ11 (pd_RF Z) n := by
          intro hc
          have hF := pd_t hc hF
          refine pd_iconst (v := 0) C dL_law_1026 (by decide) ?_
          cases hF
        have hEzc41 : zc41 = false → pd_V cx (zk + 4) (zs + 24) 1028 [some (.ref 999999), some (.ref 0), some (.ref 92), some (.ref 132), some (.int v), some (.int zr31), some (.int zr32), none] [] zI21 zJ11 (pd_RF Z) n := by
          intro hc
          have hF := pd_bf hc hF
          refine pd_goto (tgt := 2086) C dL_law_1028 (by decide) ?_
          refine pd_iincG (zz := 5) C dL_law_2086 rfl (by decide) rfl (fun zv11 hzv11 => ?_)
          have hF := pd_let_at hF hzv11
          refine pd_lsE (ls' := [some (.ref 999999), some (.ref 0), some (.ref 92), some (.ref 132), some (.int zv11), some (.int zr31), some (.int zr32), none]) rfl ?_
          refine pd_goto (tgt := 23) C dL_law_2089 (by decide) ?_
          refine pd_wk (ls' := [some (.ref 999999), some (.ref 0), some (.ref 92), some (.ref 132), some (.int zv11), none, none, none]) (And.intro rfl (And.intro rfl (And.intro rfl (And.intro rfl (And.intro rfl True.intro))))) ?_
          exact pd_widen (by omega) (by omega) (KK _ _ _ _ _ hF)
        replace hF := hS
        clear hS
        refine pd_if_ne (tgt := 1028) C dL_law_1013 (by decide) (fun zc43 => ?_) (fun zc43 => ?_)
        · have hF := pd_f zc43 hF
          cases hF
          exact hEzc41 rfl
        · have hF := pd_t zc43 hF
          refine pd_aload_n C dL_law_1016 rfl rfl ?_
          refine pd_iconst (v := 0) C dL_law_1017 (by decide) ?_
          obtain ⟨zg77, hF⟩ := pd_gd_some hF
          refine pd_lald C (pd_lt (by decide) hn) sh_132 zg77 dL_law_1018 ?_
          refine pd_iload C dL_law_1019 rfl ?_
          refine pd_i2l C dL_law_1021 ?_
          refine pd_lcmp C dL_law_1022 ?_
          refine pd_if_eq (tgt := 1028) C dL_law_1023 (by decide) (fun zc42 => ?_) (fun zc42 => ?_)
          · have hF := pd_t zc42 hF
            cases hF
            exact hEzc41 rfl
          · have hF := pd_f zc42 hF
            cases hF
            exact hTzc41 rfl
      · have hF := pd_f zc44 hF
        refine pd_iconst (v := 0) C dL_law_1009 (by decide) ?_
        cases hF
    have hF := pd_f hs10 hF
    by_cases hs11 : ((xs v.toNatClampNeg) &&& 31) = 11
    · have hF := pd_t hs11 hF
      refine pd_tabAt (tgt := 1031) C dL_law_39 hs11 (by decide) (by decide) rfl (by decide) ?_
      refine pd_aload_n C dL_law_1031 rfl rfl ?_
      refine pd_aload_n C dL_law_1032 rfl rfl ?_
      refine pd_iload C dL_law_1033 rfl ?_
      refine pd_iconst (v := 1) C dL_law_1035 (by decide) ?_
      refine pd_iadd C dL_law_1036 ?_
      obtain ⟨zg78, hF⟩ := pd_gd_some hF
      refine pd_sld C hX hn9 zg78 dL_law_1037 ?_
      refine pd_aload_n C dL_law_1038 rfl rfl ?_
      refine pd_iload C dL_law_1039 rfl ?_
      refine pd_iconst (v := 2) C dL_law_1041 (by decide) ?_
      refine pd_iadd C dL_law_1042 ?_
      obtain ⟨zg79, hF⟩ := pd_gd_some hF
      refine pd_sld C hX hn9 zg79 dL_law_1043 ?_
      refine pd_aload_n C dL_law_1044 rfl rfl ?_
      obtain ⟨zr34, zJ12, zh34, hF⟩ := pd_bd2_some hF
      refine pd_callW C [.ref 0, .int (xs (v + 1).toNatClampNeg), .int (xs (v + 2).toNatClampNeg), .ref 132] [] (em_L_length (pd_C_st C) hn  zh34) mw_L_length wd_3_237 ⟨by decide, by decide, (by have h1 : rm_L_length.cells = 2 := rfl; have h2 : room_1.cells = 601024 := rfl; omega), (by have h1 : rm_L_length.slots = 12 := rfl; have h2 : room_1.slots = 7293034 := rfl; omega)⟩ rfl (Nat.le_of_ble_eq_true rfl) pd_oldL_same (fun _ _ => pd_old_same _) dL_law_1045 (stk' := [.int zr34]) rfl ?_
      refine pd_widen (kc' := (zk + 2)) (ks' := (zs + 12)) (by have h1 : rm_L_length.cells = 2 := rfl; omega) (by have h1 : rm_L_length.slots = 12 := rfl; omega) ?_
      refine pd_istore (ls' := [some (.ref 999999), some (.ref 0), some (.ref 92), some (.ref 132), some (.int v), some (.int zr34), none, none]) C dL_law_1048 (Nat.le_of_ble_eq_true rfl) rfl rfl ?_
      refine pd_aload_n C dL_law_1050 rfl rfl ?_
      refine pd_aload_n C dL_law_1051 rfl rfl ?_
      refine pd_iload C dL_law_1052 rfl ?_
      refine pd_iconst (v := 1) C dL_law_1054 (by decide) ?_
      refine pd_iadd C dL_law_1055 ?_
      obtain ⟨zg80, hF⟩ := pd_gd_some hF
      refine pd_sld C hX hn9 zg80 dL_law_1056 ?_
      refine pd_aload_n C dL_law_1057 rfl rfl ?_
      refine pd_iload C dL_law_1058 rfl ?_
      refine pd_iconst (v := 2) C dL_law_1060 (by decide) ?_
      refine pd_iadd C dL_law_1061 ?_
      obtain ⟨zg81, hF⟩ := pd_gd_some hF
      refine pd_sld C hX hn9 zg81 dL_law_1062 ?_
      obtain ⟨zr35, zI22, zh35, hF⟩ := pd_bd2_some hF
      refine pd_callV C [.int (xs (v + 1).toNatClampNeg), .int (xs (v + 2).toNatClampNeg)] [] (em_X12_length (pd_C_st C) hn  zh35) mw_X12_length wd_6_140 rfl (by decide) (pd_lt (by decide) hn) sh_92 ⟨by decide, by decide, (by have h1 : rm_X12_length.cells = 0 := rfl; have h2 : room_1.cells = 601024 := rfl; omega), (by have h1 : rm_X12_length.slots = 0 := rfl; have h2 : room_1.slots = 7293034 := rfl; omega)⟩ rfl (Nat.le_of_ble_eq_true rfl) pd_oldL_same (fun _ _ => pd_old_same _) dL_law_1063 (stk' := [.int zr35]) rfl ?_
      refine pd_widen (kc' := (zk + 2)) (ks' := (zs + 12)) (by have h1 : rm_X12_length.cells = 0 := rfl; omega) (by have h1 : rm_X12_length.slots = 0 := rfl; omega) ?_
      refine pd_istore (ls' := [some (.ref 999999), some (.ref 0), some (.ref 92), some (.ref 132), some (.int v), some (.int zr34), some (.int zr35), none]) C dL_law_1066 (Nat.le_of_ble_eq_true rfl) rfl rfl ?_
      refine pd_aload_n C dL_law_1068 rfl rfl ?_
      obtain ⟨zr36, zh36, hF⟩ := pd_bd_some hF
      refine pd_callV C [] [] (em_X12_thrown (pd_C_st C) hn  zh36) mw_X12_thrown wd_6_18 rfl (by decide) (pd_lt (by decide) hn) sh_92 ⟨by decide, by decide, (by have h1 : rm_X12_thrown.cells = 0 := rfl; have h2 : room_1.cells = 601024 := rfl; omega), (by have h1 : rm_X12_thrown.slots = 0 := rfl; have h2 : room_1.slots = 7293034 := rfl; omega)⟩ rfl (Nat.le_of_ble_eq_true rfl) pd_oldL_same (fun _ _ => pd_old_same _) dL_law_1069 (stk' := [.int zr36]) rfl ?_
      refine pd_widen (kc' := (zk + 2)) (ks' := (zs + 12)) (by have h1 : rm_X12_thrown.cells = 0 := rfl; omega) (by have h1 : rm_X12_thrown.slots = 0 := rfl; omega) ?_
      refine pd_iload C dL_law_1072 rfl ?_
      refine pd_icmp_eq (tgt := 1079) C dL_law_1074 (by decide) (fun zc48 => ?_) (fun zc48 => ?_)
      · have hF := pd_t zc48 hF
        refine pd_iload C dL_law_1079 rfl ?_
        obtain ⟨zc45, hS, hF⟩ := pd_bd_some hF
        have hTzc45 : zc45 = true → pd_V cx (zk + 2) (zs + 12) 1094 [some (.ref 999999), some (.ref 0), some (.ref 92), some (.ref 132), some (.int v), some (.int zr34), some (.int zr35), none] [] zI22 zJ12 (pd_RF Z) n := by
          intro hc
          have hF := pd_t hc hF
          refine pd_iconst (v := 0) C dL_law_1094 (by decide) ?_
          cases hF
        have hEzc45 : zc45 = false → pd_V cx (zk + 2) (zs + 12) 1096 [some (.ref 999999), some (.ref 0), some (.ref 92), some (.ref 132), some (.int v), some (.int zr34), some (.int zr35), none] [] zI22 zJ12 (pd_RF Z) n := by
          intro hc
          have hF := pd_bf hc hF
          refine pd_goto (tgt := 2086) C dL_law_1096 (by decide) ?_
          refine pd_iincG (zz := 5) C dL_law_2086 rfl (by decide) rfl (fun zv12 hzv12 => ?_)
          have hF := pd_let_at hF hzv12
          refine pd_lsE (ls' := [some (.ref 999999), some (.ref 0), some (.ref 92), some (.ref 132), some (.int zv12), some (.int zr34), some (.int zr35), none]) rfl ?_
          refine pd_goto (tgt := 23) C dL_law_2089 (by decide) ?_
          refine pd_wk (ls' := [some (.ref 999999), some (.ref 0), some (.ref 92), some (.ref 132), some (.int zv12), none, none, none]) (And.intro rfl (And.intro rfl (And.intro rfl (And.intro rfl (And.intro rfl True.intro))))) ?_
          exact pd_widen (by omega) (by omega) (KK _ _ _ _ _ hF)
        replace hF := hS
        clear hS
        refine pd_if_ne (tgt := 1096) C dL_law_1081 (by decide) (fun zc47 => ?_) (fun zc47 => ?_)
        · have hF := pd_f zc47 hF
          cases hF
          exact hEzc45 rfl
        · have hF := pd_t zc47 hF
          refine pd_aload_n C dL_law_1084 rfl rfl ?_
          refine pd_iconst (v := 0) C dL_law_1085 (by decide) ?_
          obtain ⟨zg82, hF⟩ := pd_gd_some hF
          refine pd_lald C (pd_lt (by decide) hn) sh_132 zg82 dL_law_1086 ?_
          refine pd_iload C dL_law_1087 rfl ?_
          refine pd_i2l C dL_law_1089 ?_
          refine pd_lcmp C dL_law_1090 ?_
          refine pd_if_eq (tgt := 1096) C dL_law_1091 (by decide) (fun zc46 => ?_) (fun zc46 => ?_)
          · have hF := pd_t zc46 hF
            cases hF
            exact hEzc45 rfl
          · have hF := pd_f zc46 hF
            cases hF
            exact hTzc45 rfl
      · have hF := pd_f zc48 hF
        refine pd_iconst (v := 0) C dL_law_1077 (by decide) ?_
        cases hF
    have hF := pd_f hs11 hF
    by_cases hs12 : ((xs v.toNatClampNeg) &&& 31) = 12
    · have hF := pd_t hs12 hF
      refine pd_tabAt (tgt := 1099) C dL_law_39 hs12 (by decide) (by decide) rfl (by decide) ?_
      refine pd_aload_n C dL_law_1099 rfl rfl ?_
      refine pd_aload_n C dL_law_1100 rfl rfl ?_
      refine pd_iload C dL_law_1101 rfl ?_
      refine pd_iconst (v := 1) C dL_law_1103 (by decide) ?_
      refine pd_iadd C dL_law_1104 ?_
      obtain ⟨zg83, hF⟩ := pd_gd_some hF
      refine pd_sld C hX hn9 zg83 dL_law_1105 ?_
      refine pd_aload_n C dL_law_1106 rfl rfl ?_
      refine pd_iload C dL_law_1107 rfl ?_
      refine pd_iconst (v := 2) C dL_law_1109 (by decide) ?_
      refine pd_iadd C dL_law_1110 ?_
      obtain ⟨zg84, hF⟩ := pd_gd_some hF
      refine pd_sld C hX hn9 zg84 dL_law_1111 ?_
      refine pd_aload_n C dL_law_1112 rfl rfl ?_
      refine pd_iload C dL_law_1113 rfl ?_
      refine pd_iconst (v := 3) C dL_law_1115 (by decide) ?_
      refine pd_iadd C dL_law_1116 ?_
      obtain ⟨zg85, hF⟩ := pd_gd_some hF
      refine pd_sld C hX hn9 zg85 dL_law_1117 ?_
      refine pd_aload_n C dL_law_1118 rfl rfl ?_
      refine pd_iload C dL_law_1119 rfl ?_
      refine pd_iconst (v := 4) C dL_law_1121 (by decide) ?_
      refine pd_iadd C dL_law_1122 ?_
      obtain ⟨zg86, hF⟩ := pd_gd_some hF
      refine pd_sld C hX hn9 zg86 dL_law_1123 ?_
      refine pd_aload_n C dL_law_1124 rfl rfl ?_
      obtain ⟨zr37, zI23, zJ13, zh37, hF⟩ := pd_bd3_some hF
      refine pd_callW C [.ref 0, .int (xs (v + 1).toNatClampNeg), .int (xs (v + 2).toNatClampNeg), .int (xs (v + 3).toNatClampNeg), .int (xs (v + 4).toNatClampNeg), .ref 132] [] (em_L_cost (pd_C_st C) hn  zh37) mw_L_cost wd_4_4 ⟨by decide, by decide, (by have h1 : rm_L_cost.cells = 4 := rfl; have h2 : room_1.cells = 601024 := rfl; omega), (by have h1 : rm_L_cost.slots = 24 := rfl; have h2 : room_1.slots = 7293034 := rfl; omega)⟩ rfl (Nat.le_of_ble_eq_true rfl) pd_oldL_same (fun _ _ => pd_old_same _) dL_law_1125 (stk' := [.int zr37]) rfl ?_
      refine pd_widen (kc' := (zk + 4)) (ks' := (zs + 24)) (by have h1 : rm_L_cost.cells = 4 := rfl; omega) (by have h1 : rm_L_cost.slots = 24 := rfl; omega) ?_
      refine pd_istore (ls' := [some (.ref 999999), some (.ref 0), some (.ref 92), some (.ref 132), some (.int v), some (.int zr37), none, none]) C dL_law_1128 (Nat.le_of_ble_eq_true rfl) rfl rfl ?_
      refine pd_aload_n C dL_law_1130 rfl rfl ?_
      refine pd_aload_n C dL_law_1131 rfl rfl ?_
      refine pd_iload C dL_law_1132 rfl ?_
      refine pd_iconst (v := 1) C dL_law_1134 (by decide) ?_
      refine pd_iadd C dL_law_1135 ?_
      obtain ⟨zg87, hF⟩ := pd_gd_some hF
      refine pd_sld C hX hn9 zg87 dL_law_1136 ?_
      refine pd_aload_n C dL_law_1137 rfl rfl ?_
      refine pd_iload C dL_law_1138 rfl ?_
      refine pd_iconst (v := 2) C dL_law_1140 (by decide) ?_
      refine pd_iadd C dL_law_1141 ?_
      obtain ⟨zg88, hF⟩ := pd_gd_some hF
      refine pd_sld C hX hn9 zg88 dL_law_1142 ?_
      refine pd_aload_n C dL_law_1143 rfl rfl ?_
      refine pd_iload C dL_law_1144 rfl ?_
      refine pd_iconst (v := 3) C dL_law_1146 (by decide) ?_
      refine pd_iadd C dL_law_1147 ?_
      obtain ⟨zg89, hF⟩ := pd_gd_some hF
      refine pd_sld C hX hn9 zg89 dL_law_1148 ?_
      refine pd_aload_n C dL_law_1149 rfl rfl ?_
      refine pd_iload C dL_law_1150 rfl ?_
      refine pd_iconst (v := 4) C dL_law_1152 (by decide) ?_
      refine pd_iadd C dL_law_1153 ?_
      obtain ⟨zg90, hF⟩ := pd_gd_some hF
      refine pd_sld C hX hn9 zg90 dL_law_1154 ?_
      obtain ⟨zr38, zI24, zh38, hF⟩ := pd_bd2_some hF
      refine pd_callV C [.int (xs (v + 1).toNatClampNeg), .int (xs (v + 2).toNatClampNeg), .int (xs (v + 3).toNatClampNeg), .int (xs (v + 4).toNatClampNeg)] [] (em_X12_cost (pd_C_st C) hn  zh38) mw_X12_cost wd_6_152 rfl (by decide) (pd_lt (by decide) hn) sh_92 ⟨by decide, by decide, (by have h1 : rm_X12_cost.cells = 0 := rfl; have h2 : room_1.cells = 601024 := rfl; omega), (by have h1 : rm_X12_cost.slots = 0 := rfl; have h2 : room_1.slots = 7293034 := rfl; omega)⟩ rfl (Nat.le_of_ble_eq_true rfl) pd_oldL_same (fun _ _ => pd_old_same _) dL_law_1155 (stk' := [.int zr38]) rfl ?_
      refine pd_widen (kc' := (zk + 4)) (ks' := (zs + 24)) (by have h1 : rm_X12_cost.cells = 0 := rfl; omega) (by have h1 : rm_X12_cost.slots = 0 := rfl; omega) ?_
      refine pd_istore (ls' := [some (.ref 999999), some (.ref 0), some (.ref 92), some (.ref 132), some (.int v), some (.int zr37), some (.int zr38), none]) C dL_law_1158 (Nat.le_of_ble_eq_true rfl) rfl rfl ?_
      refine pd_aload_n C dL_law_1160 rfl rfl ?_
      obtain ⟨zr39, zh39, hF⟩ := pd_bd_some hF
      refine pd_callV C [] [] (em_X12_thrown (pd_C_st C) hn  zh39) mw_X12_thrown wd_6_18 rfl (by decide) (pd_lt (by decide) hn) sh_92 ⟨by decide, by decide, (by have h1 : rm_X12_thrown.cells = 0 := rfl; have h2 : room_1.cells = 601024 := rfl; omega), (by have h1 : rm_X12_thrown.slots = 0 := rfl; have h2 : room_1.slots = 7293034 := rfl; omega)⟩ rfl (Nat.le_of_ble_eq_true rfl) pd_oldL_same (fun _ _ => pd_old_same _) dL_law_1161 (stk' := [.int zr39]) rfl ?_
      refine pd_widen (kc' := (zk + 4)) (ks' := (zs + 24)) (by have h1 : rm_X12_thrown.cells = 0 := rfl; omega) (by have h1 : rm_X12_thrown.slots = 0 := rfl; omega) ?_
      refine pd_iload C dL_law_1164 rfl ?_
      refine pd_icmp_eq (tgt := 1171) C dL_law_1166 (by decide) (fun zc52 => ?_) (fun zc52 => ?_)
      · have hF := pd_t zc52 hF
        refine pd_iload C dL_law_1171 rfl ?_
        obtain ⟨zc49, hS, hF⟩ := pd_bd_some hF
        have hTzc49 : zc49 = true → pd_V cx (zk + 4) (zs + 24) 1186 [some (.ref 999999), some (.ref 0), some (.ref 92), some (.ref 132), some (.int v), some (.int zr37), some (.int zr38), none] [] zI24 zJ13 (pd_RF Z) n := by
          intro hc
          have hF := pd_t hc hF
          refine pd_iconst (v := 0) C dL_law_1186 (by decide) ?_
          cases hF
        have hEzc49 : zc49 = false → pd_V cx (zk + 4) (zs + 24) 1188 [some (.ref 999999), some (.ref 0), some (.ref 92), some (.ref 132), some (.int v), some (.int zr37), some (.int zr38), none] [] zI24 zJ13 (pd_RF Z) n := by
          intro hc
          have hF := pd_bf hc hF
          refine pd_goto (tgt := 2086) C dL_law_1188 (by decide) ?_
          refine pd_iincG (zz := 5) C dL_law_2086 rfl (by decide) rfl (fun zv13 hzv13 => ?_)
          have hF := pd_let_at hF hzv13
          refine pd_lsE (ls' := [some (.ref 999999), some (.ref 0), some (.ref 92), some (.ref 132), some (.int zv13), some (.int zr37), some (.int zr38), none]) rfl ?_
          refine pd_goto (tgt := 23) C dL_law_2089 (by decide) ?_
          refine pd_wk (ls' := [some (.ref 999999), some (.ref 0), some (.ref 92), some (.ref 132), some (.int zv13), none, none, none]) (And.intro rfl (And.intro rfl (And.intro rfl (And.intro rfl (And.intro rfl True.intro))))) ?_
          exact pd_widen (by omega) (by omega) (KK _ _ _ _ _ hF)
        replace hF := hS
        clear hS
        refine pd_if_ne (tgt := 1188) C dL_law_1173 (by decide) (fun zc51 => ?_) (fun zc51 => ?_)
        · have hF := pd_f zc51 hF
          cases hF
          exact hEzc49 rfl
        · have hF := pd_t zc51 hF
          refine pd_aload_n C dL_law_1176 rfl rfl ?_
          refine pd_iconst (v := 0) C dL_law_1177 (by decide) ?_
          obtain ⟨zg91, hF⟩ := pd_gd_some hF
          refine pd_lald C (pd_lt (by decide) hn) sh_132 zg91 dL_law_1178 ?_
          refine pd_iload C dL_law_1179 rfl ?_
          refine pd_i2l C dL_law_1181 ?_
          refine pd_lcmp C dL_law_1182 ?_
          refine pd_if_eq (tgt := 1188) C dL_law_1183 (by decide) (fun zc50 => ?_) (fun zc50 => ?_)
          · have hF := pd_t zc50 hF
            cases hF
            exact hEzc49 rfl
          · have hF := pd_f zc50 hF
            cases hF
            exact hTzc49 rfl
      · have hF := pd_f zc52 hF
        refine pd_iconst (v := 0) C dL_law_1169 (by decide) ?_
        cases hF
    have hF := pd_f hs12 hF
    by_cases hs13 : ((xs v.toNatClampNeg) &&& 31) = 13
    · have hF := pd_t hs13 hF
      refine pd_tabAt (tgt := 1191) C dL_law_39 hs13 (by decide) (by decide) rfl (by decide) ?_
      refine pd_aload_n C dL_law_1191 rfl rfl ?_
      refine pd_aload_n C dL_law_1192 rfl rfl ?_
      refine pd_iload C dL_law_1193 rfl ?_
      refine pd_iconst (v := 1) C dL_law_1195 (by decide) ?_
      refine pd_iadd C dL_law_1196 ?_
      obtain ⟨zg92, hF⟩ := pd_gd_some hF
      refine pd_sld C hX hn9 zg92 dL_law_1197 ?_
      refine pd_aload_n C dL_law_1198 rfl rfl ?_
      refine pd_iload C dL_law_1199 rfl ?_
      refine pd_iconst (v := 2) C dL_law_1201 (by decide) ?_
      refine pd_iadd C dL_law_1202 ?_
      obtain ⟨zg93, hF⟩ := pd_gd_some hF
      refine pd_sld C hX hn9 zg93 dL_law_1203 ?_
      refine pd_aload_n C dL_law_1204 rfl rfl ?_
      refine pd_iload C dL_law_1205 rfl ?_
      refine pd_iconst (v := 3) C dL_law_1207 (by decide) ?_
      refine pd_iadd C dL_law_1208 ?_
      obtain ⟨zg94, hF⟩ := pd_gd_some hF
      refine pd_sld C hX hn9 zg94 dL_law_1209 ?_
      refine pd_aload_n C dL_law_1210 rfl rfl ?_
      obtain ⟨zr40, zI25, zJ14, zZ2, zh40, hF⟩ := pd_bd4_some hF
      refine pd_callW C [.ref 0, .int (xs (v + 1).toNatClampNeg), .int (xs (v + 2).toNatClampNeg), .int (xs (v + 3).toNatClampNeg), .ref 132] [] (em_L_best (pd_C_st C) hn  zh40) mw_L_best wd_4_24 ⟨by decide, by decide, (by have h1 : rm_L_best.cells = 4 := rfl; have h2 : room_1.cells = 601024 := rfl; omega), (by have h1 : rm_L_best.slots = 24 := rfl; have h2 : room_1.slots = 7293034 := rfl; omega)⟩ rfl (Nat.le_of_ble_eq_true rfl) pd_oldL_same (fun _ _ => pd_old_same _) dL_law_1211 (stk' := [.int zr40]) rfl ?_
      refine pd_widen (kc' := (zk + 4)) (ks' := (zs + 24)) (by have h1 : rm_L_best.cells = 4 := rfl; omega) (by have h1 : rm_L_best.slots = 24 := rfl; omega) ?_
      refine pd_istore (ls' := [some (.ref 999999), some (.ref 0), some (.ref 92), some (.ref 132), some (.int v), some (.int zr40), none, none]) C dL_law_1214 (Nat.le_of_ble_eq_true rfl) rfl rfl ?_
      refine pd_aload_n C dL_law_1216 rfl rfl ?_
      refine pd_aload_n C dL_law_1217 rfl rfl ?_
      refine pd_iload C dL_law_1218 rfl ?_
      refine pd_iconst (v := 1) C dL_law_1220 (by decide) ?_
      refine pd_iadd C dL_law_1221 ?_
      obtain ⟨zg95, hF⟩ := pd_gd_some hF
      refine pd_sld C hX hn9 zg95 dL_law_1222 ?_
      refine pd_aload_n C dL_law_1223 rfl rfl ?_
      refine pd_iload C dL_law_1224 rfl ?_
      refine pd_iconst (v := 2) C dL_law_1226 (by decide) ?_
      refine pd_iadd C dL_law_1227 ?_
      obtain ⟨zg96, hF⟩ := pd_gd_some hF
      refine pd_sld C hX hn9 zg96 dL_law_1228 ?_
      refine pd_aload_n C dL_law_1229 rfl rfl ?_
      refine pd_iload C dL_law_1230 rfl ?_
      refine pd_iconst (v := 3) C dL_law_1232 (by decide) ?_
      refine pd_iadd C dL_law_1233 ?_
      obtain ⟨zg97, hF⟩ := pd_gd_some hF
      refine pd_sld C hX hn9 zg97 dL_law_1234 ?_
      obtain ⟨zr41, zI26, zh41, hF⟩ := pd_bd2_some hF
      refine pd_callV C [.int (xs (v + 1).toNatClampNeg), .int (xs (v + 2).toNatClampNeg), .int (xs (v + 3).toNatClampNeg)] [] (em_X12_best (pd_C_st C) hn  zh41) mw_X12_best wd_6_160 rfl (by decide) (pd_lt (by decide) hn) sh_92 ⟨by decide, by decide, (by have h1 : rm_X12_best.cells = 0 := rfl; have h2 : room_1.cells = 601024 := rfl; omega), (by have h1 : rm_X12_best.slots = 0 := rfl; have h2 : room_1.slots = 7293034 := rfl; omega)⟩ rfl (Nat.le_of_ble_eq_true rfl) pd_oldL_same (fun _ _ => pd_old_same _) dL_law_1235 (stk' := [.int zr41]) rfl ?_
      refine pd_widen (kc' := (zk + 4)) (ks' := (zs + 24)) (by have h1 : rm_X12_best.cells = 0 := rfl; omega) (by have h1 : rm_X12_best.slots = 0 := rfl; omega) ?_
      refine pd_istore (ls' := [some (.ref 999999), some (.ref 0), some (.ref 92), some (.ref 132), some (.int v), some (.int zr40), some (.int zr41), none]) C dL_law_1238 (Nat.le_of_ble_eq_true rfl) rfl rfl ?_
      refine pd_aload_n C dL_law_1240 rfl rfl ?_
      obtain ⟨zr42, zh42, hF⟩ := pd_bd_some hF
      refine pd_callV C [] [] (em_X12_thrown (pd_C_st C) hn  zh42) mw_X12_thrown wd_6_18 rfl (by decide) (pd_lt (by decide) hn) sh_92 ⟨by decide, by decide, (by have h1 : rm_X12_thrown.cells = 0 := rfl; have h2 : room_1.cells = 601024 := rfl; omega), (by have h1 : rm_X12_thrown.slots = 0 := rfl; have h2 : room_1.slots = 7293034 := rfl; omega)⟩ rfl (Nat.le_of_ble_eq_true rfl) pd_oldL_same (fun _ _ => pd_old_same _) dL_law_1241 (stk' := [.int zr42]) rfl ?_
      refine pd_widen (kc' := (zk + 4)) (ks' := (zs + 24)) (by have h1 : rm_X12_thrown.cells = 0 := rfl; omega) (by have h1 : rm_X12_thrown.slots = 0 := rfl; omega) ?_
      refine pd_iload C dL_law_1244 rfl ?_
      refine pd_icmp_eq (tgt := 1251) C dL_law_1246 (by decide) (fun zc56 => ?_) (fun zc56 => ?_)
      · have hF := pd_t zc56 hF
        refine pd_iload C dL_law_1251 rfl ?_
        obtain ⟨zc53, hS, hF⟩ := pd_bd_some hF
        have hTzc53 : zc53 = true → pd_V cx (zk + 4) (zs + 24) 1266 [some (.ref 999999), some (.ref 0), some (.ref 92), some (.ref 132), some (.int v), some (.int zr40), some (.int zr41), none] [] zI26 zJ14 (pd_RF zZ2) n := by
          intro hc
          have hF := pd_t hc hF
          refine pd_iconst (v := 0) C dL_law_1266 (by decide) ?_
          cases hF
        have hEzc53 : zc53 = false → pd_V cx (zk + 4) (zs + 24) 1268 [some (.ref 999999), some (.ref 0), some (.ref 92), some (.ref 132), some (.int v), some (.int zr40), some (.int zr41), none] [] zI26 zJ14 (pd_RF zZ2) n := by
          intro hc
          have hF := pd_bf hc hF
          refine pd_goto (tgt := 2086) C dL_law_1268 (by decide) ?_
          refine pd_iincG (zz := 5) C dL_law_2086 rfl (by decide) rfl (fun zv14 hzv14 => ?_)
          have hF := pd_let_at hF hzv14
          refine pd_lsE (ls' := [some (.ref 999999), some (.ref 0), some (.ref 92), some (.ref 132), some (.int zv14), some (.int zr40), some (.int zr41), none]) rfl ?_
          refine pd_goto (tgt := 23) C dL_law_2089 (by decide) ?_
          refine pd_wk (ls' := [some (.ref 999999), some (.ref 0), some (.ref 92), some (.ref 132), some (.int zv14), none, none, none]) (And.intro rfl (And.intro rfl (And.intro rfl (And.intro rfl (And.intro rfl True.intro))))) ?_
          exact pd_widen (by omega) (by omega) (KK _ _ _ _ _ hF)
        replace hF := hS
        clear hS
        refine pd_if_ne (tgt := 1268) C dL_law_1253 (by decide) (fun zc55 => ?_) (fun zc55 => ?_)
        · have hF := pd_f zc55 hF
          cases hF
          exact hEzc53 rfl
        · have hF := pd_t zc55 hF
          refine pd_aload_n C dL_law_1256 rfl rfl ?_
          refine pd_iconst (v := 0) C dL_law_1257 (by decide) ?_
          obtain ⟨zg98, hF⟩ := pd_gd_some hF
          refine pd_lald C (pd_lt (by decide) hn) sh_132 zg98 dL_law_1258 ?_
          refine pd_iload C dL_law_1259 rfl ?_
          refine pd_i2l C dL_law_1261 ?_
          refine pd_lcmp C dL_law_1262 ?_
          refine pd_if_eq (tgt := 1268) C dL_law_1263 (by decide) (fun zc54 => ?_) (fun zc54 => ?_)
          · have hF := pd_t zc54 hF
            cases hF
            exact hEzc53 rfl
          · have hF := pd_f zc54 hF
            cases hF
            exact hTzc53 rfl
      · have hF := pd_f zc56 hF
        refine pd_iconst (v := 0) C dL_law_1249 (by decide) ?_
        cases hF
    have hF := pd_f hs13 hF
    by_cases hs14 : ((xs v.toNatClampNeg) &&& 31) = 14
    · have hF := pd_t hs14 hF
      refine pd_tabAt (tgt := 1271) C dL_law_39 hs14 (by decide) (by decide) rfl (by decide) ?_
      refine pd_aload_n C dL_law_1271 rfl rfl ?_
      refine pd_aload_n C dL_law_1272 rfl rfl ?_
      refine pd_iload C dL_law_1273 rfl ?_
      refine pd_iconst (v := 1) C dL_law_1275 (by decide) ?_
      refine pd_iadd C dL_law_1276 ?_
      obtain ⟨zg99, hF⟩ := pd_gd_some hF
      refine pd_sld C hX hn9 zg99 dL_law_1277 ?_
      refine pd_aload_n C dL_law_1278 rfl rfl ?_
      refine pd_iload C dL_law_1279 rfl ?_
      refine pd_iconst (v := 2) C dL_law_1281 (by decide) ?_
      refine pd_iadd C dL_law_1282 ?_
      obtain ⟨zg100, hF⟩ := pd_gd_some hF
      refine pd_sld C hX hn9 zg100 dL_law_1283 ?_
      refine pd_aload_n C dL_law_1284 rfl rfl ?_
      refine pd_iload C dL_law_1285 rfl ?_
      refine pd_iconst (v := 3) C dL_law_1287 (by decide) ?_
      refine pd_iadd C dL_law_1288 ?_
      obtain ⟨zg101, hF⟩ := pd_gd_some hF
      refine pd_sld C hX hn9 zg101 dL_law_1289 ?_
      refine pd_aload_n C dL_law_1290 rfl rfl ?_
      refine pd_iload C dL_law_1291 rfl ?_
      refine pd_iconst (v := 4) C dL_law_1293 (by decide) ?_
      refine pd_iadd C dL_law_1294 ?_
      obtain ⟨zg102, hF⟩ := pd_gd_some hF
      refine pd_sld C hX hn9 zg102 dL_law_1295 ?_
      refine pd_aload_n C dL_law_1296 rfl rfl ?_
      obtain ⟨zr43, zI27, zJ15, zZ3, zh43, hF⟩ := pd_bd4_some hF
      refine pd_callW C [.ref 0, .int (xs (v + 1).toNatClampNeg), .int (xs (v + 2).toNatClampNeg), .int (xs (v + 3).toNatClampNeg), .int (xs (v + 4).toNatClampNeg), .ref 132] [] (em_L_list (pd_C_st C) hn  zh43) mw_L_list wd_4_135 ⟨by decide, by decide, (by have h1 : rm_L_list.cells = 5 := rfl; have h2 : room_1.cells = 601024 := rfl; omega), (by have h1 : rm_L_list.slots = 30 := rfl; have h2 : room_1.slots = 7293034 := rfl; omega)⟩ rfl (Nat.le_of_ble_eq_true rfl) pd_oldL_same (fun _ _ => pd_old_same _) dL_law_1297 (stk' := [.int zr43]) rfl ?_
      refine pd_widen (kc' := (zk + 5)) (ks' := (zs + 30)) (by have h1 : rm_L_list.cells = 5 := rfl; omega) (by have h1 : rm_L_list.slots = 30 := rfl; omega) ?_
      refine pd_istore (ls' := [some (.ref 999999), some (.ref 0), some (.ref 92), some (.ref 132), some (.int v), some (.int zr43), none, none]) C dL_law_1300 (Nat.le_of_ble_eq_true rfl) rfl rfl ?_
      refine pd_aload_n C dL_law_1302 rfl rfl ?_
      refine pd_aload_n C dL_law_1303 rfl rfl ?_
      refine pd_iload C dL_law_1304 rfl ?_
      refine pd_iconst (v := 1) C dL_law_1306 (by decide) ?_
      refine pd_iadd C dL_law_1307 ?_
      obtain ⟨zg103, hF⟩ := pd_gd_some hF
      refine pd_sld C hX hn9 zg103 dL_law_1308 ?_
      refine pd_aload_n C dL_law_1309 rfl rfl ?_
      refine pd_iload C dL_law_1310 rfl ?_
      refine pd_iconst (v := 2) C dL_law_1312 (by decide) ?_
      refine pd_iadd C dL_law_1313 ?_
      obtain ⟨zg104, hF⟩ := pd_gd_some hF
      refine pd_sld C hX hn9 zg104 dL_law_1314 ?_
      refine pd_aload_n C dL_law_1315 rfl rfl ?_
      refine pd_iload C dL_law_1316 rfl ?_
      refine pd_iconst (v := 3) C dL_law_1318 (by decide) ?_
      refine pd_iadd C dL_law_1319 ?_
      obtain ⟨zg105, hF⟩ := pd_gd_some hF
      refine pd_sld C hX hn9 zg105 dL_law_1320 ?_
      refine pd_aload_n C dL_law_1321 rfl rfl ?_
      refine pd_iload C dL_law_1322 rfl ?_
      refine pd_iconst (v := 4) C dL_law_1324 (by decide) ?_
      refine pd_iadd C dL_law_1325 ?_
      obtain ⟨zg106, hF⟩ := pd_gd_some hF
      refine pd_sld C hX hn9 zg106 dL_law_1326 ?_
      obtain ⟨zr44, zI28, zh44, hF⟩ := pd_bd2_some hF
      refine pd_callV C [.int (xs (v + 1).toNatClampNeg), .int (xs (v + 2).toNatClampNeg), .int (xs (v + 3).toNatClampNeg), .int (xs (v + 4).toNatClampNeg)] [] (em_X12_list (pd_C_st C) hn  zh44) mw_X12_list wd_6_205 rfl (by decide) (pd_lt (by decide) hn) sh_92 ⟨by decide, by decide, (by have h1 : rm_X12_list.cells = 0 := rfl; have h2 : room_1.cells = 601024 := rfl; omega), (by have h1 : rm_X12_list.slots = 0 := rfl; have h2 : room_1.slots = 7293034 := rfl; omega)⟩ rfl (Nat.le_of_ble_eq_true rfl) pd_oldL_same (fun _ _ => pd_old_same _) dL_law_1327 (stk' := [.int zr44]) rfl ?_
      refine pd_widen (kc' := (zk + 5)) (ks' := (zs + 30)) (by have h1 : rm_X12_list.cells = 0 := rfl; omega) (by have h1 : rm_X12_list.slots = 0 := rfl; omega) ?_
      refine pd_istore (ls' := [some (.ref 999999), some (.ref 0), some (.ref 92), some (.ref 132), some (.int v), some (.int zr43), some (.int zr44), none]) C dL_law_1330 (Nat.le_of_ble_eq_true rfl) rfl rfl ?_
      refine pd_aload_n C dL_law_1332 rfl rfl ?_
      obtain ⟨zr45, zh45, hF⟩ := pd_bd_some hF
      refine pd_callV C [] [] (em_X12_thrown (pd_C_st C) hn  zh45) mw_X12_thrown wd_6_18 rfl (by decide) (pd_lt (by decide) hn) sh_92 ⟨by decide, by decide, (by have h1 : rm_X12_thrown.cells = 0 := rfl; have h2 : room_1.cells = 601024 := rfl; omega), (by have h1 : rm_X12_thrown.slots = 0 := rfl; have h2 : room_1.slots = 7293034 := rfl; omega)⟩ rfl (Nat.le_of_ble_eq_true rfl) pd_oldL_same (fun _ _ => pd_old_same _) dL_law_1333 (stk' := [.int zr45]) rfl ?_
      refine pd_widen (kc' := (zk + 5)) (ks' := (zs + 30)) (by have h1 : rm_X12_thrown.cells = 0 := rfl; omega) (by have h1 : rm_X12_thrown.slots = 0 := rfl; omega) ?_
      refine pd_iload C dL_law_1336 rfl ?_
      refine pd_icmp_eq (tgt := 1343) C dL_law_1338 (by decide) (fun zc60 => ?_) (fun zc60 => ?_)
      · have hF := pd_t zc60 hF
        refine pd_iload C dL_law_1343 rfl ?_
        obtain ⟨zc57, hS, hF⟩ := pd_bd_some hF
        have hTzc57 : zc57 = true → pd_V cx (zk + 5) (zs + 30) 1358 [some (.ref 999999), some (.ref 0), some (.ref 92), some (.ref 132), some (.int v), some (.int zr43), some (.int zr44), none] [] zI28 zJ15 (pd_RF zZ3) n := by
          intro hc
          have hF := pd_t hc hF
          refine pd_iconst (v := 0) C dL_law_1358 (by decide) ?_
          cases hF
        have hEzc57 : zc57 = false → pd_V cx (zk + 5) (zs + 30) 1360 [some (.ref 999999), some (.ref 0), some (.ref 92), some (.ref 132), some (.int v), some (.int zr43), some (.int zr44), none] [] zI28 zJ15 (pd_RF zZ3) n := by
          intro hc
          have hF := pd_bf hc hF
          refine pd_goto (tgt := 2086) C dL_law_1360 (by decide) ?_
          refine pd_iincG (zz := 5) C dL_law_2086 rfl (by decide) rfl (fun zv15 hzv15 => ?_)
          have hF := pd_let_at hF hzv15
          refine pd_lsE (ls' := [some (.ref 999999), some (.ref 0), some (.ref 92), some (.ref 132), some (.int zv15), some (.int zr43), some (.int zr44), none]) rfl ?_
          refine pd_goto (tgt := 23) C dL_law_2089 (by decide) ?_
          refine pd_wk (ls' := [some (.ref 999999), some (.ref 0), some (.ref 92), some (.ref 132), some (.int zv15), none, none, none]) (And.intro rfl (And.intro rfl (And.intro rfl (And.intro rfl (And.intro rfl True.intro))))) ?_
          exact pd_widen (by omega) (by omega) (KK _ _ _ _ _ hF)
        replace hF := hS
        clear hS
        refine pd_if_ne (tgt := 1360) C dL_law_1345 (by decide) (fun zc59 => ?_) (fun zc59 => ?_)
        · have hF := pd_f zc59 hF
          cases hF
          exact hEzc57 rfl
        · have hF := pd_t zc59 hF
          refine pd_aload_n C dL_law_1348 rfl rfl ?_
          refine pd_iconst (v := 0) C dL_law_1349 (by decide) ?_
          obtain ⟨zg107, hF⟩ := pd_gd_some hF
          refine pd_lald C (pd_lt (by decide) hn) sh_132 zg107 dL_law_1350 ?_
          refine pd_iload C dL_law_1351 rfl ?_
          refine pd_i2l C dL_law_1353 ?_
          refine pd_lcmp C dL_law_1354 ?_
          refine pd_if_eq (tgt := 1360) C dL_law_1355 (by decide) (fun zc58 => ?_) (fun zc58 => ?_)
          · have hF := pd_t zc58 hF
            cases hF
            exact hEzc57 rfl
          · have hF := pd_f zc58 hF
            cases hF
            exact hTzc57 rfl
      · have hF := pd_f zc60 hF
        refine pd_iconst (v := 0) C dL_law_1341 (by decide) ?_
        cases hF
    have hF := pd_f hs14 hF
    by_cases hs15 : ((xs v.toNatClampNeg) &&& 31) = 15
    · have hF := pd_t hs15 hF
      refine pd_tabAt (tgt := 1363) C dL_law_39 hs15 (by decide) (by decide) rfl (by decide) ?_
      refine pd_aload_n C dL_law_1363 rfl rfl ?_
      refine pd_aload_n C dL_law_1364 rfl rfl ?_
      refine pd_iload C dL_law_1365 rfl ?_
      refine pd_iconst (v := 1) C dL_law_1367 (by decide) ?_
      refine pd_iadd C dL_law_1368 ?_
      obtain ⟨zg108, hF⟩ := pd_gd_some hF
      refine pd_sld C hX hn9 zg108 dL_law_1369 ?_
      refine pd_aload_n C dL_law_1370 rfl rfl ?_
      refine pd_iload C dL_law_1371 rfl ?_
      refine pd_iconst (v := 2) C dL_law_1373 (by decide) ?_
      refine pd_iadd C dL_law_1374 ?_
      obtain ⟨zg109, hF⟩ := pd_gd_some hF
      refine pd_sld C hX hn9 zg109 dL_law_1375 ?_
      refine pd_aload_n C dL_law_1376 rfl rfl ?_
      refine pd_iload C dL_law_1377 rfl ?_
      refine pd_iconst (v := 3) C dL_law_1379 (by decide) ?_
      refine pd_iadd C dL_law_1380 ?_
      obtain ⟨zg110, hF⟩ := pd_gd_some hF
      refine pd_sld C hX hn9 zg110 dL_law_1381 ?_
      refine pd_aload_n C dL_law_1382 rfl rfl ?_
      refine pd_iload C dL_law_1383 rfl ?_
      refine pd_iconst (v := 4) C dL_law_1385 (by decide) ?_
      refine pd_iadd C dL_law_1386 ?_
      obtain ⟨zg111, hF⟩ := pd_gd_some hF
      refine pd_sld C hX hn9 zg111 dL_law_1387 ?_
      refine pd_aload_n C dL_law_1388 rfl rfl ?_
      obtain ⟨zr46, zI29, zJ16, zZ4, zh46, hF⟩ := pd_bd4_some hF
      refine pd_callW C [.ref 0, .int (xs (v + 1).toNatClampNeg), .int (xs (v + 2).toNatClampNeg), .int (xs (v + 3).toNatClampNeg), .int (xs (v + 4).toNatClampNeg), .ref 132] [] (em_L_few (pd_C_st C) hn  zh46) mw_L_few wd_4_143 ⟨by decide, by decide, (by have h1 : rm_L_few.cells = 5 := rfl; have h2 : room_1.cells = 601024 := rfl; omega), (by have h1 : rm_L_few.slots = 30 := rfl; have h2 : room_1.slots = 7293034 := rfl; omega)⟩ rfl (Nat.le_of_ble_eq_true rfl) pd_oldL_same (fun _ _ => pd_old_same _) dL_law_1389 (stk' := [.int zr46]) rfl ?_
      refine pd_widen (kc' := (zk + 5)) (ks' := (zs + 30)) (by have h1 : rm_L_few.cells = 5 := rfl; omega) (by have h1 : rm_L_few.slots = 30 := rfl; omega) ?_
      refine pd_istore (ls' := [some (.ref 999999), some (.ref 0), some (.ref 92), some (.ref 132), some (.int v), some (.int zr46), none, none]) C dL_law_1392 (Nat.le_of_ble_eq_true rfl) rfl rfl ?_
      refine pd_aload_n C dL_law_1394 rfl rfl ?_
      refine pd_aload_n C dL_law_1395 rfl rfl ?_
      refine pd_iload C dL_law_1396 rfl ?_
      refine pd_iconst (v := 1) C dL_law_1398 (by decide) ?_
      refine pd_iadd C dL_law_1399 ?_
      obtain ⟨zg112, hF⟩ := pd_gd_some hF
      refine pd_sld C hX hn9 zg112 dL_law_1400 ?_
      refine pd_aload_n C dL_law_1401 rfl rfl ?_
      refine pd_iload C dL_law_1402 rfl ?_
      refine pd_iconst (v := 2) C dL_law_1404 (by decide) ?_
      refine pd_iadd C dL_law_1405 ?_
      obtain ⟨zg113, hF⟩ := pd_gd_some hF
      refine pd_sld C hX hn9 zg113 dL_law_1406 ?_
      refine pd_aload_n C dL_law_1407 rfl rfl ?_
      refine pd_iload C dL_law_1408 rfl ?_
      refine pd_iconst (v := 3) C dL_law_1410 (by decide) ?_
      refine pd_iadd C dL_law_1411 ?_
      obtain ⟨zg114, hF⟩ := pd_gd_some hF
      refine pd_sld C hX hn9 zg114 dL_law_1412 ?_
      refine pd_aload_n C dL_law_1413 rfl rfl ?_
      refine pd_iload C dL_law_1414 rfl ?_
      refine pd_iconst (v := 4) C dL_law_1416 (by decide) ?_
      refine pd_iadd C dL_law_1417 ?_
      obtain ⟨zg115, hF⟩ := pd_gd_some hF
      refine pd_sld C hX hn9 zg115 dL_law_1418 ?_
      obtain ⟨zr47, zI30, zh47, hF⟩ := pd_bd2_some hF
      refine pd_callV C [.int (xs (v + 1).toNatClampNeg), .int (xs (v + 2).toNatClampNeg), .int (xs (v + 3).toNatClampNeg), .int (xs (v + 4).toNatClampNeg)] [] (em_X12_few (pd_C_st C) hn  zh47) mw_X12_few wd_6_209 rfl (by decide) (pd_lt (by decide) hn) sh_92 ⟨by decide, by decide, (by have h1 : rm_X12_few.cells = 0 := rfl; have h2 : room_1.cells = 601024 := rfl; omega), (by have h1 : rm_X12_few.slots = 0 := rfl; have h2 : room_1.slots = 7293034 := rfl; omega)⟩ rfl (Nat.le_of_ble_eq_true rfl) pd_oldL_same (fun _ _ => pd_old_same _) dL_law_1419 (stk' := [.int zr47]) rfl ?_
      refine pd_widen (kc' := (zk + 5)) (ks' := (zs + 30)) (by have h1 : rm_X12_few.cells = 0 := rfl; omega) (by have h1 : rm_X12_few.slots = 0 := rfl; omega) ?_
      refine pd_istore (ls' := [some (.ref 999999), some (.ref 0), some (.ref 92), some (.ref 132), some (.int v), some (.int zr46), some (.int zr47), none]) C dL_law_1422 (Nat.le_of_ble_eq_true rfl) rfl rfl ?_
      refine pd_aload_n C dL_law_1424 rfl rfl ?_
      obtain ⟨zr48, zh48, hF⟩ := pd_bd_some hF
      refine pd_callV C [] [] (em_X12_thrown (pd_C_st C) hn  zh48) mw_X12_thrown wd_6_18 rfl (by decide) (pd_lt (by decide) hn) sh_92 ⟨by decide, by decide, (by have h1 : rm_X12_thrown.cells = 0 := rfl; have h2 : room_1.cells = 601024 := rfl; omega), (by have h1 : rm_X12_thrown.slots = 0 := rfl; have h2 : room_1.slots = 7293034 := rfl; omega)⟩ rfl (Nat.le_of_ble_eq_true rfl) pd_oldL_same (fun _ _ => pd_old_same _) dL_law_1425 (stk' := [.int zr48]) rfl ?_
      refine pd_widen (kc' := (zk + 5)) (ks' := (zs + 30)) (by have h1 : rm_X12_thrown.cells = 0 := rfl; omega) (by have h1 : rm_X12_thrown.slots = 0 := rfl; omega) ?_
      refine pd_iload C dL_law_1428 rfl ?_
      refine pd_icmp_eq (tgt := 1435) C dL_law_1430 (by decide) (fun zc64 => ?_) (fun zc64 => ?_)
      · have hF := pd_t zc64 hF
        refine pd_iload C dL_law_1435 rfl ?_
        obtain ⟨zc61, hS, hF⟩ := pd_bd_some hF
        have hTzc61 : zc61 = true → pd_V cx (zk + 5) (zs + 30) 1450 [some (.ref 999999), some (.ref 0), some (.ref 92), some (.ref 132), some (.int v), some (.int zr46), some (.int zr47), none] [] zI30 zJ16 (pd_RF zZ4) n := by
          intro hc
          have hF := pd_t hc hF
          refine pd_iconst (v := 0) C dL_law_1450 (by decide) ?_
          cases hF
        have hEzc61 : zc61 = false → pd_V cx (zk + 5) (zs + 30) 1452 [some (.ref 999999), some (.ref 0), some (.ref 92), some (.ref 132), some (.int v), some (.int zr46), some (.int zr47), none] [] zI30 zJ16 (pd_RF zZ4) n := by
          intro hc
          have hF := pd_bf hc hF
          refine pd_goto (tgt := 2086) C dL_law_1452 (by decide) ?_
          refine pd_iincG (zz := 5) C dL_law_2086 rfl (by decide) rfl (fun zv16 hzv16 => ?_)
          have hF := pd_let_at hF hzv16
          refine pd_lsE (ls' := [some (.ref 999999), some (.ref 0), some (.ref 92), some (.ref 132), some (.int zv16), some (.int zr46), some (.int zr47), none]) rfl ?_
          refine pd_goto (tgt := 23) C dL_law_2089 (by decide) ?_
          refine pd_wk (ls' := [some (.ref 999999), some (.ref 0), some (.ref 92), some (.ref 132), some (.int zv16), none, none, none]) (And.intro rfl (And.intro rfl (And.intro rfl (And.intro rfl (And.intro rfl True.intro))))) ?_
          exact pd_widen (by omega) (by omega) (KK _ _ _ _ _ hF)
        replace hF := hS
        clear hS
        refine pd_if_ne (tgt := 1452) C dL_law_1437 (by decide) (fun zc63 => ?_) (fun zc63 => ?_)
        · have hF := pd_f zc63 hF
          cases hF
          exact hEzc61 rfl
        · have hF := pd_t zc63 hF
          refine pd_aload_n C dL_law_1440 rfl rfl ?_
          refine pd_iconst (v := 0) C dL_law_1441 (by decide) ?_
          obtain ⟨zg116, hF⟩ := pd_gd_some hF
          refine pd_lald C (pd_lt (by decide) hn) sh_132 zg116 dL_law_1442 ?_
          refine pd_iload C dL_law_1443 rfl ?_
          refine pd_i2l C dL_law_1445 ?_
          refine pd_lcmp C dL_law_1446 ?_
          refine pd_if_eq (tgt := 1452) C dL_law_1447 (by decide) (fun zc62 => ?_) (fun zc62 => ?_)
          · have hF := pd_t zc62 hF
            cases hF
            exact hEzc61 rfl
          · have hF := pd_f zc62 hF
            cases hF
            exact hTzc61 rfl
      · have hF := pd_f zc64 hF
        refine pd_iconst (v := 0) C dL_law_1433 (by decide) ?_
        cases hF
    have hF := pd_f hs15 hF
    by_cases hs16 : ((xs v.toNatClampNeg) &&& 31) = 16
    · have hF := pd_t hs16 hF
      refine pd_tabAt (tgt := 1455) C dL_law_39 hs16 (by decide) (by decide) rfl (by decide) ?_
      refine pd_aload_n C dL_law_1455 rfl rfl ?_
      refine pd_aload_n C dL_law_1456 rfl rfl ?_
      refine pd_iload C dL_law_1457 rfl ?_
      refine pd_iconst (v := 1) C dL_law_1459 (by decide) ?_
      refine pd_iadd C dL_law_1460 ?_
      obtain ⟨zg117, hF⟩ := pd_gd_some hF
      refine pd_sld C hX hn9 zg117 dL_law_1461 ?_
      refine pd_aload_n C dL_law_1462 rfl rfl ?_
      refine pd_iload C dL_law_1463 rfl ?_
      refine pd_iconst (v := 2) C dL_law_1465 (by decide) ?_
      refine pd_iadd C dL_law_1466 ?_
      obtain ⟨zg118, hF⟩ := pd_gd_some hF
      refine pd_sld C hX hn9 zg118 dL_law_1467 ?_
      refine pd_aload_n C dL_law_1468 rfl rfl ?_
      refine pd_iload C dL_law_1469 rfl ?_
      refine pd_iconst (v := 3) C dL_law_1471 (by decide) ?_
      refine pd_iadd C dL_law_1472 ?_
      obtain ⟨zg119, hF⟩ := pd_gd_some hF
      refine pd_sld C hX hn9 zg119 dL_law_1473 ?_
      refine pd_aload_n C dL_law_1474 rfl rfl ?_
      obtain ⟨zr49, zI31, zJ17, zZ5, zh49, hF⟩ := pd_bd4_some hF
      refine pd_callW C [.ref 0, .int (xs (v + 1).toNatClampNeg), .int (xs (v + 2).toNatClampNeg), .int (xs (v + 3).toNatClampNeg), .ref 132] [] (em_L_each (pd_C_st C) hn  zh49) mw_L_each wd_4_174 ⟨by decide, by decide, (by have h1 : rm_L_each.cells = 4 := rfl; have h2 : room_1.cells = 601024 := rfl; omega), (by have h1 : rm_L_each.slots = 24 := rfl; have h2 : room_1.slots = 7293034 := rfl; omega)⟩ rfl (Nat.le_of_ble_eq_true rfl) pd_oldL_same (fun _ _ => pd_old_same _) dL_law_1475 (stk' := [.int zr49]) rfl ?_
      refine pd_widen (kc' := (zk + 4)) (ks' := (zs + 24)) (by have h1 : rm_L_each.cells = 4 := rfl; omega) (by have h1 : rm_L_each.slots = 24 := rfl; omega) ?_
      refine pd_istore (ls' := [some (.ref 999999), some (.ref 0), some (.ref 92), some (.ref 132), some (.int v), some (.int zr49), none, none]) C dL_law_1478 (Nat.le_of_ble_eq_true rfl) rfl rfl ?_
      refine pd_aload_n C dL_law_1480 rfl rfl ?_
      refine pd_aload_n C dL_law_1481 rfl rfl ?_
      refine pd_iload C dL_law_1482 rfl ?_
      refine pd_iconst (v := 1) C dL_law_1484 (by decide) ?_
      refine pd_iadd C dL_law_1485 ?_
      obtain ⟨zg120, hF⟩ := pd_gd_some hF
      refine pd_sld C hX hn9 zg120 dL_law_1486 ?_
      refine pd_aload_n C dL_law_1487 rfl rfl ?_
      refine pd_iload C dL_law_1488 rfl ?_
      refine pd_iconst (v := 2) C dL_law_1490 (by decide) ?_
      refine pd_iadd C dL_law_1491 ?_
      obtain ⟨zg121, hF⟩ := pd_gd_some hF
      refine pd_sld C hX hn9 zg121 dL_law_1492 ?_
      refine pd_aload_n C dL_law_1493 rfl rfl ?_
      refine pd_iload C dL_law_1494 rfl ?_
      refine pd_iconst (v := 3) C dL_law_1496 (by decide) ?_
      refine pd_iadd C dL_law_1497 ?_
      obtain ⟨zg122, hF⟩ := pd_gd_some hF
      refine pd_sld C hX hn9 zg122 dL_law_1498 ?_
      obtain ⟨zr50, zI32, zh50, hF⟩ := pd_bd2_some hF
      refine pd_callV C [.int (xs (v + 1).toNatClampNeg), .int (xs (v + 2).toNatClampNeg), .int (xs (v + 3).toNatClampNeg)] [] (em_X12_each (pd_C_st C) hn  zh50) mw_X12_each wd_6_221 rfl (by decide) (pd_lt (by decide) hn) sh_92 ⟨by decide, by decide, (by have h1 : rm_X12_each.cells = 0 := rfl; have h2 : room_1.cells = 601024 := rfl; omega), (by have h1 : rm_X12_each.slots = 0 := rfl; have h2 : room_1.slots = 7293034 := rfl; omega)⟩ rfl (Nat.le_of_ble_eq_true rfl) pd_oldL_same (fun _ _ => pd_old_same _) dL_law_1499 (stk' := [.int zr50]) rfl ?_
      refine pd_widen (kc' := (zk + 4)) (ks' := (zs + 24)) (by have h1 : rm_X12_each.cells = 0 := rfl; omega) (by have h1 : rm_X12_each.slots = 0 := rfl; omega) ?_
      refine pd_istore (ls' := [some (.ref 999999), some (.ref 0), some (.ref 92), some (.ref 132), some (.int v), some (.int zr49), some (.int zr50), none]) C dL_law_1502 (Nat.le_of_ble_eq_true rfl) rfl rfl ?_
      refine pd_aload_n C dL_law_1504 rfl rfl ?_
      obtain ⟨zr51, zh51, hF⟩ := pd_bd_some hF
      refine pd_callV C [] [] (em_X12_thrown (pd_C_st C) hn  zh51) mw_X12_thrown wd_6_18 rfl (by decide) (pd_lt (by decide) hn) sh_92 ⟨by decide, by decide, (by have h1 : rm_X12_thrown.cells = 0 := rfl; have h2 : room_1.cells = 601024 := rfl; omega), (by have h1 : rm_X12_thrown.slots = 0 := rfl; have h2 : room_1.slots = 7293034 := rfl; omega)⟩ rfl (Nat.le_of_ble_eq_true rfl) pd_oldL_same (fun _ _ => pd_old_same _) dL_law_1505 (stk' := [.int zr51]) rfl ?_
      refine pd_widen (kc' := (zk + 4)) (ks' := (zs + 24)) (by have h1 : rm_X12_thrown.cells = 0 := rfl; omega) (by have h1 : rm_X12_thrown.slots = 0 := rfl; omega) ?_
      refine pd_iload C dL_law_1508 rfl ?_
      refine pd_icmp_eq (tgt := 1515) C dL_law_1510 (by decide) (fun zc68 => ?_) (fun zc68 => ?_)
      · have hF := pd_t zc68 hF
        refine pd_iload C dL_law_1515 rfl ?_
        obtain ⟨zc65, hS, hF⟩ := pd_bd_some hF
        have hTzc65 : zc65 = true → pd_V cx (zk + 4) (zs + 24) 1530 [some (.ref 999999), some (.ref 0), some (.ref 92), some (.ref 132), some (.int v), some (.int zr49), some (.int zr50), none] [] zI32 zJ17 (pd_RF zZ5) n := by
          intro hc
          have hF := pd_t hc hF
          refine pd_iconst (v := 0) C dL_law_1530 (by decide) ?_
          cases hF
        have hEzc65 : zc65 = false → pd_V cx (zk + 4) (zs + 24) 1532 [some (.ref 999999), some (.ref 0), some (.ref 92), some (.ref 132), some (.int v), some (.int zr49), some (.int zr50), none] [] zI32 zJ17 (pd_RF zZ5) n := by
          intro hc
          have hF := pd_bf hc hF
          refine pd_goto (tgt := 2086) C dL_law_1532 (by decide) ?_
          refine pd_iincG (zz := 5) C dL_law_2086 rfl (by decide) rfl (fun zv17 hzv17 => ?_)
          have hF := pd_let_at hF hzv17
          refine pd_lsE (ls' := [some (.ref 999999), some (.ref 0), some (.ref 92), some (.ref 132), some (.int zv17), some (.int zr49), some (.int zr50), none]) rfl ?_
          refine pd_goto (tgt := 23) C dL_law_2089 (by decide) ?_
          refine pd_wk (ls' := [some (.ref 999999), some (.ref 0), some (.ref 92), some (.ref 132), some (.int zv17), none, none, none]) (And.intro rfl (And.intro rfl (And.intro rfl (And.intro rfl (And.intro rfl True.intro))))) ?_
          exact pd_widen (by omega) (by omega) (KK _ _ _ _ _ hF)
        replace hF := hS
        clear hS
        refine pd_if_ne (tgt := 1532) C dL_law_1517 (by decide) (fun zc67 => ?_) (fun zc67 => ?_)
        · have hF := pd_f zc67 hF
          cases hF
          exact hEzc65 rfl
        · have hF := pd_t zc67 hF
          refine pd_aload_n C dL_law_1520 rfl rfl ?_
          refine pd_iconst (v := 0) C dL_law_1521 (by decide) ?_
          obtain ⟨zg123, hF⟩ := pd_gd_some hF
          refine pd_lald C (pd_lt (by decide) hn) sh_132 zg123 dL_law_1522 ?_
          refine pd_iload C dL_law_1523 rfl ?_
          refine pd_i2l C dL_law_1525 ?_
          refine pd_lcmp C dL_law_1526 ?_
          refine pd_if_eq (tgt := 1532) C dL_law_1527 (by decide) (fun zc66 => ?_) (fun zc66 => ?_)
          · have hF := pd_t zc66 hF
            cases hF
            exact hEzc65 rfl
          · have hF := pd_f zc66 hF
            cases hF
            exact hTzc65 rfl
      · have hF := pd_f zc68 hF
        refine pd_iconst (v := 0) C dL_law_1513 (by decide) ?_
        cases hF
    have hF := pd_f hs16 hF
    by_cases hs17 : ((xs v.toNatClampNeg) &&& 31) = 17
    · have hF := pd_t hs17 hF
      refine pd_tabAt (tgt := 1535) C dL_law_39 hs17 (by decide) (by decide) rfl (by decide) ?_
      refine pd_aload_n C dL_law_1535 rfl rfl ?_
      refine pd_aload_n C dL_law_1536 rfl rfl ?_
      refine pd_iload C dL_law_1537 rfl ?_
      refine pd_iconst (v := 1) C dL_law_1539 (by decide) ?_
      refine pd_iadd C dL_law_1540 ?_
      obtain ⟨zg124, hF⟩ := pd_gd_some hF
      refine pd_sld C hX hn9 zg124 dL_law_1541 ?_
      refine pd_aload_n C dL_law_1542 rfl rfl ?_
      refine pd_iload C dL_law_1543 rfl ?_
      refine pd_iconst (v := 2) C dL_law_1545 (by decide) ?_
      refine pd_iadd C dL_law_1546 ?_
      obtain ⟨zg125, hF⟩ := pd_gd_some hF
      refine pd_sld C hX hn9 zg125 dL_law_1547 ?_
      refine pd_aload_n C dL_law_1548 rfl rfl ?_
      refine pd_iload C dL_law_1549 rfl ?_
      refine pd_iconst (v := 3) C dL_law_1551 (by decide) ?_
      refine pd_iadd C dL_law_1552 ?_
      obtain ⟨zg126, hF⟩ := pd_gd_some hF
      refine pd_sld C hX hn9 zg126 dL_law_1553 ?_
      refine pd_aload_n C dL_law_1554 rfl rfl ?_
      refine pd_iload C dL_law_1555 rfl ?_
      refine pd_iconst (v := 4) C dL_law_1557 (by decide) ?_
      refine pd_iadd C dL_law_1558 ?_
      obtain ⟨zg127, hF⟩ := pd_gd_some hF
      refine pd_sld C hX hn9 zg127 dL_law_1559 ?_
      refine pd_aload_n C dL_law_1560 rfl rfl ?_
      obtain ⟨zr52, zI33, zJ18, zZ6, zh52, hF⟩ := pd_bd4_some hF
      refine pd_callW C [.ref 0, .int (xs (v + 1).toNatClampNeg), .int (xs (v + 2).toNatClampNeg), .int (xs (v + 3).toNatClampNeg), .int (xs (v + 4).toNatClampNeg), .ref 132] [] (em_L_talk (pd_C_st C) hn  zh52) mw_L_talk wd_4_204 ⟨by decide, by decide, (by have h1 : rm_L_talk.cells = 5 := rfl; have h2 : room_1.cells = 601024 := rfl; omega), (by have h1 : rm_L_talk.slots = 30 := rfl; have h2 : room_1.slots = 7293034 := rfl; omega)⟩ rfl (Nat.le_of_ble_eq_true rfl) pd_oldL_same (fun _ _ => pd_old_same _) dL_law_1561 (stk' := [.int zr52]) rfl ?_
      refine pd_widen (kc' := (zk + 5)) (ks' := (zs + 30)) (by have h1 : rm_L_talk.cells = 5 := rfl; omega) (by have h1 : rm_L_talk.slots = 30 := rfl; omega) ?_
      refine pd_istore (ls' := [some (.ref 999999), some (.ref 0), some (.ref 92), some (.ref 132), some (.int v), some (.int zr52), none, none]) C dL_law_1564 (Nat.le_of_ble_eq_true rfl) rfl rfl ?_
      refine pd_aload_n C dL_law_1566 rfl rfl ?_
      refine pd_aload_n C dL_law_1567 rfl rfl ?_
      refine pd_iload C dL_law_1568 rfl ?_
      refine pd_iconst (v := 1) C dL_law_1570 (by decide) ?_
      refine pd_iadd C dL_law_1571 ?_
      obtain ⟨zg128, hF⟩ := pd_gd_some hF
      refine pd_sld C hX hn9 zg128 dL_law_1572 ?_
      refine pd_aload_n C dL_law_1573 rfl rfl ?_
      refine pd_iload C dL_law_1574 rfl ?_
      refine pd_iconst (v := 2) C dL_law_1576 (by decide) ?_
      refine pd_iadd C dL_law_1577 ?_
      obtain ⟨zg129, hF⟩ := pd_gd_some hF
      refine pd_sld C hX hn9 zg129 dL_law_1578 ?_
      refine pd_aload_n C dL_law_1579 rfl rfl ?_
      refine pd_iload C dL_law_1580 rfl ?_
      refine pd_iconst (v := 3) C dL_law_1582 (by decide) ?_
      refine pd_iadd C dL_law_1583 ?_
      obtain ⟨zg130, hF⟩ := pd_gd_some hF
      refine pd_sld C hX hn9 zg130 dL_law_1584 ?_
      refine pd_aload_n C dL_law_1585 rfl rfl ?_
      refine pd_iload C dL_law_1586 rfl ?_
      refine pd_iconst (v := 4) C dL_law_1588 (by decide) ?_
      refine pd_iadd C dL_law_1589 ?_
      obtain ⟨zg131, hF⟩ := pd_gd_some hF
      refine pd_sld C hX hn9 zg131 dL_law_1590 ?_
      obtain ⟨zr53, zI34, zh53, hF⟩ := pd_bd2_some hF
      refine pd_callV C [.int (xs (v + 1).toNatClampNeg), .int (xs (v + 2).toNatClampNeg), .int (xs (v + 3).toNatClampNeg), .int (xs (v + 4).toNatClampNeg)] [] (em_X12_talk (pd_C_st C) hn  zh53) mw_X12_talk wd_6_239 rfl (by decide) (pd_lt (by decide) hn) sh_92 ⟨by decide, by decide, (by have h1 : rm_X12_talk.cells = 0 := rfl; have h2 : room_1.cells = 601024 := rfl; omega), (by have h1 : rm_X12_talk.slots = 0 := rfl; have h2 : room_1.slots = 7293034 := rfl; omega)⟩ rfl (Nat.le_of_ble_eq_true rfl) pd_oldL_same (fun _ _ => pd_old_same _) dL_law_1591 (stk' := [.int zr53]) rfl ?_
      refine pd_widen (kc' := (zk + 5)) (ks' := (zs + 30)) (by have h1 : rm_X12_talk.cells = 0 := rfl; omega) (by have h1 : rm_X12_talk.slots = 0 := rfl; omega) ?_
      refine pd_istore (ls' := [some (.ref 999999), some (.ref 0), some (.ref 92), some (.ref 132), some (.int v), some (.int zr52), some (.int zr53), none]) C dL_law_1594 (Nat.le_of_ble_eq_true rfl) rfl rfl ?_
      refine pd_aload_n C dL_law_1596 rfl rfl ?_
      obtain ⟨zr54, zh54, hF⟩ := pd_bd_some hF
      refine pd_callV C [] [] (em_X12_thrown (pd_C_st C) hn  zh54) mw_X12_thrown wd_6_18 rfl (by decide) (pd_lt (by decide) hn) sh_92 ⟨by decide, by decide, (by have h1 : rm_X12_thrown.cells = 0 := rfl; have h2 : room_1.cells = 601024 := rfl; omega), (by have h1 : rm_X12_thrown.slots = 0 := rfl; have h2 : room_1.slots = 7293034 := rfl; omega)⟩ rfl (Nat.le_of_ble_eq_true rfl) pd_oldL_same (fun _ _ => pd_old_same _) dL_law_1597 (stk' := [.int zr54]) rfl ?_
      refine pd_widen (kc' := (zk + 5)) (ks' := (zs + 30)) (by have h1 : rm_X12_thrown.cells = 0 := rfl; omega) (by have h1 : rm_X12_thrown.slots = 0 := rfl; omega) ?_
      refine pd_iload C dL_law_1600 rfl ?_
      refine pd_icmp_eq (tgt := 1607) C dL_law_1602 (by decide) (fun zc72 => ?_) (fun zc72 => ?_)
      · have hF := pd_t zc72 hF
        refine pd_iload C dL_law_1607 rfl ?_
        obtain ⟨zc69, hS, hF⟩ := pd_bd_some hF
        have hTzc69 : zc69 = true → pd_V cx (zk + 5) (zs + 30) 1622 [some (.ref 999999), some (.ref 0), some (.ref 92), some (.ref 132), some (.int v), some (.int zr52), some (.int zr53), none] [] zI34 zJ18 (pd_RF zZ6) n := by
          intro hc
          have hF := pd_t hc hF
          refine pd_iconst (v := 0) C dL_law_1622 (by decide) ?_
          cases hF
        have hEzc69 : zc69 = false → pd_V cx (zk + 5) (zs + 30) 1624 [some (.ref 999999), some (.ref 0), some (.ref 92), some (.ref 132), some (.int v), some (.int zr52), some (.int zr53), none] [] zI34 zJ18 (pd_RF zZ6) n := by
          intro hc
          have hF := pd_bf hc hF
          refine pd_goto (tgt := 2086) C dL_law_1624 (by decide) ?_
          refine pd_iincG (zz := 5) C dL_law_2086 rfl (by decide) rfl (fun zv18 hzv18 => ?_)
          have hF := pd_let_at hF hzv18
          refine pd_lsE (ls' := [some (.ref 999999), some (.ref 0), some (.ref 92), some (.ref 132), some (.int zv18), some (.int zr52), some (.int zr53), none]) rfl ?_
          refine pd_goto (tgt := 23) C dL_law_2089 (by decide) ?_
          refine pd_wk (ls' := [some (.ref 999999), some (.ref 0), some (.ref 92), some (.ref 132), some (.int zv18), none, none, none]) (And.intro rfl (And.intro rfl (And.intro rfl (And.intro rfl (And.intro rfl True.intro))))) ?_
          exact pd_widen (by omega) (by omega) (KK _ _ _ _ _ hF)
        replace hF := hS
        clear hS
        refine pd_if_ne (tgt := 1624) C dL_law_1609 (by decide) (fun zc71 => ?_) (fun zc71 => ?_)
        · have hF := pd_f zc71 hF
          cases hF
          exact hEzc69 rfl
        · have hF := pd_t zc71 hF
          refine pd_aload_n C dL_law_1612 rfl rfl ?_
          refine pd_iconst (v := 0) C dL_law_1613 (by decide) ?_
          obtain ⟨zg132, hF⟩ := pd_gd_some hF
          refine pd_lald C (pd_lt (by decide) hn) sh_132 zg132 dL_law_1614 ?_
          refine pd_iload C dL_law_1615 rfl ?_
          refine pd_i2l C dL_law_1617 ?_
          refine pd_lcmp C dL_law_1618 ?_
          refine pd_if_eq (tgt := 1624) C dL_law_1619 (by decide) (fun zc70 => ?_) (fun zc70 => ?_)
          · have hF := pd_t zc70 hF
            cases hF
            exact hEzc69 rfl
          · have hF := pd_f zc70 hF
            cases hF
            exact hTzc69 rfl
      · have hF := pd_f zc72 hF
        refine pd_iconst (v := 0) C dL_law_1605 (by decide) ?_
        cases hF
    have hF := pd_f hs17 hF
    by_cases hs18 : ((xs v.toNatClampNeg) &&& 31) = 18
    · have hF := pd_t hs18 hF
      refine pd_tabAt (tgt := 1627) C dL_law_39 hs18 (by decide) (by decide) rfl (by decide) ?_
      refine pd_aload_n C dL_law_1627 rfl rfl ?_
      obtain ⟨zr55, zh55, hF⟩ := pd_bd_some hF
      refine pd_callV C [] [] (em_X11_agreed (pd_C_st C) hn  zh55) mw_X11_agreed wd_2_75 rfl (by decide) (pd_lt (by decide) hn) sh_0 ⟨by decide, by decide, (by have h1 : rm_X11_agreed.cells = 0 := rfl; have h2 : room_1.cells = 601024 := rfl; omega), (by have h1 : rm_X11_agreed.slots = 0 := rfl; have h2 : room_1.slots = 7293034 := rfl; omega)⟩ rfl (Nat.le_of_ble_eq_true rfl) pd_oldL_same (fun _ _ => pd_old_same _) dL_law_1628 (stk' := [.int zr55]) rfl ?_
      refine pd_widen (kc' := zk) (ks' := zs) (by have h1 : rm_X11_agreed.cells = 0 := rfl; omega) (by have h1 : rm_X11_agreed.slots = 0 := rfl; omega) ?_
      refine pd_aload_n C dL_law_1631 rfl rfl ?_
      obtain ⟨zr56, zI35, zh56, hF⟩ := pd_bd2_some hF
      refine pd_callV C [] [.int zr55] (em_X12_agreed (pd_C_st C) hn  zh56) mw_X12_agreed wd_7_12 rfl (by decide) (pd_lt (by decide) hn) sh_92 ⟨by decide, by decide, (by have h1 : rm_X12_agreed.cells = 0 := rfl; have h2 : room_1.cells = 601024 := rfl; omega), (by have h1 : rm_X12_agreed.slots = 0 := rfl; have h2 : room_1.slots = 7293034 := rfl; omega)⟩ rfl (Nat.le_of_ble_eq_true rfl) pd_oldL_same (fun _ _ => pd_old_same _) dL_law_1632 (stk' := [.int zr56, .int zr55]) rfl ?_
      refine pd_widen (kc' := zk) (ks' := zs) (by have h1 : rm_X12_agreed.cells = 0 := rfl; omega) (by have h1 : rm_X12_agreed.slots = 0 := rfl; omega) ?_
      refine pd_icmp_eq (tgt := 2086) C dL_law_1635 (by decide) (fun zc73 => ?_) (fun zc73 => ?_)
      · have hF := pd_t zc73 hF
        refine pd_iincG (zz := 5) C dL_law_2086 rfl (by decide) rfl (fun zv19 hzv19 => ?_)
        have hF := pd_let_at hF hzv19
        refine pd_lsE (ls' := [some (.ref 999999), some (.ref 0), some (.ref 92), some (.ref 132), some (.int zv19), none, none, none]) rfl ?_
        refine pd_goto (tgt := 23) C dL_law_2089 (by decide) ?_
        exact pd_widen (by omega) (by omega) (KK _ _ _ _ _ hF)
      · have hF := pd_f zc73 hF
        refine pd_iconst (v := 0) C dL_law_1638 (by decide) ?_
        cases hF
    have hF := pd_f hs18 hF
    by_cases hs19 : ((xs v.toNatClampNeg) &&& 31) = 19
    · have hF := pd_t hs19 hF
      refine pd_tabAt (tgt := 1640) C dL_law_39 hs19 (by decide) (by decide) rfl (by decide) ?_
      refine pd_aload_n C dL_law_1640 rfl rfl ?_
      refine pd_aload_n C dL_law_1641 rfl rfl ?_
      refine pd_iload C dL_law_1642 rfl ?_
      refine pd_iconst (v := 1) C dL_law_1644 (by decide) ?_
      refine pd_iadd C dL_law_1645 ?_
      obtain ⟨zg133, hF⟩ := pd_gd_some hF
      refine pd_sld C hX hn9 zg133 dL_law_1646 ?_
      refine pd_aload_n C dL_law_1647 rfl rfl ?_
      obtain ⟨zr57, zJ19, zh57, hF⟩ := pd_bd2_some hF
      refine pd_callW C [.ref 0, .int (xs (v + 1).toNatClampNeg), .ref 132] [] (em_L_seems (pd_C_st C) hn  zh57) mw_L_seems wd_5_11 ⟨by decide, by decide, (by have h1 : rm_L_seems.cells = 1 := rfl; have h2 : room_1.cells = 601024 := rfl; omega), (by have h1 : rm_L_seems.slots = 6 := rfl; have h2 : room_1.slots = 7293034 := rfl; omega)⟩ rfl (Nat.le_of_ble_eq_true rfl) pd_oldL_same (fun _ _ => pd_old_same _) dL_law_1648 (stk' := [.int zr57]) rfl ?_
      refine pd_widen (kc' := (zk + 1)) (ks' := (zs + 6)) (by have h1 : rm_L_seems.cells = 1 := rfl; omega) (by have h1 : rm_L_seems.slots = 6 := rfl; omega) ?_
      refine pd_istore (ls' := [some (.ref 999999), some (.ref 0), some (.ref 92), some (.ref 132), some (.int v), some (.int zr57), none, none]) C dL_law_1651 (Nat.le_of_ble_eq_true rfl) rfl rfl ?_
      refine pd_aload_n C dL_law_1653 rfl rfl ?_
      refine pd_aload_n C dL_law_1654 rfl rfl ?_
      refine pd_iload C dL_law_1655 rfl ?_
      refine pd_iconst (v := 1) C dL_law_1657 (by decide) ?_
      refine pd_iadd C dL_law_1658 ?_
      obtain ⟨zg134, hF⟩ := pd_gd_some hF
      refine pd_sld C hX hn9 zg134 dL_law_1659 ?_
      obtain ⟨zr58, zI36, zh58, hF⟩ := pd_bd2_some hF
      refine pd_callV C [.int (xs (v + 1).toNatClampNeg)] [] (em_X12_seems (pd_C_st C) hn  zh58) mw_X12_seems wd_7_16 rfl (by decide) (pd_lt (by decide) hn) sh_92 ⟨by decide, by decide, (by have h1 : rm_X12_seems.cells = 0 := rfl; have h2 : room_1.cells = 601024 := rfl; omega), (by have h1 : rm_X12_seems.slots = 0 := rfl; have h2 : room_1.slots = 7293034 := rfl; omega)⟩ rfl (Nat.le_of_ble_eq_true rfl) pd_oldL_same (fun _ _ => pd_old_same _) dL_law_1660 (stk' := [.int zr58]) rfl ?_
      refine pd_widen (kc' := (zk + 1)) (ks' := (zs + 6)) (by have h1 : rm_X12_seems.cells = 0 := rfl; omega) (by have h1 : rm_X12_seems.slots = 0 := rfl; omega) ?_
      refine pd_istore (ls' := [some (.ref 999999), some (.ref 0), some (.ref 92), some (.ref 132), some (.int v), some (.int zr57), some (.int zr58), none]) C dL_law_1663 (Nat.le_of_ble_eq_true rfl) rfl rfl ?_
      refine pd_aload_n C dL_law_1665 rfl rfl ?_
      obtain ⟨zr59, zh59, hF⟩ := pd_bd_some hF
      refine pd_callV C [] [] (em_X12_thrown (pd_C_st C) hn  zh59) mw_X12_thrown wd_6_18 rfl (by decide) (pd_lt (by decide) hn) sh_92 ⟨by decide, by decide, (by have h1 : rm_X12_thrown.cells = 0 := rfl; have h2 : room_1.cells = 601024 := rfl; omega), (by have h1 : rm_X12_thrown.slots = 0 := rfl; have h2 : room_1.slots = 7293034 := rfl; omega)⟩ rfl (Nat.le_of_ble_eq_true rfl) pd_oldL_same (fun _ _ => pd_old_same _) dL_law_1666 (stk' := [.int zr59]) rfl ?_
      refine pd_widen (kc' := (zk + 1)) (ks' := (zs + 6)) (by have h1 : rm_X12_thrown.cells = 0 := rfl; omega) (by have h1 : rm_X12_thrown.slots = 0 := rfl; omega) ?_
      refine pd_iload C dL_law_1669 rfl ?_
      refine pd_icmp_eq (tgt := 1676) C dL_law_1671 (by decide) (fun zc77 => ?_) (fun zc77 => ?_)
      · have hF := pd_t zc77 hF
        refine pd_iload C dL_law_1676 rfl ?_
        obtain ⟨zc74, hS, hF⟩ := pd_bd_some hF
        have hTzc74 : zc74 = true → pd_V cx (zk + 1) (zs + 6) 1691 [some (.ref 999999), some (.ref 0), some (.ref 92), some (.ref 132), some (.int v), some (.int zr57), some (.int zr58), none] [] zI36 zJ19 (pd_RF Z) n := by
          intro hc
          have hF := pd_t hc hF
          refine pd_iconst (v := 0) C dL_law_1691 (by decide) ?_
          cases hF
        have hEzc74 : zc74 = false → pd_V cx (zk + 1) (zs + 6) 1693 [some (.ref 999999), some (.ref 0), some (.ref 92), some (.ref 132), some (.int v), some (.int zr57), some (.int zr58), none] [] zI36 zJ19 (pd_RF Z) n := by
          intro hc
          have hF := pd_bf hc hF
          refine pd_goto (tgt := 2086) C dL_law_1693 (by decide) ?_
          refine pd_iincG (zz := 5) C dL_law_2086 rfl (by decide) rfl (fun zv20 hzv20 => ?_)
          have hF := pd_let_at hF hzv20
          refine pd_lsE (ls' := [some (.ref 999999), some (.ref 0), some (.ref 92), some (.ref 132), some (.int zv20), some (.int zr57), some (.int zr58), none]) rfl ?_
          refine pd_goto (tgt := 23) C dL_law_2089 (by decide) ?_
          refine pd_wk (ls' := [some (.ref 999999), some (.ref 0), some (.ref 92), some (.ref 132), some (.int zv20), none, none, none]) (And.intro rfl (And.intro rfl (And.intro rfl (And.intro rfl (And.intro rfl True.intro))))) ?_
          exact pd_widen (by omega) (by omega) (KK _ _ _ _ _ hF)
        replace hF := hS
        clear hS
        refine pd_if_ne (tgt := 1693) C dL_law_1678 (by decide) (fun zc76 => ?_) (fun zc76 => ?_)
        · have hF := pd_f zc76 hF
          cases hF
          exact hEzc74 rfl
        · have hF := pd_t zc76 hF
          refine pd_aload_n C dL_law_1681 rfl rfl ?_
          refine pd_iconst (v := 0) C dL_law_1682 (by decide) ?_
          obtain ⟨zg135, hF⟩ := pd_gd_some hF
          refine pd_lald C (pd_lt (by decide) hn) sh_132 zg135 dL_law_1683 ?_
          refine pd_iload C dL_law_1684 rfl ?_
          refine pd_i2l C dL_law_1686 ?_
          refine pd_lcmp C dL_law_1687 ?_
          refine pd_if_eq (tgt := 1693) C dL_law_1688 (by decide) (fun zc75 => ?_) (fun zc75 => ?_)
          · have hF := pd_t zc75 hF
            cases hF
            exact hEzc74 rfl
          · have hF := pd_f zc75 hF
            cases hF
            exact hTzc74 rfl
      · have hF := pd_f zc77 hF
        refine pd_iconst (v := 0) C dL_law_1674 (by decide) ?_
        cases hF
    have hF := pd_f hs19 hF
    by_cases hs20 : ((xs v.toNatClampNeg) &&& 31) = 20
    · have hF := pd_t hs20 hF
      refine pd_tabAt (tgt := 1696) C dL_law_39 hs20 (by decide) (by decide) rfl (by decide) ?_
      refine pd_aload_n C dL_law_1696 rfl rfl ?_
      refine pd_aload_n C dL_law_1697 rfl rfl ?_
      refine pd_iload C dL_law_1698 rfl ?_
      refine pd_iconst (v := 1) C dL_law_1700 (by decide) ?_
      refine pd_iadd C dL_law_1701 ?_
      obtain ⟨zg136, hF⟩ := pd_gd_some hF
      refine pd_sld C hX hn9 zg136 dL_law_1702 ?_
      refine pd_aload_n C dL_law_1703 rfl rfl ?_
      refine pd_iload C dL_law_1704 rfl ?_
      refine pd_iconst (v := 2) C dL_law_1706 (by decide) ?_
      refine pd_iadd C dL_law_1707 ?_
      obtain ⟨zg137, hF⟩ := pd_gd_some hF
      refine pd_sld C hX hn9 zg137 dL_law_1708 ?_
      refine pd_aload_n C dL_law_1709 rfl rfl ?_
      obtain ⟨zr60, zJ20, zh60, hF⟩ := pd_bd2_some hF
      refine pd_callW C [.ref 0, .int (xs (v + 1).toNatClampNeg), .int (xs (v + 2).toNatClampNeg), .ref 132] [] (em_L_way (pd_C_st C) hn  zh60) mw_L_way wd_5_19 ⟨by decide, by decide, (by have h1 : rm_L_way.cells = 2 := rfl; have h2 : room_1.cells = 601024 := rfl; omega), (by have h1 : rm_L_way.slots = 12 := rfl; have h2 : room_1.slots = 7293034 := rfl; omega)⟩ rfl (Nat.le_of_ble_eq_true rfl) pd_oldL_same (fun _ _ => pd_old_same _) dL_law_1710 (stk' := [.int zr60]) rfl ?_
      refine pd_widen (kc' := (zk + 2)) (ks' := (zs + 12)) (by have h1 : rm_L_way.cells = 2 := rfl; omega) (by have h1 : rm_L_way.slots = 12 := rfl; omega) ?_
      refine pd_istore (ls' := [some (.ref 999999), some (.ref 0), some (.ref 92), some (.ref 132), some (.int v), some (.int zr60), none, none]) C dL_law_1713 (Nat.le_of_ble_eq_true rfl) rfl rfl ?_
      refine pd_aload_n C dL_law_1715 rfl rfl ?_
      refine pd_aload_n C dL_law_1716 rfl rfl ?_
      refine pd_iload C dL_law_1717 rfl ?_
      refine pd_iconst (v := 1) C dL_law_1719 (by decide) ?_
      refine pd_iadd C dL_law_1720 ?_
      obtain ⟨zg138, hF⟩ := pd_gd_some hF
      refine pd_sld C hX hn9 zg138 dL_law_1721 ?_
      refine pd_aload_n C dL_law_1722 rfl rfl ?_
      refine pd_iload C dL_law_1723 rfl ?_
      refine pd_iconst (v := 2) C dL_law_1725 (by decide) ?_
      refine pd_iadd C dL_law_1726 ?_
      obtain ⟨zg139, hF⟩ := pd_gd_some hF
      refine pd_sld C hX hn9 zg139 dL_law_1727 ?_
      obtain ⟨zr61, zI37, zh61, hF⟩ := pd_bd2_some hF
      refine pd_callV C [.int (xs (v + 1).toNatClampNeg), .int (xs (v + 2).toNatClampNeg)] [] (em_X12_way (pd_C_st C) hn  zh61) mw_X12_way wd_7_20 rfl (by decide) (pd_lt (by decide) hn) sh_92 ⟨by decide, by decide, (by have h1 : rm_X12_way.cells = 0 := rfl; have h2 : room_1.cells = 601024 := rfl; omega), (by have h1 : rm_X12_way.slots = 0 := rfl; have h2 : room_1.slots = 7293034 := rfl; omega)⟩ rfl (Nat.le_of_ble_eq_true rfl) pd_oldL_same (fun _ _ => pd_old_same _) dL_law_1728 (stk' := [.int zr61]) rfl ?_
      refine pd_widen (kc' := (zk + 2)) (ks' := (zs + 12)) (by have h1 : rm_X12_way.cells = 0 := rfl; omega) (by have h1 : rm_X12_way.slots = 0 := rfl; omega) ?_
      refine pd_istore (ls' := [some (.ref 999999), some (.ref 0), some (.ref 92), some (.ref 132), some (.int v), some (.int zr60), some (.int zr61), none]) C dL_law_1731 (Nat.le_of_ble_eq_true rfl) rfl rfl ?_
      refine pd_aload_n C dL_law_1733 rfl rfl ?_
      obtain ⟨zr62, zh62, hF⟩ := pd_bd_some hF
      refine pd_callV C [] [] (em_X12_thrown (pd_C_st C) hn  zh62) mw_X12_thrown wd_6_18 rfl (by decide) (pd_lt (by decide) hn) sh_92 ⟨by decide, by decide, (by have h1 : rm_X12_thrown.cells = 0 := rfl; have h2 : room_1.cells = 601024 := rfl; omega), (by have h1 : rm_X12_thrown.slots = 0 := rfl; have h2 : room_1.slots = 7293034 := rfl; omega)⟩ rfl (Nat.le_of_ble_eq_true rfl) pd_oldL_same (fun _ _ => pd_old_same _) dL_law_1734 (stk' := [.int zr62]) rfl ?_
      refine pd_widen (kc' := (zk + 2)) (ks' := (zs + 12)) (by have h1 : rm_X12_thrown.cells = 0 := rfl; omega) (by have h1 : rm_X12_thrown.slots = 0 := rfl; omega) ?_
      refine pd_iload C dL_law_1737 rfl ?_
      refine pd_icmp_eq (tgt := 1744) C dL_law_1739 (by decide) (fun zc81 => ?_) (fun zc81 => ?_)
      · have hF := pd_t zc81 hF
        refine pd_iload C dL_law_1744 rfl ?_
        obtain ⟨zc78, hS, hF⟩ := pd_bd_some hF
        have hTzc78 : zc78 = true → pd_V cx (zk + 2) (zs + 12) 1759 [some (.ref 999999), some (.ref 0), some (.ref 92), some (.ref 132), some (.int v), some (.int zr60), some (.int zr61), none] [] zI37 zJ20 (pd_RF Z) n := by
          intro hc
          have hF := pd_t hc hF
          refine pd_iconst (v := 0) C dL_law_1759 (by decide) ?_
          cases hF
        have hEzc78 : zc78 = false → pd_V cx (zk + 2) (zs + 12) 1761 [some (.ref 999999), some (.ref 0), some (.ref 92), some (.ref 132), some (.int v), some (.int zr60), some (.int zr61), none] [] zI37 zJ20 (pd_RF Z) n := by
          intro hc
          have hF := pd_bf hc hF
          refine pd_goto (tgt := 2086) C dL_law_1761 (by decide) ?_
          refine pd_iincG (zz := 5) C dL_law_2086 rfl (by decide) rfl (fun zv21 hzv21 => ?_)
          have hF := pd_let_at hF hzv21
          refine pd_lsE (ls' := [some (.ref 999999), some (.ref 0), some (.ref 92), some (.ref 132), some (.int zv21), some (.int zr60), some (.int zr61), none]) rfl ?_
          refine pd_goto (tgt := 23) C dL_law_2089 (by decide) ?_
          refine pd_wk (ls' := [some (.ref 999999), some (.ref 0), some (.ref 92), some (.ref 132), some (.int zv21), none, none, none]) (And.intro rfl (And.intro rfl (And.intro rfl (And.intro rfl (And.intro rfl True.intro))))) ?_
          exact pd_widen (by omega) (by omega) (KK _ _ _ _ _ hF)
        replace hF := hS
        clear hS
        refine pd_if_ne (tgt := 1761) C dL_law_1746 (by decide) (fun zc80 => ?_) (fun zc80 => ?_)
        · have hF := pd_f zc80 hF
          cases hF
          exact hEzc78 rfl
        · have hF := pd_t zc80 hF
          refine pd_aload_n C dL_law_1749 rfl rfl ?_
          refine pd_iconst (v := 0) C dL_law_1750 (by decide) ?_
          obtain ⟨zg140, hF⟩ := pd_gd_some hF
          refine pd_lald C (pd_lt (by decide) hn) sh_132 zg140 dL_law_1751 ?_
          refine pd_iload C dL_law_1752 rfl ?_
          refine pd_i2l C dL_law_1754 ?_
          refine pd_lcmp C dL_law_1755 ?_
          refine pd_if_eq (tgt := 1761) C dL_law_1756 (by decide) (fun zc79 => ?_) (fun zc79 => ?_)
          · have hF := pd_t zc79 hF
            cases hF
            exact hEzc78 rfl
          · have hF := pd_f zc79 hF
            cases hF
            exact hTzc78 rfl
      · have hF := pd_f zc81 hF
        refine pd_iconst (v := 0) C dL_law_1742 (by decide) ?_
        cases hF
    have hF := pd_f hs20 hF
    by_cases hs21 : ((xs v.toNatClampNeg) &&& 31) = 21
    · have hF := pd_t hs21 hF
      refine pd_tabAt (tgt := 1764) C dL_law_39 hs21 (by decide) (by decide) rfl (by decide) ?_
      refine pd_aload_n C dL_law_1764 rfl rfl ?_
      refine pd_aload_n C dL_law_1765 rfl rfl ?_
      refine pd_iload C dL_law_1766 rfl ?_
      refine pd_iconst (v := 1) C dL_law_1768 (by decide) ?_
      refine pd_iadd C dL_law_1769 ?_
      obtain ⟨zg141, hF⟩ := pd_gd_some hF
      refine pd_sld C hX hn9 zg141 dL_law_1770 ?_
      refine pd_aload_n C dL_law_1771 rfl rfl ?_
      refine pd_iload C dL_law_1772 rfl ?_
      refine pd_iconst (v := 2) C dL_law_1774 (by decide) ?_
      refine pd_iadd C dL_law_1775 ?_
      obtain ⟨zg142, hF⟩ := pd_gd_some hF
      refine pd_sld C hX hn9 zg142 dL_law_1776 ?_
      refine pd_aload_n C dL_law_1777 rfl rfl ?_
      obtain ⟨zr63, zI38, zJ21, zh63, hF⟩ := pd_bd3_some hF
      refine pd_callW C [.ref 0, .int (xs (v + 1).toNatClampNeg), .int (xs (v + 2).toNatClampNeg), .ref 132] [] (em_L_take (pd_C_st C) hn  zh63) mw_L_take wd_5_32 ⟨by decide, by decide, (by have h1 : rm_L_take.cells = 2 := rfl; have h2 : room_1.cells = 601024 := rfl; omega), (by have h1 : rm_L_take.slots = 12 := rfl; have h2 : room_1.slots = 7293034 := rfl; omega)⟩ rfl (Nat.le_of_ble_eq_true rfl) pd_oldL_same (fun _ _ => pd_old_same _) dL_law_1778 (stk' := [.int zr63]) rfl ?_
      refine pd_widen (kc' := (zk + 2)) (ks' := (zs + 12)) (by have h1 : rm_L_take.cells = 2 := rfl; omega) (by have h1 : rm_L_take.slots = 12 := rfl; omega) ?_
      refine pd_istore (ls' := [some (.ref 999999), some (.ref 0), some (.ref 92), some (.ref 132), some (.int v), some (.int zr63), none, none]) C dL_law_1781 (Nat.le_of_ble_eq_true rfl) rfl rfl ?_
      refine pd_aload_n C dL_law_1783 rfl rfl ?_
      refine pd_aload_n C dL_law_1784 rfl rfl ?_
      refine pd_iload C dL_law_1785 rfl ?_
      refine pd_iconst (v := 1) C dL_law_1787 (by decide) ?_
      refine pd_iadd C dL_law_1788 ?_
      obtain ⟨zg143, hF⟩ := pd_gd_some hF
      refine pd_sld C hX hn9 zg143 dL_law_1789 ?_
      refine pd_aload_n C dL_law_1790 rfl rfl ?_
      refine pd_iload C dL_law_1791 rfl ?_
      refine pd_iconst (v := 2) C dL_law_1793 (by decide) ?_
      refine pd_iadd C dL_law_1794 ?_
      obtain ⟨zg144, hF⟩ := pd_gd_some hF
      refine pd_sld C hX hn9 zg144 dL_law_1795 ?_
      obtain ⟨zr64, zI39, zh64, hF⟩ := pd_bd2_some hF
      refine pd_callV C [.int (xs (v + 1).toNatClampNeg), .int (xs (v + 2).toNatClampNeg)] [] (em_X12_take (pd_C_st C) hn  zh64) mw_X12_take wd_7_24 rfl (by decide) (pd_lt (by decide) hn) sh_92 ⟨by decide, by decide, (by have h1 : rm_X12_take.cells = 0 := rfl; have h2 : room_1.cells = 601024 := rfl; omega), (by have h1 : rm_X12_take.slots = 0 := rfl; have h2 : room_1.slots = 7293034 := rfl; omega)⟩ rfl (Nat.le_of_ble_eq_true rfl) pd_oldL_same (fun _ _ => pd_old_same _) dL_law_1796 (stk' := [.int zr64]) rfl ?_
      refine pd_widen (kc' := (zk + 2)) (ks' := (zs + 12)) (by have h1 : rm_X12_take.cells = 0 := rfl; omega) (by have h1 : rm_X12_take.slots = 0 := rfl; omega) ?_
      refine pd_istore (ls' := [some (.ref 999999), some (.ref 0), some (.ref 92), some (.ref 132), some (.int v), some (.int zr63), some (.int zr64), none]) C dL_law_1799 (Nat.le_of_ble_eq_true rfl) rfl rfl ?_
      refine pd_aload_n C dL_law_1801 rfl rfl ?_
      obtain ⟨zr65, zh65, hF⟩ := pd_bd_some hF
      refine pd_callV C [] [] (em_X12_thrown (pd_C_st C) hn  zh65) mw_X12_thrown wd_6_18 rfl (by decide) (pd_lt (by decide) hn) sh_92 ⟨by decide, by decide, (by have h1 : rm_X12_thrown.cells = 0 := rfl; have h2 : room_1.cells = 601024 := rfl; omega), (by have h1 : rm_X12_thrown.slots = 0 := rfl; have h2 : room_1.slots = 7293034 := rfl; omega)⟩ rfl (Nat.le_of_ble_eq_true rfl) pd_oldL_same (fun _ _ => pd_old_same _) dL_law_1802 (stk' := [.int zr65]) rfl ?_
      refine pd_widen (kc' := (zk + 2)) (ks' := (zs + 12)) (by have h1 : rm_X12_thrown.cells = 0 := rfl; omega) (by have h1 : rm_X12_thrown.slots = 0 := rfl; omega) ?_
      refine pd_iload C dL_law_1805 rfl ?_
      refine pd_icmp_eq (tgt := 1812) C dL_law_1807 (by decide) (fun zc85 => ?_) (fun zc85 => ?_)
      · have hF := pd_t zc85 hF
        refine pd_iload C dL_law_1812 rfl ?_
        obtain ⟨zc82, hS, hF⟩ := pd_bd_some hF
        have hTzc82 : zc82 = true → pd_V cx (zk + 2) (zs + 12) 1827 [some (.ref 999999), some (.ref 0), some (.ref 92), some (.ref 132), some (.int v), some (.int zr63), some (.int zr64), none] [] zI39 zJ21 (pd_RF Z) n := by
          intro hc
          have hF := pd_t hc hF
          refine pd_iconst (v := 0) C dL_law_1827 (by decide) ?_
          cases hF
        have hEzc82 : zc82 = false → pd_V cx (zk + 2) (zs + 12) 1829 [some (.ref 999999), some (.ref 0), some (.ref 92), some (.ref 132), some (.int v), some (.int zr63), some (.int zr64), none] [] zI39 zJ21 (pd_RF Z) n := by
          intro hc
          have hF := pd_bf hc hF
          refine pd_goto (tgt := 2086) C dL_law_1829 (by decide) ?_
          refine pd_iincG (zz := 5) C dL_law_2086 rfl (by decide) rfl (fun zv22 hzv22 => ?_)
          have hF := pd_let_at hF hzv22
          refine pd_lsE (ls' := [some (.ref 999999), some (.ref 0), some (.ref 92), some (.ref 132), some (.int zv22), some (.int zr63), some (.int zr64), none]) rfl ?_
          refine pd_goto (tgt := 23) C dL_law_2089 (by decide) ?_
          refine pd_wk (ls' := [some (.ref 999999), some (.ref 0), some (.ref 92), some (.ref 132), some (.int zv22), none, none, none]) (And.intro rfl (And.intro rfl (And.intro rfl (And.intro rfl (And.intro rfl True.intro))))) ?_
          exact pd_widen (by omega) (by omega) (KK _ _ _ _ _ hF)
        replace hF := hS
        clear hS
        refine pd_if_ne (tgt := 1829) C dL_law_1814 (by decide) (fun zc84 => ?_) (fun zc84 => ?_)
        · have hF := pd_f zc84 hF
          cases hF
          exact hEzc82 rfl
        · have hF := pd_t zc84 hF
          refine pd_aload_n C dL_law_1817 rfl rfl ?_
          refine pd_iconst (v := 0) C dL_law_1818 (by decide) ?_
          obtain ⟨zg145, hF⟩ := pd_gd_some hF
          refine pd_lald C (pd_lt (by decide) hn) sh_132 zg145 dL_law_1819 ?_
          refine pd_iload C dL_law_1820 rfl ?_
          refine pd_i2l C dL_law_1822 ?_
          refine pd_lcmp C dL_law_1823 ?_
          refine pd_if_eq (tgt := 1829) C dL_law_1824 (by decide) (fun zc83 => ?_) (fun zc83 => ?_)
          · have hF := pd_t zc83 hF
            cases hF
            exact hEzc82 rfl
          · have hF := pd_f zc83 hF
            cases hF
            exact hTzc82 rfl
      · have hF := pd_f zc85 hF
        refine pd_iconst (v := 0) C dL_law_1810 (by decide) ?_
        cases hF
    have hF := pd_f hs21 hF
    by_cases hs22 : ((xs v.toNatClampNeg) &&& 31) = 22
    · have hF := pd_t hs22 hF
      refine pd_tabAt (tgt := 1832) C dL_law_39 hs22 (by decide) (by decide) rfl (by decide) ?_
      refine pd_aload_n C dL_law_1832 rfl rfl ?_
      refine pd_aload_n C dL_law_1833 rfl rfl ?_
      refine pd_iload C dL_law_1834 rfl ?_
      refine pd_iconst (v := 1) C dL_law_1836 (by decide) ?_
      refine pd_iadd C dL_law_1837 ?_
      obtain ⟨zg146, hF⟩ := pd_gd_some hF
      refine pd_sld C hX hn9 zg146 dL_law_1838 ?_
      refine pd_aload_n C dL_law_1839 rfl rfl ?_
      obtain ⟨zr66, zI40, zJ22, zh66, hF⟩ := pd_bd3_some hF
      refine pd_callW C [.ref 0, .int (xs (v + 1).toNatClampNeg), .ref 132] [] (em_L_bad (pd_C_st C) hn  zh66) mw_L_bad wd_5_39 ⟨by decide, by decide, (by have h1 : rm_L_bad.cells = 2 := rfl; have h2 : room_1.cells = 601024 := rfl; omega), (by have h1 : rm_L_bad.slots = 12 := rfl; have h2 : room_1.slots = 7293034 := rfl; omega)⟩ rfl (Nat.le_of_ble_eq_true rfl) pd_oldL_same (fun _ _ => pd_old_same _) dL_law_1840 (stk' := [.int zr66]) rfl ?_
      refine pd_widen (kc' := (zk + 2)) (ks' := (zs + 12)) (by have h1 : rm_L_bad.cells = 2 := rfl; omega) (by have h1 : rm_L_bad.slots = 12 := rfl; omega) ?_
      refine pd_istore (ls' := [some (.ref 999999), some (.ref 0), some (.ref 92), some (.ref 132), some (.int v), some (.int zr66), none, none]) C dL_law_1843 (Nat.le_of_ble_eq_true rfl) rfl rfl ?_
      refine pd_aload_n C dL_law_1845 rfl rfl ?_
      refine pd_aload_n C dL_law_1846 rfl rfl ?_
      refine pd_iload C dL_law_1847 rfl ?_
      refine pd_iconst (v := 1) C dL_law_1849 (by decide) ?_
      refine pd_iadd C dL_law_1850 ?_
      obtain ⟨zg147, hF⟩ := pd_gd_some hF
      refine pd_sld C hX hn9 zg147 dL_law_1851 ?_
      obtain ⟨zr67, zI41, zh67, hF⟩ := pd_bd2_some hF
      refine pd_callV C [.int (xs (v + 1).toNatClampNeg)] [] (em_X12_bad (pd_C_st C) hn  zh67) mw_X12_bad wd_7_28 rfl (by decide) (pd_lt (by decide) hn) sh_92 ⟨by decide, by decide, (by have h1 : rm_X12_bad.cells = 0 := rfl; have h2 : room_1.cells = 601024 := rfl; omega), (by have h1 : rm_X12_bad.slots = 0 := rfl; have h2 : room_1.slots = 7293034 := rfl; omega)⟩ rfl (Nat.le_of_ble_eq_true rfl) pd_oldL_same (fun _ _ => pd_old_same _) dL_law_1852 (stk' := [.int zr67]) rfl ?_
      refine pd_widen (kc' := (zk + 2)) (ks' := (zs + 12)) (by have h1 : rm_X12_bad.cells = 0 := rfl; omega) (by have h1 : rm_X12_bad.slots = 0 := rfl; omega) ?_
      refine pd_istore (ls' := [some (.ref 999999), some (.ref 0), some (.ref 92), some (.ref 132), some (.int v), some (.int zr66), some (.int zr67), none]) C dL_law_1855 (Nat.le_of_ble_eq_true rfl) rfl rfl ?_
      refine pd_aload_n C dL_law_1857 rfl rfl ?_
      obtain ⟨zr68, zh68, hF⟩ := pd_bd_some hF
      refine pd_callV C [] [] (em_X12_thrown (pd_C_st C) hn  zh68) mw_X12_thrown wd_6_18 rfl (by decide) (pd_lt (by decide) hn) sh_92 ⟨by decide, by decide, (by have h1 : rm_X12_thrown.cells = 0 := rfl; have h2 : room_1.cells = 601024 := rfl; omega), (by have h1 : rm_X12_thrown.slots = 0 := rfl; have h2 : room_1.slots = 7293034 := rfl; omega)⟩ rfl (Nat.le_of_ble_eq_true rfl) pd_oldL_same (fun _ _ => pd_old_same _) dL_law_1858 (stk' := [.int zr68]) rfl ?_
      refine pd_widen (kc' := (zk + 2)) (ks' := (zs + 12)) (by have h1 : rm_X12_thrown.cells = 0 := rfl; omega) (by have h1 : rm_X12_thrown.slots = 0 := rfl; omega) ?_
      refine pd_iload C dL_law_1861 rfl ?_
      refine pd_icmp_eq (tgt := 1868) C dL_law_1863 (by decide) (fun zc89 => ?_) (fun zc89 => ?_)
      · have hF := pd_t zc89 hF
        refine pd_iload C dL_law_1868 rfl ?_
        refine pd_jn_use hF (fun j => ∀ (_u : Unit), j _u = some out → pd_V cx (zk + 2) (zs + 12) 1892 [some (.ref 999999), some (.ref 0), some (.ref 92), some (.ref 132), some (.int v), none, none, none] [] zI41 zJ22 (pd_RF Z) n) (fun _u hF => ?_) (fun zj2 hzj2 hF => ?_)
        · refine pd_goto (tgt := 2086) C dL_law_1892 (by decide) ?_
          refine pd_iincG (zz := 5) C dL_law_2086 rfl (by decide) rfl (fun zv23 hzv23 => ?_)
          have hF := pd_let_at hF hzv23
          refine pd_lsE (ls' := [some (.ref 999999), some (.ref 0), some (.ref 92), some (.ref 132), some (.int zv23), none, none, none]) rfl ?_
          refine pd_goto (tgt := 23) C dL_law_2089 (by decide) ?_
          exact pd_widen (by omega) (by omega) (KK _ _ _ _ _ hF)
        · refine pd_if_ne (tgt := 1892) C dL_law_1870 (by decide) (fun zc88 => ?_) (fun zc88 => ?_)
          · have hF := pd_f zc88 hF
            refine pd_wk (ls' := [some (.ref 999999), some (.ref 0), some (.ref 92), some (.ref 132), some (.int v), none, none, none]) (And.intro rfl (And.intro rfl (And.intro rfl (And.intro rfl (And.intro rfl True.intro))))) ?_
            exact hzj2 _ hF
          · have hF := pd_t zc88 hF
            refine pd_aload_n C dL_law_1873 rfl rfl ?_
            refine pd_iconst (v := 0) C dL_law_1874 (by decide) ?_
            obtain ⟨zg148, hF⟩ := pd_gd_some hF
            refine pd_lald C (pd_lt (by decide) hn) sh_132 zg148 dL_law_1875 ?_
            refine pd_iload C dL_law_1876 rfl ?_
            obtain ⟨zy2, hS, hF⟩ := pd_bd_some hF
            have hJ1886 : pd_V cx (zk + 2) (zs + 12) 1886 [some (.ref 999999), some (.ref 0), some (.ref 92), some (.ref 132), some (.int v), none, none, none] [.long zy2, .long (zJ22 132 (0 : Int32).toNatClampNeg)] zI41 zJ22 (pd_RF Z) n := by
              refine pd_lcmp C dL_law_1886 ?_
              refine pd_if_eq (tgt := 1892) C dL_law_1887 (by decide) (fun zc86 => ?_) (fun zc86 => ?_)
              · have hF := pd_t zc86 hF
                exact hzj2 _ hF
              · have hF := pd_f zc86 hF
                refine pd_iconst (v := 0) C dL_law_1890 (by decide) ?_
                cases hF
            replace hF := hS
            clear hS
            refine pd_if_eq (tgt := 1885) C dL_law_1878 (by decide) (fun zc87 => ?_) (fun zc87 => ?_)
            · have hF := pd_t zc87 hF
              refine pd_lconst (v := 0) C dL_law_1885 (by decide) ?_
              refine pd_wk (ls' := [some (.ref 999999), some (.ref 0), some (.ref 92), some (.ref 132), some (.int v), none, none, none]) (And.intro rfl (And.intro rfl (And.intro rfl (And.intro rfl (And.intro rfl True.intro))))) ?_
              have hF := hF.symm
              cases hF
              exact hJ1886
            · have hF := pd_f zc87 hF
              refine pd_lconst (v := 1) C dL_law_1881 (by decide) ?_
              refine pd_goto (tgt := 1886) C dL_law_1882 (by decide) ?_
              refine pd_wk (ls' := [some (.ref 999999), some (.ref 0), some (.ref 92), some (.ref 132), some (.int v), none, none, none]) (And.intro rfl (And.intro rfl (And.intro rfl (And.intro rfl (And.intro rfl True.intro))))) ?_
              have hF := hF.symm
              cases hF
              exact hJ1886
      · have hF := pd_f zc89 hF
        refine pd_iconst (v := 0) C dL_law_1866 (by decide) ?_
        cases hF
    have hF := pd_f hs22 hF
    by_cases hs23 : ((xs v.toNatClampNeg) &&& 31) = 23
    · have hF := pd_t hs23 hF
      refine pd_tabAt (tgt := 1895) C dL_law_39 hs23 (by decide) (by decide) rfl (by decide) ?_
      refine pd_aload_n C dL_law_1895 rfl rfl ?_
      refine pd_aload_n C dL_law_1896 rfl rfl ?_
      refine pd_iload C dL_law_1897 rfl ?_
      refine pd_iconst (v := 1) C dL_law_1899 (by decide) ?_
      refine pd_iadd C dL_law_1900 ?_
      obtain ⟨zg149, hF⟩ := pd_gd_some hF
      refine pd_sld C hX hn9 zg149 dL_law_1901 ?_
      refine pd_aload_n C dL_law_1902 rfl rfl ?_
      obtain ⟨zr69, zI42, zJ23, zh69, hF⟩ := pd_bd3_some hF
      refine pd_callW C [.ref 0, .int (xs (v + 1).toNatClampNeg), .ref 132] [] (em_L_free (pd_C_st C) hn  zh69) mw_L_free wd_5_73 ⟨by decide, by decide, (by have h1 : rm_L_free.cells = 2 := rfl; have h2 : room_1.cells = 601024 := rfl; omega), (by have h1 : rm_L_free.slots = 12 := rfl; have h2 : room_1.slots = 7293034 := rfl; omega)⟩ rfl (Nat.le_of_ble_eq_true rfl) pd_oldL_same (fun _ _ => pd_old_same _) dL_law_1903 (stk' := [.int zr69]) rfl ?_
      refine pd_widen (kc' := (zk + 2)) (ks' := (zs + 12)) (by have h1 : rm_L_free.cells = 2 := rfl; omega) (by have h1 : rm_L_free.slots = 12 := rfl; omega) ?_
      refine pd_istore (ls' := [some (.ref 999999), some (.ref 0), some (.ref 92), some (.ref 132), some (.int v), some (.int zr69), none, none]) C dL_law_1906 (Nat.le_of_ble_eq_true rfl) rfl rfl ?_
      refine pd_aload_n C dL_law_1908 rfl rfl ?_
      refine pd_aload_n C dL_law_1909 rfl rfl ?_
      refine pd_iload C dL_law_1910 rfl ?_
      refine pd_iconst (v := 1) C dL_law_1912 (by decide) ?_
      refine pd_iadd C dL_law_1913 ?_
      obtain ⟨zg150, hF⟩ := pd_gd_some hF
      refine pd_sld C hX hn9 zg150 dL_law_1914 ?_
      obtain ⟨zr70, zI43, zh70, hF⟩ := pd_bd2_some hF
      refine pd_callV C [.int (xs (v + 1).toNatClampNeg)] [] (em_X12_free (pd_C_st C) hn  zh70) mw_X12_free wd_7_44 rfl (by decide) (pd_lt (by decide) hn) sh_92 ⟨by decide, by decide, (by have h1 : rm_X12_free.cells = 0 := rfl; have h2 : room_1.cells = 601024 := rfl; omega), (by have h1 : rm_X12_free.slots = 0 := rfl; have h2 : room_1.slots = 7293034 := rfl; omega)⟩ rfl (Nat.le_of_ble_eq_true rfl) pd_oldL_same (fun _ _ => pd_old_same _) dL_law_1915 (stk' := [.int zr70]) rfl ?_
      refine pd_widen (kc' := (zk + 2)) (ks' := (zs + 12)) (by have h1 : rm_X12_free.cells = 0 := rfl; omega) (by have h1 : rm_X12_free.slots = 0 := rfl; omega) ?_
      refine pd_istore (ls' := [some (.ref 999999), some (.ref 0), some (.ref 92), some (.ref 132), some (.int v), some (.int zr69), some (.int zr70), none]) C dL_law_1918 (Nat.le_of_ble_eq_true rfl) rfl rfl ?_
      refine pd_aload_n C dL_law_1920 rfl rfl ?_
      obtain ⟨zr71, zh71, hF⟩ := pd_bd_some hF
      refine pd_callV C [] [] (em_X12_thrown (pd_C_st C) hn  zh71) mw_X12_thrown wd_6_18 rfl (by decide) (pd_lt (by decide) hn) sh_92 ⟨by decide, by decide, (by have h1 : rm_X12_thrown.cells = 0 := rfl; have h2 : room_1.cells = 601024 := rfl; omega), (by have h1 : rm_X12_thrown.slots = 0 := rfl; have h2 : room_1.slots = 7293034 := rfl; omega)⟩ rfl (Nat.le_of_ble_eq_true rfl) pd_oldL_same (fun _ _ => pd_old_same _) dL_law_1921 (stk' := [.int zr71]) rfl ?_
      refine pd_widen (kc' := (zk + 2)) (ks' := (zs + 12)) (by have h1 : rm_X12_thrown.cells = 0 := rfl; omega) (by have h1 : rm_X12_thrown.slots = 0 := rfl; omega) ?_
      refine pd_iload C dL_law_1924 rfl ?_
      refine pd_icmp_eq (tgt := 1931) C dL_law_1926 (by decide) (fun zc93 => ?_) (fun zc93 => ?_)
      · have hF := pd_t zc93 hF
        refine pd_iload C dL_law_1931 rfl ?_
        obtain ⟨zc90, hS, hF⟩ := pd_bd_some hF
        have hTzc90 : zc90 = true → pd_V cx (zk + 2) (zs + 12) 1946 [some (.ref 999999), some (.ref 0), some (.ref 92), some (.ref 132), some (.int v), some (.int zr69), some (.int zr70), none] [] zI43 zJ23 (pd_RF Z) n := by
          intro hc
          have hF := pd_t hc hF
          refine pd_iconst (v := 0) C dL_law_1946 (by decide) ?_
          cases hF
        have hEzc90 : zc90 = false → pd_V cx (zk + 2) (zs + 12) 1948 [some (.ref 999999), some (.ref 0), some (.ref 92), some (.ref 132), some (.int v), some (.int zr69), some (.int zr70), none] [] zI43 zJ23 (pd_RF Z) n := by
          intro hc
          have hF := pd_bf hc hF
          refine pd_goto (tgt := 2086) C dL_law_1948 (by decide) ?_
          refine pd_iincG (zz := 5) C dL_law_2086 rfl (by decide) rfl (fun zv24 hzv24 => ?_)
          have hF := pd_let_at hF hzv24
          refine pd_lsE (ls' := [some (.ref 999999), some (.ref 0), some (.ref 92), some (.ref 132), some (.int zv24), some (.int zr69), some (.int zr70), none]) rfl ?_
          refine pd_goto (tgt := 23) C dL_law_2089 (by decide) ?_
          refine pd_wk (ls' := [some (.ref 999999), some (.ref 0), some (.ref 92), some (.ref 132), some (.int zv24), none, none, none]) (And.intro rfl (And.intro rfl (And.intro rfl (And.intro rfl (And.intro rfl True.intro))))) ?_
          exact pd_widen (by omega) (by omega) (KK _ _ _ _ _ hF)
        replace hF := hS
        clear hS
        refine pd_if_ne (tgt := 1948) C dL_law_1933 (by decide) (fun zc92 => ?_) (fun zc92 => ?_)
        · have hF := pd_f zc92 hF
          cases hF
          exact hEzc90 rfl
        · have hF := pd_t zc92 hF
          refine pd_aload_n C dL_law_1936 rfl rfl ?_
          refine pd_iconst (v := 0) C dL_law_1937 (by decide) ?_
          obtain ⟨zg151, hF⟩ := pd_gd_some hF
          refine pd_lald C (pd_lt (by decide) hn) sh_132 zg151 dL_law_1938 ?_
          refine pd_iload C dL_law_1939 rfl ?_
          refine pd_i2l C dL_law_1941 ?_
          refine pd_lcmp C dL_law_1942 ?_
          refine pd_if_eq (tgt := 1948) C dL_law_1943 (by decide) (fun zc91 => ?_) (fun zc91 => ?_)
          · have hF := pd_t zc91 hF
            cases hF
            exact hEzc90 rfl
          · have hF := pd_f zc91 hF
            cases hF
            exact hTzc90 rfl
      · have hF := pd_f zc93 hF
        refine pd_iconst (v := 0) C dL_law_1929 (by decide) ?_
        cases hF
    have hF := pd_f hs23 hF
    by_cases hs24 : ((xs v.toNatClampNeg) &&& 31) = 24
    · have hF := pd_t hs24 hF
      refine pd_tabAt (tgt := 1951) C dL_law_39 hs24 (by decide) (by decide) rfl (by decide) ?_
      refine pd_aload_n C dL_law_1951 rfl rfl ?_
      refine pd_aload_n C dL_law_1952 rfl rfl ?_
      refine pd_iload C dL_law_1953 rfl ?_
      refine pd_iconst (v := 1) C dL_law_1955 (by decide) ?_
      refine pd_iadd C dL_law_1956 ?_
      obtain ⟨zg152, hF⟩ := pd_gd_some hF
      refine pd_sld C hX hn9 zg152 dL_law_1957 ?_
      refine pd_aload_n C dL_law_1958 rfl rfl ?_
      refine pd_iload C dL_law_1959 rfl ?_
      refine pd_iconst (v := 2) C dL_law_1961 (by decide) ?_
      refine pd_iadd C dL_law_1962 ?_
      obtain ⟨zg153, hF⟩ := pd_gd_some hF
      refine pd_sld C hX hn9 zg153 dL_law_1963 ?_
      refine pd_aload_n C dL_law_1964 rfl rfl ?_
      obtain ⟨zr72, zI44, zJ24, zh72, hF⟩ := pd_bd3_some hF
      refine pd_callW C [.ref 0, .int (xs (v + 1).toNatClampNeg), .int (xs (v + 2).toNatClampNeg), .ref 132] [] (em_L_weights (pd_C_st C) hn  zh72) mw_L_weights wd_5_86 ⟨by decide, by decide, (by have h1 : rm_L_weights.cells = 3 := rfl; have h2 : room_1.cells = 601024 := rfl; omega), (by have h1 : rm_L_weights.slots = 18 := rfl; have h2 : room_1.slots = 7293034 := rfl; omega)⟩ rfl (Nat.le_of_ble_eq_true rfl) pd_oldL_same (fun _ _ => pd_old_same _) dL_law_1965 (stk' := [.int zr72]) rfl ?_
      refine pd_widen (kc' := (zk + 3)) (ks' := (zs + 18)) (by have h1 : rm_L_weights.cells = 3 := rfl; omega) (by have h1 : rm_L_weights.slots = 18 := rfl; omega) ?_
      refine pd_istore (ls' := [some (.ref 999999), some (.ref 0), some (.ref 92), some (.ref 132), some (.int v), some (.int zr72), none, none]) C dL_law_1968 (Nat.le_of_ble_eq_true rfl) rfl rfl ?_
      refine pd_aload_n C dL_law_1970 rfl rfl ?_
      refine pd_aload_n C dL_law_1971 rfl rfl ?_
      refine pd_iload C dL_law_1972 rfl ?_
      refine pd_iconst (v := 1) C dL_law_1974 (by decide) ?_
      refine pd_iadd C dL_law_1975 ?_
      obtain ⟨zg154, hF⟩ := pd_gd_some hF
      refine pd_sld C hX hn9 zg154 dL_law_1976 ?_
      refine pd_aload_n C dL_law_1977 rfl rfl ?_
      refine pd_iload C dL_law_1978 rfl ?_
      refine pd_iconst (v := 2) C dL_law_1980 (by decide) ?_
      refine pd_iadd C dL_law_1981 ?_
      obtain ⟨zg155, hF⟩ := pd_gd_some hF
      refine pd_sld C hX hn9 zg155 dL_law_1982 ?_
      obtain ⟨zy3, zI45, zJ25, zh73, hF⟩ := pd_bd3_some hF
      refine pd_callV C [.int (xs (v + 1).toNatClampNeg), .int (xs (v + 2).toNatClampNeg)] [] (em_X12_weights (pd_C_st C) hn  zh73) mw_X12_weights wd_7_48 rfl (by decide) (pd_lt (by decide) hn) sh_92 ⟨by decide, by decide, (by have h1 : rm_X12_weights.cells = 0 := rfl; have h2 : room_1.cells = 601024 := rfl; omega), (by have h1 : rm_X12_weights.slots = 0 := rfl; have h2 : room_1.slots = 7293034 := rfl; omega)⟩ rfl (Nat.le_of_ble_eq_true rfl) pd_oldL_same (fun _ _ => pd_old_same _) dL_law_1983 (stk' := [.long zy3]) rfl ?_
      refine pd_widen (kc' := (zk + 3)) (ks' := (zs + 18)) (by have h1 : rm_X12_weights.cells = 0 := rfl; omega) (by have h1 : rm_X12_weights.slots = 0 := rfl; omega) ?_
      refine pd_lstore (ls' := [some (.ref 999999), some (.ref 0), some (.ref 92), some (.ref 132), some (.int v), some (.int zr72), some (.long zy3), none]) C dL_law_1986 (Nat.le_of_ble_eq_true rfl) rfl rfl ?_
      refine pd_aload_n C dL_law_1988 rfl rfl ?_
      obtain ⟨zr73, zh74, hF⟩ := pd_bd_some hF
      refine pd_callV C [] [] (em_X12_thrown (pd_C_st C) hn  zh74) mw_X12_thrown wd_6_18 rfl (by decide) (pd_lt (by decide) hn) sh_92 ⟨by decide, by decide, (by have h1 : rm_X12_thrown.cells = 0 := rfl; have h2 : room_1.cells = 601024 := rfl; omega), (by have h1 : rm_X12_thrown.slots = 0 := rfl; have h2 : room_1.slots = 7293034 := rfl; omega)⟩ rfl (Nat.le_of_ble_eq_true rfl) pd_oldL_same (fun _ _ => pd_old_same _) dL_law_1989 (stk' := [.int zr73]) rfl ?_
      refine pd_widen (kc' := (zk + 3)) (ks' := (zs + 18)) (by have h1 : rm_X12_thrown.cells = 0 := rfl; omega) (by have h1 : rm_X12_thrown.slots = 0 := rfl; omega) ?_
      refine pd_iload C dL_law_1992 rfl ?_
      refine pd_icmp_eq (tgt := 1999) C dL_law_1994 (by decide) (fun zc97 => ?_) (fun zc97 => ?_)
      · have hF := pd_t zc97 hF
        refine pd_iload C dL_law_1999 rfl ?_
        obtain ⟨zc94, hS, hF⟩ := pd_bd_some hF
        have hTzc94 : zc94 = true → pd_V cx (zk + 3) (zs + 18) 2013 [some (.ref 999999), some (.ref 0), some (.ref 92), some (.ref 132), some (.int v), some (.int zr72), some (.long zy3), none] [] zI45 zJ25 (pd_RF Z) n := by
          intro hc
          have hF := pd_t hc hF
          refine pd_iconst (v := 0) C dL_law_2013 (by decide) ?_
          cases hF
        have hEzc94 : zc94 = false → pd_V cx (zk + 3) (zs + 18) 2015 [some (.ref 999999), some (.ref 0), some (.ref 92), some (.ref 132), some (.int v), some (.int zr72), some (.long zy3), none] [] zI45 zJ25 (pd_RF Z) n := by
          intro hc
          have hF := pd_bf hc hF
          refine pd_goto (tgt := 2086) C dL_law_2015 (by decide) ?_
          refine pd_iincG (zz := 5) C dL_law_2086 rfl (by decide) rfl (fun zv25 hzv25 => ?_)
          have hF := pd_let_at hF hzv25
          refine pd_lsE (ls' := [some (.ref 999999), some (.ref 0), some (.ref 92), some (.ref 132), some (.int zv25), some (.int zr72), some (.long zy3), none]) rfl ?_
          refine pd_goto (tgt := 23) C dL_law_2089 (by decide) ?_
          refine pd_wk (ls' := [some (.ref 999999), some (.ref 0), some (.ref 92), some (.ref 132), some (.int zv25), none, none, none]) (And.intro rfl (And.intro rfl (And.intro rfl (And.intro rfl (And.intro rfl True.intro))))) ?_
          exact pd_widen (by omega) (by omega) (KK _ _ _ _ _ hF)
        replace hF := hS
        clear hS
        refine pd_if_ne (tgt := 2015) C dL_law_2001 (by decide) (fun zc96 => ?_) (fun zc96 => ?_)
        · have hF := pd_f zc96 hF
          cases hF
          exact hEzc94 rfl
        · have hF := pd_t zc96 hF
          refine pd_aload_n C dL_law_2004 rfl rfl ?_
          refine pd_iconst (v := 0) C dL_law_2005 (by decide) ?_
          obtain ⟨zg156, hF⟩ := pd_gd_some hF
          refine pd_lald C (pd_lt (by decide) hn) sh_132 zg156 dL_law_2006 ?_
          refine pd_lload C dL_law_2007 rfl ?_
          refine pd_lcmp C dL_law_2009 ?_
          refine pd_if_eq (tgt := 2015) C dL_law_2010 (by decide) (fun zc95 => ?_) (fun zc95 => ?_)
          · have hF := pd_t zc95 hF
            cases hF
            exact hEzc94 rfl
          · have hF := pd_f zc95 hF
            cases hF
            exact hTzc94 rfl
      · have hF := pd_f zc97 hF
        refine pd_iconst (v := 0) C dL_law_1997 (by decide) ?_
        cases hF
    have hF := pd_f hs24 hF
    by_cases hs25 : ((xs v.toNatClampNeg) &&& 31) = 25
    · have hF := pd_t hs25 hF
      refine pd_tabAt (tgt := 2018) C dL_law_39 hs25 (by decide) (by decide) rfl (by decide) ?_
      refine pd_aload_n C dL_law_2018 rfl rfl ?_
      refine pd_aload_n C dL_law_2019 rfl rfl ?_
      refine pd_iload C dL_law_2020 rfl ?_
      refine pd_iconst (v := 1) C dL_law_2022 (by decide) ?_
      refine pd_iadd C dL_law_2023 ?_
      obtain ⟨zg157, hF⟩ := pd_gd_some hF
      refine pd_sld C hX hn9 zg157 dL_law_2024 ?_
      refine pd_aload_n C dL_law_2025 rfl rfl ?_
      refine pd_iload C dL_law_2026 rfl ?_
      refine pd_iconst (v := 2) C dL_law_2028 (by decide) ?_
      refine pd_iadd C dL_law_2029 ?_
      obtain ⟨zg158, hF⟩ := pd_gd_some hF
      refine pd_sld C hX hn9 zg158 dL_law_2030 ?_
      refine pd_aload_n C dL_law_2031 rfl rfl ?_
      obtain ⟨zr74, zJ26, zh75, hF⟩ := pd_bd2_some hF
      refine pd_callW C [.ref 0, .int (xs (v + 1).toNatClampNeg), .int (xs (v + 2).toNatClampNeg), .ref 132] [] (em_L_about (pd_C_st C) hn  zh75) mw_L_about wd_5_103 ⟨by decide, by decide, (by have h1 : rm_L_about.cells = 2 := rfl; have h2 : room_1.cells = 601024 := rfl; omega), (by have h1 : rm_L_about.slots = 12 := rfl; have h2 : room_1.slots = 7293034 := rfl; omega)⟩ rfl (Nat.le_of_ble_eq_true rfl) pd_oldL_same (fun _ _ => pd_old_same _) dL_law_2032 (stk' := [.int zr74]) rfl ?_
      refine pd_widen (kc' := (zk + 2)) (ks' := (zs + 12)) (by have h1 : rm_L_about.cells = 2 := rfl; omega) (by have h1 : rm_L_about.slots = 12 := rfl; omega) ?_
      refine pd_istore (ls' := [some (.ref 999999), some (.ref 0), some (.ref 92), some (.ref 132), some (.int v), some (.int zr74), none, none]) C dL_law_2035 (Nat.le_of_ble_eq_true rfl) rfl rfl ?_
      refine pd_aload_n C dL_law_2037 rfl rfl ?_
      refine pd_aload_n C dL_law_2038 rfl rfl ?_
      refine pd_iload C dL_law_2039 rfl ?_
      refine pd_iconst (v := 1) C dL_law_2041 (by decide) ?_
      refine pd_iadd C dL_law_2042 ?_
      obtain ⟨zg159, hF⟩ := pd_gd_some hF
      refine pd_sld C hX hn9 zg159 dL_law_2043 ?_
      refine pd_aload_n C dL_law_2044 rfl rfl ?_
      refine pd_iload C dL_law_2045 rfl ?_
      refine pd_iconst (v := 2) C dL_law_2047 (by decide) ?_
      refine pd_iadd C dL_law_2048 ?_
      obtain ⟨zg160, hF⟩ := pd_gd_some hF
      refine pd_sld C hX hn9 zg160 dL_law_2049 ?_
      obtain ⟨zr75, zI46, zh76, hF⟩ := pd_bd2_some hF
      refine pd_callV C [.int (xs (v + 1).toNatClampNeg), .int (xs (v + 2).toNatClampNeg)] [] (em_X12_about (pd_C_st C) hn  zh76) mw_X12_about wd_6_85 rfl (by decide) (pd_lt (by decide) hn) sh_92 ⟨by decide, by decide, (by have h1 : rm_X12_about.cells = 0 := rfl; have h2 : room_1.cells = 601024 := rfl; omega), (by have h1 : rm_X12_about.slots = 0 := rfl; have h2 : room_1.slots = 7293034 := rfl; omega)⟩ rfl (Nat.le_of_ble_eq_true rfl) pd_oldL_same (fun _ _ => pd_old_same _) dL_law_2050 (stk' := [.int zr75]) rfl ?_
      refine pd_widen (kc' := (zk + 2)) (ks' := (zs + 12)) (by have h1 : rm_X12_about.cells = 0 := rfl; omega) (by have h1 : rm_X12_about.slots = 0 := rfl; omega) ?_
      refine pd_istore (ls' := [some (.ref 999999), some (.ref 0), some (.ref 92), some (.ref 132), some (.int v), some (.int zr74), some (.int zr75), none]) C dL_law_2053 (Nat.le_of_ble_eq_true rfl) rfl rfl ?_
      refine pd_aload_n C dL_law_2055 rfl rfl ?_
      obtain ⟨zr76, zh77, hF⟩ := pd_bd_some hF
      refine pd_callV C [] [] (em_X12_thrown (pd_C_st C) hn  zh77) mw_X12_thrown wd_6_18 rfl (by decide) (pd_lt (by decide) hn) sh_92 ⟨by decide, by decide, (by have h1 : rm_X12_thrown.cells = 0 := rfl; have h2 : room_1.cells = 601024 := rfl; omega), (by have h1 : rm_X12_thrown.slots = 0 := rfl; have h2 : room_1.slots = 7293034 := rfl; omega)⟩ rfl (Nat.le_of_ble_eq_true rfl) pd_oldL_same (fun _ _ => pd_old_same _) dL_law_2056 (stk' := [.int zr76]) rfl ?_
      refine pd_widen (kc' := (zk + 2)) (ks' := (zs + 12)) (by have h1 : rm_X12_thrown.cells = 0 := rfl; omega) (by have h1 : rm_X12_thrown.slots = 0 := rfl; omega) ?_
      refine pd_iload C dL_law_2059 rfl ?_
      refine pd_icmp_eq (tgt := 2066) C dL_law_2061 (by decide) (fun zc101 => ?_) (fun zc101 => ?_)
      · have hF := pd_t zc101 hF
        refine pd_iload C dL_law_2066 rfl ?_
        obtain ⟨zc98, hS, hF⟩ := pd_bd_some hF
        have hTzc98 : zc98 = true → pd_V cx (zk + 2) (zs + 12) 2081 [some (.ref 999999), some (.ref 0), some (.ref 92), some (.ref 132), some (.int v), some (.int zr74), some (.int zr75), none] [] zI46 zJ26 (pd_RF Z) n := by
          intro hc
          have hF := pd_t hc hF
          refine pd_iconst (v := 0) C dL_law_2081 (by decide) ?_
          cases hF
        have hEzc98 : zc98 = false → pd_V cx (zk + 2) (zs + 12) 2083 [some (.ref 999999), some (.ref 0), some (.ref 92), some (.ref 132), some (.int v), some (.int zr74), some (.int zr75), none] [] zI46 zJ26 (pd_RF Z) n := by
          intro hc
          have hF := pd_bf hc hF
          refine pd_goto (tgt := 2086) C dL_law_2083 (by decide) ?_
          refine pd_iincG (zz := 5) C dL_law_2086 rfl (by decide) rfl (fun zv26 hzv26 => ?_)
          have hF := pd_let_at hF hzv26
          refine pd_lsE (ls' := [some (.ref 999999), some (.ref 0), some (.ref 92), some (.ref 132), some (.int zv26), some (.int zr74), some (.int zr75), none]) rfl ?_
          refine pd_goto (tgt := 23) C dL_law_2089 (by decide) ?_
          refine pd_wk (ls' := [some (.ref 999999), some (.ref 0), some (.ref 92), some (.ref 132), some (.int zv26), none, none, none]) (And.intro rfl (And.intro rfl (And.intro rfl (And.intro rfl (And.intro rfl True.intro))))) ?_
          exact pd_widen (by omega) (by omega) (KK _ _ _ _ _ hF)
        replace hF := hS
        clear hS
        refine pd_if_ne (tgt := 2083) C dL_law_2068 (by decide) (fun zc100 => ?_) (fun zc100 => ?_)
        · have hF := pd_f zc100 hF
          cases hF
          exact hEzc98 rfl
        · have hF := pd_t zc100 hF
          refine pd_aload_n C dL_law_2071 rfl rfl ?_
          refine pd_iconst (v := 0) C dL_law_2072 (by decide) ?_
          obtain ⟨zg161, hF⟩ := pd_gd_some hF
          refine pd_lald C (pd_lt (by decide) hn) sh_132 zg161 dL_law_2073 ?_
          refine pd_iload C dL_law_2074 rfl ?_
          refine pd_i2l C dL_law_2076 ?_
          refine pd_lcmp C dL_law_2077 ?_
          refine pd_if_eq (tgt := 2083) C dL_law_2078 (by decide) (fun zc99 => ?_) (fun zc99 => ?_)
          · have hF := pd_t zc99 hF
            cases hF
            exact hEzc98 rfl
          · have hF := pd_f zc99 hF
            cases hF
            exact hTzc98 rfl
      · have hF := pd_f zc101 hF
        refine pd_iconst (v := 0) C dL_law_2064 (by decide) ?_
        cases hF
    have hF := pd_f hs25 hF
    have hsw : ∀ z : Int, z ≠ 0 → z ≠ 1 → z ≠ 2 → z ≠ 3 → z ≠ 4 → z ≠ 5 → z ≠ 6 → z ≠ 7 → z ≠ 8 → z ≠ 9 → z ≠ 10 → z ≠ 11 → z ≠ 12 → z ≠ 13 → z ≠ 14 → z ≠ 15 → z ≠ 16 → z ≠ 17 → z ≠ 18 → z ≠ 19 → z ≠ 20 → z ≠ 21 → z ≠ 22 → z ≠ 23 → z ≠ 24 → z ≠ 25 → z < 0 ∨ 25 < z := fun z => by omega
    refine pd_tabOut (tgt := 2086) C dL_law_39 (hsw _ (fun z => hs0 (Int32.toInt_inj.mp (z.trans (by decide)))) (fun z => hs1 (Int32.toInt_inj.mp (z.trans (by decide)))) (fun z => hs2 (Int32.toInt_inj.mp (z.trans (by decide)))) (fun z => hs3 (Int32.toInt_inj.mp (z.trans (by decide)))) (fun z => hs4 (Int32.toInt_inj.mp (z.trans (by decide)))) (fun z => hs5 (Int32.toInt_inj.mp (z.trans (by decide)))) (fun z => hs6 (Int32.toInt_inj.mp (z.trans (by decide)))) (fun z => hs7 (Int32.toInt_inj.mp (z.trans (by decide)))) (fun z => hs8 (Int32.toInt_inj.mp (z.trans (by decide)))) (fun z => hs9 (Int32.toInt_inj.mp (z.trans (by decide)))) (fun z => hs10 (Int32.toInt_inj.mp (z.trans (by decide)))) (fun z => hs11 (Int32.toInt_inj.mp (z.trans (by decide)))) (fun z => hs12 (Int32.toInt_inj.mp (z.trans (by decide)))) (fun z => hs13 (Int32.toInt_inj.mp (z.trans (by decide)))) (fun z => hs14 (Int32.toInt_inj.mp (z.trans (by decide)))) (fun z => hs15 (Int32.toInt_inj.mp (z.trans (by decide)))) (fun z => hs16 (Int32.toInt_inj.mp (z.trans (by decide)))) (fun z => hs17 (Int32.toInt_inj.mp (z.trans (by decide)))) (fun z => hs18 (Int32.toInt_inj.mp (z.trans (by decide)))) (fun z => hs19 (Int32.toInt_inj.mp (z.trans (by decide)))) (fun z => hs20 (Int32.toInt_inj.mp (z.trans (by decide)))) (fun z => hs21 (Int32.toInt_inj.mp (z.trans (by decide)))) (fun z => hs22 (Int32.toInt_inj.mp (z.trans (by decide)))) (fun z => hs23 (Int32.toInt_inj.mp (z.trans (by decide)))) (fun z => hs24 (Int32.toInt_inj.mp (z.trans (by decide)))) (fun z => hs25 (Int32.toInt_inj.mp (z.trans (by decide))))) (by decide) ?_
    refine pd_iincG (zz := 5) C dL_law_2086 rfl (by decide) rfl (fun zv27 hzv27 => ?_)
    have hF := pd_let_at hF hzv27
    refine pd_lsE (ls' := [some (.ref 999999), some (.ref 0), some (.ref 92), some (.ref 132), some (.int zv27), none, none, none]) rfl ?_
    refine pd_goto (tgt := 23) C dL_law_2089 (by decide) ?_
    exact pd_widen (by omega) (by omega) (KK _ _ _ _ _ hF)
