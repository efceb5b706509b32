/-! what the walks' functions are made of -/
def pd_FU : Nat := 65536
def pd_gd {α : Type} (b : Bool) (k : Option α) : Option α := if b = true then k else none
theorem pd_gd_some {α : Type} {b : Bool} {k : Option α} {r : α} (h : pd_gd b k = some r) : b = true ∧ k = some r := by
  unfold pd_gd at h
  by_cases hb : b = true
  · rw [if_pos hb] at h; exact ⟨hb, h⟩
  · rw [if_neg hb] at h; cases h
def pd_let {α β : Type} (x : α) (f : α → β) : β := f x
theorem pd_let_at {α β : Type} {x v : α} {f : α → Option β} {r : β} (h : pd_let x f = some r) (hv : v = x) : f v = some r := by subst hv; exact h
def pd_bd {α β : Type} (x : Option α) (f : α → Option β) : Option β := x.bind f
theorem pd_bd_some {α β : Type} {x : Option α} {f : α → Option β} {r : β} (h : pd_bd x f = some r) : ∃ a, x = some a ∧ f a = some r := by
  cases x with
  | none => cases h
  | some a => exact ⟨a, rfl, h⟩
def pd_bd2 {α β γ : Type} (x : Option (α × β)) (f : α → β → Option γ) : Option γ := x.bind fun p => f p.1 p.2
theorem pd_bd2_some {α β γ : Type} {x : Option (α × β)} {f : α → β → Option γ} {r : γ} (h : pd_bd2 x f = some r) : ∃ a b, x = some (a, b) ∧ f a b = some r := by
  rcases x with _ | ⟨a, b⟩
  · cases h
  · exact ⟨a, b, rfl, h⟩
def pd_bd3 {α β γ δ : Type} (x : Option (α × β × γ)) (f : α → β → γ → Option δ) : Option δ := x.bind fun p => f p.1 p.2.1 p.2.2
theorem pd_bd3_some {α β γ δ : Type} {x : Option (α × β × γ)} {f : α → β → γ → Option δ} {r : δ} (h : pd_bd3 x f = some r) : ∃ a b c, x = some (a, b, c) ∧ f a b c = some r := by
  rcases x with _ | ⟨a, b, c⟩
  · cases h
  · exact ⟨a, b, c, rfl, h⟩
def pd_bd4 {α β γ δ ε : Type} (x : Option (α × β × γ × δ)) (f : α → β → γ → δ → Option ε) : Option ε := x.bind fun p => f p.1 p.2.1 p.2.2.1 p.2.2.2
theorem pd_bd4_some {α β γ δ ε : Type} {x : Option (α × β × γ × δ)} {f : α → β → γ → δ → Option ε} {r : ε} (h : pd_bd4 x f = some r) : ∃ a b c d, x = some (a, b, c, d) ∧ f a b c d = some r := by
  rcases x with _ | ⟨a, b, c, d⟩
  · cases h
  · exact ⟨a, b, c, d, rfl, h⟩
def pd_bd5 {α β γ δ ε ζ : Type} (x : Option (α × β × γ × δ × ε)) (f : α → β → γ → δ → ε → Option ζ) : Option ζ := x.bind fun p => f p.1 p.2.1 p.2.2.1 p.2.2.2.1 p.2.2.2.2
theorem pd_bd5_some {α β γ δ ε ζ : Type} {x : Option (α × β × γ × δ × ε)} {f : α → β → γ → δ → ε → Option ζ} {r : ζ} (h : pd_bd5 x f = some r) : ∃ a b c d e, x = some (a, b, c, d, e) ∧ f a b c d e = some r := by
  rcases x with _ | ⟨a, b, c, d, e⟩
  · cases h
  · exact ⟨a, b, c, d, e, rfl, h⟩
def pd_bx {α β : Type} (x : Option (Except String α)) (f : α → Option (Except String β)) : Option (Except String β) := match x with
  | none => none
  | some (.error e) => some (.error e)
  | some (.ok a) => f a
theorem pd_bx_some {α β : Type} {x : Option (Except String α)} {f : α → Option (Except String β)} {r : Except String β} (h : pd_bx x f = some r) : (∃ e, x = some (.error e) ∧ r = .error e) ∨ ∃ a, x = some (.ok a) ∧ f a = some r := by
  rcases x with _ | ⟨e | a⟩
  · cases h
  · exact Or.inl ⟨e, rfl, (Option.some.inj h).symm⟩
  · exact Or.inr ⟨a, rfl, h⟩
def pd_bx2 {α β γ : Type} (x : Option (Except String (α × β))) (f : α → β → Option (Except String γ)) : Option (Except String γ) := pd_bx x fun p => f p.1 p.2
theorem pd_bx2_some {α β γ : Type} {x : Option (Except String (α × β))} {f : α → β → Option (Except String γ)} {r : Except String γ} (h : pd_bx2 x f = some r) : (∃ e, x = some (.error e) ∧ r = .error e) ∨ ∃ a b, x = some (.ok (a, b)) ∧ f a b = some r := by
  rcases pd_bx_some h with h | ⟨⟨a, b⟩, h1, h2⟩
  · exact Or.inl h
  · exact Or.inr ⟨a, b, h1, h2⟩
def pd_bc {α β : Type} (x : Option (Except String α)) (h : String → Option β) (f : α → Option β) : Option β := match x with
  | none => none
  | some (.error e) => h e
  | some (.ok a) => f a
theorem pd_bc_some {α β : Type} {x : Option (Except String α)} {h : String → Option β} {f : α → Option β} {r : β} (hF : pd_bc x h f = some r) : (∃ e, x = some (.error e) ∧ h e = some r) ∨ ∃ a, x = some (.ok a) ∧ f a = some r := by
  rcases x with _ | ⟨e | a⟩
  · cases hF
  · exact Or.inl ⟨e, rfl, hF⟩
  · exact Or.inr ⟨a, rfl, hF⟩
def pd_bc2 {α β γ : Type} (x : Option (Except String (α × β))) (h : String → Option γ) (f : α → β → Option γ) : Option γ := pd_bc x h fun p => f p.1 p.2
theorem pd_bc2_some {α β γ : Type} {x : Option (Except String (α × β))} {h : String → Option γ} {f : α → β → Option γ} {r : γ} (hF : pd_bc2 x h f = some r) : (∃ e, x = some (.error e) ∧ h e = some r) ∨ ∃ a b, x = some (.ok (a, b)) ∧ f a b = some r := by
  rcases pd_bc_some hF with h | ⟨⟨a, b⟩, h1, h2⟩
  · exact Or.inl h
  · exact Or.inr ⟨a, b, h1, h2⟩
def pd_bc3 {α β γ δ : Type} (x : Option (Except String (α × β × γ))) (h : String → Option δ) (f : α → β → γ → Option δ) : Option δ := pd_bc x h fun p => f p.1 p.2.1 p.2.2
theorem pd_bc3_some {α β γ δ : Type} {x : Option (Except String (α × β × γ))} {h : String → Option δ} {f : α → β → γ → Option δ} {r : δ} (hF : pd_bc3 x h f = some r) : (∃ e, x = some (.error e) ∧ h e = some r) ∨ ∃ a b c, x = some (.ok (a, b, c)) ∧ f a b c = some r := by
  rcases pd_bc_some hF with h | ⟨⟨a, b, c⟩, h1, h2⟩
  · exact Or.inl h
  · exact Or.inr ⟨a, b, c, h1, h2⟩
def pd_bc5 {α β γ δ ε ζ : Type} (x : Option (Except String (α × β × γ × δ × ε))) (h : String → Option ζ) (f : α → β → γ → δ → ε → Option ζ) : Option ζ := pd_bc x h fun p => f p.1 p.2.1 p.2.2.1 p.2.2.2.1 p.2.2.2.2
theorem pd_bc5_some {α β γ δ ε ζ : Type} {x : Option (Except String (α × β × γ × δ × ε))} {h : String → Option ζ} {f : α → β → γ → δ → ε → Option ζ} {r : ζ} (hF : pd_bc5 x h f = some r) : (∃ e, x = some (.error e) ∧ h e = some r) ∨ ∃ a b c d e, x = some (.ok (a, b, c, d, e)) ∧ f a b c d e = some r := by
  rcases pd_bc_some hF with h | ⟨⟨a, b, c, d, e⟩, h1, h2⟩
  · exact Or.inl h
  · exact Or.inr ⟨a, b, c, d, e, h1, h2⟩
def pd_jn {τ γ : Type} (f : τ) (g : τ → Option γ) : Option γ := g f
theorem pd_jn_use {τ γ : Type} {f : τ} {g : τ → Option γ} {out : γ} {P : Prop} (hF : pd_jn f g = some out) (Q : τ → Prop) (hJ : Q f) (k : ∀ j, Q j → g j = some out → P) : P := k f hJ hF
theorem pd_t {c : Prop} [Decidable c] {α : Type} {x y r : α} (hc : c) (h : (if c then x else y) = r) : x = r := by rwa [if_pos hc] at h
theorem pd_f {c : Prop} [Decidable c] {α : Type} {x y r : α} (hc : ¬ c) (h : (if c then x else y) = r) : y = r := by rwa [if_neg hc] at h
theorem pd_bf {c : Bool} {α : Type} {x y r : α} (hc : c = false) (h : (if c = true then x else y) = r) : y = r := by subst hc; exact h
def pd_bo (x : Int32) : Bool := decide (x = 0 ∨ x = 1)
theorem pd_bo_nar {x : Int32} (h : pd_bo x = true) : narrow .boolean (.int x) = .int x := by
  rcases of_decide_eq_true h with rfl | rfl <;> decide +kernel
theorem pd_bo_fit {x : Int32} (h : pd_bo x = true) : fits .boolean (.int x) = true := by
  rcases of_decide_eq_true h with rfl | rfl <;> decide +kernel
/-- fewer locals are known -/
def pd_le : List (Option Value) → List (Option Value) → Prop
  | [], [] => True
  | none :: a, _ :: b => pd_le a b
  | some v :: a, w :: b => w = some v ∧ pd_le a b
  | _, _ => False
theorem pd_le_len : ∀ {a b : List (Option Value)}, pd_le a b → a.length = b.length
  | [], [], _ => rfl
  | none :: a, w :: b, h => by
    have h' : pd_le a b := h
    simp only [List.length_cons]; rw [pd_le_len h']
  | some v :: a, w :: b, h => by
    have h' : w = some v ∧ pd_le a b := h
    simp only [List.length_cons]; rw [pd_le_len h'.2]
theorem pd_le_get : ∀ {a b : List (Option Value)}, pd_le a b → ∀ (k : Nat) (v : Value), a[k]? = some (some v) → b[k]? = some (some v)
  | [], [], _, k, v, h => by simp at h
  | none :: a, w :: b, h, k, v, hk => by
    have h' : pd_le a b := h
    cases k with
    | zero => simp at hk
    | succ k => simpa using pd_le_get h' k v (by simpa using hk)
  | some x :: a, w :: b, h, k, v, hk => by
    have h' : w = some x ∧ pd_le a b := h
    cases k with
    | zero => simp at hk; subst hk; simp [h'.1]
    | succ k => simpa using pd_le_get h'.2 k v (by simpa using hk)
def pd_oo {T : Type} (f : T → Option Value) (out : Except String T) : Except String (Option Value) := match out with
  | .ok p => .ok (f p)
  | .error e => .error e
def pd_os {T S : Type} (f : T → S) (d : S) (out : Except String T) : S := match out with
  | .ok p => f p
  | .error _ => d
/-- Row, Code, Way: which numbers they have -/
def pd_isRow (a : Nat) : Bool := decide (60 ≤ a ∧ a < 92 ∧ a % 2 = 0)
def pd_isWay (a : Nat) : Bool := decide (18 ≤ a ∧ a < 36 ∧ a % 2 = 0)
def pd_isCode (a n : Nat) : Bool := decide (133 ≤ a ∧ (a - 133) % 3 = 0 ∧ a + 2 < n)
def pd_isArr (a N n : Nat) : Bool := decide (a < n ∧ pd_SH a = (13, N))
theorem pd_row_all : (List.range 92).all (fun a => !pd_isRow a || (decide (pd_SH a = (4, 2)) && decide (pd_SH (a + 1) = (15, 600)) && decide (pd_R0 a 0 = some (a + 1)))) = true := by decide +kernel
theorem pd_row_at {a : Nat} (h : pd_isRow a = true) : pd_SH a = (4, 2) ∧ pd_SH (a + 1) = (15, 600) ∧ pd_R0 a 0 = some (a + 1) ∧ a < 92 ∧ 60 ≤ a := by
  have h1 := of_decide_eq_true h
  have h2 := List.all_eq_true.mp pd_row_all a (List.mem_range.mpr h1.2.1)
  simp only [h, Bool.not_true, Bool.false_or, Bool.and_eq_true, decide_eq_true_eq] at h2
  exact ⟨h2.1.1, h2.1.2, h2.2, h1.2.1, h1.1⟩
theorem pd_way_all : (List.range 36).all (fun a => !pd_isWay a || (decide (pd_SH a = (9, 4)) && decide (pd_SH (a + 1) = (14, 200)) && decide (pd_R0 a 3 = some (a + 1)))) = true := by decide +kernel
theorem pd_way_at {a : Nat} (h : pd_isWay a = true) : pd_SH a = (9, 4) ∧ pd_SH (a + 1) = (14, 200) ∧ pd_R0 a 3 = some (a + 1) ∧ a < 36 ∧ 18 ≤ a := by
  have h1 := of_decide_eq_true h
  have h2 := List.all_eq_true.mp pd_way_all a (List.mem_range.mpr h1.2.1)
  simp only [h, Bool.not_true, Bool.false_or, Bool.and_eq_true, decide_eq_true_eq] at h2
  exact ⟨h2.1.1, h2.1.2, h2.2, h1.2.1, h1.1⟩
theorem pd_RF_stat {Z : Nat → Nat → Option Nat} {a k : Nat} (h : pd_dy a k = false) : pd_RF Z a k = pd_R0 a k := by simp [pd_RF, h]
theorem pd_RF_dyn {Z : Nat → Nat → Option Nat} {a k : Nat} (h : pd_dy a k = true) : pd_RF Z a k = Z a k := by simp [pd_RF, h]
theorem pd_row_sh {a : Nat} (h : pd_isRow a = true) : pd_SH a = (4, 2) := (pd_row_at h).1
theorem pd_row_sh1 {a : Nat} (h : pd_isRow a = true) : pd_SH (a + 1) = (15, 600) := (pd_row_at h).2.1
theorem pd_row_lt {a n : Nat} (h : pd_isRow a = true) (hn : 133 ≤ n) : a < n := by have := pd_row_at h; omega
theorem pd_row_lt1 {a n : Nat} (h : pd_isRow a = true) (hn : 133 ≤ n) : a + 1 < n := by have := pd_row_at h; omega
theorem pd_row_rf {Z : Nat → Nat → Option Nat} {a : Nat} (h : pd_isRow a = true) : pd_RF Z a 0 = some (a + 1) := by
  have := pd_row_at h
  rw [pd_RF_stat (by simp [pd_dy]; omega)]
  exact this.2.2.1
theorem pd_way_sh {a : Nat} (h : pd_isWay a = true) : pd_SH a = (9, 4) := (pd_way_at h).1
theorem pd_way_sh1 {a : Nat} (h : pd_isWay a = true) : pd_SH (a + 1) = (14, 200) := (pd_way_at h).2.1
theorem pd_way_lt {a n : Nat} (h : pd_isWay a = true) (hn : 133 ≤ n) : a < n := by have := pd_way_at h; omega
theorem pd_way_lt1 {a n : Nat} (h : pd_isWay a = true) (hn : 133 ≤ n) : a + 1 < n := by have := pd_way_at h; omega
theorem pd_way_rf {Z : Nat → Nat → Option Nat} {a : Nat} (h : pd_isWay a = true) : pd_RF Z a 3 = some (a + 1) := by
  have := pd_way_at h
  rw [pd_RF_stat (by simp [pd_dy]; omega)]
  exact this.2.2.1
theorem pd_code_sh {a n : Nat} (h : pd_isCode a n = true) : pd_SH a = (0, 8) := by
  have := of_decide_eq_true h
  unfold pd_SH
  rw [if_neg (by omega), if_pos this.2.1]
theorem pd_code_sh1 {a n : Nat} (h : pd_isCode a n = true) : pd_SH (a + 1) = (13, 4) := by
  have := of_decide_eq_true h
  unfold pd_SH
  rw [if_neg (by omega), if_neg (by omega), if_pos (by omega)]
theorem pd_code_sh2 {a n : Nat} (h : pd_isCode a n = true) : pd_SH (a + 2) = (13, 8) := by
  have := of_decide_eq_true h
  unfold pd_SH
  rw [if_neg (by omega), if_neg (by omega), if_neg (by omega)]
theorem pd_code_lt {a n : Nat} (h : pd_isCode a n = true) : a < n := by have := of_decide_eq_true h; omega
theorem pd_code_lt1 {a n : Nat} (h : pd_isCode a n = true) : a + 1 < n := by have := of_decide_eq_true h; omega
theorem pd_code_lt2 {a n : Nat} (h : pd_isCode a n = true) : a + 2 < n := by have := of_decide_eq_true h; omega
theorem pd_code_rf3 {Z : Nat → Nat → Option Nat} {a n : Nat} (h : pd_isCode a n = true) : pd_RF Z a 3 = some (a + 1) := by
  have := of_decide_eq_true h
  rw [pd_RF_stat (by simp [pd_dy]; omega)]
  unfold pd_R0
  rw [if_neg (by omega), if_pos this.2.1]
  rfl
theorem pd_code_rf7 {Z : Nat → Nat → Option Nat} {a n : Nat} (h : pd_isCode a n = true) : pd_RF Z a 7 = some (a + 2) := by
  have := of_decide_eq_true h
  rw [pd_RF_stat (by simp [pd_dy]; omega)]
  unfold pd_R0
  rw [if_neg (by omega), if_pos this.2.1]
  rfl
theorem pd_arr_sh {a N n : Nat} (h : pd_isArr a N n = true) : pd_SH a = (13, N) := (of_decide_eq_true h).2
theorem pd_arr_lt {a N n : Nat} (h : pd_isArr a N n = true) : a < n := (of_decide_eq_true h).1
theorem pd_RF_ur {Z : Nat → Nat → Option Nat} {a k : Nat} {x : Option Nat} (h : pd_dy a k = true) : pd_ur (pd_RF Z) a k x = pd_RF (pd_ur Z a k x) := by
  funext b j
  by_cases hb : b = a
  · subst hb
    by_cases hj : j = k
    · subst hj
      simp [pd_RF, h, pd_ur, va_up]
    · simp [pd_RF, pd_ur, va_up, hj]
  · simp [pd_RF, pd_ur, hb]
/-- a reference that may be null -/
def pd_rv : Option Nat → Value
  | none => .null
  | some k => .ref k
theorem pd_oldL_same {n : Nat} {ls : List (Option Value)} : pd_oldL n n ls := fun v _ => pd_old_same v
theorem pd_arr_lit {n : Nat} (a : Nat) {N : Nat} (hn : 133 ≤ n) (h : a < 133 := by decide) (hs : pd_SH a = (13, N) := by decide +kernel) : pd_isArr a N n = true := by
  have h1 : a < n := Nat.lt_of_lt_of_le h hn
  simp [pd_isArr, h1, hs]
section PDG
variable {cx : pd_X} {own : String} {cc : ByteArray} {rm : Room} {kc ks pc : Nat} {ls : List (Option Value)} {st : List Value} {I : pd_I} {J : pd_J} {F : pd_R} {n : Nat}
theorem pd_wk {ls' : List (Option Value)} (h : pd_le ls' ls) (k : pd_V cx kc ks pc ls' st I J F n) : pd_V cx kc ks pc ls st I J F n := by
  obtain ⟨p, l, e, R, s, m, args, below, meth, c, D, tc, A, Q, n0, ad0, nL⟩ := cx
  exact fun ad H locs lsA hag hn hP hD hS hl hz => k ad H locs lsA hag hn hP hD hS (pd_has_mono hl (fun q hq => by
    obtain ⟨i, v, hi, rfl⟩ := pd_lv_mem.mp hq
    exact pd_lv_mem.mpr ⟨i, v, pd_le_get h i v hi, rfl⟩)) ((pd_le_len h).trans hz)
theorem pd_topi {x : Int32} (k : ∀ y, y = x → pd_V cx kc ks pc ls (.int y :: st) I J F n) : pd_V cx kc ks pc ls (.int x :: st) I J F n := k x rfl
theorem pd_topl {x : Int64} (k : ∀ y, y = x → pd_V cx kc ks pc ls (.long y :: st) I J F n) : pd_V cx kc ks pc ls (.long x :: st) I J F n := k x rfl
theorem pd_memI (k : ∀ y, y = I → pd_V cx kc ks pc ls st y J F n) : pd_V cx kc ks pc ls st I J F n := k I rfl
theorem pd_memJ (k : ∀ y, y = J → pd_V cx kc ks pc ls st I y F n) : pd_V cx kc ks pc ls st I J F n := k J rfl
theorem pd_memZ {Z : Nat → Nat → Option Nat} (k : ∀ y, y = Z → pd_V cx kc ks pc ls st I J (pd_RF y) n) : pd_V cx kc ks pc ls st I J (pd_RF Z) n := k Z rfl
theorem pd_widen {kc' ks' : Nat} (h1 : kc ≤ kc') (h2 : ks ≤ ks') (k : pd_V cx kc' ks' pc ls st I J F n) : pd_V cx kc ks pc ls st I J F n := by
  obtain ⟨p, l, e, R, s, m, args, below, meth, c, D, tc, A, Q, n0, ad0, nL⟩ := cx
  exact fun ad H locs lsA hag hn hP hD hS hl hz => W.widen h1 h2 (k ad H locs lsA hag hn hP hD hS hl hz)
theorem pd_iincG (C : pd_C cx own cc rm) {i : Nat} {z : Int} {x zz : Int32} (d : decode cc pc = .ok (.iinc i z, 3)) (h : ls[i]? = some (some (.int x))) (hz : Int32.ofInt z = zz) (hk : pd_ok ls i = true) (k : ∀ v, v = x + zz → pd_V cx kc ks (pc + 3) (ls.set i (some (Value.int v))) st I J F n) : pd_V cx kc ks pc ls st I J F n :=
  pd_iinc C d h (by rw [hz]) hk (k _ rfl)
theorem pd_lsE {ls' : List (Option Value)} (he : ls = ls') (k : pd_V cx kc ks pc ls' st I J F n) : pd_V cx kc ks pc ls st I J F n := he ▸ k
theorem pd_oload_n (C : pd_C cx own cc rm) {q : Fin 4} {i : Nat} {o : Option Nat} (d : decode cc pc = .ok (.aload_n q, 1)) (hi : (q : Nat) = i) (h : ls[i]? = some (some (pd_rv o))) (k : pd_V cx kc ks (pc + 1) ls (pd_rv o :: st) I J F n) : pd_V cx kc ks pc ls st I J F n := by
  cases o with
  | some x => exact pd_aload_n C d hi h k
  | none =>
    obtain ⟨p, l, e, R, s, m, args, below, meth, c, D, tc, A, Q, n0, ad0, nL⟩ := cx
    exact fun ad H locs lsA ha hn hP hD hS hl hz => lv_aload_nN C.1 C.2.1 d hi (pd_lv_at hl h) (k ad H locs lsA ha hn hP hD hS hl hz)
theorem pd_oload (C : pd_C cx own cc rm) {i : Nat} {o : Option Nat} (d : decode cc pc = .ok (.aload i, 2)) (h : ls[i]? = some (some (pd_rv o))) (k : pd_V cx kc ks (pc + 2) ls (pd_rv o :: st) I J F n) : pd_V cx kc ks pc ls st I J F n := by
  cases o with
  | some x => exact pd_aload C d h k
  | none =>
    obtain ⟨p, l, e, R, s, m, args, below, meth, c, D, tc, A, Q, n0, ad0, nL⟩ := cx
    exact fun ad H locs lsA ha hn hP hD hS hl hz => lv_aloadN C.1 C.2.1 d (pd_lv_at hl h) (k ad H locs lsA ha hn hP hD hS hl hz)
theorem pd_ostore_n (C : pd_C cx own cc rm) {q : Fin 4} {i : Nat} {o : Option Nat} (d : decode cc pc = .ok (.astore_n q, 1)) (hi : (q : Nat) = i) (hb : i < ls.length) (hk : pd_ok ls i = true) {ls' : List (Option Value)} (he : ls.set i (some (pd_rv o)) = ls') (k : pd_V cx kc ks (pc + 1) ls' st I J F n) : pd_V cx kc ks pc ls (pd_rv o :: st) I J F n := by
  cases o with
  | some x => exact pd_astore_n C d hi hb hk he k
  | none =>
    subst he
    obtain ⟨p, l, e, R, s, m, args, below, meth, c, D, tc, A, Q, n0, ad0, nL⟩ := cx
    intro ad H locs lsA ha hn hP hD hS hl hz
    have hz' : ls.length = nL := hz
    refine lv_astore_nN C.1 C.2.1 d hi hl (by rw [← hz']; exact hb) rfl (fun lsB hlB => ?_)
    exact k ad H locs lsB ha hn hP hD hS (pd_has_mono hlB (pd_lv_set (v := .null) hb hk)) (by rw [List.length_set]; exact hz')
theorem pd_aaldO (C : pd_C cx own cc rm) {a N t : Nat} {i : Int32} {x : Option Nat} (ha : a < n) (hs : pd_SH a = (t, N)) (ht : t = 17 ∨ t = 18 ∨ t = 19) (hi : pd_in i N = true) (hF : F a i.toNatClampNeg = x) (d : decode cc pc = .ok (.aaload, 1)) (kk : pd_V cx kc ks (pc + 1) ls (pd_rv x :: st) I J F n) : pd_V cx kc ks pc ls (.int i :: .ref a :: st) I J F n := by
  cases x with
  | none => exact pd_aaldN C ha hs ht hi hF d kk
  | some b => exact pd_aald C ha hs ht hi hF d kk
theorem pd_tabAt (C : pd_C cx own cc rm) {dflt lo hi : Int} {offs : Array Int} {len : Nat} {x v : Int32} {off : Int} {tgt : Nat} (d : decode cc pc = .ok (.tableswitch dflt lo hi offs, len)) (hx : x = v) (h1 : ¬ v.toInt < lo) (h2 : ¬ hi < v.toInt) (ho : offs[(v.toInt - lo).toNat]? = some off) (ht : (pc : Int) + off = (tgt : Int)) (k : pd_V cx kc ks tgt ls st I J F n) : pd_V cx kc ks pc ls (.int x :: st) I J F n := by
  subst hx
  exact pd_tabIn C d h1 h2 ho ht k
theorem pd_alen (C : pd_C cx own cc rm) {a N : Nat} {v : Int32} (ha : a < n) (hs : pd_SH a = (13, N)) (hv : Int32.ofNat N = v) (d : decode cc pc = .ok (.arraylength, 1)) (kk : pd_V cx kc ks (pc + 1) ls (.int v :: st) I J F n) : pd_V cx kc ks pc ls (.ref a :: st) I J F n := by
  obtain ⟨p, l, e, R, s, m, args, below, meth, c, D, tc, A, Q, n0, ad0, nL⟩ := cx
  exact fun ad H locs lsA hag hn hP hD hS hl hz => va_alen C.1 C.2.1 C.2.2.2.2.2.1 hP a 0 ((pd_w_get ha).trans (by rw [pd_c_int hs (by decide) (by decide)])) (ty := .int) rfl hv d (kk ad H locs lsA hag hn hP hD hS hl hz)
theorem pd_lv_unset {ad : Nat → Nat} {ls : List (Option Value)} {i : Nat} {w : Value} (hok : pd_ok ls i = true) :
    ∀ q ∈ pd_lv ad 0 (ls.set i none), q ∈ (i, w) :: (pd_lv ad 0 ls).filter (fun q => !(q.1 == i) && !(q.1 + 1 == i && q.2.category == 2)) := by
  intro q hq
  obtain ⟨k, v, hk, rfl⟩ := pd_lv_mem.mp hq
  rw [Nat.zero_add]
  by_cases h : k = i
  · subst h
    rw [List.getElem?_set, if_pos rfl] at hk
    split at hk
    · cases Option.some.inj hk
    · cases hk
  · rw [List.getElem?_set_ne (Ne.symm h)] at hk
    refine List.mem_cons_of_mem _ (List.mem_filter.mpr ⟨pd_lv_mem.mpr ⟨k, v, hk, by simp⟩, ?_⟩)
    simp only [Bool.and_eq_true, Bool.not_eq_true', beq_eq_false_iff_ne, Bool.and_eq_false_iff]
    refine ⟨h, ?_⟩
    by_cases h1 : k + 1 = i
    · right
      subst h1
      simp only [pd_ok, hk] at hok
      rw [pd_v_cat]
      intro z
      rw [z] at hok
      cases hok
    · left; exact h1
theorem pd_catch0 (C : pd_C cx own cc rm) {hh pre suf : List (Nat × Nat × Nat × Nat)} {x : Nat × Nat × Nat × Nat} {E : String} {i : Nat} (htab : (cx.2.2.2.2.2.2.2.2.2.1).exceptionTable.toList = tableOf hh) (hsp : hh = pre ++ x :: suf)
    (hpass : ∀ z ∈ pre, z.2.2.2 ≠ 0 ∧ ∃ nm, Cond.classLink own z.2.2.2 nm ∈ pd_B ∧ (E, nm) ∈ pd_ncs) (hcov : covers ⟨x.1, x.2.1, x.2.2.1, x.2.2.2⟩ pc = true) (h0 : x.2.2.2 ≠ 0) (hlk : Cond.classLink own x.2.2.2 E ∈ pd_B) (hE : Cond.castable E E ∈ pd_cast.map (fun C => Cond.castable C C) ++ pd_decl.map Cond.declares)
    {ln : Nat} (hd : (decode cc x.2.2.1 = .ok (.astore i, 2) ∧ ln = 2) ∨ (∃ q : Fin 4, decode cc x.2.2.1 = .ok (.astore_n q, 1) ∧ (q : Nat) = i ∧ ln = 1)) (hb : i < ls.length) (hk : pd_ok ls i = true) {ls' : List (Option Value)} (he : ls.set i none = ls') (k : pd_V cx kc ks (x.2.2.1 + ln) ls' [] I J F n) : pd_VX cx kc ks pc ls E I J F n := by
  subst he
  subst hsp
  obtain ⟨p, l, e, R, s, m, args, below, meth, c, D, tc, A, Q, n0, ad0, nL⟩ := cx
  intro ad H locs lsA rest q ce hag hn hP hD hS hl hz hce hv hcl
  have hz' : ls.length = nL := hz
  refine vx_catch C.2.2.2.1 (tableOf pre) ⟨x.1, x.2.1, x.2.2.1, x.2.2.2⟩ (tableOf suf) (by rw [htab]; simp [tableOf]) ?_ hcov h0 (C.2.2.2.2.1 _ hlk) (va_Nw.use (pd_onB hE) (C.2.2.2.2.2.2.2.2.2.1.2.2.2.1 _ hE)) hce hv hcl ?_
  · intro z hz9
    obtain ⟨y, hy, rfl⟩ := List.mem_map.mp hz9
    obtain ⟨g1, nm, g2, g3⟩ := hpass y hy
    exact Or.inr ⟨g1, nm, C.2.2.2.2.1 _ g2, C.2.2.2.2.2.2.2.2.2.1.2.2.2.2.1 _ g3⟩
  · rcases hd with ⟨d, rfl⟩ | ⟨r, d, hr, rfl⟩
    · refine lv_astore C.1 C.2.1 d hl (by rw [← hz']; exact hb) rfl (fun lsB hlB => ?_)
      exact k ad H locs lsB hag hn hP hD hS (pd_has_mono hlB (pd_lv_unset hk)) (by rw [List.length_set]; exact hz')
    · refine lv_astore_n C.1 C.2.1 d hr hl (by rw [← hz']; exact hb) rfl (fun lsB hlB => ?_)
      exact k ad H locs lsB hag hn hP hD hS (pd_has_mono hlB (pd_lv_unset hk)) (by rw [List.length_set]; exact hz')
end PDG
theorem pd_C_st {cx : pd_X} {own : String} {cc : ByteArray} {rm : Room} (C : pd_C cx own cc rm) : (pd_l cx).stackTraces = false := by
  obtain ⟨p, l, e, R, s, m, args, below, meth, c, D, tc, A, Q, n0, ad0, nL⟩ := cx
  exact C.2.2.2.2.2.2.2.2.2.2
theorem pd_lt {a n : Nat} (h : a < 133) (hn : 133 ≤ n) : a < n := Nat.lt_of_lt_of_le h hn
/-- the texts and words of a throw -/
def pd_tw (own : String) (ic : Nat) (cls : String) : Prop := (∀ w ∈ (vx_atS own ic cls pd_exn).filter goodWord, w ∈ pd_B) ∧ (∀ w ∈ (vx_atS own ic cls pd_exn).filter (fun w => !goodWord w), w ∈ pd_cast.map (fun C => Cond.castable C C) ++ pd_decl.map Cond.declares) ∧ (vx_atS own ic cls pd_exn).all vx_ot = true ∧ Bundle.fit cls = true
theorem pd_tw_dummy : True := trivial
theorem pd_tw1 : pd_tw "PathDecoder" 107 "java/lang/IllegalArgumentException" := ⟨fun w h => pd_in1 ((by decide +kernel : ∀ w ∈ (vx_atS "PathDecoder" 107 "java/lang/IllegalArgumentException" pd_exn).filter goodWord, w ∈ lw_tbl) w h) (List.mem_filter.mp h).2, by decide +kernel, by decide +kernel, by decide +kernel⟩
theorem pd_tw2 : pd_tw "PathDecoder" 351 "java/lang/IndexOutOfBoundsException" := ⟨fun w h => pd_in1 ((by decide +kernel : ∀ w ∈ (vx_atS "PathDecoder" 351 "java/lang/IndexOutOfBoundsException" pd_exn).filter goodWord, w ∈ lw_tbl) w h) (List.mem_filter.mp h).2, by decide +kernel, by decide +kernel, by decide +kernel⟩
theorem pd_throw {cx : pd_X} {own : String} {cc : ByteArray} {rm : Room} {kc ks pc : Nat} {ls : List (Option Value)} {st : List Value} {I : pd_I} {J : pd_J} {F : pd_R} {n : Nat} {ret : Option FieldType} {o : Except String (Option Value)} {cls text : String} {ik is ic : Nat} (C : pd_C cx own cc rm) (hE : pd_E cx ret rm o I J F n) (ho : o = .error cls) (htab : ∀ x ∈ (cx.2.2.2.2.2.2.2.2.2.1).exceptionTable.toList, False) (ht : pd_tw own ic cls) (hk : Cond.classLink own ik cls ∈ pd_B) (hini : Cond.initialized cls ∈ pd_B) (hstr : (own, is, text) ∈ pd_strs)
    (d0 : decode cc pc = .ok (.new ik, 3)) (d3 : decode cc (pc + 3) = .ok (.dup, 1)) (d4 : decode cc (pc + 4) = .ok (.ldc is, 2)) (d6 : decode cc (pc + 6) = .ok (.invokespecial ic, 3)) (d9 : decode cc (pc + 9) = .ok (.athrow, 1))
    (hR : 5 < rm.frames ∧ (st.map fun v => v.category).sum + 82 ≤ rm.locals ∧ kc + 1 ≤ rm.cells ∧ ks + 6 ≤ rm.slots) : pd_V cx kc ks pc ls st I J F n := pd_throw0 C hE ho htab ht.2.2.2 hk hini hstr ht.1 ht.2.1 ht.2.2.1 d0 d3 d4 d6 d9 hR
theorem pd_throwW {cx : pd_X} {own : String} {cc : ByteArray} {rm : Room} {kc ks pc : Nat} {ls : List (Option Value)} {st : List Value} {I : pd_I} {J : pd_J} {F : pd_R} {n : Nat} {ret : Option FieldType} {o : Except String (Option Value)} {cls text : String} {ik is ic : Nat} (C : pd_C cx own cc rm) (hE : pd_E cx ret rm o I J F n) (ho : o = .error cls) (htab : ∀ x ∈ (cx.2.2.2.2.2.2.2.2.2.1).exceptionTable.toList, False) (ht : pd_tw own ic cls) (hk : Cond.classLink own ik cls ∈ pd_B) (hini : Cond.initialized cls ∈ pd_B) (hstr : (own, is, text) ∈ pd_strs)
    (d0 : decode cc pc = .ok (.new ik, 3)) (d3 : decode cc (pc + 3) = .ok (.dup, 1)) (d4 : decode cc (pc + 4) = .ok (.ldc_w is, 3)) (d6 : decode cc (pc + 7) = .ok (.invokespecial ic, 3)) (d9 : decode cc (pc + 10) = .ok (.athrow, 1))
    (hR : 5 < rm.frames ∧ (st.map fun v => v.category).sum + 82 ≤ rm.locals ∧ kc + 1 ≤ rm.cells ∧ ks + 6 ≤ rm.slots) : pd_V cx kc ks pc ls st I J F n := pd_throw0W C hE ho htab ht.2.2.2 hk hini hstr ht.1 ht.2.1 ht.2.2.1 d0 d3 d4 d6 d9 hR
/-- the words of a throw of NoSuchElementException -/
def pd_nse (own : String) (ic : Nat) : List Cond := pd_atX own ic "java/util/NoSuchElementException" "java/lang/RuntimeException" 13 prog_24_method_4_code ["java/lang/Exception"]
def pd_twN (own : String) (ic : Nat) (cls : String) : Prop := cls = "java/util/NoSuchElementException" ∧ (∀ w ∈ (pd_nse own ic).filter goodWord, w ∈ pd_B) ∧ (∀ w ∈ (pd_nse own ic).filter (fun w => !goodWord w), w ∈ pd_cast.map (fun C => Cond.castable C C) ++ pd_decl.map Cond.declares) ∧ (pd_nse own ic).all vx_ot = true
theorem pd_tw3 : pd_twN "PathDecoder" 171 "java/util/NoSuchElementException" := ⟨rfl, fun w h => pd_in1 ((by decide +kernel : ∀ w ∈ (pd_nse "PathDecoder" 171).filter goodWord, w ∈ lw_tbl) w h) (List.mem_filter.mp h).2, by decide +kernel, by decide +kernel⟩
theorem pd_tw4 : pd_twN "PathDecoder$Code" 75 "java/util/NoSuchElementException" := ⟨rfl, fun w h => pd_in1 ((by decide +kernel : ∀ w ∈ (pd_nse "PathDecoder$Code" 75).filter goodWord, w ∈ lw_tbl) w h) (List.mem_filter.mp h).2, by decide +kernel, by decide +kernel⟩
theorem pd_throwN {cx : pd_X} {own : String} {cc : ByteArray} {rm : Room} {kc ks pc : Nat} {ls : List (Option Value)} {st : List Value} {I : pd_I} {J : pd_J} {F : pd_R} {n : Nat} {ret : Option FieldType} {o : Except String (Option Value)} {cls text : String} {ik is ic : Nat} (C : pd_C cx own cc rm) (hE : pd_E cx ret rm o I J F n) (ho : o = .error cls) (htab : ∀ x ∈ (cx.2.2.2.2.2.2.2.2.2.1).exceptionTable.toList, False) (ht : pd_twN own ic cls) (hk : Cond.classLink own ik cls ∈ pd_B) (hini : Cond.initialized cls ∈ pd_B) (hstr : (own, is, text) ∈ pd_strs)
    (d0 : decode cc pc = .ok (.new ik, 3)) (d3 : decode cc (pc + 3) = .ok (.dup, 1)) (d4 : decode cc (pc + 4) = .ok (.ldc is, 2)) (d6 : decode cc (pc + 6) = .ok (.invokespecial ic, 3)) (d9 : decode cc (pc + 9) = .ok (.athrow, 1))
    (hR : 5 < rm.frames ∧ (st.map fun v => v.category).sum + 82 ≤ rm.locals ∧ kc + 1 ≤ rm.cells ∧ ks + 6 ≤ rm.slots) : pd_V cx kc ks pc ls st I J F n := by
  obtain ⟨rfl, t1, t2, t3⟩ := ht
  exact pd_throwX (names := ["java/lang/Exception"]) (up := "java/lang/RuntimeException") (ix := 13) (rx := prog_24_method_4_code) (pi := pc + 6) C (by decide +kernel) (by decide +kernel) (by decide +kernel) (by decide +kernel) hE ho htab (by decide +kernel) (by decide +kernel) (by decide +kernel) hk hini hstr t1 t2 t3 d0 d3 (Or.inl ⟨d4, rfl⟩) d6 d9 ⟨hR.1, hR.2.1, hR.2.2.1, hR.2.2.2⟩
theorem pd_throwNW {cx : pd_X} {own : String} {cc : ByteArray} {rm : Room} {kc ks pc : Nat} {ls : List (Option Value)} {st : List Value} {I : pd_I} {J : pd_J} {F : pd_R} {n : Nat} {ret : Option FieldType} {o : Except String (Option Value)} {cls text : String} {ik is ic : Nat} (C : pd_C cx own cc rm) (hE : pd_E cx ret rm o I J F n) (ho : o = .error cls) (htab : ∀ x ∈ (cx.2.2.2.2.2.2.2.2.2.1).exceptionTable.toList, False) (ht : pd_twN own ic cls) (hk : Cond.classLink own ik cls ∈ pd_B) (hini : Cond.initialized cls ∈ pd_B) (hstr : (own, is, text) ∈ pd_strs)
    (d0 : decode cc pc = .ok (.new ik, 3)) (d3 : decode cc (pc + 3) = .ok (.dup, 1)) (d4 : decode cc (pc + 4) = .ok (.ldc_w is, 3)) (d6 : decode cc (pc + 7) = .ok (.invokespecial ic, 3)) (d9 : decode cc (pc + 10) = .ok (.athrow, 1))
    (hR : 5 < rm.frames ∧ (st.map fun v => v.category).sum + 82 ≤ rm.locals ∧ kc + 1 ≤ rm.cells ∧ ks + 6 ≤ rm.slots) : pd_V cx kc ks pc ls st I J F n := by
  obtain ⟨rfl, t1, t2, t3⟩ := ht
  exact pd_throwX (names := ["java/lang/Exception"]) (up := "java/lang/RuntimeException") (ix := 13) (rx := prog_24_method_4_code) (pi := pc + 7) C (by decide +kernel) (by decide +kernel) (by decide +kernel) (by decide +kernel) hE ho htab (by decide +kernel) (by decide +kernel) (by decide +kernel) hk hini hstr t1 t2 t3 d0 d3 (Or.inr ⟨d4, rfl⟩) d6 d9 ⟨hR.1, hR.2.1, hR.2.2.1, hR.2.2.2⟩
