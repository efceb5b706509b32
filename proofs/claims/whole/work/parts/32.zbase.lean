/-! PURE PART. What comes of a function of the walks: zT x Q (it comes to some value with Q). -/
def zT {α : Type} (x : Option α) (Q : α → Prop) : Prop := ∃ a, x = some a ∧ Q a
theorem zT_some {α : Type} {a : α} {Q : α → Prop} : zT (some a) Q ↔ Q a := ⟨fun ⟨_, h, q⟩ => by cases h; exact q, fun h => ⟨a, rfl, h⟩⟩
theorem zT_none {α : Type} {Q : α → Prop} : zT (none : Option α) Q ↔ False := ⟨fun ⟨_, h, _⟩ => (by cases h), False.elim⟩
theorem zT_mono {α : Type} {x : Option α} {Q R : α → Prop} (h : zT x Q) (k : ∀ a, Q a → R a) : zT x R := by
  obtain ⟨a, e, q⟩ := h; exact ⟨a, e, k a q⟩
theorem zT_gd {α : Type} {b : Bool} {k : Option α} {Q : α → Prop} : zT (pd_gd b k) Q ↔ b = true ∧ zT k Q := by
  unfold pd_gd
  constructor
  · rintro ⟨a, h, q⟩
    by_cases hb : b = true
    · rw [if_pos hb] at h; exact ⟨hb, a, h, q⟩
    · rw [if_neg hb] at h; cases h
  · rintro ⟨hb, h⟩; rw [if_pos hb]; exact h
theorem zT_let {α β : Type} {x : α} {f : α → Option β} {Q : β → Prop} : zT (pd_let x f) Q ↔ zT (f x) Q := Iff.rfl
theorem zT_jn {τ γ : Type} {f : τ} {g : τ → Option γ} {Q : γ → Prop} : zT (pd_jn f g) Q ↔ zT (g f) Q := Iff.rfl
theorem zT_bd {α β : Type} {x : Option α} {f : α → Option β} {Q : β → Prop} : zT (pd_bd x f) Q ↔ zT x (fun a => zT (f a) Q) := by
  cases x with
  | none => exact ⟨fun ⟨_, h, _⟩ => (by cases h), fun ⟨_, h, _⟩ => (by cases h)⟩
  | some a => exact ⟨fun h => ⟨a, rfl, h⟩, fun ⟨_, h, q⟩ => (by cases h; exact q)⟩
theorem zT_bd2 {α β γ : Type} {x : Option (α × β)} {f : α → β → Option γ} {Q : γ → Prop} : zT (pd_bd2 x f) Q ↔ zT x (fun (p : α × β) => zT (f p.1 p.2) Q) := zT_bd (f := fun (p : α × β) => f p.1 p.2)
theorem zT_bd3 {α β γ δ : Type} {x : Option (α × β × γ)} {f : α → β → γ → Option δ} {Q : δ → Prop} : zT (pd_bd3 x f) Q ↔ zT x (fun (p : α × β × γ) => zT (f p.1 p.2.1 p.2.2) Q) := zT_bd (f := fun (p : α × β × γ) => f p.1 p.2.1 p.2.2)
theorem zT_bd4 {α β γ δ ε : Type} {x : Option (α × β × γ × δ)} {f : α → β → γ → δ → Option ε} {Q : ε → Prop} : zT (pd_bd4 x f) Q ↔ zT x (fun (p : α × β × γ × δ) => zT (f p.1 p.2.1 p.2.2.1 p.2.2.2) Q) := zT_bd (f := fun (p : α × β × γ × δ) => f p.1 p.2.1 p.2.2.1 p.2.2.2)
theorem zT_bd5 {α β γ δ ε ζ : Type} {x : Option (α × β × γ × δ × ε)} {f : α → β → γ → δ → ε → Option ζ} {Q : ζ → Prop} : zT (pd_bd5 x f) Q ↔ zT x (fun (p : α × β × γ × δ × ε) => zT (f p.1 p.2.1 p.2.2.1 p.2.2.2.1 p.2.2.2.2) Q) := zT_bd (f := fun (p : α × β × γ × δ × ε) => f p.1 p.2.1 p.2.2.1 p.2.2.2.1 p.2.2.2.2)
/-- an outcome: an error, or a value -/
def zE {α : Type} (P : String → Prop) (Q : α → Prop) : Except String α → Prop
  | .error e => P e
  | .ok a => Q a
theorem zE_ok {α : Type} {P : String → Prop} {Q : α → Prop} {a : α} : zE P Q (.ok a) ↔ Q a := Iff.rfl
theorem zE_er {α : Type} {P : String → Prop} {Q : α → Prop} {e : String} : zE P Q (.error e) ↔ P e := Iff.rfl
theorem zT_bx {α β : Type} {x : Option (Except String α)} {f : α → Option (Except String β)} {Q : Except String β → Prop} : zT (pd_bx x f) Q ↔ zT x (zE (fun e => Q (.error e)) (fun a => zT (f a) Q)) := by
  rcases x with _ | ⟨e | a⟩
  · exact ⟨fun ⟨_, h, _⟩ => (by cases h), fun ⟨_, h, _⟩ => (by cases h)⟩
  · exact ⟨fun ⟨_, h, q⟩ => (by cases h; exact ⟨_, rfl, q⟩), fun ⟨_, h, q⟩ => (by cases h; exact ⟨_, rfl, q⟩)⟩
  · exact ⟨fun h => ⟨_, rfl, h⟩, fun ⟨_, h, q⟩ => (by cases h; exact q)⟩
theorem zT_bx2 {α β γ : Type} {x : Option (Except String (α × β))} {f : α → β → Option (Except String γ)} {Q : Except String γ → Prop} : zT (pd_bx2 x f) Q ↔ zT x (zE (fun e => Q (.error e)) (fun (p : α × β) => zT (f p.1 p.2) Q)) := zT_bx (f := fun (p : α × β) => f p.1 p.2)
theorem zT_bc {α β : Type} {x : Option (Except String α)} {h : String → Option β} {f : α → Option β} {Q : β → Prop} : zT (pd_bc x h f) Q ↔ zT x (zE (fun e => zT (h e) Q) (fun a => zT (f a) Q)) := by
  rcases x with _ | ⟨e | a⟩
  · exact ⟨fun ⟨_, h, _⟩ => (by cases h), fun ⟨_, h, _⟩ => (by cases h)⟩
  · exact ⟨fun h => ⟨_, rfl, h⟩, fun ⟨_, h, q⟩ => (by cases h; exact q)⟩
  · exact ⟨fun h => ⟨_, rfl, h⟩, fun ⟨_, h, q⟩ => (by cases h; exact q)⟩
theorem zT_bc2 {α β γ : Type} {x : Option (Except String (α × β))} {h : String → Option γ} {f : α → β → Option γ} {Q : γ → Prop} : zT (pd_bc2 x h f) Q ↔ zT x (zE (fun e => zT (h e) Q) (fun (p : α × β) => zT (f p.1 p.2) Q)) := zT_bc (f := fun (p : α × β) => f p.1 p.2)
theorem zT_bc3 {α β γ δ : Type} {x : Option (Except String (α × β × γ))} {h : String → Option δ} {f : α → β → γ → Option δ} {Q : δ → Prop} : zT (pd_bc3 x h f) Q ↔ zT x (zE (fun e => zT (h e) Q) (fun (p : α × β × γ) => zT (f p.1 p.2.1 p.2.2) Q)) := zT_bc (f := fun (p : α × β × γ) => f p.1 p.2.1 p.2.2)
theorem zT_bc5 {α β γ δ ε ζ : Type} {x : Option (Except String (α × β × γ × δ × ε))} {h : String → Option ζ} {f : α → β → γ → δ → ε → Option ζ} {Q : ζ → Prop} : zT (pd_bc5 x h f) Q ↔ zT x (zE (fun e => zT (h e) Q) (fun (p : α × β × γ × δ × ε) => zT (f p.1 p.2.1 p.2.2.1 p.2.2.2.1 p.2.2.2.2) Q)) := zT_bc (f := fun (p : α × β × γ × δ × ε) => f p.1 p.2.1 p.2.2.1 p.2.2.2.1 p.2.2.2.2)
theorem zT_if {α : Type} {c : Prop} [Decidable c] {x y : Option α} {Q : α → Prop} : zT (if c then x else y) Q ↔ (c → zT x Q) ∧ (¬ c → zT y Q) := by
  by_cases h : c
  · rw [if_pos h]; exact ⟨fun k => ⟨fun _ => k, fun n => absurd h n⟩, fun k => k.1 h⟩
  · rw [if_neg h]; exact ⟨fun k => ⟨fun n => absurd n h, fun _ => k⟩, fun k => k.2 h⟩
theorem zT_of {α : Type} {x : Option α} {a : α} {Q : α → Prop} (h : x = some a) (q : Q a) : zT x Q := ⟨a, h, q⟩
theorem zT_eq {α : Type} {x : Option α} {a : α} : zT x (fun b => b = a) ↔ x = some a := ⟨fun ⟨_, h, e⟩ => by rw [h, e], fun h => ⟨a, h, rfl⟩⟩
/-- equations for what is known -/
theorem zb_gd {α : Type} {k : Option α} : pd_gd true k = k := (rfl)
theorem zb_bd {α β : Type} {a : α} {f : α → Option β} : pd_bd (some a) f = f a := (rfl)
theorem zb_bd2 {α β γ : Type} {a : α} {b : β} {f : α → β → Option γ} : pd_bd2 (some (a, b)) f = f a b := (rfl)
theorem zb_let {α β : Type} {x : α} {f : α → β} : pd_let x f = f x := (rfl)
theorem zb_jn {τ γ : Type} {f : τ} {g : τ → Option γ} : pd_jn f g = g f := (rfl)
/-! small numbers as ints -/
def zn (k : Nat) : Int32 := Int32.ofNat k
theorem zn_0 : (0 : Int32) = zn 0 := (rfl)
theorem zn_1 : (1 : Int32) = zn 1 := (rfl)
theorem zn_2 : (2 : Int32) = zn 2 := (rfl)
theorem zn_3 : (3 : Int32) = zn 3 := (rfl)
theorem zn_4 : (4 : Int32) = zn 4 := (rfl)
theorem zn_5 : (5 : Int32) = zn 5 := (rfl)
theorem zn_6 : (6 : Int32) = zn 6 := (rfl)
theorem zn_7 : (7 : Int32) = zn 7 := (rfl)
theorem zn_8 : (8 : Int32) = zn 8 := (rfl)
theorem zn_11 : (11 : Int32) = zn 11 := (rfl)
theorem zn_12 : (12 : Int32) = zn 12 := (rfl)
theorem zn_15 : (15 : Int32) = zn 15 := (rfl)
theorem zn_16 : (16 : Int32) = zn 16 := (rfl)
theorem zn_18 : (18 : Int32) = zn 18 := (rfl)
theorem zn_30 : (30 : Int32) = zn 30 := (rfl)
theorem zn_31 : (31 : Int32) = zn 31 := (rfl)
theorem zn_32 : (32 : Int32) = zn 32 := (rfl)
theorem zn_64 : (64 : Int32) = zn 64 := (rfl)
theorem zn_128 : (128 : Int32) = zn 128 := (rfl)
theorem zn_199 : (199 : Int32) = zn 199 := (rfl)
theorem zn_200 : (200 : Int32) = zn 200 := (rfl)
theorem zn_512 : (512 : Int32) = zn 512 := (rfl)
theorem zn_600 : (600 : Int32) = zn 600 := (rfl)
theorem zn_1000 : (1000 : Int32) = zn 1000 := (rfl)
theorem zn_2048 : (2048 : Int32) = zn 2048 := (rfl)
theorem zn_add {a b : Nat} : zn a + zn b = zn (a + b) := (Int32.ofNat_add a b).symm
theorem zn_mul {a b : Nat} : zn a * zn b = zn (a * b) := (Int32.ofNat_mul a b).symm
theorem zn_sub {a b : Nat} (h : b ≤ a) : zn a - zn b = zn (a - b) := (Int32.ofNat_sub a b h).symm
theorem zn_lt {a b : Nat} (ha : a < 2147483648) (hb : b < 2147483648) : zn a < zn b ↔ a < b := Int32.ofNat_lt_iff_lt ha hb
theorem zn_le {a b : Nat} (ha : a < 2147483648) (hb : b < 2147483648) : zn a ≤ zn b ↔ a ≤ b := Int32.ofNat_le_iff_le ha hb
theorem zn_nat {a : Nat} (ha : a < 2147483648) : (zn a).toNatClampNeg = a := Int32.toNatClampNeg_ofNat_of_lt ha
theorem zn_int {a : Nat} (ha : a < 2147483648) : (zn a).toInt = (a : Int) := Int32.toInt_ofNat_of_lt ha
theorem zn_eq {a b : Nat} (ha : a < 2147483648) (hb : b < 2147483648) : zn a = zn b ↔ a = b := ⟨fun h => by have h1 := congrArg Int32.toNatClampNeg h; rwa [zn_nat ha, zn_nat hb] at h1, fun h => by rw [h]⟩
theorem zi_lt {α : Type} {a b : Nat} {x y : α} (ha : a < 2147483648) (hb : b < 2147483648) : (if zn a < zn b then x else y) = if a < b then x else y := by simp only [zn_lt ha hb]
theorem zi_le {α : Type} {a b : Nat} {x y : α} (ha : a < 2147483648) (hb : b < 2147483648) : (if zn a ≤ zn b then x else y) = if a ≤ b then x else y := by simp only [zn_le ha hb]
theorem zi_eq {α : Type} {a b : Nat} {x y : α} (ha : a < 2147483648) (hb : b < 2147483648) : (if zn a = zn b then x else y) = if a = b then x else y := by simp only [zn_eq ha hb]
theorem zn_in {a N : Nat} (ha : a < N) (hN : N < 2147483648) : pd_in (zn a) N = true := by
  unfold pd_in
  rw [zn_int (by omega)]
  exact decide_eq_true ⟨by omega, by omega⟩
/-- (no comparison of two written numbers: the kernel counts) -/
theorem zn_in2 {a N : Nat} (ha : a < N) (h : a < 2147483648) : pd_in (zn a) N = true := by
  unfold pd_in
  rw [zn_int h]
  exact decide_eq_true ⟨by omega, by omega⟩
theorem zn_div {a b : Nat} (ha : a < 2147483648) (hb : b < 2147483648) : zn a / zn b = zn (a / b) := (Int32.ofNat_div ha hb).symm
theorem zn_mod {a b : Nat} (ha : a < 2147483648) (hb : b < 2147483648) : zn a % zn b = zn (a % b) := (Int32.ofNat_mod ha hb).symm
theorem zn_and {a b : Nat} : zn a &&& zn b = zn (a &&& b) := Int32.toBitVec.inj (by show BitVec.ofNat 32 a &&& BitVec.ofNat 32 b = BitVec.ofNat 32 (a &&& b); rw [BitVec.ofNat_and])
theorem zn_or {a b : Nat} : zn a ||| zn b = zn (a ||| b) := Int32.toBitVec.inj (by show BitVec.ofNat 32 a ||| BitVec.ofNat 32 b = BitVec.ofNat 32 (a ||| b); rw [BitVec.ofNat_or])
theorem zn_xor {a b : Nat} : zn a ^^^ zn b = zn (a ^^^ b) := Int32.toBitVec.inj (by show BitVec.ofNat 32 a ^^^ BitVec.ofNat 32 b = BitVec.ofNat 32 (a ^^^ b); rw [BitVec.ofNat_xor])
theorem zn_of {x : Int32} (h : 0 ≤ x) : ∃ k, x = zn k ∧ k < 2147483648 := ⟨x.toNatClampNeg, (Int32.ofNat_toNatClampNeg x h).symm, Int32.toNatClampNeg_lt x⟩
theorem zn_rng {x : Int32} {N : Nat} (h : ¬ x < 0) (h2 : ¬ zn N ≤ x) (hN : N < 2147483648) : ∃ k, x = zn k ∧ k < N := by
  obtain ⟨k, rfl, hk⟩ := zn_of (Int32.not_lt.mp h)
  exact ⟨k, rfl, by rw [zn_le hN hk] at h2; omega⟩
theorem zn_bo0 : pd_bo (zn 0) = true := rfl
theorem zn_bo1 : pd_bo (zn 1) = true := rfl
theorem zn_ne0 {a : Nat} (h0 : 0 < a) (ha : a < 2147483648) : decide (¬ zn a = zn 0) = true := decide_eq_true (fun h => by rw [zn_eq ha (by decide)] at h; omega)
theorem zn_shl1 : ∀ s < 128, zn s <<< (zn 1 &&& zn 31) = zn (2 * s) := by decide +kernel
theorem zn_1shl : ∀ c < 30, (zn 1) <<< (zn c &&& zn 31) = zn (2 ^ c) := by decide +kernel
/-! what was written -/
theorem zu_same {I : pd_I} {a k : Nat} {x : Int32} : pd_ui I a k x a = upd (I a) k x := if_pos rfl
theorem zu_ne {I : pd_I} {a k b : Nat} {x : Int32} (h : b ≠ a) : pd_ui I a k x b = I b := if_neg h
theorem zu_at {f : Nat → Int32} {k : Nat} {x : Int32} : upd f k x k = x := if_pos rfl
theorem zu_nat {f : Nat → Int32} {k j : Nat} {x : Int32} (h : j ≠ k) : upd f k x j = f j := if_neg h
theorem zu_app {f : Nat → Int32} {k j : Nat} {x : Int32} : upd f k x j = if j = k then x else f j := rfl
/-- only objects of L have changed -/
def zF (L : List Nat) (I I' : pd_I) : Prop := ∀ b, b ∉ L → I' b = I b
theorem zF_rfl {L : List Nat} {I : pd_I} : zF L I I := fun _ _ => rfl
theorem zF_tr {L : List Nat} {I I' I'' : pd_I} (h : zF L I I') (k : zF L I' I'') : zF L I I'' := fun b hb => by rw [k b hb, h b hb]
theorem zF_sub {L M : List Nat} {I I' : pd_I} (h : zF L I I') (k : ∀ x ∈ L, x ∈ M) : zF M I I' := fun b hb => h b (fun m => hb (k b m))
theorem zF_u {L : List Nat} {I I' : pd_I} {a k : Nat} {x : Int32} (ha : a ∈ L) (h : zF L I I') : zF L I (pd_ui I' a k x) := fun b hb => by
  rw [zu_ne (fun e => hb (by rw [e]; exact ha)), h b hb]
/-- a loop that counts: S is what it carries -/
theorem zl_loop {S O : Type} {Q : O → Prop} (F : Nat → Int32 → S → Option O) (N : Nat) (Inv : Nat → S → Prop)
    (hend : ∀ fu s, Inv N s → zT (F (fu + 1) (zn N) s) Q)
    (hstep : ∀ fu k s, k < N → Inv k s → (∀ s', Inv (k + 1) s' → zT (F fu (zn (k + 1)) s') Q) → zT (F (fu + 1) (zn k) s) Q) :
    ∀ (fu lo : Nat) (s : S), lo ≤ N → N < fu + lo → Inv lo s → zT (F fu (zn lo) s) Q := by
  intro fu
  induction fu with
  | zero => intro lo s h1 h2; omega
  | succ fu ih =>
    intro lo s h1 h2 hI
    by_cases hlo : lo = N
    · subst hlo; exact hend fu s hI
    · exact hstep fu lo s (by omega) hI (fun s' hs' => ih (lo + 1) s' (by omega) (by omega) hs')
theorem zFU {N lo : Nat} (h : N < 65536) : N < pd_FU + lo := by show N < 65536 + lo; omega
/-- the loop as an equation, where nothing is written -/
theorem zl_eq {S O : Type} (F : Nat → Int32 → S → Option O) (N lo0 : Nat) (r : Nat → S) (v : Option O)
    (hend : ∀ fu, F (fu + 1) (zn N) (r N) = v)
    (hstep : ∀ fu k, lo0 ≤ k → k < N → F (fu + 1) (zn k) (r k) = F fu (zn (k + 1)) (r (k + 1))) :
    ∀ (fu lo : Nat), lo0 ≤ lo → lo ≤ N → N < fu + lo → F fu (zn lo) (r lo) = v := by
  intro fu
  induction fu with
  | zero => intro lo h0 h1 h2; omega
  | succ fu ih =>
    intro lo h0 h1 h2
    by_cases hlo : lo = N
    · subst hlo; exact hend fu
    · rw [hstep fu lo h0 (by omega)]; exact ih (lo + 1) (by omega) (by omega) (by omega)
theorem zn_p0 : ¬ (zn 1 = zn 0) := by rw [zn_eq (by omega) (by omega)]; omega
