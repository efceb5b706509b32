/-! THE LOGICAL MEMORY: the whole system's objects by numbers (1st made: 0, ..), whose shapes are known ahead; a frame over it -/
abbrev pd_I : Type := Nat → Nat → Int32
abbrev pd_J : Type := Nat → Nat → Int64
abbrev pd_R : Type := Nat → Nat → Option Nat
def pd_ui (I : pd_I) (a k : Nat) (x : Int32) : pd_I := fun b => if b = a then upd (I b) k x else I b
def pd_uj (J : pd_J) (a k : Nat) (x : Int64) : pd_J := fun b => if b = a then vp_updL (J b) k x else J b
def pd_ur (F : pd_R) (a k : Nat) (x : Option Nat) : pd_R := fun b => if b = a then va_up (F b) k x else F b
/-- an object's number to its place: a value as the machine has it -/
def pd_v (ad : Nat → Nat) : Value → Value
  | .ref k => .ref (ad k)
  | v => v
theorem pd_v_cat (ad : Nat → Nat) (v : Value) : (pd_v ad v).category = v.category := by cases v <;> rfl
def pd_fv (ad : Nat → Nat) (I : pd_I) (F : pd_R) (t a j : Nat) : Value := if pd_FT t j = true then va_rf ((F a j).map ad) else .int (I a j)
/-- what the object of a number is: kinds 0 to 12 the classes, 13 int[], 14 byte[], 15 short[], 16 long[], 17 Row[], 18 Code[], 19 Way[] -/
def pd_c (ad : Nat → Nat) (tc : Nat → ClassId) (I : pd_I) (J : pd_J) (F : pd_R) (a : Nat) : va_E :=
  if (pd_SH a).1 < 13 then .inr ((pd_SH a).1, (List.range (pd_SH a).2).map (fun j => pd_fv ad I F (pd_SH a).1 a j))
  else if (pd_SH a).1 < 16 then .inl (tc ((pd_SH a).1 - 13), (pd_SH a).2, .inl (I a))
  else if (pd_SH a).1 = 16 then .inl (tc 3, (pd_SH a).2, .inr (.inl (J a)))
  else .inl (tc ((pd_SH a).1 - 13), (pd_SH a).2, .inr (.inr (.inr (.inr (fun j => (F a j).map ad)))))
def pd_w (ad : Nat → Nat) (tc : Nat → ClassId) (I : pd_I) (J : pd_J) (F : pd_R) (n : Nat) : va_W := (List.range n).map (fun a => (ad a, pd_c ad tc I J F a))
def pd_tys (tc : Nat → ClassId) : List (ClassId × FieldType) := [(tc 0, .int), (tc 1, .byte), (tc 2, .short), (tc 3, .long), (tc 4, .object "PathDecoder$Row"), (tc 5, .object "PathDecoder$Code"), (tc 6, .object "PathDecoder$Way")]
theorem pd_w_get {ad : Nat → Nat} {tc : Nat → ClassId} {I : pd_I} {J : pd_J} {F : pd_R} {n a : Nat} (h : a < n) : (pd_w ad tc I J F n)[a]? = some (ad a, pd_c ad tc I J F a) := by
  simp [pd_w, h]
theorem pd_w_set {ad : Nat → Nat} {tc : Nat → ClassId} {I I' : pd_I} {J J' : pd_J} {F F' : pd_R} {n a : Nat} {e : va_E} (he : pd_c ad tc I' J' F' a = e) (ho : ∀ b : Nat, b ≠ a → pd_c ad tc I' J' F' b = pd_c ad tc I J F b) :
    (pd_w ad tc I J F n).set a (ad a, e) = pd_w ad tc I' J' F' n := by
  apply List.ext_getElem?
  intro k
  by_cases hk : k = a
  · subst hk
    by_cases hn : k < n
    · rw [pd_w_get hn, List.getElem?_set_self (by simp [pd_w, hn]), he]
    · simp [pd_w, hn, List.getElem?_set]
  · rw [List.getElem?_set_ne (Ne.symm hk)]
    by_cases hn : k < n
    · rw [pd_w_get hn, pd_w_get hn, ho k hk]
    · simp [pd_w, hn]
theorem pd_c_obj {ad : Nat → Nat} {tc : Nat → ClassId} {I : pd_I} {J : pd_J} {F : pd_R} {a t N : Nat} (h : pd_SH a = (t, N)) (ht : t < 13) : pd_c ad tc I J F a = .inr (t, (List.range N).map (fun j => pd_fv ad I F t a j)) := by
  unfold pd_c; rw [h]; simp [ht]
theorem pd_c_int {ad : Nat → Nat} {tc : Nat → ClassId} {I : pd_I} {J : pd_J} {F : pd_R} {a t N : Nat} (h : pd_SH a = (t, N)) (h1 : ¬ t < 13) (h2 : t < 16) : pd_c ad tc I J F a = .inl (tc (t - 13), N, .inl (I a)) := by
  unfold pd_c; rw [h]; simp [h1, h2]
theorem pd_c_long {ad : Nat → Nat} {tc : Nat → ClassId} {I : pd_I} {J : pd_J} {F : pd_R} {a N : Nat} (h : pd_SH a = (16, N)) : pd_c ad tc I J F a = .inl (tc 3, N, .inr (.inl (J a))) := by
  unfold pd_c; rw [h]; simp
theorem pd_c_ref {ad : Nat → Nat} {tc : Nat → ClassId} {I : pd_I} {J : pd_J} {F : pd_R} {a t N : Nat} (h : pd_SH a = (t, N)) (h1 : 16 < t) : pd_c ad tc I J F a = .inl (tc (t - 13), N, .inr (.inr (.inr (.inr (fun j => (F a j).map ad))))) := by
  unfold pd_c; rw [h]; simp [show ¬ t < 13 by omega, show ¬ t < 16 by omega, show ¬ t = 16 by omega]
theorem pd_c_eqI {ad : Nat → Nat} {tc : Nat → ClassId} {I I' : pd_I} {J : pd_J} {F : pd_R} {b : Nat} (h : I' b = I b) : pd_c ad tc I' J F b = pd_c ad tc I J F b := by
  simp [pd_c, pd_fv, h]
theorem pd_c_eqJ {ad : Nat → Nat} {tc : Nat → ClassId} {I : pd_I} {J J' : pd_J} {F : pd_R} {b : Nat} (h : J' b = J b) : pd_c ad tc I J' F b = pd_c ad tc I J F b := by
  simp [pd_c, h]
theorem pd_c_eqF {ad : Nat → Nat} {tc : Nat → ClassId} {I : pd_I} {J : pd_J} {F F' : pd_R} {b : Nat} (h : F' b = F b) : pd_c ad tc I J F' b = pd_c ad tc I J F b := by
  simp [pd_c, pd_fv, h]
theorem pd_ui_ne {I : pd_I} {a k b : Nat} {x : Int32} (h : b ≠ a) : pd_ui I a k x b = I b := by simp [pd_ui, h]
theorem pd_uj_ne {J : pd_J} {a k b : Nat} {x : Int64} (h : b ≠ a) : pd_uj J a k x b = J b := by simp [pd_uj, h]
theorem pd_ur_ne {F : pd_R} {a k b : Nat} {x : Option Nat} (h : b ≠ a) : pd_ur F a k x b = F b := by simp [pd_ur, h]
theorem pd_ui_eq {I : pd_I} {a k : Nat} {x : Int32} : pd_ui I a k x a = upd (I a) k x := by simp [pd_ui]
theorem pd_uj_eq {J : pd_J} {a k : Nat} {x : Int64} : pd_uj J a k x a = vp_updL (J a) k x := by simp [pd_uj]
theorem pd_ur_eq {F : pd_R} {a k : Nat} {x : Option Nat} : pd_ur F a k x a = va_up (F a) k x := by simp [pd_ur]
/-- the locals by their places: none where nothing is said -/
def pd_lv (ad : Nat → Nat) : Nat → List (Option Value) → List (Nat × Value)
  | _, [] => []
  | i, none :: r => pd_lv ad (i + 1) r
  | i, some v :: r => (i, pd_v ad v) :: pd_lv ad (i + 1) r
theorem pd_lv_mem {ad : Nat → Nat} {q : Nat × Value} : ∀ {ls : List (Option Value)} {j : Nat}, q ∈ pd_lv ad j ls ↔ ∃ (k : Nat) (v : Value), ls[k]? = some (some v) ∧ q = (j + k, pd_v ad v)
  | [], j => by simp [pd_lv]
  | none :: r, j => by
    simp only [pd_lv]
    rw [pd_lv_mem (ls := r)]
    constructor
    · rintro ⟨k, v, h, rfl⟩
      exact ⟨k + 1, v, by simpa using h, by simp; omega⟩
    · rintro ⟨k, v, h, rfl⟩
      cases k with
      | zero => simp at h
      | succ k => exact ⟨k, v, by simpa using h, by simp; omega⟩
  | some w :: r, j => by
    simp only [pd_lv, List.mem_cons]
    rw [pd_lv_mem (ls := r)]
    constructor
    · rintro (rfl | ⟨k, v, h, rfl⟩)
      · exact ⟨0, w, by simp, by simp⟩
      · exact ⟨k + 1, v, by simpa using h, by simp; omega⟩
    · rintro ⟨k, v, h, rfl⟩
      cases k with
      | zero => simp at h; subst h; exact Or.inl (by simp)
      | succ k => exact Or.inr ⟨k, v, by simpa using h, by simp; omega⟩
theorem pd_has_mono {ls : Array Slot} {nL : Nat} {l l' : List (Nat × Value)} (h : lv_has ls nL l) (hm : ∀ q ∈ l', q ∈ l) : lv_has ls nL l' := ⟨h.1, h.2.1, fun q hq => h.2.2 q (hm q hq)⟩
theorem pd_lv_at {ad : Nat → Nat} {lsA : Array Slot} {nL : Nat} {ls : List (Option Value)} (h : lv_has lsA nL (pd_lv ad 0 ls)) {i : Nat} {v : Value} (hi : ls[i]? = some (some v)) : lsA[i]? = some (.val (pd_v ad v)) :=
  h.2.2 (i, pd_v ad v) (pd_lv_mem.mpr ⟨i, v, hi, by simp⟩)
/-- no long stands right ahead of place i -/
def pd_ok (ls : List (Option Value)) (i : Nat) : Bool := match i with
  | 0 => true
  | j + 1 => match ls[j]? with
    | some (some v) => v.category == 1
    | _ => true
theorem pd_lv_set {ad : Nat → Nat} {ls : List (Option Value)} {i : Nat} {v : Value} (hi : i < ls.length) (hok : pd_ok ls i = true) :
    ∀ q ∈ pd_lv ad 0 (ls.set i (some v)), q ∈ (i, pd_v ad v) :: (pd_lv ad 0 ls).filter (fun q => !(q.1 == i) && !(q.1 + 1 == i && q.2.category == 2)) := by
  intro q hq
  obtain ⟨k, w, hk, rfl⟩ := pd_lv_mem.mp hq
  rw [Nat.zero_add]
  by_cases h : k = i
  · subst h
    rw [List.getElem?_set_self hi] at hk
    cases hk
    exact List.mem_cons_self
  · rw [List.getElem?_set_ne (Ne.symm h)] at hk
    refine List.mem_cons_of_mem _ (List.mem_filter.mpr ⟨pd_lv_mem.mpr ⟨k, w, hk, by simp⟩, ?_⟩)
    simp only [Bool.and_eq_true, Bool.not_eq_true', beq_eq_false_iff_ne, Bool.and_eq_false_iff]
    refine ⟨h, ?_⟩
    by_cases h1 : k + 1 = i
    · right
      subst h1
      simp only [pd_ok, hk] at hok
      rw [pd_v_cat]
      intro z
      rw [z] at hok
      cases hok
    · left; exact h1
theorem pd_lv_set2 {ad : Nat → Nat} {ls : List (Option Value)} {i : Nat} {x : Int64} (hi : i < ls.length) (hok : pd_ok ls i = true) :
    ∀ q ∈ pd_lv ad 0 ((ls.set i (some (.long x))).set (i + 1) none), q ∈ (i, Value.long x) :: (pd_lv ad 0 ls).filter (fun q => !(q.1 == i) && (!(q.1 == i + 1) && !(q.1 + 1 == i && q.2.category == 2))) := by
  intro q hq
  obtain ⟨k, w, hk, rfl⟩ := pd_lv_mem.mp hq
  rw [Nat.zero_add]
  by_cases h2 : k = i + 1
  · subst h2
    rw [List.getElem?_set] at hk
    split at hk <;> simp at hk
    omega
  rw [List.getElem?_set_ne (Ne.symm h2)] at hk
  by_cases h : k = i
  · subst h
    rw [List.getElem?_set_self hi] at hk
    cases hk
    exact List.mem_cons_self
  · rw [List.getElem?_set_ne (Ne.symm h)] at hk
    refine List.mem_cons_of_mem _ (List.mem_filter.mpr ⟨pd_lv_mem.mpr ⟨k, w, hk, by simp⟩, ?_⟩)
    simp only [Bool.and_eq_true, Bool.not_eq_true', beq_eq_false_iff_ne, Bool.and_eq_false_iff]
    refine ⟨h, h2, ?_⟩
    by_cases h1 : k + 1 = i
    · right
      subst h1
      simp only [pd_ok, hk] at hok
      rw [pd_v_cat]
      intro z
      rw [z] at hok
      cases hok
    · left; exact h1
theorem pd_lv_args {ad : Nat → Nat} : ∀ (vs : List Value) (j k : Nat), (∀ v ∈ vs, v.category = 1) → ∀ q ∈ pd_lv ad j (vs.map some ++ List.replicate k none), q ∈ lv_args j (vs.map (pd_v ad))
  | [], j, k, _ => by
    intro q hq
    obtain ⟨i, v, h, -⟩ := pd_lv_mem.mp hq
    simp [List.getElem?_replicate] at h
  | v :: vs, j, k, hc => by
    intro q hq
    simp only [List.map_cons, List.cons_append, pd_lv, List.mem_cons] at hq
    have h1 : ¬ (pd_v ad v).category = 2 := by rw [pd_v_cat, hc v List.mem_cons_self]; decide
    simp only [List.map_cons, lv_args, if_neg h1, List.mem_cons]
    rcases hq with rfl | hq
    · exact Or.inl rfl
    · exact Or.inr (pd_lv_args vs (j + 1) k (fun w hw => hc w (List.mem_cons_of_mem _ hw)) q hq)
abbrev pd_X : Type := Program × Launch × Env × Room × State × MethodId × Array Value × List Frame × Method × Code × va_G × (Nat → ClassId) × (Nat → Prop) × (State → Prop) × Nat × (Nat → Nat) × Nat
/-- outside the objects made since, the places are as they were -/
def pd_ag (n0 n : Nat) (ad ad0 : Nat → Nat) : Prop := ∀ k, (k < n0 ∨ n ≤ k) → ad k = ad0 k
theorem pd_ag.same {n : Nat} {ad ad0 : Nat → Nat} (h : pd_ag n n ad ad0) : ad = ad0 := funext fun k => h k (by omega)
theorem pd_ag.trans {n0 n n1 : Nat} {ad ad0 ad1 : Nat → Nat} (h1 : pd_ag n n1 ad1 ad) (h0 : pd_ag n0 n ad ad0) (h : n ≤ n1) (h2 : n0 ≤ n) : pd_ag n0 n1 ad1 ad0 := fun k hk => (h1 k (by omega)).trans (h0 k (by omega))
/-- the machine at place pc with these locals, this stack and this memory comes to what is owed -/
def pd_V : pd_X → Nat → Nat → Nat → List (Option Value) → List Value → pd_I → pd_J → pd_R → Nat → Prop
  | (p, l, e, R, s, m, args, below, meth, c, D, tc, A, Q, n0, ad0, nL), kc, ks, pc, ls, st, I, J, F, n =>
    ∀ (ad : Nat → Nat) (H : Heap) (locs : List Loc) (lsA : Array Slot), pd_ag n0 n ad ad0 → n0 ≤ n → va_P D vwCl (pd_w ad tc I J F n) H → va_D A (pd_w ad tc I J F n) → va_S A s.heap H locs →
      lv_has lsA nL (pd_lv ad 0 ls) → ls.length = nL → W p l e R s m args below meth c H locs kc ks Q (F0 m pc lsA (st.map (pd_v ad)))
/-- the same, where an exception of the class E is on its way -/
def pd_VX : pd_X → Nat → Nat → Nat → List (Option Value) → String → pd_I → pd_J → pd_R → Nat → Prop
  | (p, l, e, R, s, m, args, below, meth, c, D, tc, A, Q, n0, ad0, nL), kc, ks, pc, ls, E, I, J, F, n =>
    ∀ (ad : Nat → Nat) (H : Heap) (locs : List Loc) (lsA : Array Slot) (rest : List Value) (q : Addr) (ce : Cell), pd_ag n0 n ad ad0 → n0 ≤ n → va_P D vwCl (pd_w ad tc I J F n) H → va_D A (pd_w ad tc I J F n) → va_S A s.heap H locs →
      lv_has lsA nL (pd_lv ad 0 ls) → ls.length = nL → H[q]? = some ce → ce.vm = .none → s.vm.findClass E = some ce.cls → vx_W p l e R s m args below meth c H locs kc ks Q (F0 m pc lsA rest) q
/-- what is given besides the words: the texts of the exceptions, the links to private constructors, arrays of references, two statics of Throwable -/
def pd_G (A : Nat → Prop) (U : State) (H : Heap) : Prop :=
  (∀ q ∈ pd_strs, ∃ sa, vk_R q.1 q.2.1 q.2.2 sa U) ∧ (∀ q ∈ pd_nest, va_Nw (.methodLinkNest q.1 q.2.1 q.2.2.1 q.2.2.2) U) ∧ (∀ C ∈ pd_over, va_AO C U) ∧ (∀ w ∈ pd_cast.map (fun C => Cond.castable C C) ++ pd_decl.map Cond.declares, va_Nw w U) ∧ (∀ q ∈ pd_ncs, va_Nc q.1 q.2 U) ∧
  vx_Zq Bundle.tN "UNASSIGNED_STACK" Bundle.steD A U H ∧ vx_Zq Bundle.tN "SUPPRESSED_SENTINEL" Bundle.listD A U H
theorem pd_onB {w : Cond} (hw : w ∈ pd_cast.map (fun C => Cond.castable C C) ++ pd_decl.map Cond.declares) : w.onTables = true := by
  rcases List.mem_append.mp hw with h | h
  · obtain ⟨C, -, rfl⟩ := List.mem_map.mp h; rfl
  · obtain ⟨C, -, rfl⟩ := List.mem_map.mp h; rfl
theorem pd_warmB {s U : State} (hW : s.WarmedH U.vm) {w : Cond} (hw : w ∈ pd_cast.map (fun C => Cond.castable C C) ++ pd_decl.map Cond.declares) (h : va_Nw w s) : va_Nw w U := by
  rcases List.mem_append.mp hw with h1 | h1
  · obtain ⟨C, -, rfl⟩ := List.mem_map.mp h1; exact va_Nw.warmC hW h
  · obtain ⟨C, -, rfl⟩ := List.mem_map.mp h1; exact va_Nw.warmD hW h
theorem pd_G.warm {A : Nat → Prop} {s U : State} {H : Heap} (hW : s.WarmedH U.vm) (h : pd_G A s H) : pd_G A U H := by
  obtain ⟨h1, h2, h3, h6, h7, h4, h5⟩ := h
  exact ⟨fun q hq => by obtain ⟨sa, h⟩ := h1 q hq; exact ⟨sa, vk_R.warm hW h⟩, fun q hq => va_Nw.warmM hW (h2 q hq), fun C hC => va_AO.moved hW.alike (h3 C hC), fun w hw => pd_warmB hW hw (h6 w hw), fun q hq => va_Nc.moved hW.alike (h7 q hq), vx_Zq.moved hW.alike h4, vx_Zq.moved hW.alike h5⟩
theorem pd_G.kept {A : Nat → Prop} {U : State} {H H1 : Heap} (h : pd_G A U H) (hq : ∀ a : Nat, a < H.size → ¬ A a → H1[a]? = H[a]?) : pd_G A U H1 := ⟨h.1, h.2.1, h.2.2.1, h.2.2.2.1, h.2.2.2.2.1, vx_Zq.kept h.2.2.2.2.2.1 hq, vx_Zq.kept h.2.2.2.2.2.2 hq⟩
theorem pd_G.narrow {A B : Nat → Prop} {U : State} {H : Heap} (h : pd_G A U H) (hAB : ∀ q, B q → A q) : pd_G B U H := ⟨h.1, h.2.1, h.2.2.1, h.2.2.2.1, h.2.2.2.2.1, vx_Zq.narrow h.2.2.2.2.2.1 hAB, vx_Zq.narrow h.2.2.2.2.2.2 hAB⟩
theorem pd_G.calling {A : Nat → Prop} {U : State} {g : JFrame} {mk : MethodId} {a : Array Value} (h : pd_G A U U.heap) : pd_G A (U.calling g mk a) (U.calling g mk a).heap := by
  obtain ⟨h1, h2, h3, h6, h7, h4, h5⟩ := h
  exact ⟨fun q hq => by obtain ⟨sa, h⟩ := h1 q hq; exact ⟨sa, vk_R.same rfl h⟩, fun q hq => va_Nw.same rfl rfl (h2 q hq), fun C hC => va_AO.moved (Vm.Alike.refl _) (h3 C hC), fun w hw => va_Nw.same (u := U) (pd_onB hw) rfl (h6 w hw), fun q hq => va_Nc.moved (u := U) (U := U.calling g mk a) (Vm.Alike.refl _) (h7 q hq), vx_Zq.moved (u := U) (U := U.calling g mk a) (Vm.Alike.refl U.vm) h4, vx_Zq.moved (u := U) (U := U.calling g mk a) (Vm.Alike.refl U.vm) h5⟩
/-- what a body may take as given -/
def pd_C : pd_X → String → ByteArray → Room → Prop
  | (p, l, _, R, s, m, args, _, meth, c, D, tc, A, _, _, _, nL), own, cc, rm => p.tables.exec = Jvm.exec ∧ c.code = cc ∧ c.maxLocals = nL ∧ s.vm.findClass own = some m.cls ∧ (∀ w ∈ pd_B, w.before args s = true) ∧ va_K D vwCl (pd_tys tc) s ∧
    (∀ q, s.heap.size ≤ q → A q) ∧ meth.locks = false ∧ R = rm ∧ pd_G A s s.heap ∧ l.stackTraces = false
/-- the contract: with these arguments and this memory the method ends with o and that memory -/
def pd_P (D : va_G) (tc : Nat → ClassId) (args : List Value) (I : pd_I) (J : pd_J) (F : pd_R) (n : Nat) (ad : Nat → Nat) (sz : Nat) : Array Value → State → Prop :=
  va_Pc (args.map (pd_v ad)) (fun U => U.heap.size = sz ∧ va_P D vwCl (pd_w ad tc I J F n) U.heap ∧ va_K D vwCl (pd_tys tc) U ∧ va_D (fun _ => True) (pd_w ad tc I J F n) ∧ pd_G (va_A (pd_w ad tc I J F n) sz) U U.heap)
def pd_Wd (D : va_G) (tc : Nat → ClassId) (n : Nat) (ad : Nat → Nat) (A : Nat → Prop) (I' : pd_I) (J' : pd_J) (F' : pd_R) (n' : Nat) (ad' : Nat → Nat) (t : State) : Prop :=
  pd_ag n n' ad' ad ∧ n ≤ n' ∧ va_P D vwCl (pd_w ad' tc I' J' F' n') t.heap ∧ va_D A (pd_w ad' tc I' J' F' n')
def pd_Qc (D : va_G) (tc : Nat → ClassId) (n : Nat) (ad : Nat → Nat) (A : Nat → Prop) (o : Except String (Option Value)) (I' : pd_I) (J' : pd_J) (F' : pd_R) (n' : Nat) : Array Value → State → Outcome → State → Prop :=
  fun _ st oc t => (∃ v ad', o = .ok v ∧ oc = .returned (v.map (pd_v ad')) ∧ pd_Wd D tc n ad A I' J' F' n' ad' t) ∧ va_F A st t
def pd_Xc (D : va_G) (tc : Nat → ClassId) (n : Nat) (ad : Nat → Nat) (A : Nat → Prop) (o : Except String (Option Value)) (I' : pd_I) (J' : pd_J) (F' : pd_R) (n' : Nat) : String → State → State → Prop :=
  fun E st t => (∃ ad', o = .error E ∧ pd_Wd D tc n ad A I' J' F' n' ad' t) ∧ va_F A st t
def pd_M (l : Launch) (D : va_G) (tc : Nat → ClassId) (y : MethodName) (w0 : Cond) (rm : Room) (args : List Value) (I : pd_I) (J : pd_J) (F : pd_R) (n : Nat) (o : Except String (Option Value)) (I' : pd_I) (J' : pd_J) (F' : pd_R) (n' : Nat) : Prop :=
  ∀ (ad : Nat → Nat) (sz : Nat), vx_Met l y (w0 :: pd_B) rm (pd_P D tc args I J F n ad sz) (pd_Qc D tc n ad (va_A (pd_w ad tc I J F n) sz) o I' J' F' n') (pd_Xc D tc n ad (va_A (pd_w ad tc I J F n) sz) o I' J' F' n') rm.cells rm.slots (va_A (pd_w ad tc I J F n) sz)
/-- what a body owes at its end -/
def pd_E : pd_X → Option FieldType → Room → Except String (Option Value) → pd_I → pd_J → pd_R → Nat → Prop
  | (_, _, _, _, s, _, args, below, meth, c, D, tc, A, Q, n0, ad0, _), ret, rm, o, I', J', F', n' =>
    Q = vx_MQ below (pd_Qc D tc n0 ad0 A o I' J' F' n') (pd_Xc D tc n0 ad0 A o I' J' F' n') args s rm.cells rm.slots A ∧ meth.sig.returnType = ret
def pd_l (cx : pd_X) : Launch := cx.2.1
def pd_D (cx : pd_X) : va_G := cx.2.2.2.2.2.2.2.2.2.2.1
def pd_tc (cx : pd_X) : Nat → ClassId := cx.2.2.2.2.2.2.2.2.2.2.2.1
theorem pd_P_blind {D : va_G} {tc : Nat → ClassId} {args : List Value} {I : pd_I} {J : pd_J} {F : pd_R} {n : Nat} {ad : Nat → Nat} {sz : Nat} : FrameBlind (pd_P D tc args I J F n ad sz) := fun a U g mk q => by
  obtain ⟨q0, q1, qP, qK, qD, qG⟩ := q
  exact ⟨q0, q1, qP, va_K.moved (u := U) (U := U.calling g mk a) (Vm.Alike.refl U.vm) qK, qD, qG.calling⟩
/-- a method's contract out of its walk -/
theorem pd_open {l : Launch} {D : va_G} {tc : Nat → ClassId} {y : MethodName} {cc : ByteArray} {maxL : Nat} {ret : Option FieldType} {rm : Room} {args : List Value} {I : pd_I} {J : pd_J} {F : pd_R} {n : Nat} {o : Except String (Option Value)} {I' : pd_I} {J' : pd_J} {F' : pd_R} {n' : Nat} {own : String} {ls0 : List (Option Value)}
    (hy : plainName y.cls = true) (hc0 : args.all (fun v => v.category == 1) = true) (hn : args.length ≤ maxL) (ho : y.cls = own) (hls0 : args.map some ++ List.replicate (maxL - args.length) none = ls0) (hst : l.stackTraces = false)
    (body : ∀ cx : pd_X, pd_l cx = l → pd_D cx = D → pd_tc cx = tc → pd_C cx own cc rm → pd_E cx ret rm o I' J' F' n' → (∀ x ∈ (cx.2.2.2.2.2.2.2.2.2.1).exceptionTable.toList, False) → ((cx.2.2.2.2.2.2.2.2.1).name = y.name) →
      pd_V cx 0 0 0 ls0 [] I J F n) :
    pd_M l D tc y (.code y cc maxL ret) rm args I J F n o I' J' F' n' := by
  subst ho
  subst hls0
  have hc : ∀ v ∈ args, v.category = 1 := fun v hv => by simpa using List.all_eq_true.mp hc0 v hv
  intro ad sz
  refine vx_ofW (cc := cc) (maxL := maxL) (ret := ret) hy rfl ?_
  intro p e s m args' below meth c s₁ B hml htab hv
  obtain ⟨rfl, hsz, hP, hK, hD0, hG⟩ := hv
  have hts := atoms_spec (ws := .code y cc maxL ret :: pd_B) B.pre
  have hown : s.vm.findClass y.cls = some m.cls := findClass_of_methodNamed B.named
  have hnm := (name_of_methodNamed B.named B.method).1
  subst hsz
  have hD := hD0.self (sz := s.heap.size)
  have hA : ∀ q : Nat, s.heap.size ≤ q → va_A (pd_w ad tc I J F n) s.heap.size q := fun q h => Or.inr h
  have hsl : ∀ vs : List Value, (∀ v ∈ vs, v.category = 1) → (lg_sl vs).length = vs.length := by
    intro vs h
    induction vs with
    | nil => rfl
    | cons v vs ih =>
      have h1 : ¬ v.category = 2 := by rw [h v List.mem_cons_self]; decide
      simp only [lg_sl, List.flatMap_cons, if_neg h1, List.length_append, List.length_cons, List.length_nil]
      have := ih (fun w hw => h w (List.mem_cons_of_mem _ hw))
      simp only [lg_sl] at this
      omega
  have hc' : ∀ v ∈ args.map (pd_v ad), v.category = 1 := by
    intro v hv
    obtain ⟨w, hw, rfl⟩ := List.mem_map.mp hv
    rw [pd_v_cat]; exact hc w hw
  have hlen : (lg_sl (args.map (pd_v ad))).length = args.length := by rw [hsl _ hc', List.length_map]
  have hl := lv_entry (args.map (pd_v ad)) (n := maxL) (by rw [hlen]; exact hn)
  rw [lg_entry_eq]
  have K := body (p, l, e, rm, s, m, (args.map (pd_v ad)).toArray, below, meth, c, D, tc, va_A (pd_w ad tc I J F n) s.heap.size, vx_MQ below (pd_Qc D tc n ad (va_A (pd_w ad tc I J F n) s.heap.size) o I' J' F' n') (pd_Xc D tc n ad (va_A (pd_w ad tc I J F n) s.heap.size) o I' J' F' n') (args.map (pd_v ad)).toArray s rm.cells rm.slots (va_A (pd_w ad tc I J F n) s.heap.size), n, ad, maxL) rfl rfl rfl
    ⟨B.exec, B.bytes, hml, hown, fun w hw => hts w (List.mem_cons_of_mem _ hw), hK, hA, B.notSynchronized, rfl, hG, hst⟩ ⟨rfl, B.returns⟩ htab hnm
  exact K ad s.heap [] _ (fun _ _ => rfl) (Nat.le_refl _) hP hD va_S.rf (pd_has_mono hl (pd_lv_args args 0 _ hc)) (by simp; omega)
/-- the same for a body with handlers -/
theorem pd_openH {l : Launch} {D : va_G} {tc : Nat → ClassId} {y : MethodName} {cc : ByteArray} {maxL : Nat} {ret : Option FieldType} {rm : Room} {args : List Value} {I : pd_I} {J : pd_J} {F : pd_R} {n : Nat} {o : Except String (Option Value)} {I' : pd_I} {J' : pd_J} {F' : pd_R} {n' : Nat} {own : String} {ls0 : List (Option Value)} {hh : List (Nat × Nat × Nat × Nat)}
    (hy : plainName y.cls = true) (hc0 : args.all (fun v => v.category == 1) = true) (hn : args.length ≤ maxL) (ho : y.cls = own) (hls0 : args.map some ++ List.replicate (maxL - args.length) none = ls0) (hst : l.stackTraces = false)
    (body : ∀ cx : pd_X, pd_l cx = l → pd_D cx = D → pd_tc cx = tc → pd_C cx own cc rm → pd_E cx ret rm o I' J' F' n' → (cx.2.2.2.2.2.2.2.2.2.1).exceptionTable.toList = tableOf hh →
      pd_V cx 0 0 0 ls0 [] I J F n) :
    pd_M l D tc y (.codeWith y cc maxL ret hh) rm args I J F n o I' J' F' n' := by
  subst ho
  subst hls0
  have hc : ∀ v ∈ args, v.category = 1 := fun v hv => by simpa using List.all_eq_true.mp hc0 v hv
  intro ad sz
  refine vx_ofWH (cc := cc) (maxL := maxL) (ret := ret) hy rfl ?_
  intro p e s m args' below meth c s₁ B hml hv
  obtain ⟨rfl, hsz, hP, hK, hD0, hG⟩ := hv
  have hts := atoms_spec (ws := .codeWith y cc maxL ret hh :: pd_B) B.pre
  have hown : s.vm.findClass y.cls = some m.cls := findClass_of_methodNamed B.named
  have htab := vx_table (x := y) B (hts _ List.mem_cons_self)
  subst hsz
  have hD := hD0.self (sz := s.heap.size)
  have hA : ∀ q : Nat, s.heap.size ≤ q → va_A (pd_w ad tc I J F n) s.heap.size q := fun q h => Or.inr h
  have hsl : ∀ vs : List Value, (∀ v ∈ vs, v.category = 1) → (lg_sl vs).length = vs.length := by
    intro vs h
    induction vs with
    | nil => rfl
    | cons v vs ih =>
      have h1 : ¬ v.category = 2 := by rw [h v List.mem_cons_self]; decide
      simp only [lg_sl, List.flatMap_cons, if_neg h1, List.length_append, List.length_cons, List.length_nil]
      have := ih (fun w hw => h w (List.mem_cons_of_mem _ hw))
      simp only [lg_sl] at this
      omega
  have hc' : ∀ v ∈ args.map (pd_v ad), v.category = 1 := by
    intro v hv
    obtain ⟨w, hw, rfl⟩ := List.mem_map.mp hv
    rw [pd_v_cat]; exact hc w hw
  have hlen : (lg_sl (args.map (pd_v ad))).length = args.length := by rw [hsl _ hc', List.length_map]
  have hl := lv_entry (args.map (pd_v ad)) (n := maxL) (by rw [hlen]; exact hn)
  rw [lg_entry_eq]
  have K := body (p, l, e, rm, s, m, (args.map (pd_v ad)).toArray, below, meth, c, D, tc, va_A (pd_w ad tc I J F n) s.heap.size, vx_MQ below (pd_Qc D tc n ad (va_A (pd_w ad tc I J F n) s.heap.size) o I' J' F' n') (pd_Xc D tc n ad (va_A (pd_w ad tc I J F n) s.heap.size) o I' J' F' n') (args.map (pd_v ad)).toArray s rm.cells rm.slots (va_A (pd_w ad tc I J F n) s.heap.size), n, ad, maxL) rfl rfl rfl
    ⟨B.exec, B.bytes, hml, hown, fun w hw => hts w (List.mem_cons_of_mem _ hw), hK, hA, B.notSynchronized, rfl, hG, hst⟩ ⟨rfl, B.returns⟩ htab
  exact K ad s.heap [] _ (fun _ _ => rfl) (Nat.le_refl _) hP hD va_S.rf (pd_has_mono hl (pd_lv_args args 0 _ hc)) (by simp; omega)
theorem pd_iconst {cx : pd_X} {own : String} {cc : ByteArray} {rm : Room} {kc ks pc : Nat} {ls : List (Option Value)} {st : List Value} {I : pd_I} {J : pd_J} {F : pd_R} {n : Nat} (C : pd_C cx own cc rm) {i : Int} {v : Int32} (d : decode cc pc = .ok (.iconst i, 1)) (hv : Int32.ofInt i = v) (k : pd_V cx kc ks (pc + 1) ls (.int v :: st) I J F n) : pd_V cx kc ks pc ls st I J F n := by
  obtain ⟨p, l, e, R, s, m, args, below, meth, c, D, tc, A, Q, n0, ad0, nL⟩ := cx
  exact fun ad H locs lsA ha hn hP hD hS hl hz => lv_iconst C.1 C.2.1 d hv (k ad H locs lsA ha hn hP hD hS hl hz)
theorem pd_bipush {cx : pd_X} {own : String} {cc : ByteArray} {rm : Room} {kc ks pc : Nat} {ls : List (Option Value)} {st : List Value} {I : pd_I} {J : pd_J} {F : pd_R} {n : Nat} (C : pd_C cx own cc rm) {i : Int} {v : Int32} (d : decode cc pc = .ok (.bipush i, 2)) (hv : (Int8.ofInt i).toInt32 = v) (k : pd_V cx kc ks (pc + 2) ls (.int v :: st) I J F n) : pd_V cx kc ks pc ls st I J F n := by
  obtain ⟨p, l, e, R, s, m, args, below, meth, c, D, tc, A, Q, n0, ad0, nL⟩ := cx
  exact fun ad H locs lsA ha hn hP hD hS hl hz => lv_bipush C.1 C.2.1 d hv (k ad H locs lsA ha hn hP hD hS hl hz)
theorem pd_sipush {cx : pd_X} {own : String} {cc : ByteArray} {rm : Room} {kc ks pc : Nat} {ls : List (Option Value)} {st : List Value} {I : pd_I} {J : pd_J} {F : pd_R} {n : Nat} (C : pd_C cx own cc rm) {i : Int} {v : Int32} (d : decode cc pc = .ok (.sipush i, 3)) (hv : (Int16.ofInt i).toInt32 = v) (k : pd_V cx kc ks (pc + 3) ls (.int v :: st) I J F n) : pd_V cx kc ks pc ls st I J F n := by
  obtain ⟨p, l, e, R, s, m, args, below, meth, c, D, tc, A, Q, n0, ad0, nL⟩ := cx
  exact fun ad H locs lsA ha hn hP hD hS hl hz => lv_sipush C.1 C.2.1 d hv (k ad H locs lsA ha hn hP hD hS hl hz)
theorem pd_lconst {cx : pd_X} {own : String} {cc : ByteArray} {rm : Room} {kc ks pc : Nat} {ls : List (Option Value)} {st : List Value} {I : pd_I} {J : pd_J} {F : pd_R} {n : Nat} (C : pd_C cx own cc rm) {i : Fin 2} {v : Int64} (d : decode cc pc = .ok (.lconst i, 1)) (hv : Int64.ofNat (i : Nat) = v) (k : pd_V cx kc ks (pc + 1) ls (.long v :: st) I J F n) : pd_V cx kc ks pc ls st I J F n := by
  obtain ⟨p, l, e, R, s, m, args, below, meth, c, D, tc, A, Q, n0, ad0, nL⟩ := cx
  exact fun ad H locs lsA ha hn hP hD hS hl hz => lv_lconst C.1 C.2.1 d hv (k ad H locs lsA ha hn hP hD hS hl hz)
theorem pd_null {cx : pd_X} {own : String} {cc : ByteArray} {rm : Room} {kc ks pc : Nat} {ls : List (Option Value)} {st : List Value} {I : pd_I} {J : pd_J} {F : pd_R} {n : Nat} (C : pd_C cx own cc rm)  (d : decode cc pc = .ok (.aconst_null, 1)) (k : pd_V cx kc ks (pc + 1) ls (.null :: st) I J F n) : pd_V cx kc ks pc ls st I J F n := by
  obtain ⟨p, l, e, R, s, m, args, below, meth, c, D, tc, A, Q, n0, ad0, nL⟩ := cx
  exact fun ad H locs lsA ha hn hP hD hS hl hz => lv_null C.1 C.2.1 d  (k ad H locs lsA ha hn hP hD hS hl hz)
theorem pd_iload_n {cx : pd_X} {own : String} {cc : ByteArray} {rm : Room} {kc ks pc : Nat} {ls : List (Option Value)} {st : List Value} {I : pd_I} {J : pd_J} {F : pd_R} {n : Nat} (C : pd_C cx own cc rm) {q : Fin 4} {i : Nat} {x : Int32} (d : decode cc pc = .ok (.iload_n q, 1)) (hi : (q : Nat) = i) (h : ls[i]? = some (some (.int x))) (k : pd_V cx kc ks (pc + 1) ls (.int x :: st) I J F n) : pd_V cx kc ks pc ls st I J F n := by
  obtain ⟨p, l, e, R, s, m, args, below, meth, c, D, tc, A, Q, n0, ad0, nL⟩ := cx
  exact fun ad H locs lsA ha hn hP hD hS hl hz => lv_iload_n C.1 C.2.1 d hi (pd_lv_at hl h) (k ad H locs lsA ha hn hP hD hS hl hz)
theorem pd_iload {cx : pd_X} {own : String} {cc : ByteArray} {rm : Room} {kc ks pc : Nat} {ls : List (Option Value)} {st : List Value} {I : pd_I} {J : pd_J} {F : pd_R} {n : Nat} (C : pd_C cx own cc rm) {i : Nat} {x : Int32} (d : decode cc pc = .ok (.iload i, 2)) (h : ls[i]? = some (some (.int x))) (k : pd_V cx kc ks (pc + 2) ls (.int x :: st) I J F n) : pd_V cx kc ks pc ls st I J F n := by
  obtain ⟨p, l, e, R, s, m, args, below, meth, c, D, tc, A, Q, n0, ad0, nL⟩ := cx
  exact fun ad H locs lsA ha hn hP hD hS hl hz => lv_iload C.1 C.2.1 d (pd_lv_at hl h) (k ad H locs lsA ha hn hP hD hS hl hz)
theorem pd_lload_n {cx : pd_X} {own : String} {cc : ByteArray} {rm : Room} {kc ks pc : Nat} {ls : List (Option Value)} {st : List Value} {I : pd_I} {J : pd_J} {F : pd_R} {n : Nat} (C : pd_C cx own cc rm) {q : Fin 4} {i : Nat} {x : Int64} (d : decode cc pc = .ok (.lload_n q, 1)) (hi : (q : Nat) = i) (h : ls[i]? = some (some (.long x))) (k : pd_V cx kc ks (pc + 1) ls (.long x :: st) I J F n) : pd_V cx kc ks pc ls st I J F n := by
  obtain ⟨p, l, e, R, s, m, args, below, meth, c, D, tc, A, Q, n0, ad0, nL⟩ := cx
  exact fun ad H locs lsA ha hn hP hD hS hl hz => lv_lload_n C.1 C.2.1 d hi (pd_lv_at hl h) (k ad H locs lsA ha hn hP hD hS hl hz)
theorem pd_lload {cx : pd_X} {own : String} {cc : ByteArray} {rm : Room} {kc ks pc : Nat} {ls : List (Option Value)} {st : List Value} {I : pd_I} {J : pd_J} {F : pd_R} {n : Nat} (C : pd_C cx own cc rm) {i : Nat} {x : Int64} (d : decode cc pc = .ok (.lload i, 2)) (h : ls[i]? = some (some (.long x))) (k : pd_V cx kc ks (pc + 2) ls (.long x :: st) I J F n) : pd_V cx kc ks pc ls st I J F n := by
  obtain ⟨p, l, e, R, s, m, args, below, meth, c, D, tc, A, Q, n0, ad0, nL⟩ := cx
  exact fun ad H locs lsA ha hn hP hD hS hl hz => lv_lload C.1 C.2.1 d (pd_lv_at hl h) (k ad H locs lsA ha hn hP hD hS hl hz)
theorem pd_aload_n {cx : pd_X} {own : String} {cc : ByteArray} {rm : Room} {kc ks pc : Nat} {ls : List (Option Value)} {st : List Value} {I : pd_I} {J : pd_J} {F : pd_R} {n : Nat} (C : pd_C cx own cc rm) {q : Fin 4} {i : Nat} {x : Nat} (d : decode cc pc = .ok (.aload_n q, 1)) (hi : (q : Nat) = i) (h : ls[i]? = some (some (.ref x))) (k : pd_V cx kc ks (pc + 1) ls (.ref x :: st) I J F n) : pd_V cx kc ks pc ls st I J F n := by
  obtain ⟨p, l, e, R, s, m, args, below, meth, c, D, tc, A, Q, n0, ad0, nL⟩ := cx
  exact fun ad H locs lsA ha hn hP hD hS hl hz => lv_aload_n C.1 C.2.1 d hi (pd_lv_at hl h) (k ad H locs lsA ha hn hP hD hS hl hz)
theorem pd_aload {cx : pd_X} {own : String} {cc : ByteArray} {rm : Room} {kc ks pc : Nat} {ls : List (Option Value)} {st : List Value} {I : pd_I} {J : pd_J} {F : pd_R} {n : Nat} (C : pd_C cx own cc rm) {i : Nat} {x : Nat} (d : decode cc pc = .ok (.aload i, 2)) (h : ls[i]? = some (some (.ref x))) (k : pd_V cx kc ks (pc + 2) ls (.ref x :: st) I J F n) : pd_V cx kc ks pc ls st I J F n := by
  obtain ⟨p, l, e, R, s, m, args, below, meth, c, D, tc, A, Q, n0, ad0, nL⟩ := cx
  exact fun ad H locs lsA ha hn hP hD hS hl hz => lv_aload C.1 C.2.1 d (pd_lv_at hl h) (k ad H locs lsA ha hn hP hD hS hl hz)
theorem pd_istore_n {cx : pd_X} {own : String} {cc : ByteArray} {rm : Room} {kc ks pc : Nat} {ls : List (Option Value)} {st : List Value} {I : pd_I} {J : pd_J} {F : pd_R} {n : Nat} (C : pd_C cx own cc rm) {q : Fin 4} {i : Nat} {x : Int32} (d : decode cc pc = .ok (.istore_n q, 1)) (hi : (q : Nat) = i) (hb : i < ls.length) (hk : pd_ok ls i = true) {ls' : List (Option Value)} (he : ls.set i (some (Value.int x)) = ls') (k : pd_V cx kc ks (pc + 1) (ls') st I J F n) : pd_V cx kc ks pc ls (.int x :: st) I J F n := by
  subst he
  obtain ⟨p, l, e, R, s, m, args, below, meth, c, D, tc, A, Q, n0, ad0, nL⟩ := cx
  intro ad H locs lsA ha hn hP hD hS hl hz
  have hz' : ls.length = nL := hz
  refine lv_istore_n (x := x) C.1 C.2.1 d hi hl (by rw [← hz']; exact hb) rfl (fun lsB hlB => ?_)
  exact k ad H locs lsB ha hn hP hD hS (pd_has_mono hlB (pd_lv_set (v := Value.int x) hb hk)) (by rw [List.length_set]; exact hz')
theorem pd_istore {cx : pd_X} {own : String} {cc : ByteArray} {rm : Room} {kc ks pc : Nat} {ls : List (Option Value)} {st : List Value} {I : pd_I} {J : pd_J} {F : pd_R} {n : Nat} (C : pd_C cx own cc rm) {i : Nat} {x : Int32} (d : decode cc pc = .ok (.istore i, 2)) (hb : i < ls.length) (hk : pd_ok ls i = true) {ls' : List (Option Value)} (he : ls.set i (some (Value.int x)) = ls') (k : pd_V cx kc ks (pc + 2) (ls') st I J F n) : pd_V cx kc ks pc ls (.int x :: st) I J F n := by
  subst he
  obtain ⟨p, l, e, R, s, m, args, below, meth, c, D, tc, A, Q, n0, ad0, nL⟩ := cx
  intro ad H locs lsA ha hn hP hD hS hl hz
  have hz' : ls.length = nL := hz
  refine lv_istore (x := x) C.1 C.2.1 d hl (by rw [← hz']; exact hb) rfl (fun lsB hlB => ?_)
  exact k ad H locs lsB ha hn hP hD hS (pd_has_mono hlB (pd_lv_set (v := Value.int x) hb hk)) (by rw [List.length_set]; exact hz')
theorem pd_astore_n {cx : pd_X} {own : String} {cc : ByteArray} {rm : Room} {kc ks pc : Nat} {ls : List (Option Value)} {st : List Value} {I : pd_I} {J : pd_J} {F : pd_R} {n : Nat} (C : pd_C cx own cc rm) {q : Fin 4} {i : Nat} {x : Nat} (d : decode cc pc = .ok (.astore_n q, 1)) (hi : (q : Nat) = i) (hb : i < ls.length) (hk : pd_ok ls i = true) {ls' : List (Option Value)} (he : ls.set i (some (Value.ref x)) = ls') (k : pd_V cx kc ks (pc + 1) (ls') st I J F n) : pd_V cx kc ks pc ls (.ref x :: st) I J F n := by
  subst he
  obtain ⟨p, l, e, R, s, m, args, below, meth, c, D, tc, A, Q, n0, ad0, nL⟩ := cx
  intro ad H locs lsA ha hn hP hD hS hl hz
  have hz' : ls.length = nL := hz
  refine lv_astore_n (x := (ad x)) C.1 C.2.1 d hi hl (by rw [← hz']; exact hb) rfl (fun lsB hlB => ?_)
  exact k ad H locs lsB ha hn hP hD hS (pd_has_mono hlB (pd_lv_set (v := Value.ref x) hb hk)) (by rw [List.length_set]; exact hz')
theorem pd_astore {cx : pd_X} {own : String} {cc : ByteArray} {rm : Room} {kc ks pc : Nat} {ls : List (Option Value)} {st : List Value} {I : pd_I} {J : pd_J} {F : pd_R} {n : Nat} (C : pd_C cx own cc rm) {i : Nat} {x : Nat} (d : decode cc pc = .ok (.astore i, 2)) (hb : i < ls.length) (hk : pd_ok ls i = true) {ls' : List (Option Value)} (he : ls.set i (some (Value.ref x)) = ls') (k : pd_V cx kc ks (pc + 2) (ls') st I J F n) : pd_V cx kc ks pc ls (.ref x :: st) I J F n := by
  subst he
  obtain ⟨p, l, e, R, s, m, args, below, meth, c, D, tc, A, Q, n0, ad0, nL⟩ := cx
  intro ad H locs lsA ha hn hP hD hS hl hz
  have hz' : ls.length = nL := hz
  refine lv_astore (x := (ad x)) C.1 C.2.1 d hl (by rw [← hz']; exact hb) rfl (fun lsB hlB => ?_)
  exact k ad H locs lsB ha hn hP hD hS (pd_has_mono hlB (pd_lv_set (v := Value.ref x) hb hk)) (by rw [List.length_set]; exact hz')
theorem pd_lstore_n {cx : pd_X} {own : String} {cc : ByteArray} {rm : Room} {kc ks pc : Nat} {ls : List (Option Value)} {st : List Value} {I : pd_I} {J : pd_J} {F : pd_R} {n : Nat} (C : pd_C cx own cc rm) {q : Fin 4} {i : Nat} {x : Int64} (d : decode cc pc = .ok (.lstore_n q, 1)) (hi : (q : Nat) = i) (hb : i + 1 < ls.length) (hk : pd_ok ls i = true) {ls' : List (Option Value)} (he : (ls.set i (some (Value.long x))).set (i + 1) none = ls') (k : pd_V cx kc ks (pc + 1) (ls') st I J F n) : pd_V cx kc ks pc ls (.long x :: st) I J F n := by
  subst he
  obtain ⟨p, l, e, R, s, m, args, below, meth, c, D, tc, A, Q, n0, ad0, nL⟩ := cx
  intro ad H locs lsA ha hn hP hD hS hl hz
  have hz' : ls.length = nL := hz
  refine lv_lstore_n C.1 C.2.1 d hi hl (by rw [← hz']; exact hb) rfl (fun lsB hlB => ?_)
  exact k ad H locs lsB ha hn hP hD hS (pd_has_mono hlB (pd_lv_set2 (by omega) hk)) (by rw [List.length_set, List.length_set]; exact hz')
theorem pd_lstore {cx : pd_X} {own : String} {cc : ByteArray} {rm : Room} {kc ks pc : Nat} {ls : List (Option Value)} {st : List Value} {I : pd_I} {J : pd_J} {F : pd_R} {n : Nat} (C : pd_C cx own cc rm) {i : Nat} {x : Int64} (d : decode cc pc = .ok (.lstore i, 2)) (hb : i + 1 < ls.length) (hk : pd_ok ls i = true) {ls' : List (Option Value)} (he : (ls.set i (some (Value.long x))).set (i + 1) none = ls') (k : pd_V cx kc ks (pc + 2) (ls') st I J F n) : pd_V cx kc ks pc ls (.long x :: st) I J F n := by
  subst he
  obtain ⟨p, l, e, R, s, m, args, below, meth, c, D, tc, A, Q, n0, ad0, nL⟩ := cx
  intro ad H locs lsA ha hn hP hD hS hl hz
  have hz' : ls.length = nL := hz
  refine lv_lstore C.1 C.2.1 d hl (by rw [← hz']; exact hb) rfl (fun lsB hlB => ?_)
  exact k ad H locs lsB ha hn hP hD hS (pd_has_mono hlB (pd_lv_set2 (by omega) hk)) (by rw [List.length_set, List.length_set]; exact hz')
theorem pd_iinc {cx : pd_X} {own : String} {cc : ByteArray} {rm : Room} {kc ks pc : Nat} {ls : List (Option Value)} {st : List Value} {I : pd_I} {J : pd_J} {F : pd_R} {n : Nat} (C : pd_C cx own cc rm) {i : Nat} {z : Int} {x v : Int32} (d : decode cc pc = .ok (.iinc i z, 3)) (h : ls[i]? = some (some (.int x))) (hv : x + Int32.ofInt z = v) (hk : pd_ok ls i = true) (k : pd_V cx kc ks (pc + 3) (ls.set i (some (Value.int v))) st I J F n) : pd_V cx kc ks pc ls st I J F n := by
  obtain ⟨p, l, e, R, s, m, args, below, meth, c, D, tc, A, Q, n0, ad0, nL⟩ := cx
  intro ad H locs lsA ha hn hP hD hS hl hz
  have hz' : ls.length = nL := hz
  have hb : i < ls.length := (List.getElem?_eq_some_iff.mp h).1
  obtain ⟨k0, hk0⟩ := List.getElem?_of_mem (pd_lv_mem (ad := ad) (j := 0) (q := (i, Value.int x)).mpr ⟨i, .int x, h, by simp [pd_v]⟩)
  refine lv_iinc C.1 C.2.1 d hl hk0 hv (by rw [← hz']; exact hb) rfl (fun lsB hlB => ?_)
  exact k ad H locs lsB ha hn hP hD hS (pd_has_mono hlB (pd_lv_set (v := .int v) hb hk)) (by rw [List.length_set]; exact hz')
theorem pd_iadd {cx : pd_X} {own : String} {cc : ByteArray} {rm : Room} {kc ks pc : Nat} {ls : List (Option Value)} {st : List Value} {I : pd_I} {J : pd_J} {F : pd_R} {n : Nat} (C : pd_C cx own cc rm) {x y : Int32} (d : decode cc pc = .ok (.iadd, 1)) (k : pd_V cx kc ks (pc + 1) ls (.int (x + y) :: st) I J F n) : pd_V cx kc ks pc ls (.int y :: .int x :: st) I J F n := by
  obtain ⟨p, l, e, R, s, m, args, below, meth, c, D, tc, A, Q, n0, ad0, nL⟩ := cx
  exact fun ad H locs lsA ha hn hP hD hS hl hz => lv_iadd C.1 C.2.1 d  (k ad H locs lsA ha hn hP hD hS hl hz)
theorem pd_isub {cx : pd_X} {own : String} {cc : ByteArray} {rm : Room} {kc ks pc : Nat} {ls : List (Option Value)} {st : List Value} {I : pd_I} {J : pd_J} {F : pd_R} {n : Nat} (C : pd_C cx own cc rm) {x y : Int32} (d : decode cc pc = .ok (.isub, 1)) (k : pd_V cx kc ks (pc + 1) ls (.int (x - y) :: st) I J F n) : pd_V cx kc ks pc ls (.int y :: .int x :: st) I J F n := by
  obtain ⟨p, l, e, R, s, m, args, below, meth, c, D, tc, A, Q, n0, ad0, nL⟩ := cx
  exact fun ad H locs lsA ha hn hP hD hS hl hz => lv_isub C.1 C.2.1 d  (k ad H locs lsA ha hn hP hD hS hl hz)
theorem pd_imul {cx : pd_X} {own : String} {cc : ByteArray} {rm : Room} {kc ks pc : Nat} {ls : List (Option Value)} {st : List Value} {I : pd_I} {J : pd_J} {F : pd_R} {n : Nat} (C : pd_C cx own cc rm) {x y : Int32} (d : decode cc pc = .ok (.imul, 1)) (k : pd_V cx kc ks (pc + 1) ls (.int (x * y) :: st) I J F n) : pd_V cx kc ks pc ls (.int y :: .int x :: st) I J F n := by
  obtain ⟨p, l, e, R, s, m, args, below, meth, c, D, tc, A, Q, n0, ad0, nL⟩ := cx
  exact fun ad H locs lsA ha hn hP hD hS hl hz => lv_imul C.1 C.2.1 d  (k ad H locs lsA ha hn hP hD hS hl hz)
theorem pd_iand {cx : pd_X} {own : String} {cc : ByteArray} {rm : Room} {kc ks pc : Nat} {ls : List (Option Value)} {st : List Value} {I : pd_I} {J : pd_J} {F : pd_R} {n : Nat} (C : pd_C cx own cc rm) {x y : Int32} (d : decode cc pc = .ok (.iand, 1)) (k : pd_V cx kc ks (pc + 1) ls (.int (x &&& y) :: st) I J F n) : pd_V cx kc ks pc ls (.int y :: .int x :: st) I J F n := by
  obtain ⟨p, l, e, R, s, m, args, below, meth, c, D, tc, A, Q, n0, ad0, nL⟩ := cx
  exact fun ad H locs lsA ha hn hP hD hS hl hz => lv_iand C.1 C.2.1 d  (k ad H locs lsA ha hn hP hD hS hl hz)
theorem pd_ior {cx : pd_X} {own : String} {cc : ByteArray} {rm : Room} {kc ks pc : Nat} {ls : List (Option Value)} {st : List Value} {I : pd_I} {J : pd_J} {F : pd_R} {n : Nat} (C : pd_C cx own cc rm) {x y : Int32} (d : decode cc pc = .ok (.ior, 1)) (k : pd_V cx kc ks (pc + 1) ls (.int (x ||| y) :: st) I J F n) : pd_V cx kc ks pc ls (.int y :: .int x :: st) I J F n := by
  obtain ⟨p, l, e, R, s, m, args, below, meth, c, D, tc, A, Q, n0, ad0, nL⟩ := cx
  exact fun ad H locs lsA ha hn hP hD hS hl hz => lv_ior C.1 C.2.1 d  (k ad H locs lsA ha hn hP hD hS hl hz)
theorem pd_ixor {cx : pd_X} {own : String} {cc : ByteArray} {rm : Room} {kc ks pc : Nat} {ls : List (Option Value)} {st : List Value} {I : pd_I} {J : pd_J} {F : pd_R} {n : Nat} (C : pd_C cx own cc rm) {x y : Int32} (d : decode cc pc = .ok (.ixor, 1)) (k : pd_V cx kc ks (pc + 1) ls (.int (x ^^^ y) :: st) I J F n) : pd_V cx kc ks pc ls (.int y :: .int x :: st) I J F n := by
  obtain ⟨p, l, e, R, s, m, args, below, meth, c, D, tc, A, Q, n0, ad0, nL⟩ := cx
  exact fun ad H locs lsA ha hn hP hD hS hl hz => lv_ixor C.1 C.2.1 d  (k ad H locs lsA ha hn hP hD hS hl hz)
theorem pd_ishl {cx : pd_X} {own : String} {cc : ByteArray} {rm : Room} {kc ks pc : Nat} {ls : List (Option Value)} {st : List Value} {I : pd_I} {J : pd_J} {F : pd_R} {n : Nat} (C : pd_C cx own cc rm) {x y : Int32} (d : decode cc pc = .ok (.ishl, 1)) (k : pd_V cx kc ks (pc + 1) ls (.int (x <<< (y &&& 31)) :: st) I J F n) : pd_V cx kc ks pc ls (.int y :: .int x :: st) I J F n := by
  obtain ⟨p, l, e, R, s, m, args, below, meth, c, D, tc, A, Q, n0, ad0, nL⟩ := cx
  exact fun ad H locs lsA ha hn hP hD hS hl hz => lv_ishl C.1 C.2.1 d  (k ad H locs lsA ha hn hP hD hS hl hz)
theorem pd_ishr {cx : pd_X} {own : String} {cc : ByteArray} {rm : Room} {kc ks pc : Nat} {ls : List (Option Value)} {st : List Value} {I : pd_I} {J : pd_J} {F : pd_R} {n : Nat} (C : pd_C cx own cc rm) {x y : Int32} (d : decode cc pc = .ok (.ishr, 1)) (k : pd_V cx kc ks (pc + 1) ls (.int (x >>> (y &&& 31)) :: st) I J F n) : pd_V cx kc ks pc ls (.int y :: .int x :: st) I J F n := by
  obtain ⟨p, l, e, R, s, m, args, below, meth, c, D, tc, A, Q, n0, ad0, nL⟩ := cx
  exact fun ad H locs lsA ha hn hP hD hS hl hz => lv_ishr C.1 C.2.1 d  (k ad H locs lsA ha hn hP hD hS hl hz)
theorem pd_idiv {cx : pd_X} {own : String} {cc : ByteArray} {rm : Room} {kc ks pc : Nat} {ls : List (Option Value)} {st : List Value} {I : pd_I} {J : pd_J} {F : pd_R} {n : Nat} (C : pd_C cx own cc rm) {x y : Int32} (d : decode cc pc = .ok (.idiv, 1)) (hne : ¬ y = 0) (k : pd_V cx kc ks (pc + 1) ls (.int (x / y) :: st) I J F n) : pd_V cx kc ks pc ls (.int y :: .int x :: st) I J F n := by
  obtain ⟨p, l, e, R, s, m, args, below, meth, c, D, tc, A, Q, n0, ad0, nL⟩ := cx
  exact fun ad H locs lsA ha hn hP hD hS hl hz => lv_idiv C.1 C.2.1 d hne (k ad H locs lsA ha hn hP hD hS hl hz)
theorem pd_irem {cx : pd_X} {own : String} {cc : ByteArray} {rm : Room} {kc ks pc : Nat} {ls : List (Option Value)} {st : List Value} {I : pd_I} {J : pd_J} {F : pd_R} {n : Nat} (C : pd_C cx own cc rm) {x y : Int32} (d : decode cc pc = .ok (.irem, 1)) (hne : ¬ y = 0) (k : pd_V cx kc ks (pc + 1) ls (.int (x % y) :: st) I J F n) : pd_V cx kc ks pc ls (.int y :: .int x :: st) I J F n := by
  obtain ⟨p, l, e, R, s, m, args, below, meth, c, D, tc, A, Q, n0, ad0, nL⟩ := cx
  rw [← irem_eq_mod] at k
  exact fun ad H locs lsA ha hn hP hD hS hl hz => lv_irem C.1 C.2.1 d hne (k ad H locs lsA ha hn hP hD hS hl hz)
theorem pd_iushr {cx : pd_X} {own : String} {cc : ByteArray} {rm : Room} {kc ks pc : Nat} {ls : List (Option Value)} {st : List Value} {I : pd_I} {J : pd_J} {F : pd_R} {n : Nat} (C : pd_C cx own cc rm) {x y : Int32} (d : decode cc pc = .ok (.iushr, 1)) (k : pd_V cx kc ks (pc + 1) ls (.int ((x.toUInt32 >>> (y.toUInt32 &&& Int32.toUInt32 31)).toInt32) :: st) I J F n) : pd_V cx kc ks pc ls (.int y :: .int x :: st) I J F n := by
  obtain ⟨p, l, e, R, s, m, args, below, meth, c, D, tc, A, Q, n0, ad0, nL⟩ := cx
  exact fun ad H locs lsA ha hn hP hD hS hl hz => lv_iushr C.1 C.2.1 d rfl (k ad H locs lsA ha hn hP hD hS hl hz)
theorem pd_ineg {cx : pd_X} {own : String} {cc : ByteArray} {rm : Room} {kc ks pc : Nat} {ls : List (Option Value)} {st : List Value} {I : pd_I} {J : pd_J} {F : pd_R} {n : Nat} (C : pd_C cx own cc rm) {x : Int32} (d : decode cc pc = .ok (.ineg, 1)) (k : pd_V cx kc ks (pc + 1) ls (.int (-x) :: st) I J F n) : pd_V cx kc ks pc ls (.int x :: st) I J F n := by
  obtain ⟨p, l, e, R, s, m, args, below, meth, c, D, tc, A, Q, n0, ad0, nL⟩ := cx
  exact fun ad H locs lsA ha hn hP hD hS hl hz => lv_ineg C.1 C.2.1 d  (k ad H locs lsA ha hn hP hD hS hl hz)
theorem pd_ladd {cx : pd_X} {own : String} {cc : ByteArray} {rm : Room} {kc ks pc : Nat} {ls : List (Option Value)} {st : List Value} {I : pd_I} {J : pd_J} {F : pd_R} {n : Nat} (C : pd_C cx own cc rm) {x y : Int64} (d : decode cc pc = .ok (.ladd, 1)) (k : pd_V cx kc ks (pc + 1) ls (.long (x + y) :: st) I J F n) : pd_V cx kc ks pc ls (.long y :: .long x :: st) I J F n := by
  obtain ⟨p, l, e, R, s, m, args, below, meth, c, D, tc, A, Q, n0, ad0, nL⟩ := cx
  exact fun ad H locs lsA ha hn hP hD hS hl hz => lv_ladd C.1 C.2.1 d  (k ad H locs lsA ha hn hP hD hS hl hz)
theorem pd_lcmp {cx : pd_X} {own : String} {cc : ByteArray} {rm : Room} {kc ks pc : Nat} {ls : List (Option Value)} {st : List Value} {I : pd_I} {J : pd_J} {F : pd_R} {n : Nat} (C : pd_C cx own cc rm) {x y : Int64} (d : decode cc pc = .ok (.lcmp, 1)) (k : pd_V cx kc ks (pc + 1) ls (.int (lg_cmp x y) :: st) I J F n) : pd_V cx kc ks pc ls (.long y :: .long x :: st) I J F n := by
  obtain ⟨p, l, e, R, s, m, args, below, meth, c, D, tc, A, Q, n0, ad0, nL⟩ := cx
  exact fun ad H locs lsA ha hn hP hD hS hl hz => W.lcmp C.1 C.2.1 d  (k ad H locs lsA ha hn hP hD hS hl hz)
theorem pd_i2l {cx : pd_X} {own : String} {cc : ByteArray} {rm : Room} {kc ks pc : Nat} {ls : List (Option Value)} {st : List Value} {I : pd_I} {J : pd_J} {F : pd_R} {n : Nat} (C : pd_C cx own cc rm) {x : Int32} (d : decode cc pc = .ok (.i2l, 1)) (k : pd_V cx kc ks (pc + 1) ls (.long x.toInt64 :: st) I J F n) : pd_V cx kc ks pc ls (.int x :: st) I J F n := by
  obtain ⟨p, l, e, R, s, m, args, below, meth, c, D, tc, A, Q, n0, ad0, nL⟩ := cx
  exact fun ad H locs lsA ha hn hP hD hS hl hz => lv_i2l C.1 C.2.1 d rfl (k ad H locs lsA ha hn hP hD hS hl hz)
theorem pd_l2i {cx : pd_X} {own : String} {cc : ByteArray} {rm : Room} {kc ks pc : Nat} {ls : List (Option Value)} {st : List Value} {I : pd_I} {J : pd_J} {F : pd_R} {n : Nat} (C : pd_C cx own cc rm) {x : Int64} (d : decode cc pc = .ok (.l2i, 1)) (k : pd_V cx kc ks (pc + 1) ls (.int x.toInt32 :: st) I J F n) : pd_V cx kc ks pc ls (.long x :: st) I J F n := by
  obtain ⟨p, l, e, R, s, m, args, below, meth, c, D, tc, A, Q, n0, ad0, nL⟩ := cx
  exact fun ad H locs lsA ha hn hP hD hS hl hz => lv_l2i C.1 C.2.1 d rfl (k ad H locs lsA ha hn hP hD hS hl hz)
theorem pd_i2b {cx : pd_X} {own : String} {cc : ByteArray} {rm : Room} {kc ks pc : Nat} {ls : List (Option Value)} {st : List Value} {I : pd_I} {J : pd_J} {F : pd_R} {n : Nat} (C : pd_C cx own cc rm) {x : Int32} (d : decode cc pc = .ok (.i2b, 1)) (k : pd_V cx kc ks (pc + 1) ls (.int x.toInt8.toInt32 :: st) I J F n) : pd_V cx kc ks pc ls (.int x :: st) I J F n := by
  obtain ⟨p, l, e, R, s, m, args, below, meth, c, D, tc, A, Q, n0, ad0, nL⟩ := cx
  exact fun ad H locs lsA ha hn hP hD hS hl hz => lv_i2b C.1 C.2.1 d rfl (k ad H locs lsA ha hn hP hD hS hl hz)
theorem pd_i2s {cx : pd_X} {own : String} {cc : ByteArray} {rm : Room} {kc ks pc : Nat} {ls : List (Option Value)} {st : List Value} {I : pd_I} {J : pd_J} {F : pd_R} {n : Nat} (C : pd_C cx own cc rm) {x : Int32} (d : decode cc pc = .ok (.i2s, 1)) (k : pd_V cx kc ks (pc + 1) ls (.int x.toInt16.toInt32 :: st) I J F n) : pd_V cx kc ks pc ls (.int x :: st) I J F n := by
  obtain ⟨p, l, e, R, s, m, args, below, meth, c, D, tc, A, Q, n0, ad0, nL⟩ := cx
  exact fun ad H locs lsA ha hn hP hD hS hl hz => lv_i2s C.1 C.2.1 d rfl (k ad H locs lsA ha hn hP hD hS hl hz)
theorem pd_dup {cx : pd_X} {own : String} {cc : ByteArray} {rm : Room} {kc ks pc : Nat} {ls : List (Option Value)} {st : List Value} {I : pd_I} {J : pd_J} {F : pd_R} {n : Nat} (C : pd_C cx own cc rm) {v : Value} (d : decode cc pc = .ok (.dup, 1)) (hc : v.category = 1) (k : pd_V cx kc ks (pc + 1) ls (v :: v :: st) I J F n) : pd_V cx kc ks pc ls (v :: st) I J F n := by
  obtain ⟨p, l, e, R, s, m, args, below, meth, c, D, tc, A, Q, n0, ad0, nL⟩ := cx
  exact fun ad H locs lsA ha hn hP hD hS hl hz => lv_dup C.1 C.2.1 d ((pd_v_cat ad v).trans hc) (k ad H locs lsA ha hn hP hD hS hl hz)
theorem pd_pop {cx : pd_X} {own : String} {cc : ByteArray} {rm : Room} {kc ks pc : Nat} {ls : List (Option Value)} {st : List Value} {I : pd_I} {J : pd_J} {F : pd_R} {n : Nat} (C : pd_C cx own cc rm) {v : Value} (d : decode cc pc = .ok (.pop, 1)) (hc : v.category = 1) (k : pd_V cx kc ks (pc + 1) ls st I J F n) : pd_V cx kc ks pc ls (v :: st) I J F n := by
  obtain ⟨p, l, e, R, s, m, args, below, meth, c, D, tc, A, Q, n0, ad0, nL⟩ := cx
  exact fun ad H locs lsA ha hn hP hD hS hl hz => lv_pop C.1 C.2.1 d ((pd_v_cat ad v).trans hc) (k ad H locs lsA ha hn hP hD hS hl hz)
theorem pd_dup2 {cx : pd_X} {own : String} {cc : ByteArray} {rm : Room} {kc ks pc : Nat} {ls : List (Option Value)} {st : List Value} {I : pd_I} {J : pd_J} {F : pd_R} {n : Nat} (C : pd_C cx own cc rm) {v w : Value} (d : decode cc pc = .ok (.dup2, 1)) (hc : v.category = 1) (hw : w.category = 1) (k : pd_V cx kc ks (pc + 1) ls (v :: w :: v :: w :: st) I J F n) : pd_V cx kc ks pc ls (v :: w :: st) I J F n := by
  obtain ⟨p, l, e, R, s, m, args, below, meth, c, D, tc, A, Q, n0, ad0, nL⟩ := cx
  exact fun ad H locs lsA ha hn hP hD hS hl hz => lv_dup2_11 C.1 C.2.1 d ((pd_v_cat ad v).trans hc) ((pd_v_cat ad w).trans hw) (k ad H locs lsA ha hn hP hD hS hl hz)
theorem pd_if_eq {cx : pd_X} {own : String} {cc : ByteArray} {rm : Room} {kc ks pc : Nat} {ls : List (Option Value)} {st : List Value} {I : pd_I} {J : pd_J} {F : pd_R} {n : Nat} (C : pd_C cx own cc rm) {x : Int32} {off : Int} {tgt : Nat} (d : decode cc pc = .ok (.ifCond .eq off, 3)) (ht : (pc : Int) + off = (tgt : Int)) (kt : x = 0 → pd_V cx kc ks tgt ls st I J F n) (kf : ¬ (x = 0) → pd_V cx kc ks (pc + 3) ls st I J F n) : pd_V cx kc ks pc ls (.int x :: st) I J F n := by
  obtain ⟨p, l, e, R, s, m, args, below, meth, c, D, tc, A, Q, n0, ad0, nL⟩ := cx
  exact fun ad H locs lsA ha hn hP hD hS hl hz => lv_if_eq C.1 C.2.1 d ht (fun h => kt h ad H locs lsA ha hn hP hD hS hl hz) (fun h => kf h ad H locs lsA ha hn hP hD hS hl hz)
theorem pd_icmp_eq {cx : pd_X} {own : String} {cc : ByteArray} {rm : Room} {kc ks pc : Nat} {ls : List (Option Value)} {st : List Value} {I : pd_I} {J : pd_J} {F : pd_R} {n : Nat} (C : pd_C cx own cc rm) {x y : Int32} {off : Int} {tgt : Nat} (d : decode cc pc = .ok (.if_icmp .eq off, 3)) (ht : (pc : Int) + off = (tgt : Int)) (kt : x = y → pd_V cx kc ks tgt ls st I J F n) (kf : ¬ (x = y) → pd_V cx kc ks (pc + 3) ls st I J F n) : pd_V cx kc ks pc ls (.int y :: .int x :: st) I J F n := by
  obtain ⟨p, l, e, R, s, m, args, below, meth, c, D, tc, A, Q, n0, ad0, nL⟩ := cx
  exact fun ad H locs lsA ha hn hP hD hS hl hz => lv_icmp_eq C.1 C.2.1 d ht (fun h => kt h ad H locs lsA ha hn hP hD hS hl hz) (fun h => kf h ad H locs lsA ha hn hP hD hS hl hz)
theorem pd_if_ne {cx : pd_X} {own : String} {cc : ByteArray} {rm : Room} {kc ks pc : Nat} {ls : List (Option Value)} {st : List Value} {I : pd_I} {J : pd_J} {F : pd_R} {n : Nat} (C : pd_C cx own cc rm) {x : Int32} {off : Int} {tgt : Nat} (d : decode cc pc = .ok (.ifCond .ne off, 3)) (ht : (pc : Int) + off = (tgt : Int)) (kt : ¬ x = 0 → pd_V cx kc ks tgt ls st I J F n) (kf : x = 0 → pd_V cx kc ks (pc + 3) ls st I J F n) : pd_V cx kc ks pc ls (.int x :: st) I J F n := by
  obtain ⟨p, l, e, R, s, m, args, below, meth, c, D, tc, A, Q, n0, ad0, nL⟩ := cx
  exact fun ad H locs lsA ha hn hP hD hS hl hz => lv_if_ne C.1 C.2.1 d ht (fun h => kt h ad H locs lsA ha hn hP hD hS hl hz) (fun h => kf h ad H locs lsA ha hn hP hD hS hl hz)
theorem pd_icmp_ne {cx : pd_X} {own : String} {cc : ByteArray} {rm : Room} {kc ks pc : Nat} {ls : List (Option Value)} {st : List Value} {I : pd_I} {J : pd_J} {F : pd_R} {n : Nat} (C : pd_C cx own cc rm) {x y : Int32} {off : Int} {tgt : Nat} (d : decode cc pc = .ok (.if_icmp .ne off, 3)) (ht : (pc : Int) + off = (tgt : Int)) (kt : ¬ x = y → pd_V cx kc ks tgt ls st I J F n) (kf : x = y → pd_V cx kc ks (pc + 3) ls st I J F n) : pd_V cx kc ks pc ls (.int y :: .int x :: st) I J F n := by
  obtain ⟨p, l, e, R, s, m, args, below, meth, c, D, tc, A, Q, n0, ad0, nL⟩ := cx
  exact fun ad H locs lsA ha hn hP hD hS hl hz => lv_icmp_ne C.1 C.2.1 d ht (fun h => kt h ad H locs lsA ha hn hP hD hS hl hz) (fun h => kf h ad H locs lsA ha hn hP hD hS hl hz)
theorem pd_if_lt {cx : pd_X} {own : String} {cc : ByteArray} {rm : Room} {kc ks pc : Nat} {ls : List (Option Value)} {st : List Value} {I : pd_I} {J : pd_J} {F : pd_R} {n : Nat} (C : pd_C cx own cc rm) {x : Int32} {off : Int} {tgt : Nat} (d : decode cc pc = .ok (.ifCond .lt off, 3)) (ht : (pc : Int) + off = (tgt : Int)) (kt : x < 0 → pd_V cx kc ks tgt ls st I J F n) (kf : ¬ (x < 0) → pd_V cx kc ks (pc + 3) ls st I J F n) : pd_V cx kc ks pc ls (.int x :: st) I J F n := by
  obtain ⟨p, l, e, R, s, m, args, below, meth, c, D, tc, A, Q, n0, ad0, nL⟩ := cx
  exact fun ad H locs lsA ha hn hP hD hS hl hz => lv_if_lt C.1 C.2.1 d ht (fun h => kt h ad H locs lsA ha hn hP hD hS hl hz) (fun h => kf h ad H locs lsA ha hn hP hD hS hl hz)
theorem pd_icmp_lt {cx : pd_X} {own : String} {cc : ByteArray} {rm : Room} {kc ks pc : Nat} {ls : List (Option Value)} {st : List Value} {I : pd_I} {J : pd_J} {F : pd_R} {n : Nat} (C : pd_C cx own cc rm) {x y : Int32} {off : Int} {tgt : Nat} (d : decode cc pc = .ok (.if_icmp .lt off, 3)) (ht : (pc : Int) + off = (tgt : Int)) (kt : x < y → pd_V cx kc ks tgt ls st I J F n) (kf : ¬ (x < y) → pd_V cx kc ks (pc + 3) ls st I J F n) : pd_V cx kc ks pc ls (.int y :: .int x :: st) I J F n := by
  obtain ⟨p, l, e, R, s, m, args, below, meth, c, D, tc, A, Q, n0, ad0, nL⟩ := cx
  exact fun ad H locs lsA ha hn hP hD hS hl hz => lv_icmp_lt C.1 C.2.1 d ht (fun h => kt h ad H locs lsA ha hn hP hD hS hl hz) (fun h => kf h ad H locs lsA ha hn hP hD hS hl hz)
theorem pd_if_ge {cx : pd_X} {own : String} {cc : ByteArray} {rm : Room} {kc ks pc : Nat} {ls : List (Option Value)} {st : List Value} {I : pd_I} {J : pd_J} {F : pd_R} {n : Nat} (C : pd_C cx own cc rm) {x : Int32} {off : Int} {tgt : Nat} (d : decode cc pc = .ok (.ifCond .ge off, 3)) (ht : (pc : Int) + off = (tgt : Int)) (kt : 0 ≤ x → pd_V cx kc ks tgt ls st I J F n) (kf : ¬ (0 ≤ x) → pd_V cx kc ks (pc + 3) ls st I J F n) : pd_V cx kc ks pc ls (.int x :: st) I J F n := by
  obtain ⟨p, l, e, R, s, m, args, below, meth, c, D, tc, A, Q, n0, ad0, nL⟩ := cx
  exact fun ad H locs lsA ha hn hP hD hS hl hz => lv_if_ge C.1 C.2.1 d ht (fun h => kt h ad H locs lsA ha hn hP hD hS hl hz) (fun h => kf h ad H locs lsA ha hn hP hD hS hl hz)
theorem pd_icmp_ge {cx : pd_X} {own : String} {cc : ByteArray} {rm : Room} {kc ks pc : Nat} {ls : List (Option Value)} {st : List Value} {I : pd_I} {J : pd_J} {F : pd_R} {n : Nat} (C : pd_C cx own cc rm) {x y : Int32} {off : Int} {tgt : Nat} (d : decode cc pc = .ok (.if_icmp .ge off, 3)) (ht : (pc : Int) + off = (tgt : Int)) (kt : y ≤ x → pd_V cx kc ks tgt ls st I J F n) (kf : ¬ (y ≤ x) → pd_V cx kc ks (pc + 3) ls st I J F n) : pd_V cx kc ks pc ls (.int y :: .int x :: st) I J F n := by
  obtain ⟨p, l, e, R, s, m, args, below, meth, c, D, tc, A, Q, n0, ad0, nL⟩ := cx
  exact fun ad H locs lsA ha hn hP hD hS hl hz => lv_icmp_ge C.1 C.2.1 d ht (fun h => kt h ad H locs lsA ha hn hP hD hS hl hz) (fun h => kf h ad H locs lsA ha hn hP hD hS hl hz)
theorem pd_if_gt {cx : pd_X} {own : String} {cc : ByteArray} {rm : Room} {kc ks pc : Nat} {ls : List (Option Value)} {st : List Value} {I : pd_I} {J : pd_J} {F : pd_R} {n : Nat} (C : pd_C cx own cc rm) {x : Int32} {off : Int} {tgt : Nat} (d : decode cc pc = .ok (.ifCond .gt off, 3)) (ht : (pc : Int) + off = (tgt : Int)) (kt : 0 < x → pd_V cx kc ks tgt ls st I J F n) (kf : ¬ (0 < x) → pd_V cx kc ks (pc + 3) ls st I J F n) : pd_V cx kc ks pc ls (.int x :: st) I J F n := by
  obtain ⟨p, l, e, R, s, m, args, below, meth, c, D, tc, A, Q, n0, ad0, nL⟩ := cx
  exact fun ad H locs lsA ha hn hP hD hS hl hz => lv_if_gt C.1 C.2.1 d ht (fun h => kt h ad H locs lsA ha hn hP hD hS hl hz) (fun h => kf h ad H locs lsA ha hn hP hD hS hl hz)
theorem pd_icmp_gt {cx : pd_X} {own : String} {cc : ByteArray} {rm : Room} {kc ks pc : Nat} {ls : List (Option Value)} {st : List Value} {I : pd_I} {J : pd_J} {F : pd_R} {n : Nat} (C : pd_C cx own cc rm) {x y : Int32} {off : Int} {tgt : Nat} (d : decode cc pc = .ok (.if_icmp .gt off, 3)) (ht : (pc : Int) + off = (tgt : Int)) (kt : y < x → pd_V cx kc ks tgt ls st I J F n) (kf : ¬ (y < x) → pd_V cx kc ks (pc + 3) ls st I J F n) : pd_V cx kc ks pc ls (.int y :: .int x :: st) I J F n := by
  obtain ⟨p, l, e, R, s, m, args, below, meth, c, D, tc, A, Q, n0, ad0, nL⟩ := cx
  exact fun ad H locs lsA ha hn hP hD hS hl hz => lv_icmp_gt C.1 C.2.1 d ht (fun h => kt h ad H locs lsA ha hn hP hD hS hl hz) (fun h => kf h ad H locs lsA ha hn hP hD hS hl hz)
theorem pd_if_le {cx : pd_X} {own : String} {cc : ByteArray} {rm : Room} {kc ks pc : Nat} {ls : List (Option Value)} {st : List Value} {I : pd_I} {J : pd_J} {F : pd_R} {n : Nat} (C : pd_C cx own cc rm) {x : Int32} {off : Int} {tgt : Nat} (d : decode cc pc = .ok (.ifCond .le off, 3)) (ht : (pc : Int) + off = (tgt : Int)) (kt : x ≤ 0 → pd_V cx kc ks tgt ls st I J F n) (kf : ¬ (x ≤ 0) → pd_V cx kc ks (pc + 3) ls st I J F n) : pd_V cx kc ks pc ls (.int x :: st) I J F n := by
  obtain ⟨p, l, e, R, s, m, args, below, meth, c, D, tc, A, Q, n0, ad0, nL⟩ := cx
  exact fun ad H locs lsA ha hn hP hD hS hl hz => lv_if_le C.1 C.2.1 d ht (fun h => kt h ad H locs lsA ha hn hP hD hS hl hz) (fun h => kf h ad H locs lsA ha hn hP hD hS hl hz)
theorem pd_icmp_le {cx : pd_X} {own : String} {cc : ByteArray} {rm : Room} {kc ks pc : Nat} {ls : List (Option Value)} {st : List Value} {I : pd_I} {J : pd_J} {F : pd_R} {n : Nat} (C : pd_C cx own cc rm) {x y : Int32} {off : Int} {tgt : Nat} (d : decode cc pc = .ok (.if_icmp .le off, 3)) (ht : (pc : Int) + off = (tgt : Int)) (kt : x ≤ y → pd_V cx kc ks tgt ls st I J F n) (kf : ¬ (x ≤ y) → pd_V cx kc ks (pc + 3) ls st I J F n) : pd_V cx kc ks pc ls (.int y :: .int x :: st) I J F n := by
  obtain ⟨p, l, e, R, s, m, args, below, meth, c, D, tc, A, Q, n0, ad0, nL⟩ := cx
  exact fun ad H locs lsA ha hn hP hD hS hl hz => lv_icmp_le C.1 C.2.1 d ht (fun h => kt h ad H locs lsA ha hn hP hD hS hl hz) (fun h => kf h ad H locs lsA ha hn hP hD hS hl hz)
theorem pd_goto {cx : pd_X} {own : String} {cc : ByteArray} {rm : Room} {kc ks pc : Nat} {ls : List (Option Value)} {st : List Value} {I : pd_I} {J : pd_J} {F : pd_R} {n : Nat} (C : pd_C cx own cc rm) {off : Int} {tgt : Nat} (d : decode cc pc = .ok (.goto off, 3)) (ht : (pc : Int) + off = (tgt : Int)) (k : pd_V cx kc ks tgt ls st I J F n) : pd_V cx kc ks pc ls st I J F n := by
  obtain ⟨p, l, e, R, s, m, args, below, meth, c, D, tc, A, Q, n0, ad0, nL⟩ := cx
  exact fun ad H locs lsA ha hn hP hD hS hl hz => lv_goto C.1 C.2.1 d ht (k ad H locs lsA ha hn hP hD hS hl hz)
theorem pd_ifnonnull {cx : pd_X} {own : String} {cc : ByteArray} {rm : Room} {kc ks pc : Nat} {ls : List (Option Value)} {st : List Value} {I : pd_I} {J : pd_J} {F : pd_R} {n : Nat} (C : pd_C cx own cc rm) {x : Nat} {off : Int} {tgt : Nat} (d : decode cc pc = .ok (.ifnonnull off, 3)) (ht : (pc : Int) + off = (tgt : Int)) (k : pd_V cx kc ks tgt ls st I J F n) : pd_V cx kc ks pc ls (.ref x :: st) I J F n := by
  obtain ⟨p, l, e, R, s, m, args, below, meth, c, D, tc, A, Q, n0, ad0, nL⟩ := cx
  exact fun ad H locs lsA ha hn hP hD hS hl hz => lv_ifnonnull C.1 C.2.1 d ht (k ad H locs lsA ha hn hP hD hS hl hz)
theorem pd_ifnonnullN {cx : pd_X} {own : String} {cc : ByteArray} {rm : Room} {kc ks pc : Nat} {ls : List (Option Value)} {st : List Value} {I : pd_I} {J : pd_J} {F : pd_R} {n : Nat} (C : pd_C cx own cc rm) {off : Int} (d : decode cc pc = .ok (.ifnonnull off, 3)) (k : pd_V cx kc ks (pc + 3) ls st I J F n) : pd_V cx kc ks pc ls (.null :: st) I J F n := by
  obtain ⟨p, l, e, R, s, m, args, below, meth, c, D, tc, A, Q, n0, ad0, nL⟩ := cx
  exact fun ad H locs lsA ha hn hP hD hS hl hz => lv_ifnonnullN C.1 C.2.1 d (k ad H locs lsA ha hn hP hD hS hl hz)
theorem pd_ldc {cx : pd_X} {own : String} {cc : ByteArray} {rm : Room} {kc ks pc : Nat} {ls : List (Option Value)} {st : List Value} {I : pd_I} {J : pd_J} {F : pd_R} {n : Nat} (C : pd_C cx own cc rm) {i : Nat} {v : Int32} (hw : Cond.constant own i v ∈ pd_B) (d : decode cc pc = .ok (.ldc i, 2)) (k : pd_V cx kc ks (pc + 2) ls (.int v :: st) I J F n) : pd_V cx kc ks pc ls st I J F n := by
  obtain ⟨p, l, e, R, s, m, args, below, meth, c, D, tc, A, Q, n0, ad0, nL⟩ := cx
  exact fun ad H locs lsA ha hn hP hD hS hl hz => lv_ldc C.1 C.2.1 C.2.2.2.1 (C.2.2.2.2.1 _ hw) d (k ad H locs lsA ha hn hP hD hS hl hz)
theorem pd_ldc_w {cx : pd_X} {own : String} {cc : ByteArray} {rm : Room} {kc ks pc : Nat} {ls : List (Option Value)} {st : List Value} {I : pd_I} {J : pd_J} {F : pd_R} {n : Nat} (C : pd_C cx own cc rm) {i : Nat} {v : Int32} (hw : Cond.constant own i v ∈ pd_B) (d : decode cc pc = .ok (.ldc_w i, 3)) (k : pd_V cx kc ks (pc + 3) ls (.int v :: st) I J F n) : pd_V cx kc ks pc ls st I J F n := by
  obtain ⟨p, l, e, R, s, m, args, below, meth, c, D, tc, A, Q, n0, ad0, nL⟩ := cx
  exact fun ad H locs lsA ha hn hP hD hS hl hz => lv_ldcw C.1 C.2.1 C.2.2.2.1 (C.2.2.2.2.1 _ hw) d (k ad H locs lsA ha hn hP hD hS hl hz)
theorem pd_ldc2_w {cx : pd_X} {own : String} {cc : ByteArray} {rm : Room} {kc ks pc : Nat} {ls : List (Option Value)} {st : List Value} {I : pd_I} {J : pd_J} {F : pd_R} {n : Nat} (C : pd_C cx own cc rm) {i : Nat} {v : Int64} (hw : Cond.constantLong own i v ∈ pd_B) (d : decode cc pc = .ok (.ldc2_w i, 3)) (k : pd_V cx kc ks (pc + 3) ls (.long v :: st) I J F n) : pd_V cx kc ks pc ls st I J F n := by
  obtain ⟨p, l, e, R, s, m, args, below, meth, c, D, tc, A, Q, n0, ad0, nL⟩ := cx
  exact fun ad H locs lsA ha hn hP hD hS hl hz => lv_ldc2 C.1 C.2.1 C.2.2.2.1 (C.2.2.2.2.1 _ hw) d (k ad H locs lsA ha hn hP hD hS hl hz)
theorem pd_tabOut {cx : pd_X} {own : String} {cc : ByteArray} {rm : Room} {kc ks pc : Nat} {ls : List (Option Value)} {st : List Value} {I : pd_I} {J : pd_J} {F : pd_R} {n : Nat} (C : pd_C cx own cc rm) {dflt lo hi : Int} {offs : Array Int} {len : Nat} {x : Int32} {tgt : Nat} (d : decode cc pc = .ok (.tableswitch dflt lo hi offs, len)) (h : x.toInt < lo ∨ hi < x.toInt) (ht : (pc : Int) + dflt = (tgt : Int)) (k : pd_V cx kc ks tgt ls st I J F n) : pd_V cx kc ks pc ls (.int x :: st) I J F n := by
  obtain ⟨p, l, e, R, s, m, args, below, meth, c, D, tc, A, Q, n0, ad0, nL⟩ := cx
  exact fun ad H locs lsA ha hn hP hD hS hl hz => lv_tableOut C.1 C.2.1 d h ht (k ad H locs lsA ha hn hP hD hS hl hz)
theorem pd_tabIn {cx : pd_X} {own : String} {cc : ByteArray} {rm : Room} {kc ks pc : Nat} {ls : List (Option Value)} {st : List Value} {I : pd_I} {J : pd_J} {F : pd_R} {n : Nat} (C : pd_C cx own cc rm) {dflt lo hi : Int} {offs : Array Int} {len : Nat} {x : Int32} {off : Int} {tgt : Nat} (d : decode cc pc = .ok (.tableswitch dflt lo hi offs, len)) (h1 : ¬ x.toInt < lo) (h2 : ¬ hi < x.toInt) (ho : offs[(x.toInt - lo).toNat]? = some off) (ht : (pc : Int) + off = (tgt : Int)) (k : pd_V cx kc ks tgt ls st I J F n) : pd_V cx kc ks pc ls (.int x :: st) I J F n := by
  obtain ⟨p, l, e, R, s, m, args, below, meth, c, D, tc, A, Q, n0, ad0, nL⟩ := cx
  exact fun ad H locs lsA ha hn hP hD hS hl hz => lv_tableIn C.1 C.2.1 d h1 h2 ho ht (k ad H locs lsA ha hn hP hD hS hl hz)
def pd_in (i : Int32) (N : Nat) : Bool := decide (0 ≤ i.toInt ∧ i.toInt < (N : Int))
theorem pd_in_vp {i : Int32} {N : Nat} (h : pd_in i N = true) : vp_in i N := vp_in_iff.mpr (by simpa [pd_in] using h)
theorem pd_fs_get {ad : Nat → Nat} {I : pd_I} {F : pd_R} {t a N k : Nat} (hk : k < N) : ((List.range N).map (fun j => pd_fv ad I F t a j))[k]? = some (pd_fv ad I F t a k) := by simp [hk]
theorem pd_fs_setI {ad : Nat → Nat} {I : pd_I} {F : pd_R} {t a N k : Nat} {x : Int32} (hf : pd_FT t k = false) :
    ((List.range N).map (fun j => pd_fv ad I F t a j)).set k (.int x) = (List.range N).map (fun j => pd_fv ad (pd_ui I a k x) F t a j) := by
  apply List.ext_getElem?
  intro i
  by_cases hi : i < N
  · by_cases hk : i = k
    · subst hk
      rw [List.getElem?_set_self (by simpa using hi), pd_fs_get hi]
      simp [pd_fv, hf, pd_ui_eq, upd]
    · rw [List.getElem?_set_ne (Ne.symm hk), pd_fs_get hi, pd_fs_get hi]
      simp [pd_fv, pd_ui_eq, upd, hk]
  · simp [hi, List.getElem?_set]
theorem pd_fs_setR {ad : Nat → Nat} {I : pd_I} {F : pd_R} {t a N k : Nat} {x : Option Nat} (hf : pd_FT t k = true) :
    ((List.range N).map (fun j => pd_fv ad I F t a j)).set k (va_rf (x.map ad)) = (List.range N).map (fun j => pd_fv ad I (pd_ur F a k x) t a j) := by
  apply List.ext_getElem?
  intro i
  by_cases hi : i < N
  · by_cases hk : i = k
    · subst hk
      rw [List.getElem?_set_self (by simpa using hi), pd_fs_get hi]
      simp [pd_fv, hf, pd_ur_eq, va_up]
    · rw [List.getElem?_set_ne (Ne.symm hk), pd_fs_get hi, pd_fs_get hi]
      simp [pd_fv, pd_ur_eq, va_up, hk]
  · simp [hi, List.getElem?_set]
section PDH
variable {cx : pd_X} {own : String} {cc : ByteArray} {rm : Room} {kc ks pc : Nat} {ls : List (Option Value)} {st : List Value} {I : pd_I} {J : pd_J} {F : pd_R} {n : Nat}
theorem pd_getI (C : pd_C cx own cc rm) {t N : Nat} {T : u_T} {Cn ref : String} {index a : Nat} (hc : vwCl[t]? = some (Cn, T, N)) (hin : ∀ w ∈ u_ws Cn T N, w ∈ pd_B) (ht : t < 13) (k : Nat) (hk : k < N) (hr : (T k).1 = ref) (hft : pd_FT t k = false)
    (hw : Cond.fieldLink own index ref (T k).2.1 (T k).2.2.1 ∈ pd_B) (ha : a < n) (hs : pd_SH a = (t, N)) (d : decode cc pc = .ok (.getfield index, 3)) (kk : pd_V cx kc ks (pc + 3) ls (.int (I a k) :: st) I J F n) : pd_V cx kc ks pc ls (.ref a :: st) I J F n := by
  obtain ⟨p, l, e, R, s, m, args, below, meth, c, D, tc, A, Q, n0, ad0, nL⟩ := cx
  exact fun ad H locs lsA hag hn hP hD hS hl hz => va_get C.1 C.2.1 C.2.2.2.2.1 hin C.2.2.2.1 C.2.2.2.2.2.1 hP a ((pd_w_get ha).trans (by rw [pd_c_obj hs ht])) hc k hk (C.2.2.2.2.1 _ hw) (fun x h => by rw [← hr]; exact h) (v := .int (I a k)) ((pd_fs_get hk).trans (by simp [pd_fv, hft])) d (kk ad H locs lsA hag hn hP hD hS hl hz)
theorem pd_getR (C : pd_C cx own cc rm) {t N : Nat} {T : u_T} {Cn ref : String} {index a b : Nat} (hc : vwCl[t]? = some (Cn, T, N)) (hin : ∀ w ∈ u_ws Cn T N, w ∈ pd_B) (ht : t < 13) (k : Nat) (hk : k < N) (hr : (T k).1 = ref) (hft : pd_FT t k = true)
    (hw : Cond.fieldLink own index ref (T k).2.1 (T k).2.2.1 ∈ pd_B) (ha : a < n) (hs : pd_SH a = (t, N)) (hF : F a k = some b) (d : decode cc pc = .ok (.getfield index, 3)) (kk : pd_V cx kc ks (pc + 3) ls (.ref b :: st) I J F n) : pd_V cx kc ks pc ls (.ref a :: st) I J F n := by
  obtain ⟨p, l, e, R, s, m, args, below, meth, c, D, tc, A, Q, n0, ad0, nL⟩ := cx
  exact fun ad H locs lsA hag hn hP hD hS hl hz => va_get C.1 C.2.1 C.2.2.2.2.1 hin C.2.2.2.1 C.2.2.2.2.2.1 hP a ((pd_w_get ha).trans (by rw [pd_c_obj hs ht])) hc k hk (C.2.2.2.2.1 _ hw) (fun x h => by rw [← hr]; exact h) (v := .ref (ad b)) ((pd_fs_get hk).trans (by simp [pd_fv, hft, hF, va_rf])) d (kk ad H locs lsA hag hn hP hD hS hl hz)
theorem pd_putI (C : pd_C cx own cc rm) {t N : Nat} {T : u_T} {Cn ref : String} {index a : Nat} {ty0 : Nat → FieldType} {ty : FieldType} {x : Int32} (hc : vwCl[t]? = some (Cn, T, N)) (hin : ∀ w ∈ u_ws Cn T N, w ∈ pd_B) (hty : ∀ k, k < N → parseFieldDescriptor (T k).2.2.1 = some (ty0 k)) (hnm : ∀ a, a < N → ∀ b, b < N → a ≠ b → (T a).2.1 ≠ (T b).2.1) (ht : t < 13) (k : Nat) (hk : k < N) (hr : (T k).1 = ref) (hfin : (T k).2.2.2 = false) (hft : pd_FT t k = false) (htk : ty0 k = ty)
    (hw : Cond.fieldLink own index ref (T k).2.1 (T k).2.2.1 ∈ pd_B) (hnr : narrow ty (.int x) = .int x) (hfit : fits ty (.int x) = true) (ha : a < n) (hs : pd_SH a = (t, N)) (d : decode cc pc = .ok (.putfield index, 3)) (kk : pd_V cx kc ks (pc + 3) ls st (pd_ui I a k x) J F n) : pd_V cx kc ks pc ls (.int x :: .ref a :: st) I J F n := by
  obtain ⟨p, l, e, R, s, m, args, below, meth, c, D, tc, A, Q, n0, ad0, nL⟩ := cx
  intro ad H locs lsA hag hn hP hD hS hl hz
  have he : pd_c ad tc (pd_ui I a k x) J F a = .inr (t, ((List.range N).map (fun j => pd_fv ad I F t a j)).set k (.int x)) := by rw [pd_c_obj hs ht, pd_fs_setI hft]
  have hw9 := pd_w_set (n := n) he (fun b hb => pd_c_eqI (J := J) (F := F) (ad := ad) (tc := tc) (pd_ui_ne (I := I) (k := k) (x := x) hb))
  refine va_put C.1 C.2.1 C.2.2.2.2.1 hin ty0 hty hnm C.2.2.2.1 C.2.2.2.2.2.1 hP hD hS a ((pd_w_get ha).trans (by rw [pd_c_obj hs ht])) hc k hk (C.2.2.2.2.1 _ hw) (fun x h => by rw [← hr]; exact h) hfin (ty := ty) (v := .int x) (by rw [hty k hk, htk]) hnr hfit (by simpa using hk) d (fun H1 locs1 hP1 hD1 hS1 => ?_)
  rw [hw9] at hP1 hD1
  exact kk ad H1 locs1 lsA hag hn hP1 hD1 hS1 hl hz
theorem pd_putR (C : pd_C cx own cc rm) {t N : Nat} {T : u_T} {Cn ref : String} {index a b : Nat} {ty0 : Nat → FieldType} {ty : FieldType} (hc : vwCl[t]? = some (Cn, T, N)) (hin : ∀ w ∈ u_ws Cn T N, w ∈ pd_B) (hty : ∀ k, k < N → parseFieldDescriptor (T k).2.2.1 = some (ty0 k)) (hnm : ∀ a, a < N → ∀ b, b < N → a ≠ b → (T a).2.1 ≠ (T b).2.1) (ht : t < 13) (k : Nat) (hk : k < N) (hr : (T k).1 = ref) (hfin : (T k).2.2.2 = false) (hft : pd_FT t k = true) (htk : ty0 k = ty) (hrt : ∀ q : Nat, narrow ty (.ref q) = .ref q ∧ fits ty (.ref q) = true)
    (hw : Cond.fieldLink own index ref (T k).2.1 (T k).2.2.1 ∈ pd_B) (ha : a < n) (hs : pd_SH a = (t, N)) (d : decode cc pc = .ok (.putfield index, 3)) (kk : pd_V cx kc ks (pc + 3) ls st I J (pd_ur F a k (some b)) n) : pd_V cx kc ks pc ls (.ref b :: .ref a :: st) I J F n := by
  obtain ⟨p, l, e, R, s, m, args, below, meth, c, D, tc, A, Q, n0, ad0, nL⟩ := cx
  intro ad H locs lsA hag hn hP hD hS hl hz
  have he : pd_c ad tc I J (pd_ur F a k (some b)) a = .inr (t, ((List.range N).map (fun j => pd_fv ad I F t a j)).set k (.ref (ad b))) := by rw [pd_c_obj hs ht, ← pd_fs_setR hft]; rfl
  have hw9 := pd_w_set (n := n) he (fun c hc => pd_c_eqF (I := I) (J := J) (ad := ad) (tc := tc) (pd_ur_ne (F := F) (k := k) (x := some b) hc))
  refine va_put C.1 C.2.1 C.2.2.2.2.1 hin ty0 hty hnm C.2.2.2.1 C.2.2.2.2.2.1 hP hD hS a ((pd_w_get ha).trans (by rw [pd_c_obj hs ht])) hc k hk (C.2.2.2.2.1 _ hw) (fun x h => by rw [← hr]; exact h) hfin (ty := ty) (v := .ref (ad b)) (by rw [hty k hk, htk]) (hrt _).1 (hrt _).2 (by simpa using hk) d (fun H1 locs1 hP1 hD1 hS1 => ?_)
  rw [hw9] at hP1 hD1
  exact kk ad H1 locs1 lsA hag hn hP1 hD1 hS1 hl hz
theorem pd_putFI (C : pd_C cx own cc rm) (hin0 : (cx.2.2.2.2.2.2.2.2.1).name = "<init>") {t N : Nat} {T : u_T} {Cn ref : String} {index a : Nat} {ty0 : Nat → FieldType} {ty : FieldType} {x : Int32} (hc : vwCl[t]? = some (Cn, T, N)) (hin : ∀ w ∈ u_ws Cn T N, w ∈ pd_B) (hty : ∀ k, k < N → parseFieldDescriptor (T k).2.2.1 = some (ty0 k)) (hnm : ∀ a, a < N → ∀ b, b < N → a ≠ b → (T a).2.1 ≠ (T b).2.1) (ht : t < 13) (k : Nat) (hk : k < N) (hr : (T k).1 = ref) (hfin : (T k).2.2.2 = true) (hown : (T k).1 = own) (hft : pd_FT t k = false) (htk : ty0 k = ty)
    (hw : Cond.fieldLink own index ref (T k).2.1 (T k).2.2.1 ∈ pd_B) (hnr : narrow ty (.int x) = .int x) (hfit : fits ty (.int x) = true) (ha : a < n) (hs : pd_SH a = (t, N)) (d : decode cc pc = .ok (.putfield index, 3)) (kk : pd_V cx kc ks (pc + 3) ls st (pd_ui I a k x) J F n) : pd_V cx kc ks pc ls (.int x :: .ref a :: st) I J F n := by
  obtain ⟨p, l, e, R, s, m, args, below, meth, c, D, tc, A, Q, n0, ad0, nL⟩ := cx
  intro ad H locs lsA hag hn hP hD hS hl hz
  have he : pd_c ad tc (pd_ui I a k x) J F a = .inr (t, ((List.range N).map (fun j => pd_fv ad I F t a j)).set k (.int x)) := by rw [pd_c_obj hs ht, pd_fs_setI hft]
  have hw9 := pd_w_set (n := n) he (fun b hb => pd_c_eqI (J := J) (F := F) (ad := ad) (tc := tc) (pd_ui_ne (I := I) (k := k) (x := x) hb))
  refine va_putF C.1 C.2.1 C.2.2.2.2.1 hin ty0 hty hnm C.2.2.2.1 C.2.2.2.2.2.1 hP hD hS a ((pd_w_get ha).trans (by rw [pd_c_obj hs ht])) hc k hk (C.2.2.2.2.1 _ hw) (fun x h => by rw [← hr]; exact h) hfin hin0 hown (ty := ty) (v := .int x) (by rw [hty k hk, htk]) hnr hfit (by simpa using hk) d (fun H1 locs1 hP1 hD1 hS1 => ?_)
  rw [hw9] at hP1 hD1
  exact kk ad H1 locs1 lsA hag hn hP1 hD1 hS1 hl hz
theorem pd_putFR (C : pd_C cx own cc rm) (hin0 : (cx.2.2.2.2.2.2.2.2.1).name = "<init>") {t N : Nat} {T : u_T} {Cn ref : String} {index a b : Nat} {ty0 : Nat → FieldType} {ty : FieldType} (hc : vwCl[t]? = some (Cn, T, N)) (hin : ∀ w ∈ u_ws Cn T N, w ∈ pd_B) (hty : ∀ k, k < N → parseFieldDescriptor (T k).2.2.1 = some (ty0 k)) (hnm : ∀ a, a < N → ∀ b, b < N → a ≠ b → (T a).2.1 ≠ (T b).2.1) (ht : t < 13) (k : Nat) (hk : k < N) (hr : (T k).1 = ref) (hfin : (T k).2.2.2 = true) (hown : (T k).1 = own) (hft : pd_FT t k = true) (htk : ty0 k = ty) (hrt : ∀ q : Nat, narrow ty (.ref q) = .ref q ∧ fits ty (.ref q) = true)
    (hw : Cond.fieldLink own index ref (T k).2.1 (T k).2.2.1 ∈ pd_B) (ha : a < n) (hs : pd_SH a = (t, N)) (d : decode cc pc = .ok (.putfield index, 3)) (kk : pd_V cx kc ks (pc + 3) ls st I J (pd_ur F a k (some b)) n) : pd_V cx kc ks pc ls (.ref b :: .ref a :: st) I J F n := by
  obtain ⟨p, l, e, R, s, m, args, below, meth, c, D, tc, A, Q, n0, ad0, nL⟩ := cx
  intro ad H locs lsA hag hn hP hD hS hl hz
  have he : pd_c ad tc I J (pd_ur F a k (some b)) a = .inr (t, ((List.range N).map (fun j => pd_fv ad I F t a j)).set k (.ref (ad b))) := by rw [pd_c_obj hs ht, ← pd_fs_setR hft]; rfl
  have hw9 := pd_w_set (n := n) he (fun c hc => pd_c_eqF (I := I) (J := J) (ad := ad) (tc := tc) (pd_ur_ne (F := F) (k := k) (x := some b) hc))
  refine va_putF C.1 C.2.1 C.2.2.2.2.1 hin ty0 hty hnm C.2.2.2.1 C.2.2.2.2.2.1 hP hD hS a ((pd_w_get ha).trans (by rw [pd_c_obj hs ht])) hc k hk (C.2.2.2.2.1 _ hw) (fun x h => by rw [← hr]; exact h) hfin hin0 hown (ty := ty) (v := .ref (ad b)) (by rw [hty k hk, htk]) (hrt _).1 (hrt _).2 (by simpa using hk) d (fun H1 locs1 hP1 hD1 hS1 => ?_)
  rw [hw9] at hP1 hD1
  exact kk ad H1 locs1 lsA hag hn hP1 hD1 hS1 hl hz
theorem pd_iald (C : pd_C cx own cc rm) {a N : Nat} {i : Int32} (ha : a < n) (hs : pd_SH a = (13, N)) (hi : pd_in i N = true) (d : decode cc pc = .ok (.iaload, 1)) (kk : pd_V cx kc ks (pc + 1) ls (.int (I a i.toNatClampNeg) :: st) I J F n) : pd_V cx kc ks pc ls (.int i :: .ref a :: st) I J F n := by
  obtain ⟨p, l, e, R, s, m, args, below, meth, c, D, tc, A, Q, n0, ad0, nL⟩ := cx
  exact fun ad H locs lsA hag hn hP hD hS hl hz => va_iald C.1 C.2.1 C.2.2.2.2.2.1 hP a 0 ((pd_w_get ha).trans (by rw [pd_c_int hs (by decide) (by decide)])) rfl (pd_in_vp hi) d (kk ad H locs lsA hag hn hP hD hS hl hz)
theorem pd_bald (C : pd_C cx own cc rm) {a N : Nat} {i : Int32} (ha : a < n) (hs : pd_SH a = (14, N)) (hi : pd_in i N = true) (d : decode cc pc = .ok (.baload, 1)) (kk : pd_V cx kc ks (pc + 1) ls (.int (I a i.toNatClampNeg) :: st) I J F n) : pd_V cx kc ks pc ls (.int i :: .ref a :: st) I J F n := by
  obtain ⟨p, l, e, R, s, m, args, below, meth, c, D, tc, A, Q, n0, ad0, nL⟩ := cx
  exact fun ad H locs lsA hag hn hP hD hS hl hz => va_bald C.1 C.2.1 C.2.2.2.2.2.1 hP a 1 ((pd_w_get ha).trans (by rw [pd_c_int hs (by decide) (by decide)])) rfl (pd_in_vp hi) d (kk ad H locs lsA hag hn hP hD hS hl hz)
theorem pd_sald (C : pd_C cx own cc rm) {a N : Nat} {i : Int32} (ha : a < n) (hs : pd_SH a = (15, N)) (hi : pd_in i N = true) (d : decode cc pc = .ok (.saload, 1)) (kk : pd_V cx kc ks (pc + 1) ls (.int (I a i.toNatClampNeg) :: st) I J F n) : pd_V cx kc ks pc ls (.int i :: .ref a :: st) I J F n := by
  obtain ⟨p, l, e, R, s, m, args, below, meth, c, D, tc, A, Q, n0, ad0, nL⟩ := cx
  exact fun ad H locs lsA hag hn hP hD hS hl hz => va_sald C.1 C.2.1 C.2.2.2.2.2.1 hP a 2 ((pd_w_get ha).trans (by rw [pd_c_int hs (by decide) (by decide)])) rfl (pd_in_vp hi) d (kk ad H locs lsA hag hn hP hD hS hl hz)
theorem pd_lald (C : pd_C cx own cc rm) {a N : Nat} {i : Int32} (ha : a < n) (hs : pd_SH a = (16, N)) (hi : pd_in i N = true) (d : decode cc pc = .ok (.laload, 1)) (kk : pd_V cx kc ks (pc + 1) ls (.long (J a i.toNatClampNeg) :: st) I J F n) : pd_V cx kc ks pc ls (.int i :: .ref a :: st) I J F n := by
  obtain ⟨p, l, e, R, s, m, args, below, meth, c, D, tc, A, Q, n0, ad0, nL⟩ := cx
  exact fun ad H locs lsA hag hn hP hD hS hl hz => va_lald C.1 C.2.1 C.2.2.2.2.2.1 hP a 3 ((pd_w_get ha).trans (by rw [pd_c_long hs])) rfl (pd_in_vp hi) d (kk ad H locs lsA hag hn hP hD hS hl hz)
theorem pd_rt (t : Nat) (h : t = 17 ∨ t = 18 ∨ t = 19) (tc : Nat → ClassId) : ∃ C : String, (pd_tys tc)[t - 13]? = some (tc (t - 13), .object C) := by
  rcases h with rfl | rfl | rfl
  · exact ⟨_, rfl⟩
  · exact ⟨_, rfl⟩
  · exact ⟨_, rfl⟩
theorem pd_aald (C : pd_C cx own cc rm) {a N t b : Nat} {i : Int32} (ha : a < n) (hs : pd_SH a = (t, N)) (ht : t = 17 ∨ t = 18 ∨ t = 19) (hi : pd_in i N = true) (hF : F a i.toNatClampNeg = some b) (d : decode cc pc = .ok (.aaload, 1)) (kk : pd_V cx kc ks (pc + 1) ls (.ref b :: st) I J F n) : pd_V cx kc ks pc ls (.int i :: .ref a :: st) I J F n := by
  obtain ⟨p, l, e, R, s, m, args, below, meth, c, D, tc, A, Q, n0, ad0, nL⟩ := cx
  obtain ⟨Cn, hCn⟩ := pd_rt t ht tc
  intro ad H locs lsA hag hn hP hD hS hl hz
  refine va_aldq C.1 C.2.1 C.2.2.2.2.2.1 hP a (t - 13) ((pd_w_get ha).trans (by rw [pd_c_ref hs (by omega)])) hCn (pd_in_vp hi) d ?_
  have h9 : (F a i.toNatClampNeg).map ad = some (ad b) := by rw [hF]; rfl
  rw [h9]
  exact kk ad H locs lsA hag hn hP hD hS hl hz
theorem pd_aaldN (C : pd_C cx own cc rm) {a N t : Nat} {i : Int32} (ha : a < n) (hs : pd_SH a = (t, N)) (ht : t = 17 ∨ t = 18 ∨ t = 19) (hi : pd_in i N = true) (hF : F a i.toNatClampNeg = none) (d : decode cc pc = .ok (.aaload, 1)) (kk : pd_V cx kc ks (pc + 1) ls (.null :: st) I J F n) : pd_V cx kc ks pc ls (.int i :: .ref a :: st) I J F n := by
  obtain ⟨p, l, e, R, s, m, args, below, meth, c, D, tc, A, Q, n0, ad0, nL⟩ := cx
  obtain ⟨Cn, hCn⟩ := pd_rt t ht tc
  intro ad H locs lsA hag hn hP hD hS hl hz
  refine va_aldq C.1 C.2.1 C.2.2.2.2.2.1 hP a (t - 13) ((pd_w_get ha).trans (by rw [pd_c_ref hs (by omega)])) hCn (pd_in_vp hi) d ?_
  have h9 : (F a i.toNatClampNeg).map ad = none := by rw [hF]; rfl
  rw [h9]
  exact kk ad H locs lsA hag hn hP hD hS hl hz
theorem pd_iast (C : pd_C cx own cc rm) {a N : Nat} {i x : Int32} (ha : a < n) (hs : pd_SH a = (13, N)) (hi : pd_in i N = true) (d : decode cc pc = .ok (.iastore, 1)) (kk : pd_V cx kc ks (pc + 1) ls st (pd_ui I a i.toNatClampNeg x) J F n) : pd_V cx kc ks pc ls (.int x :: .int i :: .ref a :: st) I J F n := by
  obtain ⟨p, l, e, R, s, m, args, below, meth, c, D, tc, A, Q, n0, ad0, nL⟩ := cx
  intro ad H locs lsA hag hn hP hD hS hl hz
  have hw9 := pd_w_set (n := n) (ad := ad) (tc := tc) (I' := pd_ui I a i.toNatClampNeg x) (J' := J) (F' := F) (e := .inl (tc 0, N, .inl (upd (I a) i.toNatClampNeg x))) (by rw [pd_c_int hs (by decide) (by decide), pd_ui_eq]) (fun b hb => pd_c_eqI (J := J) (F := F) (pd_ui_ne (I := I) hb))
  refine va_iast C.1 C.2.1 C.2.2.2.2.2.1 hP hD hS a 0 ((pd_w_get ha).trans (by rw [pd_c_int hs (by decide) (by decide)])) rfl (pd_in_vp hi) d (fun H1 locs1 hP1 hD1 hS1 => ?_)
  rw [hw9] at hP1 hD1
  exact kk ad H1 locs1 lsA hag hn hP1 hD1 hS1 hl hz
theorem pd_bast (C : pd_C cx own cc rm) {a N : Nat} {i x : Int32} (ha : a < n) (hs : pd_SH a = (14, N)) (hi : pd_in i N = true) (d : decode cc pc = .ok (.bastore, 1)) (kk : pd_V cx kc ks (pc + 1) ls st (pd_ui I a i.toNatClampNeg x.toInt8.toInt32) J F n) : pd_V cx kc ks pc ls (.int x :: .int i :: .ref a :: st) I J F n := by
  obtain ⟨p, l, e, R, s, m, args, below, meth, c, D, tc, A, Q, n0, ad0, nL⟩ := cx
  intro ad H locs lsA hag hn hP hD hS hl hz
  have hw9 := pd_w_set (n := n) (ad := ad) (tc := tc) (I' := pd_ui I a i.toNatClampNeg x.toInt8.toInt32) (J' := J) (F' := F) (e := .inl (tc 1, N, .inl (upd (I a) i.toNatClampNeg x.toInt8.toInt32))) (by rw [pd_c_int hs (by decide) (by decide), pd_ui_eq]) (fun b hb => pd_c_eqI (J := J) (F := F) (pd_ui_ne (I := I) hb))
  refine va_bast C.1 C.2.1 C.2.2.2.2.2.1 hP hD hS a 1 ((pd_w_get ha).trans (by rw [pd_c_int hs (by decide) (by decide)])) rfl (pd_in_vp hi) d (fun H1 locs1 hP1 hD1 hS1 => ?_)
  rw [vp_nar_byte, hw9] at hP1 hD1
  exact kk ad H1 locs1 lsA hag hn hP1 hD1 hS1 hl hz
theorem pd_sast (C : pd_C cx own cc rm) {a N : Nat} {i x : Int32} (ha : a < n) (hs : pd_SH a = (15, N)) (hi : pd_in i N = true) (d : decode cc pc = .ok (.sastore, 1)) (kk : pd_V cx kc ks (pc + 1) ls st (pd_ui I a i.toNatClampNeg x.toInt16.toInt32) J F n) : pd_V cx kc ks pc ls (.int x :: .int i :: .ref a :: st) I J F n := by
  obtain ⟨p, l, e, R, s, m, args, below, meth, c, D, tc, A, Q, n0, ad0, nL⟩ := cx
  intro ad H locs lsA hag hn hP hD hS hl hz
  have hw9 := pd_w_set (n := n) (ad := ad) (tc := tc) (I' := pd_ui I a i.toNatClampNeg x.toInt16.toInt32) (J' := J) (F' := F) (e := .inl (tc 2, N, .inl (upd (I a) i.toNatClampNeg x.toInt16.toInt32))) (by rw [pd_c_int hs (by decide) (by decide), pd_ui_eq]) (fun b hb => pd_c_eqI (J := J) (F := F) (pd_ui_ne (I := I) hb))
  refine va_sast C.1 C.2.1 C.2.2.2.2.2.1 hP hD hS a 2 ((pd_w_get ha).trans (by rw [pd_c_int hs (by decide) (by decide)])) rfl (pd_in_vp hi) d (fun H1 locs1 hP1 hD1 hS1 => ?_)
  rw [vp_nar_short, hw9] at hP1 hD1
  exact kk ad H1 locs1 lsA hag hn hP1 hD1 hS1 hl hz
theorem pd_last (C : pd_C cx own cc rm) {a N : Nat} {i : Int32} {x : Int64} (ha : a < n) (hs : pd_SH a = (16, N)) (hi : pd_in i N = true) (d : decode cc pc = .ok (.lastore, 1)) (kk : pd_V cx kc ks (pc + 1) ls st I (pd_uj J a i.toNatClampNeg x) F n) : pd_V cx kc ks pc ls (.long x :: .int i :: .ref a :: st) I J F n := by
  obtain ⟨p, l, e, R, s, m, args, below, meth, c, D, tc, A, Q, n0, ad0, nL⟩ := cx
  intro ad H locs lsA hag hn hP hD hS hl hz
  have hw9 := pd_w_set (n := n) (ad := ad) (tc := tc) (I' := I) (J' := pd_uj J a i.toNatClampNeg x) (F' := F) (e := .inl (tc 3, N, .inr (.inl (vp_updL (J a) i.toNatClampNeg x)))) (by rw [pd_c_long hs, pd_uj_eq]) (fun b hb => pd_c_eqJ (I := I) (F := F) (pd_uj_ne (J := J) hb))
  refine va_last C.1 C.2.1 C.2.2.2.2.2.1 hP hD hS a 3 ((pd_w_get ha).trans (by rw [pd_c_long hs])) rfl (pd_in_vp hi) d (fun H1 locs1 hP1 hD1 hS1 => ?_)
  rw [hw9] at hP1 hD1
  exact kk ad H1 locs1 lsA hag hn hP1 hD1 hS1 hl hz
/-- which class's objects an array of references holds -/
def pd_el (t ci : Nat) : Bool := (t == 17 && ci == 4) || (t == 18 && ci == 0) || (t == 19 && ci == 9)
theorem pd_el_ok {t ci : Nat} (h : pd_el t ci = true) (tc : Nat → ClassId) : ∃ r : vw_C, vwCl[ci]? = some r ∧ (pd_tys tc)[t - 13]? = some (tc (t - 13), .object r.1) ∧ 16 < t ∧ ci < 13 := by
  simp only [pd_el, Bool.or_eq_true, Bool.and_eq_true, beq_iff_eq] at h
  rcases h with (⟨rfl, rfl⟩ | ⟨rfl, rfl⟩) | ⟨rfl, rfl⟩ <;> exact ⟨_, rfl, rfl, by decide, by decide⟩
theorem pd_aast (C : pd_C cx own cc rm) {a N t b ci M : Nat} {i : Int32} (ha : a < n) (hs : pd_SH a = (t, N)) (hb : b < n) (hsb : pd_SH b = (ci, M)) (ht : pd_el t ci = true) (hi : pd_in i N = true) (d : decode cc pc = .ok (.aastore, 1)) (kk : pd_V cx kc ks (pc + 1) ls st I J (pd_ur F a i.toNatClampNeg (some b)) n) : pd_V cx kc ks pc ls (.ref b :: .int i :: .ref a :: st) I J F n := by
  obtain ⟨p, l, e, R, s, m, args, below, meth, c, D, tc, A, Q, n0, ad0, nL⟩ := cx
  obtain ⟨r, h1, h2, h3, h4⟩ := pd_el_ok ht tc
  intro ad H locs lsA hag hn hP hD hS hl hz
  have he : (fun j => (pd_ur F a i.toNatClampNeg (some b) a j).map ad) = va_up (fun j => (F a j).map ad) i.toNatClampNeg (some (ad b)) := by
    funext j
    rw [pd_ur_eq]
    by_cases hj : j = i.toNatClampNeg <;> simp [va_up, hj]
  have hw9 := pd_w_set (n := n) (ad := ad) (tc := tc) (I' := I) (J' := J) (F' := pd_ur F a i.toNatClampNeg (some b)) (e := .inl (tc (t - 13), N, .inr (.inr (.inr (.inr (va_up (fun j => (F a j).map ad) i.toNatClampNeg (some (ad b)))))))) (by rw [pd_c_ref hs h3, he]) (fun b hb => pd_c_eqF (I := I) (J := J) (pd_ur_ne (F := F) hb))
  refine va_astq C.1 C.2.1 C.2.2.2.2.2.1 hP hD hS a (t - 13) b ci ((pd_w_get ha).trans (by rw [pd_c_ref hs h3])) h2 ((pd_w_get hb).trans (by rw [pd_c_obj hsb h4])) h1 (pd_in_vp hi) d (fun H1 locs1 hP1 hD1 hS1 => ?_)
  rw [hw9] at hP1 hD1
  exact kk ad H1 locs1 lsA hag hn hP1 hD1 hS1 hl hz
end PDH
