/-! THE CLAIM OUT OF ONE WALK OF THE LAW'S BODY. Your part is whole_start (and what it stands on); all else here is the same for every law, but numbers. -/
def R_law : String := "PathDecoderLaw"
def lw_P (b : Addr) (xs : List Int32) (args : Array Value) (s : State) : Prop := args = #[.ref b] ∧ s.IntsAt b xs ∧ xs.length ≤ 2560 ∧ (Jvm.Cond.and given_1 narrow_1).before args s = true
def lw_Q (_ : Array Value) (s : State) (o : Outcome) (t : State) : Prop := o = .returned (some (.int 1)) ∧ Framed s o t [] 601024 7293034
def lw_Z (below : List Frame) (a : Array Value) (s : State) : State → Prop := fun t => ∃ o, t.status = .running ∧ Ended t below o ∧ lw_Q a s o t
/-- the law's own end, with 1 on the stack, nothing written that was there before, its room as the claim has it -/
theorem lw_ret {p : Program} {l : Launch} {e : Env} {s : State} {m : MethodId} {below : List Frame} {meth : Method} {c : Code} {b : Nat} (hx : p.tables.exec = Jvm.exec) (hb : c.code = code) (hr : meth.sig.returnType = ret) (hlocks : meth.locks = false) {pc : Nat} {H : Heap} {ls : Array Slot} (hdg : decode code pc = .ok (.ireturn, 1)) : W p l e room_1 s m #[Value.ref b] below meth c H [] 601024 7293034 (lw_Z below #[Value.ref b] s) (F0 m pc ls [.int 1]) := by
  intro T hT X
  obtain ⟨fs, hret, hrun, hended, hW, hframe⟩ := X.leave (v := some (.int 1)) (hlocks := hlocks) (fun h => by rw [hr] at h; cases h)
  have hmeth' : T.vm.method? m = some meth := X.method'
  refine ⟨T.setFrames fs, ?_, .returned (some (.int 1)), hrun, hended, rfl, ⟨_, rfl⟩, hW, hframe⟩
  jvm_step X.here [X.here.top, hx, hb, hdg, hmeth', hr, ret, narrow_b1]
  (try refine ⟨rfl, ?_⟩); (try refine ⟨rfl, ?_⟩)
  first | (intro acts; rw [hret _ acts rfl rfl rfl]) | rw [hret _ _ rfl rfl rfl]
  exact Steps.refl _
/-- what holds at the law's entry: the machine, the code, the tables' words (any of lw_tbl by 'hts w (by decide +kernel)'), the script of L ints xs at the cell b, what the Statement gives of the start (any of its parts by flat_of_before) -/
def lw_At (p : Program) (s : State) (m : MethodId) (meth : Method) (c : Code) (b L : Nat) (xs : Nat → Int32) : Prop :=
  p.tables.exec = Jvm.exec ∧ c.code = code ∧ meth.sig.returnType = ret ∧ c.maxLocals = 8 ∧ s.vm.findClass R_law = some m.cls ∧ (∀ w ∈ lw_tbl, w.before #[Value.ref b] s = true) ∧ va_X b L xs s s.heap ∧ b < s.heap.size ∧ meth.locks = false ∧ (Jvm.Cond.and given_1 narrow_1).before #[Value.ref b] s = true
set_option maxHeartbeats 4000000 in
set_option maxRecDepth 100000 in
/-- from the entry, for every script of at most 2560 ints, the law comes to its end with true -/
theorem whole_start {p : Program} {e : Env} {s : State} {m : MethodId} {below : List Frame} {meth : Method} {c : Code} (l : Launch) (hflags : l.flags = flags0) {b L : Nat} {xs : Nat → Int32} (hL : L ≤ 2560) (C0 : lw_At p s m meth c b L xs) : W p l e room_1 s m #[Value.ref b] below meth c s.heap [] 0 0 (lw_Z below #[Value.ref b] s) (entryFrame m ([Value.ref b] : List Value).toArray 8) := by
  obtain ⟨hx, hb, hr, hml, hown, hts, hX, hbl, hlocks, hgv⟩ := id C0
  have hn : narrow_1.before #[Value.ref b] s = true := zs_r hgv
  have hst : l.stackTraces = false := by
    unfold Launch.stackTraces
    rw [hflags]
    decide +kernel
  obtain ⟨D, hD0⟩ := zs_D hts
  obtain ⟨tc, ht0⟩ := zs_T hts
  obtain ⟨Iz, Im, h1, h2, hCI⟩ := zbegin
  have C : pd_C (p, l, e, room_1, s, m, #[Value.ref b], below, meth, c, D, tc, va_A [] s.heap.size, lw_Z below #[Value.ref b] s, 0, (fun k => if k = 999999 then b else 0), 8) "PathDecoderLaw" cL_law room_1 :=
    ⟨hx, hb, hml, hown, fun w hw => hts w (List.mem_filter.mp hw).1, ⟨hD0, ht0⟩, fun q hq => Or.inr hq, hlocks, rfl, zs_G hts hn, hst⟩
  have hscr : pd_scr (p, l, e, room_1, s, m, #[Value.ref b], below, meth, c, D, tc, va_A [] s.heap.size, lw_Z below #[Value.ref b] s, 0, (fun k => if k = 999999 then b else 0), 8) b L xs :=
    ⟨hX, hbl, zs_A b hbl, if_pos rfl, Nat.zero_le _⟩
  have KE := pd_lawend (fun H ls => lw_ret hx hb hr hlocks dL_law_2093) C
  have K0 := fun J => el_law C hscr KE 600 133 578908 0 (pd_zi Im 132) J pd_Fb 133 (by omega) (by omega) (zo_loop (by omega) 600 0 _ _ _ _ (Nat.zero_le _) (by omega) hCI)
  have K := eb_begin C (I := fun _ _ => 0) (J := fun _ _ => 0) h1 h2 (K0 _)
  have hl := lv_entry ([.ref b]) (n := 8) (Nat.le_of_ble_eq_true rfl)
  rw [lg_entry_eq]
  generalize (lg_sl ([.ref b]) ++ List.replicate (8 - (lg_sl ([.ref b])).length) Slot.unset).toArray = ls at hl ⊢
  have hl : lv_has ls 8 [(0, .ref b)] := hl
  have e9 : (fun k : Nat => if k = 999999 then b else 0) 999999 = b := if_pos rfl
  have hl2 : lv_has ls 8 (pd_lv (fun k => if k = 999999 then b else 0) 0 [some (.ref 999999), none, none, none, none, none, none, none]) := by
    show lv_has ls 8 [(0, .ref ((fun k : Nat => if k = 999999 then b else 0) 999999))]
    rw [e9]
    exact hl
  exact K (fun k => if k = 999999 then b else 0) s.heap [] ls (fun _ _ => rfl) (Nat.le_refl _) (fun k q h => by simp [pd_w] at h) ⟨fun i j p q h => by simp [pd_w] at h, fun k q h => by simp [pd_w] at h⟩ va_S.rf hl2 rfl
