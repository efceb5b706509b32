/-! the law's end -/
theorem pd_lawend {p : Program} {l : Launch} {e : Env} {s : State} {m : MethodId} {below : List Frame} {meth : Method} {c : Code} {D : va_G} {tc : Nat → ClassId} {n0 : Nat} {ad0 : Nat → Nat} {b : Nat} {Q : State → Prop} (hend : ∀ (H : Heap) (ls : Array Slot), W p l e room_1 s m #[Value.ref b] below meth c H [] 601024 7293034 Q (F0 m 2093 ls [.int 1]))
    (C : pd_C (p, l, e, room_1, s, m, #[Value.ref b], below, meth, c, D, tc, va_A [] s.heap.size, Q, n0, ad0, 8) "PathDecoderLaw" cL_law room_1) :
    ∀ kc ks v I J Z n, kc ≤ 601024 → ks ≤ 7293034 → pd_V (p, l, e, room_1, s, m, #[Value.ref b], below, meth, c, D, tc, va_A [] s.heap.size, Q, n0, ad0, 8) kc ks 2092 [some (.ref 999999), some (.ref 0), some (.ref 92), some (.ref 132), some (.int v), none, none, none] [] I J (pd_RF Z) n := by
  intro kc ks v I J Z n h1 h2
  refine pd_iconst (v := 1) C dL_law_2092 (by decide) ?_
  intro ad H locs lsA hag hn hP hD hS hl hz
  refine W.widen (k := 601024) (n := 7293034) h1 h2 ?_
  refine va_forget (fun q hq => ?_) ?_
  · rcases hS.2.2 q hq with ⟨k, e, h⟩ | h
    · cases h
    · exact h
  · exact hend H lsA
