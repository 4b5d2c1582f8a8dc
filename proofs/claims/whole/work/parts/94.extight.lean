/-! what a throwing walk has made, told by the heap itself -/
section ExTight
variable {p : Program} {l : Launch} {e : Env} {R : Room} {s : State} {m : MethodId} {args : Array Value} {below : List Frame} {meth : Method} {c : Code} {H : Heap} {locs : List Loc} {cells slots : Nat} {Q : State → Prop} {g : JFrame} {q : Addr}
theorem ex_tight {k n : Nat} (h1 : H.size ≤ s.heap.size + k) (h2 : hsm H ≤ hsm s.heap + n) (kk : ex_W p l e R s m args below meth c H locs k n Q g q) : ex_W p l e R s m args below meth c H locs cells slots Q g q := by
  intro T hT X
  have e1 : T.slotsUsed = hsm H := by rw [hsm_T X.book, hT]
  have e2 := hsm_T (wk_s X)
  refine kk T hT { X with same := ?_ }
  obtain ⟨a1, a2, a3, a4, a5, a6⟩ := X.same
  have a4' : T.slotsUsed = s.slotsUsed + (((T.setVm s.vm).heap.toList.drop s.heap.size).map (·.slots.size)).sum := a4
  refine ⟨a1, a2, ?_, a4, ?_, a6⟩
  · show T.heap.size ≤ s.heap.size + k
    rw [hT]
    exact h1
  · omega
end ExTight
