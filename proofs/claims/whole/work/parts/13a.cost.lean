/-! what a walk has made, told by the heap itself -/
/-- the slots that a heap holds -/
def hsm (H : Heap) : Nat := H.foldl (fun n c => n + c.slots.size) 0
theorem hsm_T {T : State} (h : T.slotsTrue = true) : T.slotsUsed = hsm T.heap := by
  unfold State.slotsTrue at h
  exact beq_iff_eq.mp h
section Cost
variable {p : Program} {l : Launch} {e : Env} {R : Room} {s : State} {m : MethodId} {args : Array Value} {below : List Frame} {meth : Method} {c : Code} {H : Heap} {locs : List Loc} {cells slots : Nat} {Q : State → Prop} {g : JFrame}
theorem wk_s {T : State} (X : Stand p l e R s m args below meth c T locs cells slots) : s.slotsTrue = true := by
  have h := X.room
  simp only [State.hasRoom, Bool.and_eq_true] at h
  exact h.2
theorem wk_know (k : H.size ≤ s.heap.size + cells → hsm H ≤ hsm s.heap + slots → W p l e R s m args below meth c H locs cells slots Q g) : W p l e R s m args below meth c H locs cells slots Q g := by
  intro T hT X
  have h1 := X.heapSize
  have h2 := X.used
  rw [hsm_T X.book, hsm_T (wk_s X), hT] at h2
  rw [hT] at h1
  exact k h1 h2 T hT X
theorem wk_tight {k n : Nat} (h1 : H.size ≤ s.heap.size + k) (h2 : hsm H ≤ hsm s.heap + n) (kk : W p l e R s m args below meth c H locs k n Q g) : W p l e R s m args below meth c H locs cells slots Q g := by
  intro T hT X
  have e1 : T.slotsUsed = hsm H := by rw [hsm_T X.book, hT]
  have e2 := hsm_T (wk_s X)
  refine kk T hT { X with same := ?_ }
  obtain ⟨a1, a2, a3, a4, a5, a6⟩ := X.same
  have a4' : T.slotsUsed = s.slotsUsed + (((T.setVm s.vm).heap.toList.drop s.heap.size).map (·.slots.size)).sum := a4
  refine ⟨a1, a2, ?_, a4, ?_, a6⟩
  · show T.heap.size ≤ s.heap.size + k
    rw [hT]
    exact h1
  · omega
end Cost
