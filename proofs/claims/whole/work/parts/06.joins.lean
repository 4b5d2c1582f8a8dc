section JnRows
variable {p : Program} {l : Launch} {e : Env} {R : Room} {s : State} {m : MethodId} {args : Array Value} {below : List Frame} {meth : Method} {c : Code} {cells slots : Nat} {Q : State → Prop}
/-- two roads that hand one number on to the same row -/
theorem jn_top {H : Heap} {locs : List Loc} {pc pc2 : Nat} {ls : Array Slot} {rest st0 : List Value} (Cnd : Int32 → Prop)
    (k : ∀ y : Int32, Cnd y → W p l e R s m args below meth c H locs cells slots Q (F0 m pc2 ls (.int y :: rest)))
    (g : (∀ y : Int32, Cnd y → W p l e R s m args below meth c H locs cells slots Q (F0 m pc2 ls (.int y :: rest))) → W p l e R s m args below meth c H locs cells slots Q (F0 m pc ls st0)) : W p l e R s m args below meth c H locs cells slots Q (F0 m pc ls st0) := g k
/-- two roads that come to the same row -/
theorem jn_at {σ : Type} {H : Heap} {locs : List Loc} {pc pc2 : Nat} {ls : Array Slot} {st0 : List Value} (F : σ → Prop) (Inv : σ → Heap → List Loc → Array Slot → Prop)
    (k : ∀ x : σ, F x → ∀ (H : Heap) (locs : List Loc) (ls : Array Slot), Inv x H locs ls → W p l e R s m args below meth c H locs cells slots Q (F0 m pc2 ls []))
    (g : (∀ x : σ, F x → ∀ (H : Heap) (locs : List Loc) (ls : Array Slot), Inv x H locs ls → W p l e R s m args below meth c H locs cells slots Q (F0 m pc2 ls [])) → W p l e R s m args below meth c H locs cells slots Q (F0 m pc ls st0)) : W p l e R s m args below meth c H locs cells slots Q (F0 m pc ls st0) := g k
/-- a loop, by fuel -/
theorem lp_fuel {σ : Type} {pc : Nat} (F : Nat → σ → Prop) (Inv : σ → Heap → List Loc → Array Slot → Prop) (h0 : ∀ x, ¬ F 0 x)
    (step : ∀ (n : Nat) (x : σ), F (n + 1) x → (∀ y : σ, F n y → ∀ (H : Heap) (locs : List Loc) (ls : Array Slot), Inv y H locs ls → W p l e R s m args below meth c H locs cells slots Q (F0 m pc ls [])) → ∀ (H : Heap) (locs : List Loc) (ls : Array Slot), Inv x H locs ls → W p l e R s m args below meth c H locs cells slots Q (F0 m pc ls []))
    {n : Nat} {x : σ} (hw : F n x) {H : Heap} {locs : List Loc} {ls : Array Slot} (hi : Inv x H locs ls) : W p l e R s m args below meth c H locs cells slots Q (F0 m pc ls []) := by
  have key : ∀ (n : Nat) (x : σ), F n x → ∀ (H : Heap) (locs : List Loc) (ls : Array Slot), Inv x H locs ls → W p l e R s m args below meth c H locs cells slots Q (F0 m pc ls []) := by
    intro n
    induction n with
    | zero => intro x h; exact absurd h (h0 x)
    | succ n ih => intro x h; exact step n x h ih
  exact key n x hw H locs ls hi
end JnRows
