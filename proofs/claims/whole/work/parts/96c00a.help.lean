/-- twelve things -/
def f12 {α : Type} (a0 a1 a2 a3 a4 a5 a6 a7 a8 a9 a10 a11 : α) : Nat → α
  | 0 => a0
  | 1 => a1
  | 2 => a2
  | 3 => a3
  | 4 => a4
  | 5 => a5
  | 6 => a6
  | 7 => a7
  | 8 => a8
  | 9 => a9
  | 10 => a10
  | _ => a11
theorem va_P_hd {D : va_G} {cl : List vw_C} {q q2 : Nat × va_E} {ws : va_W} {H : Heap} (hP : va_P D cl (q :: ws) H) (h : va_at D cl q H → va_at D cl q2 H) : va_P D cl (q2 :: ws) H := by
  intro k p hk
  cases k with
  | zero =>
    obtain rfl := Option.some.inj hk
    exact h (hP 0 _ rfl)
  | succ k => exact hP (k + 1) p hk
theorem va_D_hd {A : Nat → Prop} {q q2 : Nat × va_E} {ws : va_W} (hD : va_D A (q :: ws)) (e : q.1 = q2.1) : va_D A (q2 :: ws) := by
  obtain ⟨h1, h2⟩ := hD
  refine ⟨fun i j x y hi hj he => ?_, fun k x hk => ?_⟩
  · cases i with
    | zero =>
      obtain rfl := Option.some.inj hi
      cases j with
      | zero => rfl
      | succ j => exact h1 0 (j + 1) q y rfl hj (e.trans he)
    | succ i =>
      cases j with
      | zero =>
        obtain rfl := Option.some.inj hj
        exact h1 (i + 1) 0 x q hi rfl (he.trans e.symm)
      | succ j => exact h1 (i + 1) (j + 1) x y hi hj he
  · cases k with
    | zero =>
      obtain rfl := Option.some.inj hk
      rw [← e]
      exact h2 0 q rfl
    | succ k => exact h2 (k + 1) x hk
theorem arrV_c {c : ClassId} {n : Nat} {f g : Nat → Value} (h : ∀ j, j < n → f j = g j) : arrV c n f = arrV c n g := by
  unfold arrV
  congr 1
  apply Array.ext
  · simp
  · intro i h1 h2
    simp at h1
    simp [h i h1]
theorem st_cell {D : va_G} {cl : List vw_C} {H : Heap} {a n : Nat} {c : ClassId} {f g : Nat → Option Nat} (h : ∀ j, j < n → f j = g j) (hq : va_at D cl (a, .inl (c, n, .inr (.inr (.inr (.inr f))))) H) : va_at D cl (a, .inl (c, n, .inr (.inr (.inr (.inr g))))) H := by
  have e : vp_cell c (n, .inr (.inr (.inr (.inr f)))) = vp_cell c (n, .inr (.inr (.inr (.inr g)))) := by
    rw [vp_cell_q, vp_cell_q]
    exact arrV_c (fun j hj => by rw [h j hj])
  show H[a]? = some (vp_cell c (n, .inr (.inr (.inr (.inr g)))))
  rw [← e]
  exact hq
