/-! pure: longs that hold ranks -/
theorem lN_shr {m k : Nat} (hm : m < 2 ^ 63) (hk : k < 64) : lN m >>> ((nI k).toInt64 &&& 63) = lN (m / 2 ^ k) := by
  apply Int64.toInt_inj.mp
  have e : (lN m >>> ((nI k).toInt64 &&& 63)).toBitVec = (lN m).toBitVec.sshiftRight (((nI k).toInt64 &&& 63).toBitVec.smod 64).toNat := rfl
  have h2 : m / 2 ^ k ≤ m := Nat.div_le_self _ _
  show (lN m >>> ((nI k).toInt64 &&& 63)).toBitVec.toInt = _
  rw [e, sh64 k hk, BitVec.toInt_sshiftRight, pk_lT (by omega)]
  show (lN m).toInt >>> k = _
  rw [pk_lT hm, ← Nat.shiftRight_eq_div_pow]
  rfl
theorem lN_shl (m : Nat) {k : Nat} (hk : k < 64) : lN m <<< ((nI k).toInt64 &&& 63) = lN (m * 2 ^ k) := by
  apply Int64.toBitVec_inj.mp
  have e : (lN m <<< ((nI k).toInt64 &&& 63)).toBitVec = BitVec.ofNat 64 m <<< (((nI k).toInt64 &&& 63).toBitVec.smod 64).toNat := rfl
  rw [e, sh64 k hk]
  apply BitVec.eq_of_toNat_eq
  rw [BitVec.toNat_shiftLeft]
  show (BitVec.ofNat 64 m).toNat <<< k % 2 ^ 64 = (BitVec.ofNat 64 (m * 2 ^ k)).toNat
  rw [BitVec.toNat_ofNat, BitVec.toNat_ofNat, Nat.shiftLeft_eq, Nat.mod_mul_mod]
theorem lN_or (a b : Nat) : lN a ||| lN b = lN (a ||| b) := by
  apply Int64.toBitVec_inj.mp
  show BitVec.ofNat 64 a ||| BitVec.ofNat 64 b = BitVec.ofNat 64 (a ||| b)
  exact (BitVec.ofNat_or).symm
theorem or_add {s q b : Nat} (h : b < 2 ^ s) : (2 ^ s * q) ||| b = 2 ^ s * q + b := (Nat.two_pow_add_eq_or_of_lt h q).symm
theorem and1023 (x : Nat) : nI x &&& 1023 = nI (x % 1024) := by
  show nI x &&& nI 1023 = _
  rw [nI_and]
  congr 1
  exact Nat.and_two_pow_sub_one_eq_mod x 10
/-- six columns of ranks in one number -/
def kN (f : Nat → Nat) : Nat := f 0 * 1125899906842624 + f 1 * 1099511627776 + f 2 * 1073741824 + f 3 * 1048576 + f 4 * 1024 + f 5
def col (m j : Nat) : Nat := m / 2 ^ (50 - 10 * j) % 1024
theorem six {j : Nat} (h : j < 6) : j = 0 ∨ j = 1 ∨ j = 2 ∨ j = 3 ∨ j = 4 ∨ j = 5 := by omega
theorem kN_lt {f : Nat → Nat} (h : ∀ j, j < 6 → f j < 1024) : kN f < 1152921504606846976 := by
  have h0 := h 0 (by omega)
  have h1 := h 1 (by omega)
  have h2 := h 2 (by omega)
  have h3 := h 3 (by omega)
  have h4 := h 4 (by omega)
  have h5 := h 5 (by omega)
  unfold kN
  omega
theorem col_kN {f : Nat → Nat} {j : Nat} (h : ∀ j, j < 6 → f j < 1024) (hj : j < 6) : col (kN f) j = f j := by
  have h0 := h 0 (by omega)
  have h1 := h 1 (by omega)
  have h2 := h 2 (by omega)
  have h3 := h 3 (by omega)
  have h4 := h 4 (by omega)
  have h5 := h 5 (by omega)
  unfold col kN
  rcases six hj with r | r | r | r | r | r <;> subst r <;> simp <;> omega
theorem kN_inj {f g : Nat → Nat} (hf : ∀ j, j < 6 → f j < 1024) (hg : ∀ j, j < 6 → g j < 1024) (e : kN f = kN g) {j : Nat} (hj : j < 6) : f j = g j := by
  rw [← col_kN hf hj, ← col_kN hg hj, e]
theorem kN_cong {f g : Nat → Nat} (h : ∀ j, j < 6 → f j = g j) : kN f = kN g := by
  unfold kN
  rw [h 0 (by omega), h 1 (by omega), h 2 (by omega), h 3 (by omega), h 4 (by omega), h 5 (by omega)]
/-- the columns before j -/
def upto (f : Nat → Nat) (j : Nat) : Nat → Nat := fun i => if i < j then f i else 0
/-- a column more -/
def put1 (f : Nat → Nat) (j x : Nat) : Nat → Nat := fun i => if i = j then x else f i
theorem or3 {t H L x : Nat} (hL : L < 2 ^ t) (hx : x < 1024) : (2 ^ (t + 10) * H + L) ||| (x * 2 ^ t) = 2 ^ (t + 10) * H + x * 2 ^ t + L := by
  have hp : 2 ^ (t + 10) = 2 ^ t * 1024 := by rw [Nat.pow_add]
  have h1 : 2 ^ t * (x + 1) ≤ 2 ^ t * 1024 := Nat.mul_le_mul_left _ (by omega)
  rw [Nat.mul_add, Nat.mul_one] at h1
  have h2 : L < 2 ^ (t + 10) := by omega
  have h3 : 2 ^ t * x + L < 2 ^ (t + 10) := by omega
  rw [← or_add h2, Nat.or_assoc, Nat.or_comm L, Nat.mul_comm x, or_add hL, or_add h3, Nat.add_assoc]
theorem kN_or {f : Nat → Nat} {j x : Nat} (h : ∀ i, i < 6 → f i < 1024) (hx : x < 1024) (hj : j < 6) (h0 : f j = 0) : lN (kN f) ||| lN (x * 2 ^ (50 - 10 * j)) = lN (kN (put1 f j x)) := by
  rw [lN_or]
  congr 1
  have z0 := h 0 (by omega)
  have z1 := h 1 (by omega)
  have z2 := h 2 (by omega)
  have z3 := h 3 (by omega)
  have z4 := h 4 (by omega)
  have z5 := h 5 (by omega)
  rcases six hj with r | r | r | r | r | r
  all_goals subst r
  · have e : kN f = 2 ^ (50 + 10) * 0 + (f 1 * 1099511627776 + f 2 * 1073741824 + f 3 * 1048576 + f 4 * 1024 + f 5) := by
      unfold kN
      omega
    rw [e, show 50 - 10 * 0 = 50 from rfl, or3 (by omega) hx]
    show _ = x * 1125899906842624 + f 1 * 1099511627776 + f 2 * 1073741824 + f 3 * 1048576 + f 4 * 1024 + f 5
    omega
  · have e : kN f = 2 ^ (40 + 10) * f 0 + (f 2 * 1073741824 + f 3 * 1048576 + f 4 * 1024 + f 5) := by
      unfold kN
      omega
    rw [e, show 50 - 10 * 1 = 40 from rfl, or3 (by omega) hx]
    show _ = f 0 * 1125899906842624 + x * 1099511627776 + f 2 * 1073741824 + f 3 * 1048576 + f 4 * 1024 + f 5
    omega
  · have e : kN f = 2 ^ (30 + 10) * (f 0 * 1024 + f 1) + (f 3 * 1048576 + f 4 * 1024 + f 5) := by
      unfold kN
      omega
    rw [e, show 50 - 10 * 2 = 30 from rfl, or3 (by omega) hx]
    show _ = f 0 * 1125899906842624 + f 1 * 1099511627776 + x * 1073741824 + f 3 * 1048576 + f 4 * 1024 + f 5
    omega
  · have e : kN f = 2 ^ (20 + 10) * (f 0 * 1048576 + f 1 * 1024 + f 2) + (f 4 * 1024 + f 5) := by
      unfold kN
      omega
    rw [e, show 50 - 10 * 3 = 20 from rfl, or3 (by omega) hx]
    show _ = f 0 * 1125899906842624 + f 1 * 1099511627776 + f 2 * 1073741824 + x * 1048576 + f 4 * 1024 + f 5
    omega
  · have e : kN f = 2 ^ (10 + 10) * (f 0 * 1073741824 + f 1 * 1048576 + f 2 * 1024 + f 3) + f 5 := by
      unfold kN
      omega
    rw [e, show 50 - 10 * 4 = 10 from rfl, or3 (by omega) hx]
    show _ = f 0 * 1125899906842624 + f 1 * 1099511627776 + f 2 * 1073741824 + f 3 * 1048576 + x * 1024 + f 5
    omega
  · have e : kN f = 2 ^ (0 + 10) * (f 0 * 1099511627776 + f 1 * 1073741824 + f 2 * 1048576 + f 3 * 1024 + f 4) + 0 := by
      unfold kN
      omega
    rw [e, show 50 - 10 * 5 = 0 from rfl, or3 (by omega) hx]
    show _ = f 0 * 1125899906842624 + f 1 * 1099511627776 + f 2 * 1073741824 + f 3 * 1048576 + f 4 * 1024 + x
    omega
theorem sp_shiftOf {post : Int32 → Unit → Prop} {j : Nat} (hj : j < 6) (h : post (nI (50 - 10 * j)) ()) : wp_met_Fa_shiftOf post (nI j) := by
  intro y1 h1 y2 h2
  rw [show (10 : Int32) = nI 10 from rfl, pk_mul] at h1
  rw [h1, show (50 : Int32) = nI 50 from rfl, pk_sub (by omega)] at h2
  subst h2
  exact h
theorem sp_rankIn {post : Int32 → Unit → Prop} {m j : Nat} (hm : m < 2 ^ 63) (hj : j < 6) (h : post (nI (col m j)) ()) : wp_met_Fa_rankIn post (lN m) (nI j) := by
  intro y1 h1 y2 h2 y3 h3 y4 h4 y5 h5
  rw [show (10 : Int32) = nI 10 from rfl, pk_mul] at h1
  rw [h1, show (50 : Int32) = nI 50 from rfl, pk_sub (by omega)] at h2
  rw [h2, lN_shr hm (by omega)] at h3
  rw [h3, lN_i] at h4
  rw [h4, and1023] at h5
  subst h5
  exact h
theorem nI_l9 {n : Nat} (h : n < 2147483648) : (nI n).toInt64 = lN n := nI_l h
