/-! pure: what is read has one outcome -/
/-- a token's first byte tells 10 from 11 -/
def PlQ (F : Nat → Int32) (W : Nat → Nat → Prop) : Prop := ∀ c p, W c p → (c = 10 ∧ tkS (F p) = true) ∨ (c = 11 ∧ ¬ tkS (F p) = true)
theorem Pl_one {F : Nat → Int32} {W : Nat → Nat → Prop} (h : PlQ F W) {a b p : Nat} (h1 : W a p) (h2 : W b p) : a = b := by
  rcases h a p h1 with ⟨a1, a2⟩ | ⟨a1, a2⟩
  · rcases h b p h2 with ⟨b1, b2⟩ | ⟨b1, b2⟩
    · omega
    · exact absurd a2 b2
  · rcases h b p h2 with ⟨b1, b2⟩ | ⟨b1, b2⟩
    · exact absurd b2 a2
    · omega
theorem W11_pl {md : Nat} {G : Nat → Int32} {ps : List Wd} {cn : List Con} {ls : List Lt} {J : Nat} (hl : ∀ l ∈ ls, LtOk md G ps cn l) {c p : Nat} (h : W11 md ls J c p) : c = 11 ∧ ¬ tkS (G p) = true := by
  obtain ⟨h1, j, l, -, h3, -, t, t1, t2, v, t3, -⟩ := h
  refine ⟨h1, ?_⟩
  have := (hl l (List.mem_of_getElem? h3)).2.2 t t1
  rw [← t2]
  rw [(this.2.1 v t3).2]
  decide
theorem Cyc_one {ps : List Wd} {cs : List (List Lt)} {p q : Nat} (h1 : Cyc ps cs p) (h2 : Cyc ps cs q) : p = q := by
  obtain ⟨c, j, ls, l, a1, a2, a3, a4, a5⟩ := h1
  obtain ⟨c', j', ls', l', b1, b2, b3, b4, b5⟩ := h2
  have hc : c = c' := by
    rcases Nat.lt_trichotomy c c' with z | z | z
    · exact absurd a1 (b2 c j (Or.inl z))
    · exact z
    · exact absurd b1 (a2 c' j' (Or.inl z))
  subst hc
  have hj : j = j' := by
    rcases Nat.lt_trichotomy j j' with z | z | z
    · exact absurd a1 (b2 c j (Or.inr ⟨rfl, z⟩))
    · exact z
    · exact absurd b1 (a2 c j' (Or.inr ⟨rfl, z⟩))
  subst hj
  obtain rfl := Option.some.inj (a3.symm.trans b3)
  obtain rfl := Option.some.inj (a4.symm.trans b4)
  exact a5.symm.trans b5
theorem nm_pl {md : Nat} {G : Nat → Int32} {ps : List Wd} {cn : List Con} {l : Lt} (h : LtOk md G ps cn l) (hA : l.1 = 0 ∨ l.1 = 1) : tkS (G l.2.2.1) = true := by
  rcases h.1 with h | ⟨h, -⟩
  · exact h.2.1
  · rcases hA with e | e <;> rw [e] at h <;> exact absurd h (by decide)
theorem WA_pl {F : Nat → Int32} {D : Dt} (hd : DI 0 F D) : PlQ F (WA D.1) := by
  rintro c p (⟨h1, l, h2, h3, h4, -⟩ | ⟨ls, h1, h2⟩)
  · left
    obtain ⟨ls, g1, g2⟩ := List.mem_flatten.mp h2
    exact ⟨h1, by rw [← h4]; exact nm_pl ((hd.1 ls g1).2.2.1 l g2) h3⟩
  · exact Or.inr (W11_pl (hd.1 ls h1).2.2.1 h2)
theorem QWA_pl {F : Nat → Int32} {D : Dt} {ps : List Wd} {ar : Nat → Nat} (hd : DI 1 F D) : PlQ F (QWA ps ar D.2.1) := by
  rintro c p (⟨h1, k, l, -, h2, h3, h4, -⟩ | h)
  · exact Or.inl ⟨h1, by rw [← h4]; exact nm_pl (hd.2.1 l (List.mem_of_getElem? h2)) h3⟩
  · exact Or.inr (W11_pl hd.2.1 h)
theorem DI_q0 {md : Nat} {F : Nat → Int32} {ps : List Wd} {cn : List Con} (h1 : ps.Nodup) (h2 : cn.Nodup) (h3 : ∀ c ∈ cn, wOk c) : DI md F (D00 ps cn) := ⟨fun ls hls => (by cases hls), fun l hl => (by cases hl), fun _ l hl => (by cases hl), Nat.zero_le _, Nat.zero_le _, h1, h2, h3⟩
theorem LdR_one {F : Nat → Int32} {n : Nat} (hn : n ≤ 65536) {a b : (Nat × Nat) ⊕ Dt} (h1 : LdR F n a) (h2 : LdR F n b) : a = b := by
  have hD : ∀ D, Ends 0 F n (0, 0, 0) (D00 [] []) 0 (.inr D) → DI 0 F D := fun D h => Ends_inv hn ⟨Nat.zero_le _, fun w => absurd w (by decide)⟩ (DI_q0 List.nodup_nil List.nodup_nil (fun c hc => (by cases hc))) (by unfold OI; rw [if_pos rfl]; rfl) h
  rcases h1 with ⟨e, a1, rfl⟩ | ⟨D, a1, a2⟩
  · rcases h2 with ⟨e2, b1, rfl⟩ | ⟨D, b1, -⟩
    · have := Ends_one a1 b1
      rw [Sum.inl.inj this]
    · have := Ends_one a1 b1
      cases this
  · rcases h2 with ⟨e2, b1, rfl⟩ | ⟨D2, b1, b2⟩
    · have := Ends_one a1 b1
      cases this
    · obtain rfl := Sum.inr.inj (Ends_one a1 b1)
      have hpl := WA_pl (hD D a1)
      rcases a2 with ⟨c, p, q1, q2, rfl⟩ | ⟨q1, q2⟩
      · rcases b2 with ⟨c2, p2, r1, r2, rfl⟩ | ⟨r1, -⟩
        · have e1 := q2 c2 p2 r1
          have e2 := r2 c p q1
          obtain rfl : p = p2 := by omega
          rw [Pl_one hpl q1 r1]
        · exact absurd q1 (r1 c p)
      · rcases b2 with ⟨c2, p2, r1, -⟩ | ⟨-, r2⟩
        · exact absurd r1 (q1 c2 p2)
        · rcases q2 with ⟨p, p1, rfl⟩ | ⟨p1, rfl⟩
          · rcases r2 with ⟨p', p2, rfl⟩ | ⟨p2, rfl⟩
            · rw [Cyc_one p1 p2]
            · obtain ⟨c, j, ls, l, f, -⟩ := p1
              exact absurd f (p2 c j)
          · rcases r2 with ⟨p', p2, rfl⟩ | ⟨p2, rfl⟩
            · obtain ⟨c, j, ls, l, f, -⟩ := p2
              exact absurd f (p1 c j)
            · rfl
theorem AsR_one {F : Nat → Int32} {n : Nat} {ps : List Wd} {cn : List Con} {ar : Nat → Nat} (hn : n ≤ 65536) (hp : ps.Nodup) (hc : cn.Nodup) (hw : ∀ c ∈ cn, wOk c) {a b : (Nat × Nat) ⊕ (List Lt × List (Option Wd))} (h1 : AsR ps cn ar F n a) (h2 : AsR ps cn ar F n b) : a = b := by
  have hD : ∀ D, Ends 1 F n (6, 0, 0) (D00 ps cn) 0 (.inr D) → DI 1 F D := fun D h => Ends_inv hn ⟨Nat.zero_le _, fun w => absurd w (by decide)⟩ (DI_q0 hp hc hw) (by unfold OI; exact fun w => absurd w (by decide)) h
  rcases h1 with ⟨e, a1, rfl⟩ | ⟨D, a1, a2⟩
  · rcases h2 with ⟨e2, b1, rfl⟩ | ⟨D, b1, -⟩
    · have := Ends_one a1 b1
      rw [Sum.inl.inj this]
    · have := Ends_one a1 b1
      cases this
  · rcases h2 with ⟨e2, b1, rfl⟩ | ⟨D2, b1, b2⟩
    · have := Ends_one a1 b1
      cases this
    · obtain rfl := Sum.inr.inj (Ends_one a1 b1)
      have hpl := QWA_pl (ps := ps) (ar := ar) (hD D a1)
      rcases a2 with ⟨c, p, q1, q2, rfl⟩ | ⟨q1, rfl⟩
      · rcases b2 with ⟨c2, p2, r1, r2, rfl⟩ | ⟨r1, -⟩
        · have e1 := q2 c2 p2 r1
          have e2 := r2 c p q1
          obtain rfl : p = p2 := by omega
          rw [Pl_one hpl q1 r1]
        · exact absurd q1 (r1 c p)
      · rcases b2 with ⟨c2, p2, r1, -⟩ | ⟨-, rfl⟩
        · exact absurd r1 (q1 c2 p2)
        · rfl
