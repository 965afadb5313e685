/-! the way with the fewest bends -/
def cdV (Dn : Nat → Nat → Nat) (W b c a s : Nat) : Nat := if 1 ≤ c + s ∧ c + s - 1 < W ∧ bitP b (c + s - 1) ∧ Dn (c + s - 1) s < 100000 then Dn (c + s - 1) s + (if a ≠ 3 ∧ a ≠ s then 100 else 0) + (if s = 1 then 0 else 1) else 100000
def dV (o : Nat → Nat) (W last : Nat) : Nat → Nat → Nat → Nat
  | 0, _, _ => 0
  | k + 1, c, a => min (cdV (dV o W last k) W (o (last - k)) c a 0) (min (cdV (dV o W last k) W (o (last - k)) c a 1) (cdV (dV o W last k) W (o (last - k)) c a 2))
def stV (o : Nat → Nat) (W last : Nat) : Nat → Nat → Nat → Nat
  | 0, _, _ => 0
  | k + 1, c, a => if cdV (dV o W last k) W (o (last - k)) c a 0 = dV o W last (k + 1) c a then 0 else if cdV (dV o W last k) W (o (last - k)) c a 1 = dV o W last (k + 1) c a then 1 else 2
def xV (o : Nat → Nat) (W last k c a : Nat) : Nat := if dV o W last k c a < 100000 then 4 * dV o W last k c a + stV o W last k c a else 1000000
theorem stV_s (o : Nat → Nat) (W last k c a : Nat) : stV o W last (k + 1) c a = if cdV (dV o W last k) W (o (last - k)) c a 0 = dV o W last (k + 1) c a then 0 else if cdV (dV o W last k) W (o (last - k)) c a 1 = dV o W last (k + 1) c a then 1 else 2 := rfl
theorem dV_s (o : Nat → Nat) (W last k c a : Nat) : dV o W last (k + 1) c a = min (cdV (dV o W last k) W (o (last - k)) c a 0) (min (cdV (dV o W last k) W (o (last - k)) c a 1) (cdV (dV o W last k) W (o (last - k)) c a 2)) := rfl
theorem cdV_b {Dn : Nat → Nat → Nat} {W b c a s B : Nat} (h : ∀ c a, Dn c a = 100000 ∨ Dn c a ≤ B) : cdV Dn W b c a s = 100000 ∨ cdV Dn W b c a s ≤ B + 101 := by
  unfold cdV
  split
  · next z =>
    have := h (c + s - 1) s
    right
    split <;> split <;> omega
  · exact Or.inl rfl
theorem dV_b (o : Nat → Nat) (W last : Nat) : ∀ k c a, dV o W last k c a = 100000 ∨ dV o W last k c a ≤ 101 * k := by
  intro k
  induction k with
  | zero => intro c a; right; exact Nat.le_refl _
  | succ k ih =>
    intro c a
    have h0 := cdV_b (W := W) (b := o (last - k)) (c := c) (a := a) (s := 0) ih
    have h1 := cdV_b (W := W) (b := o (last - k)) (c := c) (a := a) (s := 1) ih
    have h2 := cdV_b (W := W) (b := o (last - k)) (c := c) (a := a) (s := 2) ih
    rw [dV_s]
    omega
theorem stV_3 (o : Nat → Nat) (W last : Nat) : ∀ k c a, stV o W last k c a < 3 := by
  intro k c a
  cases k with
  | zero => exact (by omega : 0 < 3)
  | succ k =>
    rw [stV_s]
    split
    · omega
    · split <;> omega
/-- the first step of the best -/
theorem stV_ok {o : Nat → Nat} {W last k c a : Nat} (h : dV o W last (k + 1) c a < 100000) : ∀ s, s = stV o W last (k + 1) c a → cdV (dV o W last k) W (o (last - k)) c a s = dV o W last (k + 1) c a ∧ (∀ s', s' < s → cdV (dV o W last k) W (o (last - k)) c a s' ≠ dV o W last (k + 1) c a) ∧ 1 ≤ c + s ∧ c + s - 1 < W ∧ bitP (o (last - k)) (c + s - 1) ∧ dV o W last k (c + s - 1) s < 100000 := by
  intro s hs
  have e : cdV (dV o W last k) W (o (last - k)) c a s = dV o W last (k + 1) c a := by
    rw [hs, stV_s]
    by_cases e0 : cdV (dV o W last k) W (o (last - k)) c a 0 = dV o W last (k + 1) c a
    · rw [if_pos e0]; exact e0
    · rw [if_neg e0]
      by_cases e1 : cdV (dV o W last k) W (o (last - k)) c a 1 = dV o W last (k + 1) c a
      · rw [if_pos e1]; exact e1
      · rw [if_neg e1]
        rw [dV_s] at e0 e1 ⊢
        omega
  refine ⟨e, fun s' hs' => ?_, ?_⟩
  · rw [hs, stV_s] at hs'
    by_cases e0 : cdV (dV o W last k) W (o (last - k)) c a 0 = dV o W last (k + 1) c a
    · rw [if_pos e0] at hs'; omega
    · rw [if_neg e0] at hs'
      by_cases e1 : cdV (dV o W last k) W (o (last - k)) c a 1 = dV o W last (k + 1) c a
      · rw [if_pos e1] at hs'
        have : s' = 0 := by omega
        rw [this]; exact e0
      · rw [if_neg e1] at hs'
        have : s' = 0 ∨ s' = 1 := by omega
        rcases this with z | z <;> rw [z] <;> assumption
  · rw [← e] at h
    unfold cdV at h
    split at h
    · next z => exact z
    · omega
def vX (u s : Nat) : Nat := if u < 100000 then 4 * u + s else 1000000
theorem xV_s {o : Nat → Nat} {W last k c a : Nat} (hk : k ≤ 16) : xV o W last (k + 1) c a = min (min (min 1000000 (vX (cdV (dV o W last k) W (o (last - k)) c a 0) 0)) (vX (cdV (dV o W last k) W (o (last - k)) c a 1) 1)) (vX (cdV (dV o W last k) W (o (last - k)) c a 2) 2) := by
  unfold xV vX
  rw [stV_s, dV_s]
  have h0 := cdV_b (W := W) (b := o (last - k)) (c := c) (a := a) (s := 0) (dV_b o W last k)
  have h1 := cdV_b (W := W) (b := o (last - k)) (c := c) (a := a) (s := 1) (dV_b o W last k)
  have h2 := cdV_b (W := W) (b := o (last - k)) (c := c) (a := a) (s := 2) (dV_b o W last k)
  generalize cdV (dV o W last k) W (o (last - k)) c a 0 = u0 at *
  generalize cdV (dV o W last k) W (o (last - k)) c a 1 = u1 at *
  generalize cdV (dV o W last k) W (o (last - k)) c a 2 = u2 at *
  have g0 : u0 = 100000 ∨ u0 < 50000 := by omega
  have g1 : u1 = 100000 ∨ u1 < 50000 := by omega
  have g2 : u2 = 100000 ∨ u2 < 50000 := by omega
  clear h0 h1 h2
  rcases g0 with g0 | g0 <;> rcases g1 with g1 | g1 <;> rcases g2 with g2 | g2 <;> (repeat' split) <;> omega
/-- the way itself -/
def pth (o : Nat → Nat) (W last co cl : Nat) : Nat → Nat × Nat
  | 0 => (cl, 3)
  | j + 1 => ((pth o W last co cl j).1 + stV o W last (last - (co + j)) (pth o W last co cl j).1 (pth o W last co cl j).2 - 1, stV o W last (last - (co + j)) (pth o W last co cl j).1 (pth o W last co cl j).2)
theorem pth_ok {o : Nat → Nat} {W last co cl : Nat} (hcl : cl < W) (hb : bitP (o co) cl) (h : dV o W last (last - co) cl 3 < 100000) : ∀ j, co + j ≤ last → (pth o W last co cl j).1 < W ∧ (pth o W last co cl j).2 < 4 ∧ bitP (o (co + j)) (pth o W last co cl j).1 ∧ dV o W last (last - (co + j)) (pth o W last co cl j).1 (pth o W last co cl j).2 < 100000 := by
  intro j
  induction j with
  | zero => intro _; exact ⟨hcl, by show 3 < 4; omega, hb, h⟩
  | succ j ih =>
    intro hj
    obtain ⟨i1, i2, i3, i4⟩ := ih (by omega)
    obtain ⟨k, hk⟩ : ∃ k, last - (co + j) = k + 1 := ⟨last - (co + j) - 1, by omega⟩
    rw [hk] at i4
    have hs := stV_ok i4 _ rfl
    obtain ⟨-, -, s1, s2, s3, s4⟩ := hs
    have h3 := stV_3 o W last (k + 1) (pth o W last co cl j).1 (pth o W last co cl j).2
    unfold pth
    rw [hk]
    rw [show last - k = co + (j + 1) by omega] at s3
    rw [show last - (co + (j + 1)) = k by omega]
    exact ⟨s2, by omega, s3, s4⟩
