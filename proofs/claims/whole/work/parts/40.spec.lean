/-! ways of three together: what both searches look for. A state: columns by place (0, 1, 2), 0 for one that is not there yet -/
abbrev Prm : Type := (Nat → Nat) × (Nat → Nat) × (Nat → Bool) × (Nat → Nat → Nat) × (Nat → Nat) × Nat × Nat
abbrev Prm.fs (p : Prm) : Nat → Nat := p.1
abbrev Prm.st (p : Prm) : Nat → Nat := p.2.1
abbrev Prm.fx (p : Prm) : Nat → Bool := p.2.2.1
abbrev Prm.gv (p : Prm) : Nat → Nat → Nat := p.2.2.2.1
abbrev Prm.op (p : Prm) : Nat → Nat := p.2.2.2.2.1
abbrev Prm.gp (p : Prm) : Nat := p.2.2.2.2.2.1
abbrev Prm.la (p : Prm) : Nat := p.2.2.2.2.2.2
def onlyC (p : Prm) (r h : Nat) : Nat := if r < p.fs h then 0 else if p.fx h = true then p.gv h r else p.st h
def loE (p : Prm) (r h a : Nat) : Nat := if p.fx h = true ∨ r ≤ p.fs h then onlyC p r h + 1 else a
def hiE (p : Prm) (r h a : Nat) : Nat := if p.fx h = true ∨ r ≤ p.fs h then onlyC p r h + 1 else a + 2
def standP (p : Prm) (r h c : Nat) : Prop := r < p.fs h ∨ (c < 10 ∧ bitP (p.op r) c)
def oneOK (p : Prm) (r h : Nat) (s t : Nat → Nat) : Prop := loE p r h (s h) ≤ t h + 1 ∧ t h + 1 ≤ hiE p r h (s h) ∧ standP p r h (t h)
def twoOK (p : Prm) (r i j : Nat) (s t : Nat → Nat) : Prop := p.fs i ≤ r → p.fs j ≤ r → ((t j + p.gp < t i ∨ t i + p.gp < t j) ∧ (p.fs i < r → p.fs j < r → (s i < s j ↔ t i < t j)))
def nxt (p : Prm) (r : Nat) (s t : Nat → Nat) : Prop := (∀ h, h < 3 → oneOK p r h s t) ∧ twoOK p r 0 1 s t ∧ twoOK p r 0 2 s t ∧ twoOK p r 1 2 s t
def lnH (p : Prm) (r h : Nat) (s t : Nat → Nat) : Nat := if p.fs h < r ∧ t h ≠ s h then 1 else 0
def lnP (p : Prm) (r : Nat) (s t : Nat → Nat) : Nat := lnH p r 0 s t + lnH p r 1 s t + lnH p r 2 s t
def mnS (p : Prm) (s : Nat → Nat) : Nat → Nat
  | 0 => 10
  | n + 1 => if p.fs n ≤ p.la then min (mnS p s n) (s n) else mnS p s n
def mxS (p : Prm) (s : Nat → Nat) : Nat → Nat
  | 0 => 0
  | n + 1 => if p.fs n ≤ p.la then max (mxS p s n) (s n + 1) else mxS p s n
def brP (p : Prm) (s : Nat → Nat) : Nat := max 1 (mxS p s 3 - mnS p s 3)
/-- k courses are still to come: it can end so broad with so many leans -/
def Can (p : Prm) : Nat → (Nat → Nat) → Nat → Nat → Prop
  | 0, s, b, l => b = brP p s ∧ l = 0
  | k + 1, s, b, l => ∃ t, nxt p (p.la - k) s t ∧ ∃ l', Can p k t b l' ∧ l = l' + lnP p (p.la - k) s t
def cod3 (t : Nat → Nat) : Nat := 100 * t 0 + 10 * t 1 + t 2
def dec (c : Nat) : Nat → Nat := fun h => if h = 0 then c / 100 else if h = 1 then c / 10 % 10 else c % 10
theorem dec_lt {c h : Nat} (hc : c < 1000) : dec c h < 10 := by
  unfold dec
  split
  · omega
  · split <;> omega
theorem dec_code {t : Nat → Nat} (h : ∀ h, h < 3 → t h < 10) {i : Nat} (hi : i < 3) : dec (cod3 t) i = t i := by
  have h0 := h 0 (by omega)
  have h1 := h 1 (by omega)
  have h2 := h 2 (by omega)
  unfold dec cod3
  have : i = 0 ∨ i = 1 ∨ i = 2 := by omega
  rcases this with rfl | rfl | rfl
  · rw [if_pos rfl]; omega
  · rw [if_neg (by omega), if_pos rfl]; omega
  · rw [if_neg (by omega), if_neg (by omega)]; omega
theorem code_lt {t : Nat → Nat} (h : ∀ h, h < 3 → t h < 10) : cod3 t < 1000 := by
  have h0 := h 0 (by omega)
  have h1 := h 1 (by omega)
  have h2 := h 2 (by omega)
  unfold cod3
  omega
theorem code_dec {c : Nat} (hc : c < 1000) : cod3 (dec c) = c := by
  unfold cod3 dec
  rw [if_pos rfl, if_neg (by omega), if_pos rfl, if_neg (by omega), if_neg (by omega)]
  omega
def Eq3 (s t : Nat → Nat) : Prop := ∀ h, h < 3 → s h = t h
theorem one_lt {p : Prm} {r h : Nat} {s t : Nat → Nat} (H : oneOK p r h s t) : t h < 10 := by
  obtain ⟨h1, h2, h3⟩ := H
  rcases h3 with h3 | h3
  · unfold hiE onlyC at h2
    rw [if_pos (Or.inr (by omega)), if_pos h3] at h2
    omega
  · exact h3.1
theorem nxt_lt {p : Prm} {r : Nat} {s t : Nat → Nat} (H : nxt p r s t) : ∀ h, h < 3 → t h < 10 := fun h hh => one_lt (H.1 h hh)
theorem one_ext {p : Prm} {r h : Nat} {s s' t t' : Nat → Nat} (e : s h = s' h) (e2 : t h = t' h) (H : oneOK p r h s t) : oneOK p r h s' t' := by
  unfold oneOK at H ⊢
  rw [← e, ← e2]
  exact H
theorem two_ext {p : Prm} {r i j : Nat} {s s' t t' : Nat → Nat} (e : Eq3 s s') (e2 : Eq3 t t') (hi : i < 3) (hj : j < 3) (H : twoOK p r i j s t) : twoOK p r i j s' t' := by
  unfold twoOK at H ⊢
  rw [← e i hi, ← e j hj, ← e2 i hi, ← e2 j hj]
  exact H
theorem nxt_ext {p : Prm} {r : Nat} {s s' t t' : Nat → Nat} (e : Eq3 s s') (e2 : Eq3 t t') (H : nxt p r s t) : nxt p r s' t' :=
  ⟨fun h hh => one_ext (e h hh) (e2 h hh) (H.1 h hh), two_ext e e2 (by omega) (by omega) H.2.1, two_ext e e2 (by omega) (by omega) H.2.2.1, two_ext e e2 (by omega) (by omega) H.2.2.2⟩
theorem ln_ext {p : Prm} {r : Nat} {s s' t t' : Nat → Nat} (e : Eq3 s s') (e2 : Eq3 t t') : lnP p r s t = lnP p r s' t' := by
  unfold lnP lnH
  rw [e 0 (by omega), e 1 (by omega), e 2 (by omega), e2 0 (by omega), e2 1 (by omega), e2 2 (by omega)]
theorem br_ext {p : Prm} {s s' : Nat → Nat} (e : Eq3 s s') : brP p s = brP p s' := by
  unfold brP mxS mxS mxS mxS mnS mnS mnS mnS
  rw [e 0 (by omega), e 1 (by omega), e 2 (by omega)]
theorem code_ext {s s' : Nat → Nat} (e : Eq3 s s') : cod3 s = cod3 s' := by
  unfold cod3
  rw [e 0 (by omega), e 1 (by omega), e 2 (by omega)]
theorem Eq3.rf {s : Nat → Nat} : Eq3 s s := fun _ _ => rfl
theorem Eq3.sy {s t : Nat → Nat} (h : Eq3 s t) : Eq3 t s := fun i hi => (h i hi).symm
theorem Can_ext {p : Prm} {k : Nat} {s s' : Nat → Nat} {b l : Nat} (e : Eq3 s s') (H : Can p k s b l) : Can p k s' b l := by
  cases k with
  | zero => exact ⟨H.1.trans (br_ext e), H.2⟩
  | succ k =>
    obtain ⟨t, h1, l', h2, h3⟩ := H
    exact ⟨t, nxt_ext e Eq3.rf h1, l', h2, h3.trans (by rw [ln_ext e Eq3.rf])⟩
theorem ln_3 (p : Prm) (r : Nat) (s t : Nat → Nat) : lnP p r s t ≤ 3 := by
  unfold lnP lnH
  split <;> split <;> split <;> omega
theorem mx_le {p : Prm} {s : Nat → Nat} (h : ∀ h, h < 3 → s h < 10) : mxS p s 3 ≤ 10 := by
  have h0 := h 0 (by omega)
  have h1 := h 1 (by omega)
  have h2 := h 2 (by omega)
  unfold mxS mxS mxS mxS
  split <;> split <;> split <;> omega
theorem Can_b {p : Prm} : ∀ {k : Nat} {s : Nat → Nat} {b l : Nat}, (∀ h, h < 3 → s h < 10) → Can p k s b l → 1 ≤ b ∧ b ≤ 10 ∧ l ≤ 3 * k := by
  intro k
  induction k with
  | zero =>
    intro s b l hs H
    obtain ⟨e1, e2⟩ := H
    have := mx_le (p := p) hs
    unfold brP at e1
    omega
  | succ k ih =>
    intro s b l hs H
    obtain ⟨t, h1, l', h2, h3⟩ := H
    have := ih (nxt_lt h1) h2
    have := ln_3 p (p.la - k) s t
    omega
def FAR : Nat := 1000000000
def cV (p : Prm) (r : Nat) (s t : Nat → Nat) (b l : Nat) : Nat := (100 * b + l + lnP p r s t) * 1000 + cod3 t
/-- what the class's search knows of a state: the best rest, or (a: the first ways will do) one of those that there are -/
def XV (a : Bool) (p : Prm) : Nat → (Nat → Nat) → Nat → Prop
  | 0, s, v => v = brP p s * 100 * 1000
  | k + 1, s, v => (v = FAR ∧ ∀ t b l, nxt p (p.la - k) s t → ¬ Can p k t b l) ∨ (∃ t b l, nxt p (p.la - k) s t ∧ Can p k t b l ∧ v = cV p (p.la - k) s t b l ∧ (a = false → ∀ t' b' l', nxt p (p.la - k) s t' → Can p k t' b' l' → v ≤ cV p (p.la - k) s t' b' l'))
section XS
variable {a : Bool} {p : Prm}
theorem XV_ext {k : Nat} {s s' : Nat → Nat} {v : Nat} (e : Eq3 s s') (H : XV a p k s v) : XV a p k s' v := by
  cases k with
  | zero => exact H.trans (by rw [br_ext e])
  | succ k =>
    rcases H with ⟨h1, h2⟩ | ⟨t, b, l, h1, h2, h3, h4⟩
    · exact Or.inl ⟨h1, fun t b l hn => h2 t b l (nxt_ext e.sy Eq3.rf hn)⟩
    · refine Or.inr ⟨t, b, l, nxt_ext e Eq3.rf h1, h2, ?_, fun ha t' b' l' hn hc => ?_⟩
      · rw [h3]; unfold cV; rw [ln_ext e Eq3.rf]
      · have := h4 ha t' b' l' (nxt_ext e.sy Eq3.rf hn) hc
        unfold cV at this ⊢
        rw [ln_ext e.sy Eq3.rf]
        exact this
/-- what it finds for one next state -/
def CV (a : Bool) (p : Prm) (k r : Nat) (s t : Nat → Nat) (v : Nat) : Prop := (v = FAR ∧ ∀ b l, ¬ Can p k t b l) ∨ ∃ b l, Can p k t b l ∧ v = cV p r s t b l ∧ (a = false → ∀ b' l', Can p k t b' l' → 100 * b + l ≤ 100 * b' + l')
theorem XV_b {k : Nat} {s : Nat → Nat} {v : Nat} (hk : k ≤ 16) (hs : ∀ h, h < 3 → s h < 10) (H : XV a p k s v) : 0 < v ∧ v ≤ FAR := by
  cases k with
  | zero =>
    have := mx_le (p := p) hs
    have e : v = brP p s * 100 * 1000 := H
    unfold brP at e
    unfold FAR
    omega
  | succ k =>
    rcases H with ⟨h1, h2⟩ | ⟨t, b, l, h1, h2, h3, h4⟩
    · unfold FAR at h1 ⊢; omega
    · have := Can_b (nxt_lt h1) h2
      have := ln_3 p (p.la - k) s t
      have := code_lt (nxt_lt h1)
      unfold cV at h3
      unfold FAR
      omega
/-- the cost alone -/
theorem XV_c {k : Nat} {s : Nat → Nat} {v : Nat} (hs : ∀ h, h < 3 → s h < 10) (hk : k ≤ 16) (H : XV a p k s v) : (v = FAR ∧ ∀ b l, ¬ Can p k s b l) ∨ (v < FAR ∧ ∃ b l, Can p k s b l ∧ v / 1000 = 100 * b + l ∧ (a = false → ∀ b' l', Can p k s b' l' → 100 * b + l ≤ 100 * b' + l')) := by
  cases k with
  | zero =>
    have := mx_le (p := p) hs
    have e : v = brP p s * 100 * 1000 := H
    refine Or.inr ⟨by unfold brP at e; unfold FAR; omega, brP p s, 0, ⟨rfl, rfl⟩, by omega, fun _ b' l' hc => ?_⟩
    have : b' = brP p s := hc.1
    omega
  | succ k =>
    rcases H with ⟨h1, h2⟩ | ⟨t, b, l, h1, h2, h3, h4⟩
    · refine Or.inl ⟨h1, fun b l hc => ?_⟩
      obtain ⟨t, a1, l', a2, a3⟩ := hc
      exact h2 t b l' a1 a2
    · have cb := Can_b (nxt_lt h1) h2
      have l3 := ln_3 p (p.la - k) s t
      have cl := code_lt (nxt_lt h1)
      refine Or.inr ⟨by unfold cV at h3; unfold FAR; omega, b, l + lnP p (p.la - k) s t, ⟨t, h1, l, h2, rfl⟩, ?_, fun ha b' l' hc => ?_⟩
      · unfold cV at h3; omega
      · obtain ⟨t', a1, l2, a2, a3⟩ := hc
        have := h4 ha t' b' l2 a1 a2
        have cl' := code_lt (nxt_lt a1)
        rw [h3] at this
        unfold cV at this
        omega
theorem CV_of {k r : Nat} {s t : Nat → Nat} {w : Nat} (ht : ∀ h, h < 3 → t h < 10) (hk : k ≤ 16) (H : XV a p k t w) : CV a p k r s t (if w < FAR then (w / 1000 + lnP p r s t) * 1000 + cod3 t else FAR) := by
  rcases XV_c ht hk H with ⟨h1, h2⟩ | ⟨h0, b, l, h1, h2, h3⟩
  · rw [if_neg (by omega)]
    exact Or.inl ⟨rfl, h2⟩
  · rw [if_pos h0, h2]
    exact Or.inr ⟨b, l, h1, rfl, h3⟩
theorem cV_F {k r : Nat} {s t : Nat → Nat} {b l : Nat} (hk : k ≤ 16) (hn : ∀ h, h < 3 → t h < 10) (hc : Can p k t b l) : cV p r s t b l < FAR := by
  have := Can_b hn hc
  have := ln_3 p r s t
  have := code_lt hn
  unfold cV FAR
  omega
/-- the least (or one) of those looked at so far -/
def Lst (a : Bool) (p : Prm) (k r : Nat) (s : Nat → Nat) (P : (Nat → Nat) → Prop) (v : Nat) : Prop := v ≤ FAR ∧ (∀ t b l, nxt p r s t → P t → Can p k t b l → v < FAR ∧ (a = false → v ≤ cV p r s t b l)) ∧ (v = FAR ∨ ∃ t b l, nxt p r s t ∧ P t ∧ Can p k t b l ∧ v = cV p r s t b l)
theorem Lst.i {k r : Nat} {s : Nat → Nat} {P P' : (Nat → Nat) → Prop} {v : Nat} (H : Lst a p k r s P v) (e : ∀ t, nxt p r s t → (P t ↔ P' t)) : Lst a p k r s P' v := by
  obtain ⟨h0, h1, h2⟩ := H
  refine ⟨h0, fun t b l a1 a2 a3 => h1 t b l a1 ((e t a1).mpr a2) a3, ?_⟩
  rcases h2 with h2 | ⟨t, b, l, a1, a2, a3, a4⟩
  · exact Or.inl h2
  · exact Or.inr ⟨t, b, l, a1, (e t a1).mp a2, a3, a4⟩
theorem Lst.nil {k r : Nat} {s : Nat → Nat} {P : (Nat → Nat) → Prop} (e : ∀ t, nxt p r s t → ¬ P t) : Lst a p k r s P FAR :=
  ⟨Nat.le_refl _, fun t b l a1 a2 => absurd a2 (e t a1), Or.inl rfl⟩
/-- one more is looked at -/
theorem Lst.step {k r : Nat} {s t : Nat → Nat} {P P' : (Nat → Nat) → Prop} {v w : Nat} (hk : k ≤ 16) (H : Lst a p k r s P v) (hn : nxt p r s t) (hc : CV a p k r s t w) (e : ∀ t', nxt p r s t' → (P' t' ↔ (P t' ∨ Eq3 t t'))) : Lst a p k r s P' (if w < v then w else v) := by
  obtain ⟨h0, h1, h2⟩ := H
  have ce : ∀ t' b l, Eq3 t t' → cV p r s t' b l = cV p r s t b l := fun t' b l e3 => by unfold cV; rw [ln_ext Eq3.rf e3.sy, code_ext e3.sy]
  have wF : w ≤ FAR := by
    rcases hc with ⟨h, _⟩ | ⟨b, l, a1, a2, a3⟩
    · omega
    · have := cV_F (r := r) (s := s) hk (nxt_lt hn) a1
      omega
  have wl : ∀ t' b l, Eq3 t t' → Can p k t' b l → w < FAR ∧ (a = false → w ≤ cV p r s t' b l) := by
    intro t' b l e3 h3
    have h3 := Can_ext e3.sy h3
    rcases hc with ⟨h, h4⟩ | ⟨b', l', a1, a2, a3⟩
    · exact absurd h3 (h4 b l)
    · have := cV_F (r := r) (s := s) hk (nxt_lt hn) a1
      refine ⟨by omega, fun ha => ?_⟩
      have := a3 ha b l h3
      rw [ce t' b l e3, a2]
      unfold cV
      omega
  refine ⟨by split <;> omega, fun t' b l a1 a2 a3 => ?_, ?_⟩
  · rcases (e t' a1).mp a2 with a2 | a2
    · have h := h1 t' b l a1 a2 a3
      refine ⟨by split <;> omega, fun ha => ?_⟩
      have := h.2 ha
      split <;> omega
    · have h := wl t' b l a2 a3
      refine ⟨by split <;> omega, fun ha => ?_⟩
      have := h.2 ha
      split <;> omega
  · by_cases c : w < v
    · rw [if_pos c]
      rcases hc with ⟨h, h4⟩ | ⟨b', l', a1, a2, a3⟩
      · exact Or.inl h
      · exact Or.inr ⟨t, b', l', hn, (e t hn).mpr (Or.inr Eq3.rf), a1, a2⟩
    · rw [if_neg c]
      rcases h2 with h2 | ⟨t2, b, l, a1, a2, a3, a4⟩
      · exact Or.inl h2
      · exact Or.inr ⟨t2, b, l, a1, (e t2 a1).mpr (Or.inl a2), a3, a4⟩
theorem Lst.fin {k : Nat} {s : Nat → Nat} {P : (Nat → Nat) → Prop} {v : Nat} (H : Lst a p k (p.la - k) s P v) (e : ∀ t, nxt p (p.la - k) s t → P t) : XV a p (k + 1) s v := by
  obtain ⟨h0, h1, h2⟩ := H
  rcases h2 with h2 | ⟨t, b, l, a1, a2, a3, a4⟩
  · refine Or.inl ⟨h2, fun t b l hn hc => ?_⟩
    have := (h1 t b l hn (e t hn) hc).1
    omega
  · exact Or.inr ⟨t, b, l, a1, a3, a4, fun ha t' b' l' hn hc => (h1 t' b' l' hn (e t' hn) hc).2 ha⟩
/-- the first that is found, where the first will do -/
theorem Lst.any {k : Nat} {s : Nat → Nat} {P : (Nat → Nat) → Prop} {v : Nat} (H : Lst true p k (p.la - k) s P v) (hv : v < FAR) : XV true p (k + 1) s v := by
  rcases H.2.2 with h2 | ⟨t, b, l, a1, a2, a3, a4⟩
  · omega
  · exact Or.inr ⟨t, b, l, a1, a3, a4, fun ha => absurd ha (by decide)⟩
end XS
