/-! the reference's tables -/
def p10 (m : Nat) : Nat := if m = 0 then 1 else if m = 1 then 10 else if m = 2 then 100 else 1000
theorem p10_le (m : Nat) : p10 m ≤ 1000 := by
  unfold p10
  split
  · omega
  · split
    · omega
    · split <;> omega
theorem mdec_0 {m c i : Nat} (hc : c < p10 m) (hi : m ≤ i) (hi3 : i < 3) : mdec c i = 0 := by
  unfold p10 at hc
  unfold mdec
  have : i = 0 ∨ i = 1 ∨ i = 2 := by omega
  rcases this with rfl | rfl | rfl
  · have : m = 0 := by omega
    rw [if_pos this] at hc
    rw [if_pos rfl]; omega
  · have : m = 0 ∨ m = 1 := by omega
    rcases this with rfl | rfl
    · rw [if_pos rfl] at hc
      rw [if_neg (by omega), if_pos rfl]; omega
    · rw [if_neg (by omega), if_pos rfl] at hc
      rw [if_neg (by omega), if_pos rfl]; omega
  · have : m = 0 ∨ m = 1 ∨ m = 2 := by omega
    rcases this with rfl | rfl | rfl
    · rw [if_pos rfl] at hc
      rw [if_neg (by omega), if_neg (by omega)]; omega
    · rw [if_neg (by omega), if_pos rfl] at hc
      rw [if_neg (by omega), if_neg (by omega)]; omega
    · rw [if_neg (by omega), if_neg (by omega), if_pos rfl] at hc
      rw [if_neg (by omega), if_neg (by omega)]; omega
theorem mcod_lt {m : Nat} {t : Nat → Nat} (ht : ∀ i, i < 3 → t i < 10) (h0 : ∀ i, m ≤ i → i < 3 → t i = 0) : mcod t < p10 m := by
  have a0 := ht 0 (by omega)
  have a1 := ht 1 (by omega)
  have a2 := ht 2 (by omega)
  unfold p10 mcod
  split
  · have := h0 0 (by omega) (by omega)
    have := h0 1 (by omega) (by omega)
    have := h0 2 (by omega) (by omega)
    omega
  · split
    · have := h0 1 (by omega) (by omega)
      have := h0 2 (by omega) (by omega)
      omega
    · split
      · have := h0 2 (by omega) (by omega)
        omega
      · omega
def MV (q : Prm) (b k r : Nat) (s : Nat → Nat) (v : Nat) : Prop := (v = 100000 ∧ ¬ (spotM q 3 r s ∧ ∃ l, Can q k s b l)) ∨ (v < 100000 ∧ spotM q 3 r s ∧ Can q k s b v ∧ ∀ l, Can q k s b l → v ≤ l)
/-- what is told of places that keep a plan's way -/
def Kfx (q : Prm) : Prop := ∀ i, i < 3 → q.fx i = true → q.gv i (q.fs i) = q.st i ∧ ∀ r, q.fs i < r → r ≤ q.la → q.gv i r ≤ q.gv i (r - 1) + 1 ∧ q.gv i (r - 1) ≤ q.gv i r + 1
theorem sp1_ext {q : Prm} {r i : Nat} {s t : Nat → Nat} (e : s i = t i) : spot1 q r i (s i) ↔ spot1 q r i (t i) := by rw [e]
theorem spotM_ext {q : Prm} {r : Nat} {s t : Nat → Nat} (e : Eq3 s t) (H : spotM q 3 r s) : spotM q 3 r t := by
  intro i hi
  obtain ⟨h1, h2⟩ := H i hi
  refine ⟨by rw [← e i hi]; exact h1, fun j hj a b => ?_⟩
  have := h2 j hj a b
  rw [e i hi, e j (by omega)] at this
  exact this
theorem MV_ext {q : Prm} {b k r v : Nat} {s t : Nat → Nat} (e : Eq3 s t) (H : MV q b k r s v) : MV q b k r t v := by
  rcases H with ⟨h1, h2⟩ | ⟨h1, h2, h3, h4⟩
  · exact Or.inl ⟨h1, fun ⟨z1, l, z2⟩ => h2 ⟨spotM_ext e.sy z1, l, Can_ext e.sy z2⟩⟩
  · exact Or.inr ⟨h1, spotM_ext e h2, Can_ext e h3, fun l hl => h4 l (Can_ext e.sy hl)⟩
theorem nxt_iff {q : Prm} {r : Nat} {s t : Nat → Nat} (hk : Kfx q) (hr : r + 1 ≤ q.la) (hs : spotM q 3 r s) : nxt q (r + 1) s t ↔ (spotM q 3 (r + 1) t ∧ good q 3 r s t) := by
  constructor
  · rintro ⟨h1, h01, h02, h12⟩
    have two : ∀ i, i < 3 → ∀ j, j < i → twoOK q (r + 1) j i s t := by
      intro i hi j hj
      have : (i = 1 ∧ j = 0) ∨ (i = 2 ∧ j = 0) ∨ (i = 2 ∧ j = 1) := by omega
      rcases this with ⟨rfl, rfl⟩ | ⟨rfl, rfl⟩ | ⟨rfl, rfl⟩
      · exact h01
      · exact h02
      · exact h12
    refine ⟨fun i hi => ⟨?_, fun j hj a b => ?_⟩, fun i hi hf => ⟨?_, fun j hj hg => ?_⟩⟩
    · obtain ⟨o1, o2, o3⟩ := h1 i hi
      unfold loE at o1
      unfold hiE at o2
      unfold onlyC at o1 o2
      by_cases c : r + 1 < q.fs i
      · rw [if_pos (Or.inr (by omega)), if_pos c] at o2
        exact Or.inl ⟨c, by omega⟩
      · rcases o3 with o3 | o3
        · exact absurd o3 c
        · refine Or.inr ⟨by omega, o3.1, o3.2, ?_, fun f => ?_⟩
          · by_cases d : q.fs i < r + 1
            · exact Or.inl d
            · right
              by_cases f : q.fx i = true
              · rw [if_pos (Or.inl f), if_neg c, if_pos f] at o1 o2
                have := (hk i hi f).1
                rw [show q.fs i = r + 1 by omega] at this
                omega
              · rw [if_pos (Or.inr (by omega)), if_neg c, if_neg f] at o1 o2
                omega
          · rw [if_pos (Or.inl f), if_neg c, if_pos f] at o1 o2
            omega
    · have := (two i hi j hj b a).1
      omega
    · obtain ⟨o1, o2, o3⟩ := h1 i hi
      unfold loE at o1
      unfold hiE at o2
      unfold onlyC at o1 o2
      by_cases f : q.fx i = true
      · rw [if_pos (Or.inl f), if_neg (by omega), if_pos f] at o1 o2
        have k2 := (hk i hi f).2 (r + 1) (by omega) hr
        rw [Nat.add_sub_cancel] at k2
        rcases (hs i hi).1 with z | z
        · omega
        · have := z.2.2.2.2 f
          omega
      · have nf : ¬ (q.fx i = true ∨ r + 1 ≤ q.fs i) := fun z => z.elim f (by omega)
        rw [if_neg nf] at o1 o2
        omega
    · have a1 := two i hi j hj (by omega) (by omega)
      have a2 := (hs i hi).2 j hj hf hg
      have a3 := a1.2 (by omega) (by omega)
      have a4 := a1.1
      omega
  · rintro ⟨h1, h2⟩
    have two : ∀ i, i < 3 → ∀ j, j < i → twoOK q (r + 1) j i s t := by
      intro i hi j hj a b
      have c := (h1 i hi).2 j hj b a
      refine ⟨by omega, fun d e => ?_⟩
      have f := (h2 i hi (by omega)).2 j hj (by omega)
      have a2 := (hs i hi).2 j hj (by omega) (by omega)
      omega
    refine ⟨fun i hi => ?_, two 1 (by omega) 0 (by omega), two 2 (by omega) 0 (by omega), two 2 (by omega) 1 (by omega)⟩
    unfold oneOK loE hiE onlyC standP
    rcases (h1 i hi).1 with z | ⟨z1, z2, z3, z4, z5⟩
    · rw [if_pos (Or.inr (by omega)), if_pos z.1, if_pos (Or.inr (by omega))]
      exact ⟨by omega, by omega, Or.inl z.1⟩
    · by_cases f : q.fx i = true
      · rw [if_pos (Or.inl f), if_neg (by omega), if_pos f, if_pos (Or.inl f)]
        have := z5 f
        exact ⟨by omega, by omega, Or.inr ⟨z2, z3⟩⟩
      · by_cases d : r + 1 ≤ q.fs i
        · rw [if_pos (Or.inr d), if_neg (by omega), if_neg f, if_pos (Or.inr d)]
          have : t i = q.st i := by
            rcases z4 with z4 | z4
            · omega
            · exact z4
          exact ⟨by omega, by omega, Or.inr ⟨z2, z3⟩⟩
        · have nf : ¬ (q.fx i = true ∨ r + 1 ≤ q.fs i) := fun z => z.elim f d
          rw [if_neg nf, if_neg nf]
          have := (h2 i hi (by omega)).1
          exact ⟨by omega, by omega, Or.inr ⟨z2, z3⟩⟩
def fO (q : Prm) (m r : Nat) (s : Nat → Nat) (i : Nat) : Nat := if m ≤ i ∨ r + 1 < q.fs i then 0 else if r + 1 = q.fs i then q.st i else s i - 1
def lO (q : Prm) (m r : Nat) (s : Nat → Nat) (i : Nat) : Nat := if m ≤ i ∨ r + 1 < q.fs i then 0 else if r + 1 = q.fs i then q.st i else min 9 (s i + 1)
/-- the least over those looked at, and the first that does it -/
def LsM (q : Prm) (b k r : Nat) (s : Nat → Nat) (P : (Nat → Nat) → Prop) (v : Nat) (be : Int32) : Prop := v ≤ 100000 ∧ (∀ t l, nxt q (r + 1) s t → P t → Can q k t b l → v ≤ l + lnP q (r + 1) s t) ∧ ((v = 100000 ∧ be = -9) ∨ ∃ t l, nxt q (r + 1) s t ∧ P t ∧ Can q k t b l ∧ v = l + lnP q (r + 1) s t ∧ be = nI (mcod t) ∧ ∀ t' l', nxt q (r + 1) s t' → P t' → Can q k t' b l' → v = l' + lnP q (r + 1) s t' → cod3 t ≤ cod3 t')
theorem LsM.i {q : Prm} {b k r : Nat} {s : Nat → Nat} {P P' : (Nat → Nat) → Prop} {v : Nat} {be : Int32} (H : LsM q b k r s P v be) (e : ∀ t, nxt q (r + 1) s t → (P t ↔ P' t)) : LsM q b k r s P' v be := by
  obtain ⟨h0, h1, h2⟩ := H
  refine ⟨h0, fun t l a1 a2 a3 => h1 t l a1 ((e t a1).mpr a2) a3, ?_⟩
  rcases h2 with h2 | ⟨t, l, a1, a2, a3, a4, a5, a6⟩
  · exact Or.inl h2
  · exact Or.inr ⟨t, l, a1, (e t a1).mp a2, a3, a4, a5, fun t' l' c1 c2 c3 c4 => a6 t' l' c1 ((e t' c1).mpr c2) c3 c4⟩
/-- one more, which comes after all before -/
theorem LsM.step {q : Prm} {b k r : Nat} {s t : Nat → Nat} {P P' : (Nat → Nat) → Prop} {v w : Nat} {be : Int32} (hk : k ≤ 16) (ht : ∀ i, i < 3 → t i < 10) (H : LsM q b k r s P v be)
    (hw : (100000 ≤ w ∧ ∀ l, ¬ (nxt q (r + 1) s t ∧ Can q k t b l)) ∨ (nxt q (r + 1) s t ∧ ∃ l, Can q k t b l ∧ w = l + lnP q (r + 1) s t ∧ ∀ l', Can q k t b l' → l ≤ l'))
    (e : ∀ t', nxt q (r + 1) s t' → (P' t' ↔ (P t' ∨ Eq3 t t'))) (hb : ∀ t', P t' → (∀ i, i < 3 → t' i < 10) → cod3 t' ≤ cod3 t) : LsM q b k r s P' (if w < v then w else v) (if w < v then nI (mcod t) else be) := by
  obtain ⟨h0, h1, h2⟩ := H
  have le : ∀ t', Eq3 t t' → lnP q (r + 1) s t' = lnP q (r + 1) s t := fun t' e3 => ln_ext Eq3.rf e3.sy
  refine ⟨by split <;> omega, fun t' l a1 a2 a3 => ?_, ?_⟩
  · rcases (e t' a1).mp a2 with a2 | a2
    · have := h1 t' l a1 a2 a3
      split <;> omega
    · have a1' := nxt_ext Eq3.rf a2.sy a1
      have a3' := Can_ext a2.sy a3
      rw [le t' a2]
      rcases hw with ⟨_, z⟩ | ⟨_, l2, z1, z2, z3⟩
      · exact absurd ⟨a1', a3'⟩ (z l)
      · have := z3 l a3'
        split <;> omega
  · by_cases c : w < v
    · rw [if_pos c, if_pos c]
      rcases hw with ⟨z, _⟩ | ⟨z0, l2, z1, z2, z3⟩
      · omega
      · refine Or.inr ⟨t, l2, z0, (e t z0).mpr (Or.inr Eq3.rf), z1, z2, rfl, fun t' l' c1 c2 c3 c4 => ?_⟩
        rcases (e t' c1).mp c2 with c2 | c2
        · have := h1 t' l' c1 c2 c3
          omega
        · rw [code_ext c2]
          exact Nat.le_refl _
    · rw [if_neg c, if_neg c]
      rcases h2 with h2 | ⟨t2, l, a1, a2, a3, a4, a5, a6⟩
      · exact Or.inl h2
      · refine Or.inr ⟨t2, l, a1, (e t2 a1).mpr (Or.inl a2), a3, a4, a5, fun t' l' c1 c2 c3 c4 => ?_⟩
        rcases (e t' c1).mp c2 with c2 | c2
        · exact a6 t' l' c1 c2 c3 c4
        · rw [← code_ext c2]
          exact hb t2 a2 (nxt_lt a1)
