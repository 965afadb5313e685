/-! the class's search: for each hearth and course the bits of the columns in which it may be -/
/-- the columns of a hearth in a course -/
def oneC (p : Prm) (r h c : Nat) : Prop := (r < p.fs h ∧ c = 0) ∨ (p.fs h ≤ r ∧ bitP (p.op r) c ∧ (r = p.fs h → c = p.st h) ∧ (p.fx h = true → c = p.gv h r))
def Mk (τ : St) (h r : Nat) (C : Nat → Prop) : Prop := ∃ m, τ.1 (71 + h) r = nI m ∧ m < 1024 ∧ ∀ c, c < 10 → (bitP m c ↔ C c)
/-- a fixed hearth's way begins at its own column and goes step by step -/
def FxOK (p : Prm) (h : Nat) : Prop := (p.fs h ≤ p.la → p.st h < 10) ∧ (p.fx h = true → ∀ r, p.fs h ≤ r → r ≤ p.la → p.gv h r < 10 ∧ (r = p.fs h → p.gv h r = p.st h) ∧ (p.fs h < r → p.gv h r ≤ p.gv h (r - 1) + 1 ∧ p.gv h (r - 1) ≤ p.gv h r + 1))
def SP (p : Prm) (τ : St) : Prop := p.la ≤ 15 ∧ p.gp ≤ 3 ∧ τ.1 49 4 = nI p.la ∧ τ.1 49 5 = nI p.gp ∧ ∀ h, h < 3 → τ.1 68 h = nI (p.fs h) ∧ p.fs h ≤ 16 ∧ FxOK p h ∧ ∀ r, r ≤ p.la → Mk τ h r (oneC p r h)
/-- what is known: k courses are still to come -/
def Tab (a : Bool) (p : Prm) (τ : St) : Prop := ∀ k, k ≤ p.la + 1 → ∀ c, c < 1000 → τ.1 (51 + (p.la + 1 - k)) c = 0 ∨ ∃ v, τ.1 (51 + (p.la + 1 - k)) c = nI v ∧ XV a p k (dec c) v
def TF (a : Bool) (p : Prm) (τ : St) : Prop := τ.1 49 6 = (if a = true then 1 else 0) ∧ Tab a p τ
/-- the search writes what it knows, and whether any ways will do -/
def Fr (τ υ : St) : Prop := (∀ k i, ¬ ((51 ≤ k ∧ k ≤ 67) ∨ (k = 49 ∧ i = 6)) → υ.1 k i = τ.1 k i) ∧ υ.2 = τ.2
theorem Fr.rf {τ : St} : Fr τ τ := ⟨fun _ _ _ => rfl, rfl⟩
theorem Fr.tr {τ υ φ : St} (a : Fr τ υ) (b : Fr υ φ) : Fr τ φ := ⟨fun k i n => (b.1 k i n).trans (a.1 k i n), b.2.trans a.2⟩
theorem Mk.of {τ υ : St} {h r : Nat} {C : Nat → Prop} (H : Mk τ h r C) (f : υ.1 (71 + h) r = τ.1 (71 + h) r) : Mk υ h r C := by
  obtain ⟨m, h1, h2, h3⟩ := H
  exact ⟨m, f.trans h1, h2, h3⟩
theorem Mk.i {τ : St} {h r : Nat} {C D : Nat → Prop} (H : Mk τ h r C) (e : ∀ c, c < 10 → (C c ↔ D c)) : Mk τ h r D := by
  obtain ⟨m, h1, h2, h3⟩ := H
  exact ⟨m, h1, h2, fun c hc => (h3 c hc).trans (e c hc)⟩
theorem SP.wr {p : Prm} {τ υ : St} (H : SP p τ) (f : ∀ k i, ((k = 49 ∧ i ≠ 6) ∨ (68 ≤ k ∧ k ≤ 73)) → υ.1 k i = τ.1 k i) : SP p υ := by
  obtain ⟨h1, h2, h3, h4, h5⟩ := H
  refine ⟨h1, h2, by rw [f _ _ (by omega)]; exact h3, by rw [f _ _ (by omega)]; exact h4, fun h hh => ?_⟩
  obtain ⟨a1, a2, a3, a4⟩ := h5 h hh
  exact ⟨by rw [f _ _ (by omega)]; exact a1, a2, a3, fun r hr => (a4 r hr).of (f _ _ (by omega))⟩
theorem SP.fr {p : Prm} {τ υ : St} (H : SP p τ) (f : Fr τ υ) : SP p υ := H.wr (fun k i h => f.1 k i (by omega))
/-- a state that fixed hearths can be in -/
def Rch (p : Prm) (r : Nat) (s : Nat → Nat) : Prop := ∀ h, h < 3 → p.fx h = true → p.fs h < r → s h = p.gv h (r - 1)
theorem Rch.nx {p : Prm} {r : Nat} {s t : Nat → Nat} (hn : nxt p r s t) : Rch p (r + 1) t := by
  intro h hh hx hr
  obtain ⟨o1, o2, -⟩ := hn.1 h hh
  unfold loE onlyC at o1
  unfold hiE onlyC at o2
  rw [if_pos (Or.inl hx), if_neg (by omega), if_pos hx] at o1 o2
  rw [show r + 1 - 1 = r by omega]
  omega
theorem Rch.no {p : Prm} {r : Nat} {s : Nat → Nat} (hX : ∀ i, p.fx i = false) : Rch p r s := fun h _ hx _ => absurd hx (by rw [hX h]; decide)
def loC (p : Prm) (r h a : Nat) : Nat := if p.fs h < r then a - 1 else 0
def hiC (p : Prm) (r h a : Nat) : Nat := if r < p.fs h then 0 else if p.fs h < r then min (a + 1) 9 else 9
theorem hi_9 (p : Prm) (r h a : Nat) : hiC p r h a ≤ 9 := by
  unfold hiC
  split
  · omega
  · split <;> omega
theorem lohi {p : Prm} {r h a : Nat} (ha : a < 10) : loC p r h a ≤ hiC p r h a := by
  unfold loC hiC
  split <;> split <;> (try split) <;> omega
/-- the next columns as the class looks for them -/
theorem one_iff {p : Prm} {r h : Nat} {s t : Nat → Nat} (hh : h < 3) (hr : r ≤ p.la) (hF : FxOK p h) (hR : Rch p r s) (hs : s h < 10) : oneOK p r h s t ↔ (loC p r h (s h) ≤ t h ∧ t h ≤ hiC p r h (s h) ∧ oneC p r h (t h)) := by
  obtain ⟨f1, f2⟩ := hF
  have R := hR h hh
  unfold oneOK loE hiE onlyC standP loC hiC oneC
  by_cases e1 : r < p.fs h
  · rw [if_pos (Or.inr (by omega)), if_pos (Or.inr (by omega)), if_pos e1, if_neg (by omega), if_pos e1]
    constructor
    · rintro ⟨h1, h2, h3⟩
      exact ⟨by omega, by omega, Or.inl ⟨e1, by omega⟩⟩
    · rintro ⟨h1, h2, h3⟩
      exact ⟨by omega, by omega, Or.inl e1⟩
  · rw [if_neg e1, if_neg e1]
    have st := f1 (by omega)
    by_cases fx : p.fx h = true
    · have g := f2 fx r (by omega) hr
      rw [if_pos (Or.inl fx), if_pos (Or.inl fx), if_pos fx]
      by_cases e2 : p.fs h < r
      · have R := R fx e2
        have g3 := g.2.2 e2
        rw [if_pos e2, if_pos e2]
        constructor
        · rintro ⟨h1, h2, h3⟩
          have et : t h = p.gv h r := by omega
          rcases h3 with h3 | h3
          · omega
          · exact ⟨by omega, by omega, Or.inr ⟨by omega, h3.2, fun z => by omega, fun _ => et⟩⟩
        · rintro ⟨h1, h2, h3⟩
          rcases h3 with h3 | ⟨a1, a2, a3, a4⟩
          · omega
          · have et := a4 fx
            exact ⟨by omega, by omega, Or.inr ⟨by omega, a2⟩⟩
      · have g2 := g.2.1 (by omega)
        rw [if_neg e2, if_neg e2]
        constructor
        · rintro ⟨h1, h2, h3⟩
          have et : t h = p.gv h r := by omega
          rcases h3 with h3 | h3
          · omega
          · exact ⟨by omega, by omega, Or.inr ⟨by omega, h3.2, fun z => by omega, fun _ => et⟩⟩
        · rintro ⟨h1, h2, h3⟩
          rcases h3 with h3 | ⟨a1, a2, a3, a4⟩
          · omega
          · have et := a4 fx
            exact ⟨by omega, by omega, Or.inr ⟨by omega, a2⟩⟩
    · rw [if_neg fx]
      by_cases e2 : p.fs h < r
      · have nf : ¬ (p.fx h = true ∨ r ≤ p.fs h) := fun y => y.elim fx (by omega)
        rw [if_neg nf, if_neg nf, if_pos e2, if_pos e2]
        constructor
        · rintro ⟨h1, h2, h3⟩
          rcases h3 with h3 | h3
          · omega
          · exact ⟨by omega, by omega, Or.inr ⟨by omega, h3.2, fun z => by omega, fun z => absurd z fx⟩⟩
        · rintro ⟨h1, h2, h3⟩
          rcases h3 with h3 | ⟨a1, a2, a3, a4⟩
          · omega
          · exact ⟨by omega, by omega, Or.inr ⟨by omega, a2⟩⟩
      · rw [if_pos (Or.inr (by omega)), if_pos (Or.inr (by omega)), if_neg e2, if_neg e2]
        constructor
        · rintro ⟨h1, h2, h3⟩
          have et : t h = p.st h := by omega
          rcases h3 with h3 | h3
          · omega
          · exact ⟨by omega, by omega, Or.inr ⟨by omega, h3.2, fun _ => et, fun z => absurd z fx⟩⟩
        · rintro ⟨h1, h2, h3⟩
          rcases h3 with h3 | ⟨a1, a2, a3, a4⟩
          · omega
          · have et := a3 (by omega)
            exact ⟨by omega, by omega, Or.inr ⟨by omega, a2⟩⟩
theorem low_v : ∀ a, a < 10 → (if (0 : Int32) < nI a - 1 then nI a - 1 else 0) = nI (a - 1) := by decide +kernel
theorem high_v : ∀ a, a < 10 → (if nI a + 1 < (9 : Int32) then nI a + 1 else 9) = nI (min (a + 1) 9) := by decide +kernel
theorem lb_0 : ∀ x, x < 10 → ∀ g, g < 4 → (if (0 : Int32) < nI x - nI g then nI x - nI g else 0) = nI (x - g) := by decide +kernel
theorem lb_1 : ∀ x, x < 10 → ∀ g, g < 4 → ((1 : Int32) <<< (nI (x - g) &&& 31)) - 1 = nI (2 ^ (x - g) - 1) ∧ (1023 : Int32) <<< (nI (x + g + 1) &&& 31) = nI (1023 * 2 ^ (x + g + 1)) ∧ nI (2 ^ (x - g) - 1) ||| nI (1023 * 2 ^ (x + g + 1)) = nI ((2 ^ (x - g) - 1) ||| (1023 * 2 ^ (x + g + 1))) := by decide +kernel
theorem lb_2 : ∀ x, x < 10 → ∀ g, g < 4 → 2 ^ (x - g) - 1 < 2 ^ 30 ∧ 1023 * 2 ^ (x + g + 1) < 2 ^ 30 ∧ ((2 ^ (x - g) - 1) ||| (1023 * 2 ^ (x + g + 1))) < 2 ^ 30 := by decide +kernel
theorem lb_3 : ∀ x, x < 10 → ∀ g, g < 4 → ∀ c, c < 10 → ((2 ^ (x - g) - 1) / 2 ^ c % 2 = 1 ↔ c + g < x) := by decide +kernel
theorem lb_4 : ∀ x, x < 10 → ∀ g, g < 4 → ∀ c, c < 10 → ((1023 * 2 ^ (x + g + 1)) / 2 ^ c % 2 = 1 ↔ x + g < c) := by decide +kernel
theorem lb_5 : ∀ x, x < 10 → ∀ g, g < 4 → ∀ c, c < 10 → (((2 ^ (x - g) - 1) ||| (1023 * 2 ^ (x + g + 1))) / 2 ^ c % 2 = 1 ↔ (c + g < x ∨ x + g < c)) := by decide +kernel
theorem lb_a : ∀ c, c < 10 → 1023 / 2 ^ c % 2 = 1 := by decide
/-- the columns that i in x leaves to j -/
def lft (p : Prm) (r i j x : Nat) (b : Prop) (c : Nat) : Prop := p.fs i ≤ r → p.fs j ≤ r → ((c + p.gp < x ∨ x + p.gp < c) ∧ (p.fs i < r → p.fs j < r → (b ↔ x < c)))
theorem andI {a b : Nat} (ha : a < 1024) (hb : b < 2 ^ 30) : ∃ o, o < 1024 ∧ nI a &&& nI b = nI o ∧ ∀ c, bitP o c ↔ (bitP a c ∧ bitP b c) := by
  have ta : (nI a).toBitVec.toNat = a := pk_tn (by omega)
  have tb' : (nI b).toBitVec.toNat = b := pk_tn (by omega)
  refine ⟨a &&& b, Nat.lt_of_le_of_lt Nat.and_le_left ha, ?_, fun c => ?_⟩
  · apply Int32.toBitVec_inj.mp
    apply BitVec.eq_of_toNat_eq
    rw [Int32.toBitVec_and, BitVec.toNat_and, ta, tb', pk_tn (show a &&& b < 2 ^ 32 by have h9 : a &&& b ≤ a := Nat.and_le_left; omega)]
  · have h : (a &&& b).testBit c = (a.testBit c && b.testBit c) := Nat.testBit_and a b c
    rw [tb, tb, tb] at h
    have h2 := congrArg (· = true) h
    simp only [decide_eq_true_eq, Bool.and_eq_true, eq_iff_iff] at h2
    exact h2
section SX
variable {p : Prm} {τ : St} {Q : Int32 → St → Prop} {r h : Nat}
theorem low_ok {a : Nat} (hP : SP p τ) (hh : h < 3) (hr : r ≤ p.la) (ha : a < 10) (hq : Q (nI (loC p r h a)) τ) : wp_X3_lowest (nI h) (nI r) (nI a) Q τ := by
  obtain ⟨h1, h2, h3, h4, h5⟩ := hP
  obtain ⟨a1, a2, -⟩ := h5 h hh
  unfold loC at hq
  unfold wp_X3_lowest
  rw [pn_in (by omega) (by omega), pn_cl (by omega), a1, pn_le (by omega) (by omega)]
  refine ⟨by omega, fun e => ?_, fun e v hv => ?_⟩
  · rw [if_neg (by omega)] at hq; exact hq
  · rw [if_pos (by omega)] at hq
    rw [hv, low_v a ha]; exact hq
theorem high_ok {a : Nat} (hP : SP p τ) (hh : h < 3) (hr : r ≤ p.la) (ha : a < 10) (hq : Q (nI (hiC p r h a)) τ) : wp_X3_highest (nI h) (nI r) (nI a) Q τ := by
  obtain ⟨h1, h2, h3, h4, h5⟩ := hP
  obtain ⟨a1, a2, -⟩ := h5 h hh
  unfold hiC at hq
  unfold wp_X3_highest
  rw [pn_in (by omega) (by omega), pn_cl (by omega), a1, pn_le (by omega) (by omega), pn_le (by omega) (by omega)]
  refine ⟨by omega, fun e => ⟨by omega, fun e2 => ?_, fun e2 v hv => ?_⟩, fun e => ?_⟩
  · rw [if_neg (by omega), if_neg (by omega)] at hq; exact hq
  · rw [if_neg (by omega), if_pos (by omega)] at hq
    rw [hv, high_v a ha]; exact hq
  · rw [if_pos (by omega)] at hq; exact hq
theorem left_ok {i j x : Nat} {b : Prop} {w : Int32} (hP : SP p τ) (hi : i < 3) (hj : j < 3) (hr : r ≤ p.la) (hx : x < 10) (hw : (w = 1 ∧ b) ∨ (w = 0 ∧ ¬ b)) (hq : ∀ m, m < 2 ^ 30 → (∀ c, c < 10 → (bitP m c ↔ lft p r i j x b c)) → Q (nI m) τ) : wp_X3_leftBy (nI i) (nI x) (nI j) (nI r) w Q τ := by
  obtain ⟨h1, h2, h3, h4, h5⟩ := hP
  obtain ⟨a1, a2, -⟩ := h5 i hi
  obtain ⟨b1, b2, -⟩ := h5 j hj
  obtain ⟨o1, o2, o3⟩ := lb_1 x hx p.gp (by omega)
  obtain ⟨q1, q2, q3⟩ := lb_2 x hx p.gp (by omega)
  unfold wp_X3_leftBy
  rw [pn_in (by omega) (by omega), pn_in (by omega) (by omega), pn_cl (by omega), pn_cl (by omega), a1, b1, h4, pn_lt (by omega) (by omega), pn_le (by omega) (by omega), pn_eq (by omega) (by omega), pn_eq (by omega) (by omega), lb_0 x hx p.gp (by omega), nI_add, na1]
  refine ⟨by omega, fun e => hq 1023 (by omega) (fun c hc => ⟨fun _ y => by omega, fun _ => lb_a c hc⟩), fun e => ⟨by omega, fun e2 u hu v hv => ?_, fun e2 => hq 1023 (by omega) (fun c hc => ⟨fun _ _ y => by omega, fun _ => lb_a c hc⟩)⟩⟩
  subst hu hv
  rw [o1, o2, o3]
  have both : (r = p.fs i ∨ r = p.fs j) → Q (nI ((2 ^ (x - p.gp) - 1) ||| (1023 * 2 ^ (x + p.gp + 1)))) τ := by
    intro e3
    refine hq _ q3 (fun c hc => ?_)
    unfold bitP lft
    rw [lb_5 x hx p.gp (by omega) c hc]
    exact ⟨fun y _ _ => ⟨y, fun z1 z2 => by omega⟩, fun y => (y (by omega) e2).1⟩
  refine ⟨by omega, fun e3 => both (Or.inl e3), fun e3 => ⟨by omega, fun e4 => both (Or.inr e4), fun e4 => ⟨fun e5 => ?_, fun e5 => ?_⟩⟩⟩
  · rcases hw with ⟨hw, hb⟩ | ⟨hw, hb⟩
    · rw [hw] at e5; exact absurd e5 (by decide)
    · refine hq _ q1 (fun c hc => ?_)
      unfold bitP lft
      rw [lb_3 x hx p.gp (by omega) c hc]
      refine ⟨fun y _ _ => ⟨Or.inl y, fun _ _ => ⟨fun z => absurd z hb, fun z => by omega⟩⟩, fun y => ?_⟩
      have y := y (by omega) e2
      have y2 := y.2 (by omega) (by omega)
      have : ¬ x < c := fun z => hb (y2.mpr z)
      omega
  · rcases hw with ⟨hw, hb⟩ | ⟨hw, hb⟩
    · refine hq _ q2 (fun c hc => ?_)
      unfold bitP lft
      rw [lb_4 x hx p.gp (by omega) c hc]
      refine ⟨fun y _ _ => ⟨Or.inr y, fun _ _ => ⟨fun z => by omega, fun z => hb⟩⟩, fun y => ?_⟩
      have y := y (by omega) e2
      have := (y.2 (by omega) (by omega)).mp hb
      omega
    · exact absurd hw e5
theorem lean_ok {a x : Nat} (hP : SP p τ) (hh : h < 3) (hr : r ≤ p.la) (ha : a < 50) (hx : x < 50) (hq : Q (nI (if p.fs h < r ∧ x ≠ a then 1 else 0)) τ) : wp_X3_lean (nI h) (nI r) (nI x - nI a) Q τ := by
  obtain ⟨g1, g2, g3, g4, g5⟩ := hP
  obtain ⟨a1, a2, -⟩ := g5 h hh
  unfold wp_X3_lean
  rw [pn_in (by omega) (by omega), pn_cl (by omega), a1, pn_le (by omega) (by omega), tI_eq, pk_sub_toInt (by omega) (by omega), z0]
  refine ⟨by omega, fun q => ?_, fun q => ⟨fun q2 => ?_, fun q2 => ?_⟩⟩
  · rw [if_neg (by omega)] at hq; exact hq
  · rw [if_neg (by omega)] at hq; exact hq
  · rw [if_pos (by omega)] at hq; exact hq
theorem columnIn_ok {c : Nat} (hc : c < 1000) (hh : h < 3) (hq : Q (nI (dec c h)) τ) : wp_X3_columnIn (nI c) (nI h) Q τ := by
  unfold wp_X3_columnIn
  rw [show (0 : Int32) = nI 0 from rfl, show (1 : Int32) = nI 1 from rfl, pn_eq (by omega) (by omega), pn_eq (by omega) (by omega), show (100 : Int32) = nI 100 from rfl, show (10 : Int32) = nI 10 from rfl, pk_div (by omega) (by omega) (by omega), pk_div (by omega) (by omega) (by omega), pk_div (by omega) (by omega) (by omega), pk_mul, pk_mul, pk_sub (by omega), pk_sub (by omega)]
  unfold dec at hq
  refine ⟨fun e => ⟨by decide, ?_⟩, fun e => ⟨fun e2 => ⟨by decide, by decide, ?_⟩, fun e2 => ⟨by decide, ?_⟩⟩⟩
  · rw [if_pos e] at hq; exact hq
  · rw [if_neg e, if_pos e2] at hq
    rwa [show c / 10 - c / 10 / 10 * 10 = c / 10 % 10 by omega]
  · rw [if_neg e, if_neg e2] at hq
    rwa [show c - c / 10 * 10 = c % 10 by omega]
theorem mxI {a b : Nat} (ha : a < 2 ^ 30) (hb : b < 2 ^ 30) : (if nI a - 1 < nI b then nI b else nI a - 1) = nI (max a (b + 1)) - 1 := by
  by_cases e : a < b + 1
  · rw [if_pos (by rw [tI_lt, nI_m1 _ (by omega), tI_n (by omega)]; omega), show max a (b + 1) = b + 1 by omega, ns1 (by omega), Nat.add_sub_cancel]
  · rw [if_neg (by rw [tI_lt, nI_m1 _ (by omega), tI_n (by omega)]; omega), show max a (b + 1) = a by omega]
theorem breadth_ok {c : Nat} (hP : SP p τ) (hc : c < 1000) (hq : Q (nI (brP p (dec c))) τ) : wp_X3_breadthOf (nI c) Q τ := by
  obtain ⟨g1, g2, g3, g4, g5⟩ := hP
  unfold wp_X3_breadthOf
  have bm : ∀ i, i ≤ 3 → mnS p (dec c) i ≤ 10 ∧ mxS p (dec c) i ≤ 10 := by
    intro i
    induction i with
    | zero => intro _; exact ⟨Nat.le_refl _, Nat.zero_le _⟩
    | succ i ih =>
      intro hi
      have ih := ih (by omega)
      have d := dec_lt (h := i) hc
      unfold mnS mxS
      refine ⟨?_, ?_⟩ <;> split <;> omega
  refine pk_loop (fun n i (s : Int32 × Int32) => wp_X3_breadthOf_l8 Q n (nI c) s.1 s.2 (nI i) τ) (fun i s => s.1 = nI (mnS p (dec c) i) ∧ s.2 = nI (mxS p (dec c) i) - 1) 3 0 (10, -1) (by omega) ⟨rfl, by show (-1 : Int32) = nI 0 - 1; decide⟩ (fun n s hs => ?_) (fun n i s hi hs hk => ?_)
  · show wp_X3_breadthOf_b8 _ _ _ _ _ _ _
    unfold wp_X3_breadthOf_b8
    rw [hs.1, hs.2]
    have b := bm 3 (by omega)
    refine ⟨fun _ v hv => ?_, fun q => absurd (by decide) q⟩
    have e : v = nI (brP p (dec c)) := by
      rw [hv]
      have e1 : nI (mxS p (dec c) 3) - 1 - nI (mnS p (dec c) 3) + 1 = nI (mxS p (dec c) 3) - nI (mnS p (dec c) 3) := by grind
      rw [e1]
      unfold brP
      by_cases z : mxS p (dec c) 3 - mnS p (dec c) 3 ≤ 1
      · rw [if_neg (by rw [tI_lt, pk_sub_toInt (by omega) (by omega), t_1]; omega), show max 1 (mxS p (dec c) 3 - mnS p (dec c) 3) = 1 by omega]
        rfl
      · rw [if_pos (by rw [tI_lt, pk_sub_toInt (by omega) (by omega), t_1]; omega), pk_sub (by omega)]
        exact congrArg nI (by omega)
    rw [e]
    exact hq
  · show wp_X3_breadthOf_b8 _ _ _ _ _ _ _
    unfold wp_X3_breadthOf_b8
    obtain ⟨a1, a2, -⟩ := g5 i hi
    have b := bm i (by omega)
    have d := dec_lt (h := i) hc
    rw [hs.1, hs.2, pn_in (by omega) (by omega), pn_cl (by omega), a1, g3, pn_lt (by omega) (by omega), na1]
    refine ⟨fun q => absurd q (nI_ge (b := 3) hi (by omega)), fun _ => ⟨by omega, fun q => hk (nI (mnS p (dec c) i), nI (mxS p (dec c) i) - 1) ⟨?_, ?_⟩, fun q => columnIn_ok hc hi (columnIn_ok hc hi (hk ((if nI (dec c i) < nI (mnS p (dec c) i) then nI (dec c i) else nI (mnS p (dec c) i)), (if nI (mxS p (dec c) i) - 1 < nI (dec c i) then nI (dec c i) else nI (mxS p (dec c) i) - 1)) ⟨?_, ?_⟩))⟩⟩
    · show nI _ = nI (if p.fs i ≤ p.la then _ else _)
      rw [if_neg (by omega)]
    · show nI _ - 1 = nI (if p.fs i ≤ p.la then _ else _) - 1
      rw [if_neg (by omega)]
    · show _ = nI (if p.fs i ≤ p.la then _ else _)
      rw [if_pos (c := p.fs i ≤ p.la) (by omega)]
      exact mn_nI (by omega) (by omega)
    · show _ = nI (if p.fs i ≤ p.la then _ else _) - 1
      rw [if_pos (c := p.fs i ≤ p.la) (by omega)]
      exact mxI (by omega) (by omega)
end SX
