/-! the class's search -/
def SP (p : Prm) (τ : St) : Prop := p.la ≤ 15 ∧ p.gp ≤ 3 ∧ τ.1 49 6 = nI p.la ∧ τ.1 49 7 = nI p.gp ∧ (∀ h, h < 3 → τ.1 68 h = nI (p.fs h) ∧ p.fs h ≤ 16 ∧ (p.fs h ≤ p.la → τ.1 69 h = nI (p.st h) ∧ p.st h < 10) ∧ τ.1 74 h = (if p.fx h = true then 1 else 0) ∧ (p.fx h = true → ∀ r, p.fs h ≤ r → r ≤ p.la → τ.1 (71 + h) r = nI (p.gv h r) ∧ p.gv h r < 10)) ∧ ∀ r, r ≤ p.la → τ.1 67 r = nI (p.op r) ∧ p.op r < 1024
def Tab (p : Prm) (τ : St) : Prop := ∀ k, k ≤ p.la → ∀ c, c < 1000 → τ.1 (51 + (p.la - k)) c = 0 ∨ ∃ v, τ.1 (51 + (p.la - k)) c = nI v ∧ XV p (k + 1) (dec c) v
def Fr (τ υ : St) : Prop := (∀ k i, ¬ (51 ≤ k ∧ k ≤ 66) → υ.1 k i = τ.1 k i) ∧ υ.2 = τ.2
theorem Fr.rf {τ : St} : Fr τ τ := ⟨fun _ _ _ => rfl, rfl⟩
theorem Fr.tr {τ υ φ : St} (a : Fr τ υ) (b : Fr υ φ) : Fr τ φ := ⟨fun k i n => (b.1 k i n).trans (a.1 k i n), b.2.trans a.2⟩
theorem SP.fr {p : Prm} {τ υ : St} (H : SP p τ) (f : Fr τ υ) : SP p υ := by
  obtain ⟨h1, h2, h3, h4, h5, h6⟩ := H
  refine ⟨h1, h2, by rw [f.1 _ _ (by omega)]; exact h3, by rw [f.1 _ _ (by omega)]; exact h4, fun h hh => ?_, fun r hr => by rw [f.1 _ _ (by omega)]; exact h6 r hr⟩
  obtain ⟨a1, a2, a3, a4, a5⟩ := h5 h hh
  exact ⟨by rw [f.1 _ _ (by omega)]; exact a1, a2, fun z => by rw [f.1 _ _ (by omega)]; exact a3 z, by rw [f.1 _ _ (by omega)]; exact a4, fun z r b1 b2 => by rw [f.1 _ _ (by omega)]; exact a5 z r b1 b2⟩
section SX
variable {p : Prm} {τ : St} {Q : Int32 → St → Prop} {r h : Nat}
theorem onlyOne_ok (hP : SP p τ) (hh : h < 3) (hr : r ≤ p.la) (hq : Q (bI (p.fx h = true ∨ r ≤ p.fs h)) τ) : wp_X3_onlyOne (nI h) (nI r) Q τ := by
  obtain ⟨h1, h2, h3, h4, h5, h6⟩ := hP
  obtain ⟨a1, a2, a3, a4, a5⟩ := h5 h hh
  unfold wp_X3_onlyOne
  rw [pn_in (by omega) (by omega), pn_cl (by omega), a1, a4, pn_lt (by omega) (by omega)]
  refine ⟨by omega, fun e => ⟨by omega, fun q => ?_, fun q => ?_⟩, fun e => ?_⟩
  · rwa [bI_f (fun z => by
      rcases z with z | z
      · rw [if_pos z] at e; exact absurd e (by decide)
      · omega)] at hq
  · rwa [bI_t (Or.inr (by omega))] at hq
  · by_cases z : p.fx h = true
    · rwa [bI_t (Or.inl z)] at hq
    · rw [if_neg z] at e; exact absurd rfl e
theorem onlyColumn_ok (hP : SP p τ) (hh : h < 3) (hr : r ≤ p.la) (hq : Q (nI (onlyC p r h)) τ) : wp_X3_onlyColumn (nI h) (nI r) Q τ := by
  obtain ⟨h1, h2, h3, h4, h5, h6⟩ := hP
  obtain ⟨a1, a2, a3, a4, a5⟩ := h5 h hh
  unfold wp_X3_onlyColumn
  rw [pn_in (by omega) (by omega), pn_cl (by omega), a1, a4, pn_le (by omega) (by omega)]
  unfold onlyC at hq
  refine ⟨by omega, fun e => ⟨by omega, fun q => ⟨by omega, ?_⟩, fun q => ⟨by omega, ?_⟩⟩, fun e => ?_⟩
  · have z : ¬ p.fx h = true := fun z => by rw [if_pos z] at q; exact absurd q (by decide)
    rw [if_neg (by omega), if_neg z] at hq
    rw [(a3 (by omega)).1]
    exact hq
  · have z : p.fx h = true := by
      by_cases z : p.fx h = true
      · exact z
      · rw [if_neg z] at q; exact absurd rfl q
    rw [if_neg (by omega), if_pos z] at hq
    rw [pn_in (by omega) (by omega), pn_cl (by omega), show 70 + 1 + h = 71 + h by omega, (a5 z r e hr).1]
    exact ⟨by omega, hq⟩
  · rw [if_pos (by omega)] at hq
    exact hq
theorem onlyC_lt (hP : SP p τ) (hh : h < 3) (hr : r ≤ p.la) : onlyC p r h < 10 := by
  obtain ⟨h1, h2, h3, h4, h5, h6⟩ := hP
  obtain ⟨a1, a2, a3, a4, a5⟩ := h5 h hh
  unfold onlyC
  split
  · omega
  · split
    · next z => exact (a5 z r (by omega) hr).2
    · exact (a3 (by omega)).2
theorem low_ok {a : Nat} (hP : SP p τ) (hh : h < 3) (hr : r ≤ p.la) (hq : Q (nI (loE p r h a) - 1) τ) : wp_X3_lowest (nI h) (nI r) (nI a) Q τ := by
  unfold wp_X3_lowest
  refine onlyOne_ok hP hh hr (i2_eq (fun z => onlyColumn_ok hP hh hr ?_) (fun z => ?_))
  · unfold loE at hq
    rw [if_pos z, ns1 (by omega), Nat.add_sub_cancel] at hq
    exact hq
  · unfold loE at hq
    rw [if_neg z] at hq
    exact hq
theorem high_ok {a : Nat} (hP : SP p τ) (hh : h < 3) (hr : r ≤ p.la) (hq : Q (nI (hiE p r h a) - 1) τ) : wp_X3_highest (nI h) (nI r) (nI a) Q τ := by
  unfold wp_X3_highest
  refine onlyOne_ok hP hh hr (i2_eq (fun z => onlyColumn_ok hP hh hr ?_) (fun z => ?_))
  · unfold hiE at hq
    rw [if_pos z, ns1 (by omega), Nat.add_sub_cancel] at hq
    exact hq
  · unfold hiE at hq
    rw [if_neg z, ns1 (by omega), show a + 2 - 1 = a + 1 by omega] at hq
    rw [na1]
    exact hq
theorem stands_ok {e : Nat} (hP : SP p τ) (hh : h < 3) (hr : r ≤ p.la) (he : e < 20) (hq : Q (bI (r < p.fs h ∨ (1 ≤ e ∧ e - 1 < 10 ∧ bitP (p.op r) (e - 1)))) τ) : wp_X3_stands (nI h) (nI r) (nI e - 1) Q τ := by
  obtain ⟨h1, h2, h3, h4, h5, h6⟩ := hP
  obtain ⟨a1, a2, a3, a4, a5⟩ := h5 h hh
  unfold wp_X3_stands
  rw [pn_in (by omega) (by omega), pn_cl (by omega), a1, pn_le (by omega) (by omega), tI_lt, tI_le, nI_m1 _ (by omega), z0, show (10 : Int32).toInt = 10 from by decide]
  refine ⟨by omega, fun q => ⟨fun q1 => ?_, fun q1 => ⟨fun q2 => ?_, fun q2 => ?_⟩⟩, fun q => ?_⟩
  · rwa [bI_f (by omega)] at hq
  · rwa [bI_f (by omega)] at hq
  · have hb := (h6 r hr).2
    rw [pn_in (by omega) (by omega), pn_cl (by omega), (h6 r hr).1, ns1 (by omega), bit_val (by omega) (by omega), show (0 : Int32) = nI 0 from rfl, pn_eq (by omega) (by omega)]
    refine ⟨by omega, fun z => ?_, fun z => ?_⟩
    · rwa [bI_f (fun y => by
        rcases y with y | y
        · omega
        · have := y.2.2
          unfold bitP at this
          omega)] at hq
    · rwa [bI_t (Or.inr ⟨by omega, by omega, by unfold bitP; omega⟩)] at hq
  · rwa [bI_t (Or.inl (by omega))] at hq
theorem absG {a b t : Nat} (ha : a < 100) (hb : b < 100) (ht : t ≤ 3) : (nI t < (if 0 ≤ nI a - nI b then nI a - nI b else 0 - (nI a - nI b))) = (b + t < a ∨ a + t < b) := by
  have e : (nI a - nI b).toInt = (a : Int) - b := pk_sub_toInt (by omega) (by omega)
  rw [absX ht (by omega) (by omega), e]
  apply propext
  omega
theorem apart_ok {i j a b x y : Nat} (hP : SP p τ) (hi : i < 3) (hj : j < 3) (hr : r ≤ p.la) (ha : a < 50) (hb : b < 50) (hx : x < 50) (hy : y < 50) (s t : Nat → Nat) (es : s i = a ∧ s j = b) (et : t i = x ∧ t j = y)
    (h1 : twoOK p r i j s t → Q 1 τ) (h0 : ¬ twoOK p r i j s t → Q 0 τ) : wp_X3_apart (nI i) (nI j) (nI r) (nI a - nI b) (nI x - nI y) Q τ := by
  obtain ⟨g1, g2, g3, g4, g5, g6⟩ := hP
  obtain ⟨a1, a2, -⟩ := g5 i hi
  obtain ⟨b1, b2, -⟩ := g5 j hj
  unfold wp_X3_apart
  unfold twoOK at h1 h0
  rw [es.1, es.2, et.1, et.2] at h1 h0
  rw [pn_in (by omega) (by omega), pn_in (by omega) (by omega), pn_cl (by omega), pn_cl (by omega), a1, b1, g4, absG (a := x) (b := y) (by omega) (by omega) g2, pn_lt (by omega) (by omega), pn_le (by omega) (by omega), pn_eq (by omega) (by omega), pn_eq (by omega) (by omega), tI_le, pk_sub_toInt (by omega) (by omega), z0]
  refine ⟨by omega, fun q => h1 (fun z => absurd z (by omega)), fun q => ⟨by omega, fun q2 => ⟨fun q3 => ⟨by omega, fun q4 => h1 (fun _ _ => ⟨by omega, fun z => absurd z (by omega)⟩), fun q4 => ⟨by omega, fun q5 => h1 (fun _ _ => ⟨by omega, fun _ z => absurd z (by omega)⟩), fun q5 => ?_⟩⟩, fun q3 => h0 (fun z => absurd (z (by omega) q2).1 (by omega))⟩, fun q2 => h1 (fun _ z => absurd z q2)⟩⟩
  have b66 : ∀ s0 : Int32, ((s0 = 1 ∧ a < b) ∨ (s0 = 0 ∧ ¬ a < b)) → wp_X3_apart_b66 Q (nI x - nI y) s0 τ := by
    intro s0 hs
    unfold wp_X3_apart_b66 wp_X3_apart_b76
    rw [tI_le, pk_sub_toInt (by omega) (by omega), z0]
    refine ⟨fun q6 => ⟨fun q7 => h1 (fun _ _ => ⟨by omega, fun _ _ => ?_⟩), fun q7 => h0 (fun z => ?_)⟩, fun q6 => ⟨fun q7 => h1 (fun _ _ => ⟨by omega, fun _ _ => ?_⟩), fun q7 => h0 (fun z => ?_)⟩⟩
    · rcases hs with ⟨e, e'⟩ | ⟨e, e'⟩
      · rw [e] at q7; exact absurd q7 (by decide)
      · omega
    · have := (z (by omega) q2).2 (by omega) (by omega)
      rcases hs with ⟨e, e'⟩ | ⟨e, e'⟩
      · omega
      · exact q7 e
    · rcases hs with ⟨e, e'⟩ | ⟨e, e'⟩
      · omega
      · rw [e] at q7; exact absurd q7 (by decide)
    · have := (z (by omega) q2).2 (by omega) (by omega)
      rcases hs with ⟨e, e'⟩ | ⟨e, e'⟩
      · exact q7 e
      · omega
  exact ⟨fun q6 => b66 0 (Or.inr ⟨rfl, by omega⟩), fun q6 => b66 1 (Or.inl ⟨rfl, by omega⟩)⟩
theorem lean_ok {a x : Nat} (hP : SP p τ) (hh : h < 3) (hr : r ≤ p.la) (ha : a < 50) (hx : x < 50) (hq : Q (nI (if p.fs h < r ∧ x ≠ a then 1 else 0)) τ) : wp_X3_lean (nI h) (nI r) (nI x - nI a) Q τ := by
  obtain ⟨g1, g2, g3, g4, g5, g6⟩ := hP
  obtain ⟨a1, a2, -⟩ := g5 h hh
  unfold wp_X3_lean
  rw [pn_in (by omega) (by omega), pn_cl (by omega), a1, pn_le (by omega) (by omega), tI_eq, pk_sub_toInt (by omega) (by omega), z0]
  refine ⟨by omega, fun q => ?_, fun q => ⟨fun q2 => ?_, fun q2 => ?_⟩⟩
  · rw [if_neg (by omega)] at hq; exact hq
  · rw [if_neg (by omega)] at hq; exact hq
  · rw [if_pos (by omega)] at hq; exact hq
theorem columnIn_ok {c : Nat} (hc : c < 1000) (hh : h < 3) (hq : Q (nI (dec c h)) τ) : wp_X3_columnIn (nI c) (nI h) Q τ := by
  unfold wp_X3_columnIn
  rw [show (0 : Int32) = nI 0 from rfl, show (1 : Int32) = nI 1 from rfl, pn_eq (by omega) (by omega), pn_eq (by omega) (by omega), show (100 : Int32) = nI 100 from rfl, show (10 : Int32) = nI 10 from rfl, pk_div (by omega) (by omega) (by omega), pk_div (by omega) (by omega) (by omega), pk_div (by omega) (by omega) (by omega), pk_mul, pk_mul, pk_sub (by omega), pk_sub (by omega)]
  unfold dec at hq
  refine ⟨fun e => ⟨by decide, ?_⟩, fun e => ⟨fun e2 => ⟨by decide, by decide, ?_⟩, fun e2 => ⟨by decide, ?_⟩⟩⟩
  · rw [if_pos e] at hq; exact hq
  · rw [if_neg e, if_pos e2] at hq
    rwa [show c / 10 - c / 10 / 10 * 10 = c / 10 % 10 by omega]
  · rw [if_neg e, if_neg e2] at hq
    rwa [show c - c / 10 * 10 = c % 10 by omega]
theorem mxI {a b : Nat} (ha : a < 2 ^ 30) (hb : b < 2 ^ 30) : (if nI a - 1 < nI b then nI b else nI a - 1) = nI (max a (b + 1)) - 1 := by
  by_cases e : a < b + 1
  · rw [if_pos (by rw [tI_lt, nI_m1 _ (by omega), tI_n (by omega)]; omega), show max a (b + 1) = b + 1 by omega, ns1 (by omega), Nat.add_sub_cancel]
  · rw [if_neg (by rw [tI_lt, nI_m1 _ (by omega), tI_n (by omega)]; omega), show max a (b + 1) = a by omega]
theorem breadth_ok {c : Nat} (hP : SP p τ) (hc : c < 1000) (hq : Q (nI (brP p (dec c))) τ) : wp_X3_breadthOf (nI c) Q τ := by
  obtain ⟨g1, g2, g3, g4, g5, g6⟩ := hP
  unfold wp_X3_breadthOf
  have bm : ∀ i, i ≤ 3 → mnS p (dec c) i ≤ 10 ∧ mxS p (dec c) i ≤ 10 := by
    intro i
    induction i with
    | zero => intro _; exact ⟨Nat.le_refl _, Nat.zero_le _⟩
    | succ i ih =>
      intro hi
      have ih := ih (by omega)
      have d := dec_lt (h := i) hc
      unfold mnS mxS
      refine ⟨?_, ?_⟩ <;> split <;> omega
  refine pk_loop (fun n i (s : Int32 × Int32) => wp_X3_breadthOf_l8 Q n (nI c) s.1 s.2 (nI i) τ) (fun i s => s.1 = nI (mnS p (dec c) i) ∧ s.2 = nI (mxS p (dec c) i) - 1) 3 0 (10, -1) (by omega) ⟨rfl, by show (-1 : Int32) = nI 0 - 1; decide⟩ (fun n s hs => ?_) (fun n i s hi hs hk => ?_)
  · show wp_X3_breadthOf_b8 _ _ _ _ _ _ _
    unfold wp_X3_breadthOf_b8
    rw [hs.1, hs.2]
    have b := bm 3 (by omega)
    refine ⟨fun _ v hv => ?_, fun q => absurd (by decide) q⟩
    have e : v = nI (brP p (dec c)) := by
      rw [hv]
      have e1 : nI (mxS p (dec c) 3) - 1 - nI (mnS p (dec c) 3) + 1 = nI (mxS p (dec c) 3) - nI (mnS p (dec c) 3) := by grind
      rw [e1]
      unfold brP
      by_cases z : mxS p (dec c) 3 - mnS p (dec c) 3 ≤ 1
      · rw [if_neg (by rw [tI_lt, pk_sub_toInt (by omega) (by omega), t_1]; omega), show max 1 (mxS p (dec c) 3 - mnS p (dec c) 3) = 1 by omega]
        rfl
      · rw [if_pos (by rw [tI_lt, pk_sub_toInt (by omega) (by omega), t_1]; omega), pk_sub (by omega)]
        exact congrArg nI (by omega)
    rw [e]
    exact hq
  · show wp_X3_breadthOf_b8 _ _ _ _ _ _ _
    unfold wp_X3_breadthOf_b8
    obtain ⟨a1, a2, -⟩ := g5 i hi
    have b := bm i (by omega)
    have d := dec_lt (h := i) hc
    rw [hs.1, hs.2, pn_in (by omega) (by omega), pn_cl (by omega), a1, g3, pn_lt (by omega) (by omega), na1]
    refine ⟨fun q => absurd q (nI_ge (b := 3) hi (by omega)), fun _ => ⟨by omega, fun q => hk (nI (mnS p (dec c) i), nI (mxS p (dec c) i) - 1) ⟨?_, ?_⟩, fun q => columnIn_ok hc hi (columnIn_ok hc hi (hk ((if nI (dec c i) < nI (mnS p (dec c) i) then nI (dec c i) else nI (mnS p (dec c) i)), (if nI (mxS p (dec c) i) - 1 < nI (dec c i) then nI (dec c i) else nI (mxS p (dec c) i) - 1)) ⟨?_, ?_⟩))⟩⟩
    · show nI _ = nI (if p.fs i ≤ p.la then _ else _)
      rw [if_neg (by omega)]
    · show nI _ - 1 = nI (if p.fs i ≤ p.la then _ else _) - 1
      rw [if_neg (by omega)]
    · show _ = nI (if p.fs i ≤ p.la then _ else _)
      rw [if_pos (c := p.fs i ≤ p.la) (by omega)]
      exact mn_nI (by omega) (by omega)
    · show _ = nI (if p.fs i ≤ p.la then _ else _) - 1
      rw [if_pos (c := p.fs i ≤ p.la) (by omega)]
      exact mxI (by omega) (by omega)
end SX
