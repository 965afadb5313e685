/-! what a plan holds: leans, bends, cold courses -/
def cntB (P : Nat → Bool) (a : Nat) : Nat → Nat
  | 0 => 0
  | n + 1 => cntB P a n + (if P (a + n) then 1 else 0)
theorem cntB_le (P : Nat → Bool) (a : Nat) : ∀ n, cntB P a n ≤ n
  | 0 => Nat.le_refl 0
  | n + 1 => by
    have := cntB_le P a n
    unfold cntB
    by_cases h : P (a + n) = true
    · rw [if_pos h]; omega
    · rw [if_neg h]; omega
theorem cnt_t {P : Nat → Bool} {a i : Nat} (ha : a ≤ i) (h : P i = true) : cntB P a (i + 1 - a) = cntB P a (i - a) + 1 := by
  rw [show i + 1 - a = (i - a) + 1 by omega]
  show cntB P a (i - a) + (if P (a + (i - a)) then 1 else 0) = _
  rw [show a + (i - a) = i by omega, if_pos h]
theorem cnt_f {P : Nat → Bool} {a i : Nat} (ha : a ≤ i) (h : ¬ P i = true) : cntB P a (i + 1 - a) = cntB P a (i - a) := by
  rw [show i + 1 - a = (i - a) + 1 by omega]
  show cntB P a (i - a) + (if P (a + (i - a)) then 1 else 0) = _
  rw [show a + (i - a) = i by omega, if_neg h, Nat.add_zero]
theorem sub0 {a b : Int32} : (a - b = 0) ↔ (a = b) := by
  constructor
  · intro h
    have := Int32.sub_add_cancel a b
    rw [h, Int32.zero_add] at this
    exact this.symm
  · intro h; rw [h, Int32.sub_self]
def leP (p : Nat → Int32) (r : Nat) : Bool := decide (p r ≠ p (r - 1))
def beP (p : Nat → Int32) (r : Nat) : Bool := decide (p r - p (r - 1) ≠ p (r - 1) - p (r - 2))
def coP (g : Geo) (p : Nat → Int32) (r : Nat) : Bool := decide (coldP g (p r))
theorem ns1 {i : Nat} (h : 1 ≤ i) : nI i - 1 = nI (i - 1) := pk_sub (b := 1) h
theorem ns2 {i : Nat} (h : 2 ≤ i) : nI i - 2 = nI (i - 2) := pk_sub (b := 2) h
theorem na1 (i : Nat) : nI i + 1 = nI (i + 1) := nI_1 i
theorem na0 (i : Nat) : nI i + 0 = nI i := by simp
theorem nm16 (i : Nat) : 16 * nI i = nI (16 * i) := pk_mul 16 i
theorem nm10 (i : Nat) : 10 * nI i = nI (10 * i) := pk_mul 10 i
abbrev gLe (g : Geo) (σ : St) (h : Nat) : Nat := cntB (leP (σ.1 (22 + h))) (g.co h + 1) (g.gH - (g.co h + 1))
abbrev gBe (g : Geo) (σ : St) (h : Nat) : Nat := cntB (beP (σ.1 (22 + h))) (g.co h + 2) (g.gH - (g.co h + 2))
abbrev gCo (g : Geo) (σ : St) (h : Nat) : Nat := cntB (coP g (σ.1 (22 + h))) (g.co h) (g.gH - g.co h)
section PL
variable {g : Geo} {σ : St} {Q : Int32 → St → Prop} {h : Nat}
theorem leansX_ok (hd : IDim g σ) (hh : IHea g σ) (hn : h < g.gN) (hq : Q (nI (gLe g σ h)) σ) : wp_X2_leans (nI h) Q σ := by
  obtain ⟨⟨d1, d2, d3, d4, d5⟩, -, e2, -⟩ := hd
  obtain ⟨⟨c1, -, c3⟩, -⟩ := hh h hn
  unfold wp_X2_leans
  rw [pn_in (by omega) (by omega), pn_cl (by omega), c1, na1]
  refine ⟨by omega, ?_⟩
  refine pk_loop (fun n i a => wp_X2_leans_l12 Q n (nI h) (nI a) (nI i) σ) (fun i a => g.co h + 1 ≤ i ∧ a = cntB (leP (σ.1 (22 + h))) (g.co h + 1) (i - (g.co h + 1))) g.gH (g.co h + 1) 0 (by omega) ⟨Nat.le_refl _, by rw [Nat.sub_self]; rfl⟩ (fun n a hI => ?_) (fun n i a hi hI hk => ?_)
  · show wp_X2_leans_b12 _ _ _ _ _ _
    unfold wp_X2_leans_b12
    rw [e2]
    exact ⟨fun _ => by rw [hI.2]; exact hq, fun q => absurd (nI_le (Nat.le_refl _) (by omega)) q⟩
  · show wp_X2_leans_b12 _ _ _ _ _ _
    unfold wp_X2_leans_b12
    rw [e2, ns1 (by omega)]
    simp only [pn_in (show h < 2 ^ 31 by omega) (show 3 < 2 ^ 31 by decide), pn_in (show i < 2 ^ 31 by omega) (show 16 < 2 ^ 31 by decide), pn_in (show i - 1 < 2 ^ 31 by omega) (show 16 < 2 ^ 31 by decide), pn_cl (show h < 2 ^ 31 by omega), pn_cl (show i < 2 ^ 31 by omega), pn_cl (show i - 1 < 2 ^ 31 by omega), na1]
    rw [show 21 + 1 + h = 22 + h by omega]
    obtain ⟨h1, h2⟩ := hI
    refine ⟨fun q => absurd q (nI_ge hi (by omega)), fun _ => ⟨by omega, by omega, by omega, by omega, fun e => ?_, fun e => ?_⟩⟩
    · exact hk a ⟨by omega, by rw [cnt_f h1 (by unfold leP; simpa using e)]; exact h2⟩
    · exact hk (a + 1) ⟨by omega, by rw [cnt_t h1 (by unfold leP; simpa using e), h2]⟩
theorem bendsX_ok (hd : IDim g σ) (hh : IHea g σ) (hn : h < g.gN) (hq : Q (nI (gBe g σ h)) σ) : wp_X2_bends (nI h) Q σ := by
  obtain ⟨⟨d1, d2, d3, d4, d5⟩, -, e2, -⟩ := hd
  obtain ⟨⟨c1, -, c3⟩, -⟩ := hh h hn
  unfold wp_X2_bends
  rw [pn_in (by omega) (by omega), pn_cl (by omega), c1, show nI (g.co h) + 2 = nI (g.co h + 2) from nI_add _ 2]
  refine ⟨by omega, ?_⟩
  refine pk_loop (fun n i a => wp_X2_bends_l12 Q n (nI h) (nI a) (nI i) σ) (fun i a => g.co h + 2 ≤ i ∧ a = cntB (beP (σ.1 (22 + h))) (g.co h + 2) (i - (g.co h + 2))) g.gH (g.co h + 2) 0 (by omega) ⟨Nat.le_refl _, by rw [Nat.sub_self]; rfl⟩ (fun n a hI => ?_) (fun n i a hi hI hk => ?_)
  · show wp_X2_bends_b12 _ _ _ _ _ _
    unfold wp_X2_bends_b12
    rw [e2]
    exact ⟨fun _ => by rw [hI.2]; exact hq, fun q => absurd (nI_le (Nat.le_refl _) (by omega)) q⟩
  · show wp_X2_bends_b12 _ _ _ _ _ _
    unfold wp_X2_bends_b12
    obtain ⟨h1, h2⟩ := hI
    rw [e2, ns1 (by omega), ns2 (by omega)]
    simp only [pn_in (show h < 2 ^ 31 by omega) (show 3 < 2 ^ 31 by decide), pn_in (show i < 2 ^ 31 by omega) (show 16 < 2 ^ 31 by decide), pn_in (show i - 1 < 2 ^ 31 by omega) (show 16 < 2 ^ 31 by decide), pn_in (show i - 2 < 2 ^ 31 by omega) (show 16 < 2 ^ 31 by decide), pn_cl (show h < 2 ^ 31 by omega), pn_cl (show i < 2 ^ 31 by omega), pn_cl (show i - 1 < 2 ^ 31 by omega), pn_cl (show i - 2 < 2 ^ 31 by omega), na1]
    rw [show 21 + 1 + h = 22 + h by omega]
    refine ⟨fun q => absurd q (nI_ge hi (by omega)), fun _ => ⟨by omega, by omega, by omega, by omega, fun v hv => ⟨by omega, by omega, by omega, by omega, fun e => ?_, fun e => ?_⟩⟩⟩
    · subst hv
      exact hk a ⟨by omega, by rw [cnt_f h1 (by unfold beP; simpa using e)]; exact h2⟩
    · subst hv
      exact hk (a + 1) ⟨by omega, by rw [cnt_t h1 (by unfold beP; simpa using e), h2]⟩
theorem coldX_ok (hd : IDim g σ) (hb : IBar g σ) (hh : IHea g σ) (hn : h < g.gN) (hq : Q (nI (gCo g σ h)) σ) : wp_X2_coldCourses (nI h) Q σ := by
  have hd0 := hd
  obtain ⟨⟨d1, d2, d3, d4, d5⟩, -, e2, -⟩ := hd
  obtain ⟨⟨c1, -, c3⟩, -⟩ := hh h hn
  unfold wp_X2_coldCourses
  rw [pn_in (by omega) (by omega), pn_cl (by omega), c1]
  refine ⟨by omega, ?_⟩
  refine pk_loop (fun n i a => wp_X2_coldCourses_l10 Q n (nI h) (nI a) (nI i) σ) (fun i a => g.co h ≤ i ∧ a = cntB (coP g (σ.1 (22 + h))) (g.co h) (i - g.co h)) g.gH (g.co h) 0 (by omega) ⟨Nat.le_refl _, by rw [Nat.sub_self]; rfl⟩ (fun n a hI => ?_) (fun n i a hi hI hk => ?_)
  · show wp_X2_coldCourses_b10 _ _ _ _ _ _
    unfold wp_X2_coldCourses_b10
    rw [e2]
    exact ⟨fun _ => by rw [hI.2]; exact hq, fun q => absurd (nI_le (Nat.le_refl _) (by omega)) q⟩
  · show wp_X2_coldCourses_b10 _ _ _ _ _ _
    unfold wp_X2_coldCourses_b10
    obtain ⟨h1, h2⟩ := hI
    rw [e2]
    simp only [pn_in (show h < 2 ^ 31 by omega) (show 3 < 2 ^ 31 by decide), pn_in (show i < 2 ^ 31 by omega) (show 16 < 2 ^ 31 by decide), pn_cl (show h < 2 ^ 31 by omega), pn_cl (show i < 2 ^ 31 by omega), na1]
    rw [show 21 + 1 + h = 22 + h by omega]
    refine ⟨fun q => absurd q (nI_ge hi (by omega)), fun _ => ⟨by omega, by omega, isColdX_ok hd0 hb ?_⟩⟩
    rw [bI_0]
    refine ⟨fun e => ?_, fun e => ?_⟩
    · exact hk a ⟨by omega, by rw [cnt_f h1 (by unfold coP; rw [decide_eq_true_eq]; exact e)]; exact h2⟩
    · exact hk (a + 1) ⟨by omega, by rw [cnt_t h1 (by unfold coP; exact decide_eq_true (Classical.not_not.mp e)), h2]⟩
theorem stepM_ok {i : Nat} (hp : IPlan g 22 0 σ) (hN : g.gN ≤ 3) (hn : h < g.gN) (h1 : 1 ≤ i) (hi : i < 16) (hq : Q (σ.1 (22 + h) i - σ.1 (22 + h) (i - 1)) σ) : wp_X7_stepInto (nI h) (nI i) Q σ := by
  unfold wp_X7_stepInto
  obtain ⟨p1, -⟩ := hp h hn
  rw [nm16, nI_add, ns1 (by omega), pn_in (by omega) (by omega), pn_in (by omega) (by omega), pn_cl (by omega), pn_cl (by omega)]
  have q1 := p1 i hi
  have q2 := p1 (i - 1) (by omega)
  rw [show 0 + 16 * h + i = 16 * h + i by omega] at q1
  rw [show 0 + 16 * h + (i - 1) = 16 * h + i - 1 by omega] at q2
  rw [q1, q2]
  exact ⟨by omega, by omega, hq⟩
theorem leansM_ok (hd : IDim g σ) (hh : IHea g σ) (hp : IPlan g 22 0 σ) (hn : h < g.gN) (hq : Q (nI (gLe g σ h)) σ) : wp_X7_leansOf (nI h) Q σ := by
  obtain ⟨⟨d1, d2, d3, d4, d5⟩, -, -, -, -, e2, -⟩ := hd
  obtain ⟨⟨-, c1, c3⟩, -⟩ := hh h hn
  unfold wp_X7_leansOf
  rw [pn_in (by omega) (by omega), pn_cl (by omega), c1, na1]
  refine ⟨by omega, ?_⟩
  refine pk_loop (fun n i a => wp_X7_leansOf_l11 Q n (nI h) (nI a) (nI i) σ) (fun i a => g.co h + 1 ≤ i ∧ a = cntB (leP (σ.1 (22 + h))) (g.co h + 1) (i - (g.co h + 1))) g.gH (g.co h + 1) 0 (by omega) ⟨Nat.le_refl _, by rw [Nat.sub_self]; rfl⟩ (fun n a hI => ?_) (fun n i a hi hI hk => ?_)
  · show wp_X7_leansOf_b11 _ _ _ _ _ _
    unfold wp_X7_leansOf_b11
    rw [c0, e2]
    exact ⟨vin0_2, fun _ => by rw [hI.2]; exact hq, fun q => absurd (nI_le (Nat.le_refl _) (by omega)) q⟩
  · show wp_X7_leansOf_b11 _ _ _ _ _ _
    unfold wp_X7_leansOf_b11
    obtain ⟨h1, h2⟩ := hI
    rw [c0, e2]
    refine ⟨vin0_2, fun q => absurd q (nI_ge hi (by omega)), fun _ => stepM_ok hp d5 hn (by omega) (by omega) ?_⟩
    rw [na1, na1, na0]
    refine ⟨fun e => ?_, fun e => ?_⟩
    · exact hk a ⟨by omega, by rw [cnt_f h1 (by unfold leP; simpa using sub0.mp e)]; exact h2⟩
    · exact hk (a + 1) ⟨by omega, by rw [cnt_t h1 (by unfold leP; simpa using fun z => e (sub0.mpr z)), h2]⟩
theorem bendsM_ok (hd : IDim g σ) (hh : IHea g σ) (hp : IPlan g 22 0 σ) (hn : h < g.gN) (hq : Q (nI (gBe g σ h)) σ) : wp_X7_bendsOf (nI h) Q σ := by
  obtain ⟨⟨d1, d2, d3, d4, d5⟩, -, -, -, -, e2, -⟩ := hd
  obtain ⟨⟨-, c1, c3⟩, -⟩ := hh h hn
  unfold wp_X7_bendsOf
  rw [pn_in (by omega) (by omega), pn_cl (by omega), c1, show nI (g.co h) + 2 = nI (g.co h + 2) from nI_add _ 2]
  refine ⟨by omega, ?_⟩
  refine pk_loop (fun n i a => wp_X7_bendsOf_l11 Q n (nI h) (nI a) (nI i) σ) (fun i a => g.co h + 2 ≤ i ∧ a = cntB (beP (σ.1 (22 + h))) (g.co h + 2) (i - (g.co h + 2))) g.gH (g.co h + 2) 0 (by omega) ⟨Nat.le_refl _, by rw [Nat.sub_self]; rfl⟩ (fun n a hI => ?_) (fun n i a hi hI hk => ?_)
  · show wp_X7_bendsOf_b11 _ _ _ _ _ _
    unfold wp_X7_bendsOf_b11
    rw [c0, e2]
    exact ⟨vin0_2, fun _ => by rw [hI.2]; exact hq, fun q => absurd (nI_le (Nat.le_refl _) (by omega)) q⟩
  · show wp_X7_bendsOf_b11 _ _ _ _ _ _
    unfold wp_X7_bendsOf_b11
    obtain ⟨h1, h2⟩ := hI
    rw [c0, e2]
    refine ⟨vin0_2, fun q => absurd q (nI_ge hi (by omega)), fun _ => stepM_ok hp d5 hn (by omega) (by omega) ?_⟩
    rw [ns1 (by omega)]
    refine stepM_ok hp d5 hn (by omega) (by omega) ?_
    rw [na1, na1, na0, show i - 1 - 1 = i - 2 by omega]
    refine ⟨fun e => ?_, fun e => ?_⟩
    · exact hk a ⟨by omega, by rw [cnt_f h1 (by unfold beP; simpa using e)]; exact h2⟩
    · exact hk (a + 1) ⟨by omega, by rw [cnt_t h1 (by unfold beP; simpa using e), h2]⟩
theorem coldM_ok (hd : IDim g σ) (hb : IBar g σ) (hh : IHea g σ) (hp : IPlan g 22 0 σ) (hn : h < g.gN) (hq : Q (nI (gCo g σ h)) σ) : wp_X7_coldOf (nI h) Q σ := by
  have hd0 := hd
  obtain ⟨⟨d1, d2, d3, d4, d5⟩, -, -, -, -, e2, -⟩ := hd
  obtain ⟨⟨-, c1, c3⟩, -⟩ := hh h hn
  unfold wp_X7_coldOf
  rw [pn_in (by omega) (by omega), pn_cl (by omega), c1]
  refine ⟨by omega, ?_⟩
  refine pk_loop (fun n i a => wp_X7_coldOf_l9 Q n (nI h) (nI a) (nI i) σ) (fun i a => g.co h ≤ i ∧ a = cntB (coP g (σ.1 (22 + h))) (g.co h) (i - g.co h)) g.gH (g.co h) 0 (by omega) ⟨Nat.le_refl _, by rw [Nat.sub_self]; rfl⟩ (fun n a hI => ?_) (fun n i a hi hI hk => ?_)
  · show wp_X7_coldOf_b9 _ _ _ _ _ _
    unfold wp_X7_coldOf_b9
    rw [c0, e2]
    exact ⟨vin0_2, fun _ => by rw [hI.2]; exact hq, fun q => absurd (nI_le (Nat.le_refl _) (by omega)) q⟩
  · show wp_X7_coldOf_b9 _ _ _ _ _ _
    unfold wp_X7_coldOf_b9
    obtain ⟨h1, h2⟩ := hI
    rw [c0, e2, nm16, nI_add, pn_in (by omega) (by omega), pn_cl (by omega)]
    obtain ⟨p1, -⟩ := hp h hn
    have q1 := p1 i (by omega)
    rw [show 0 + 16 * h + i = 16 * h + i by omega] at q1
    rw [q1]
    refine ⟨vin0_2, fun q => absurd q (nI_ge hi (by omega)), fun _ => ⟨by omega, isColdM_ok hd0 hb ?_⟩⟩
    rw [bI_0, na1, na1, na0]
    refine ⟨fun e => ?_, fun e => ?_⟩
    · exact hk a ⟨by omega, by rw [cnt_f h1 (by unfold coP; rw [decide_eq_true_eq]; exact e)]; exact h2⟩
    · exact hk (a + 1) ⟨by omega, by rw [cnt_t h1 (by unfold coP; exact decide_eq_true (Classical.not_not.mp e)), h2]⟩
end PL
