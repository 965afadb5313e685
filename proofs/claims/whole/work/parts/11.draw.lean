/-! draws -/
def wnd (g : Geo) (σ : St) (h q : Nat) : Int32 := if pW g (σ.1 (22 + h) (g.gH - 1)) then σ.1 (16 + q) (σ.1 (22 + h) (g.gH - 1)).toNatClampNeg else 0
def dVal (g : Geo) (σ : St) (h q : Nat) : Int32 := (((nI (g.tu 3) * ((nI g.gH - 1) - nI (g.co h))) - (nI (g.tu 1) * nI (gBe g σ h))) - (nI (g.tu 2) * nI (gCo g σ h))) + wnd g σ h q
theorem cl3 : (3 : Int32).toNatClampNeg = 3 := by decide
theorem cl1 : (1 : Int32).toNatClampNeg = 1 := by decide
theorem cl2 : (2 : Int32).toNatClampNeg = 2 := by decide
theorem cl4 : (4 : Int32).toNatClampNeg = 4 := by decide
theorem cl5 : (5 : Int32).toNatClampNeg = 5 := by decide
theorem vi3 : vp_in (3 : Int32) 6 := by unfold vp_in; decide
theorem vi1 : vp_in (1 : Int32) 6 := by unfold vp_in; decide
theorem vi2 : vp_in (2 : Int32) 6 := by unfold vp_in; decide
theorem vi4 : vp_in (4 : Int32) 6 := by unfold vp_in; decide
theorem vi5 : vp_in (5 : Int32) 6 := by unfold vp_in; decide
section DR
variable {g : Geo} {σ : St} {Q : Int32 → St → Prop} {h q : Nat}
theorem above_ok (hd : IDim g σ) (hh : IHea g σ) (hn : h < g.gN) (hq : Q ((nI g.gH - 1) - nI (g.co h)) σ) : wp_X4_above (nI h) Q σ := by
  obtain ⟨⟨d1, d2, d3, d4, d5⟩, -, e2, -⟩ := hd
  obtain ⟨⟨c1, -, c3⟩, -⟩ := hh h hn
  unfold wp_X4_above
  rw [pn_in (by omega) (by omega), pn_cl (by omega), c1, e2]
  exact ⟨by omega, hq⟩
theorem strength_ok (hI : Inv g σ) (hn : h < g.gN) (h4 : q < 4) (hq : Q (dVal g σ h q) σ) : wp_X6_strength (nI h) (nI q) Q σ := by
  obtain ⟨hd, hb, hh, ht, hw, hp, -⟩ := hI
  have hd0 := hd
  obtain ⟨⟨d1, d2, d3, d4, d5⟩, -, e2, -⟩ := hd
  have b48 : ∀ s0 : Int32, s0 = wnd g σ h q → wp_X6_strength_b48 Q (nI h) s0 σ := by
    intro s0 hs
    unfold wp_X6_strength_b48
    rw [cl3, cl1, cl2, (ht 3 (by omega)).1]
    refine ⟨vi3, above_ok hd0 hh hn ⟨vi1, bendsX_ok hd0 hh hn ⟨vi2, coldX_ok hd0 hb hh hn ?_⟩⟩⟩
    rw [(ht 2 (by omega)).1, (ht 1 (by omega)).1, hs]
    exact hq
  unfold wp_X6_strength
  rw [e2, ns1 (by omega), pn_in (by omega) (by omega), pn_in (by omega) (by omega), pn_cl (by omega), pn_cl (by omega), show 21 + 1 + h = 22 + h by omega]
  refine ⟨by omega, by omega, fun v hv => hasColumn_ok hd0 ?_⟩
  subst hv
  rw [bI_0]
  refine ⟨fun a => b48 _ (by unfold wnd; rw [if_neg a]), fun a => ?_⟩
  have a := Classical.not_not.mp a
  obtain ⟨c, hc, ec⟩ := of_pin a
  rw [ec, pn_in (by omega) (by omega), pn_in (by omega) (by omega), pn_cl (by omega), pn_cl (by omega), show 15 + 1 + q = 16 + q by omega]
  refine ⟨by omega, by omega, b48 _ ?_⟩
  unfold wnd
  rw [if_pos a, ec, pn_cl (by omega)]
theorem drawOf_ok (hI : Inv g σ) (hn : h < g.gN) (h4 : q < 4) (hq : Q (dVal g σ h q) σ) : wp_X7_drawOf (nI h) (nI q) Q σ := by
  obtain ⟨hd, hb, hh, ht, hw, hp, -⟩ := hI
  have hd0 := hd
  obtain ⟨⟨d1, d2, d3, d4, d5⟩, -, -, -, -, e2, -⟩ := hd
  obtain ⟨⟨-, c1, c3⟩, -⟩ := hh h hn
  have b42 : ∀ s0 : Int32, s0 = wnd g σ h q → wp_X7_drawOf_b42 Q (nI h) s0 σ := by
    intro s0 hs
    unfold wp_X7_drawOf_b42
    rw [cl3, cl1, cl2, c0, pn_in (by omega) (by omega), pn_cl (by omega), (ht 3 (by omega)).2.1, (ht 1 (by omega)).2.1, e2, c1]
    refine ⟨vi3, vin0_2, by omega, vi1, bendsM_ok hd0 hh hp hn ⟨vi2, coldM_ok hd0 hb hh hp hn ?_⟩⟩
    rw [(ht 2 (by omega)).2.1, hs]
    exact hq
  unfold wp_X7_drawOf
  obtain ⟨p1, -⟩ := hp h hn
  have q1 := p1 (g.gH - 1) (by omega)
  rw [show 0 + 16 * h + (g.gH - 1) = 16 * h + g.gH - 1 by omega] at q1
  rw [c0, e2, nm16, nI_add, ns1 (by omega), pn_in (by omega) (by omega), pn_cl (by omega), q1]
  refine ⟨vin0_2, by omega, fun v hv => isIn_ok hd0 ?_⟩
  subst hv
  rw [bI_0]
  refine ⟨fun a => b42 _ (by unfold wnd; rw [if_neg a]), fun a => ?_⟩
  have a := Classical.not_not.mp a
  obtain ⟨c, hc, ec⟩ := of_pin a
  rw [ec, nm10, nI_add, pn_in (by omega) (by omega), pn_cl (by omega)]
  refine ⟨by omega, b42 _ ?_⟩
  unfold wnd
  rw [if_pos a, ec, pn_cl (by omega)]
  exact (hw q h4 c (by omega)).1
theorem hasQuarter_ok {x : Int32} (hq : Q (bI (0 ≤ x.toInt ∧ x.toInt < 4)) σ) : wp_X6_hasQuarter x Q σ := by
  unfold wp_X6_hasQuarter
  have e4 : (4 : Int32).toInt = 4 := by decide
  refine ⟨fun a => ?_, fun a => ⟨fun b => ?_, fun b => ?_⟩⟩ <;> simp only [tI_lt, tI_le, z0, e4] at *
  · rwa [bI_f (by omega)] at hq
  · rwa [bI_f (by omega)] at hq
  · rwa [bI_t (by omega)] at hq
theorem quarter_eq {x : Int32} : ((0 : Int32).toInt ≤ x.toInt ∧ x.toInt ≤ (3 : Int32).toInt) ↔ (0 ≤ x.toInt ∧ x.toInt < 4) := by
  have e3 : (3 : Int32).toInt = 3 := by decide
  rw [z0, e3]; omega
theorem inq_ok {x : Int32} (hq : Q (bI (0 ≤ x.toInt ∧ x.toInt < 4)) σ) : wp_X7_in x 0 3 Q σ := by
  refine in_ok ?_
  rwa [bI_c quarter_eq]
end DR
section OP3
variable {g : Geo} {σ : St} {K : St → Prop} {F : Prop}
theorem op_draw (hI : Inv g σ) (hK : K σ) (x y : Int32) : wp_X6_draw x y (fun r σ1 => wp_X7_draw x y (fun r2 σ2 => (r = r2 → K σ2) ∧ (¬ r = r2 → F)) σ1) σ := by
  have hd := hI.1
  have hd' := hd.1
  unfold wp_X6_draw
  refine hasHearth_ok hd ?_
  rw [bI_0]
  have bad : (¬ pN g x ∨ ¬ (0 ≤ y.toInt ∧ y.toInt < 4)) → wp_X7_draw x y (fun r2 σ2 => ((-1000000 : Int32) = r2 → K σ2) ∧ (¬ (-1000000 : Int32) = r2 → F)) σ := by
    intro hb
    unfold wp_X7_draw
    refine isHearth_ok hd ?_
    rw [bI_0]
    refine ⟨fun _ => eq_k rfl hK, fun a => inq_ok ?_⟩
    rw [bI_0]
    exact ⟨fun _ => eq_k rfl hK, fun b => absurd hb (by simp [Classical.not_not.mp a, Classical.not_not.mp b])⟩
  refine ⟨fun a => bad (Or.inl a), fun a => hasQuarter_ok ?_⟩
  rw [bI_0]
  refine ⟨fun b => bad (Or.inr b), fun b => ?_⟩
  have a := Classical.not_not.mp a
  have b := Classical.not_not.mp b
  obtain ⟨h, hh, rfl⟩ := of_pin a
  obtain ⟨q, hq, rfl⟩ := of_pin (n := 4) b
  refine strength_ok hI hh hq ?_
  unfold wp_X7_draw
  refine isHearth_ok hd ?_
  rw [bI_t a]
  refine ⟨fun e => absurd e (by decide), fun _ => inq_ok ?_⟩
  rw [bI_t b]
  exact ⟨fun e => absurd e (by decide), fun _ => drawOf_ok hI hh hq (eq_k rfl hK)⟩
theorem op_smokes (hI : Inv g σ) (hK : K σ) (x y z : Int32) : wp_X6_smokes x y z (fun r σ1 => wp_X7_smokes x y z (fun r2 σ2 => (r = r2 → K σ2) ∧ (¬ r = r2 → F)) σ1) σ := by
  have hd := hI.1
  have hd' := hd.1
  have bad : (¬ pN g x ∨ ¬ pN g y ∨ ¬ (0 ≤ z.toInt ∧ z.toInt < 4)) → wp_X7_smokes x y z (fun r2 σ2 => ((-1 : Int32) = r2 → K σ2) ∧ (¬ (-1 : Int32) = r2 → F)) σ := by
    intro hb
    unfold wp_X7_smokes
    refine isHearth_ok hd ?_
    rw [bI_0]
    refine ⟨fun _ => eq_k rfl hK, fun a => isHearth_ok hd ?_⟩
    rw [bI_0]
    refine ⟨fun _ => eq_k rfl hK, fun c => inq_ok ?_⟩
    rw [bI_0]
    exact ⟨fun _ => eq_k rfl hK, fun b => absurd hb (by simp [Classical.not_not.mp a, Classical.not_not.mp b, Classical.not_not.mp c])⟩
  unfold wp_X6_smokes
  refine hasHearth_ok hd ?_
  rw [bI_0]
  refine ⟨fun a => bad (Or.inl a), fun a => hasHearth_ok hd ?_⟩
  rw [bI_0]
  refine ⟨fun b => bad (Or.inr (Or.inl b)), fun b => hasQuarter_ok ?_⟩
  rw [bI_0]
  refine ⟨fun c => bad (Or.inr (Or.inr c)), fun c => ?_⟩
  have a := Classical.not_not.mp a
  have b := Classical.not_not.mp b
  have c := Classical.not_not.mp c
  obtain ⟨h, hh, rfl⟩ := of_pin a
  obtain ⟨o, ho, rfl⟩ := of_pin b
  obtain ⟨q, hq, rfl⟩ := of_pin (n := 4) c
  refine strength_ok hI hh hq ?_
  obtain ⟨-, -, c1, c2, -⟩ := hI.2.2.1 h hh
  have t5 := hI.2.2.2.1 5 (by omega)
  have M : ∀ v : Int32, (v = 1 ↔ (dVal g σ h q < nI (g.ne h) ∨ (¬ o = h ∧ dVal g σ h q < dVal g σ o q - nI (g.tu 5)))) → (v = 0 ∨ v = 1) → wp_X7_smokes (nI h) (nI o) (nI q) (fun r2 σ2 => (v = r2 → K σ2) ∧ (¬ v = r2 → F)) σ := by
    intro v hv h01
    unfold wp_X7_smokes
    refine isHearth_ok hd ?_
    rw [bI_t a]
    refine ⟨fun e => absurd e (by decide), fun _ => isHearth_ok hd ?_⟩
    rw [bI_t b]
    refine ⟨fun e => absurd e (by decide), fun _ => inq_ok ?_⟩
    rw [bI_t c]
    refine ⟨fun e => absurd e (by decide), fun _ => drawOf_ok hI hh hq ?_⟩
    rw [pn_in (by omega) (by omega), pn_cl (by omega), c2, cl5, pn_eq (by omega) (by omega)]
    refine ⟨by omega, fun e1 => eq_k (hv.mpr (Or.inl e1)) hK, fun e1 => ⟨fun e2 => eq_k ?_ hK, fun e2 => drawOf_ok hI ho hq ⟨vi5, ?_⟩⟩⟩
    · rcases h01 with e | e
      · exact e
      · exact absurd (hv.mp e) (by simp [e1, e2])
    · rw [t5.2.1]
      refine ⟨fun e3 => eq_k ?_ hK, fun e3 => eq_k (hv.mpr (Or.inr ⟨e2, by simp only [tI_lt, tI_le] at *; omega⟩)) hK⟩
      rcases h01 with e | e
      · exact e
      · have := hv.mp e
        simp only [tI_lt, tI_le] at *
        omega
  unfold wp_X6_wanted
  rw [pn_in (by omega) (by omega), pn_cl (by omega), c1, pn_eq (by omega) (by omega)]
  refine ⟨by omega, fun e1 => ⟨fun e2 => M 0 ?_ (Or.inl rfl), fun e2 => M 1 ?_ (Or.inr rfl)⟩, fun e1 => strength_ok hI ho hq ⟨vi5, fun v hv => ?_⟩⟩
  · constructor
    · intro z; exact absurd z (by decide)
    · intro z
      simp only [tI_lt, tI_le] at *
      omega
  · constructor
    · intro _; left
      simp only [tI_lt, tI_le] at *
      omega
    · intro _; rfl
  · rw [cl5, t5.1] at hv
    refine ⟨fun e2 => M 0 ?_ (Or.inl rfl), fun e2 => M 1 ?_ (Or.inr rfl)⟩
    · constructor
      · intro z; exact absurd z (by decide)
      · intro z
        subst hv
        by_cases k : nI (g.ne h) < dVal g σ o q - nI (g.tu 5)
        · rw [if_pos k] at e2
          simp only [tI_lt, tI_le] at *
          omega
        · rw [if_neg k] at e2
          simp only [tI_lt, tI_le] at *
          omega
    · constructor
      · intro _
        subst hv
        by_cases k : nI (g.ne h) < dVal g σ o q - nI (g.tu 5)
        · rw [if_pos k] at e2
          simp only [tI_lt, tI_le] at *
          omega
        · rw [if_neg k] at e2
          simp only [tI_lt, tI_le] at *
          omega
      · intro _; rfl
end OP3
