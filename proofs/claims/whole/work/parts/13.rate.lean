/-! rate, mend -/
theorem sJJ (σ : St) (k i : Nat) (a b : Int64) : sJ (sJ σ k i a) k i b = sJ σ k i b := by
  unfold sJ sL
  refine Prod.ext rfl (funext fun x => ?_)
  by_cases h : x = k
  · subst h
    simp only [if_true]
    funext y
    simp only [vp_updL]
    by_cases h2 : y = i <;> simp [h2]
  · simp [h]
theorem sJ_at (σ : St) (k i : Nat) (a : Int64) : (sJ σ k i a).2 k i = a := by rw [sJ_2, if_pos ⟨rfl, rfl⟩]
theorem sJ_ot (σ : St) (a : Int64) : (sJ σ 0 14 a).2 75 0 = σ.2 75 0 := by rw [sJ_2, if_neg (by omega)]
theorem e_n0 {n : Nat} : (nI n).toNatClampNeg = n ∨ True := Or.inr trivial
section OP5
variable {g : Geo} {σ : St} {K : St → Prop} {F : Prop}
theorem rate_inv (hI : Inv g σ) {a b : Int64} (e : a = b) : Inv g (sJ (sJ σ 0 14 a) 75 0 b) := by
  refine hI.setRes rfl ?_
  rw [sJ_at, sJ_2, if_neg (by omega), sJ_at, e]
theorem op_rate (hI : Inv g σ) (hK : ∀ τ, Inv g τ → K τ) (x y : Int32) : wp_X6_rate x y (fun r σ1 => wp_X7_rate x y (fun r2 σ2 => (r = r2 → K σ2) ∧ (¬ r = r2 → F)) σ1) σ := by
  have hd := hI.1
  have hd' := hd.1
  have hh := hI.2.2.1
  have hp := hI.2.2.2.2.2.1
  have hr := hI.2.2.2.2.2.2.2.2.2.1
  have k0 := hK σ hI
  unfold wp_X6_rate
  refine hasHearth_ok hd (i2_eq (fun a => ?_) (fun n => ?_))
  · obtain ⟨h, hn, rfl⟩ := of_pin a
    obtain ⟨⟨h1, h2, h3⟩, -, h4, h5, -⟩ := hh h hn
    have e78 := hd.2.2.2.2.2.1
    have e79 := hd.2.2.2.2.2.2
    have e43 := hd.2.2.2.1
    refine ⟨fun e => ?_, fun e0 => ⟨fun e => ?_, fun e1 => ⟨fun e => ?_, fun e2 => ⟨fun e => ?_, fun e3 => ⟨fun e => ?_, fun e4 => ⟨fun e => ?_, fun e5 => ?_⟩⟩⟩⟩⟩⟩
    · subst e
      unfold wp_X6_rateFlue
      simp only [sJJ, sJ_at]
      refine above_ok hd hh hn ?_
      unfold wp_X7_rate
      refine in_ok (g_t (by decide) (isHearth_ok hd (g_t a ?_)))
      rw [c0, pn_in (by omega) (by omega), pn_cl (by omega)]
      refine ⟨vin0_2, by omega, fun w hw => ?_⟩
      have hw : w = (nI g.gH - 1) - nI (g.co h) := by rw [hw]; show (σ.1 78 0 - 1) - σ.1 80 h = _; rw [e78, h2]
      subst hw
      have eT : (σ.2 75 0 + 1) = σ.2 75 0 + 1 := by
        rfl
      rw [hr, sJ_ot]
      refine ⟨fun _ => eq_k ?_ (hK _ (rate_inv hI eT)), fun q => absurd rfl q⟩
      rfl
    · subst e
      unfold wp_X6_rateStraight wp_X6_rateFlue
      simp only [sJJ, sJ_at]
      refine above_ok hd hh hn ?_
      refine leansX_ok hd hh hn ?_
      unfold wp_X7_rate
      refine in_ok (g_t (by decide) (isHearth_ok hd (g_t a ?_)))
      rw [c0, pn_in (by omega) (by omega), pn_cl (by omega)]
      refine ⟨vin0_2, by omega, fun w hw => ?_⟩
      have hw : w = (nI g.gH - 1) - nI (g.co h) := by rw [hw]; show (σ.1 78 0 - 1) - σ.1 80 h = _; rw [e78, h2]
      subst hw
      have eT : ((σ.2 75 0 + 10) + 1) = σ.2 75 0 + 11 := by
        rw [Int64.add_assoc]; rfl
      rw [hr, sJ_ot]
      refine ⟨fun q => absurd q (by decide), fun _ => ⟨fun _ => leansM_ok hd hh hp hn (eq_k ?_ (hK _ (rate_inv hI eT))), fun q => absurd rfl q⟩⟩
      rfl
    · subst e
      unfold wp_X6_rateLean wp_X6_rateFlue
      simp only [sJJ, sJ_at]
      refine above_ok hd hh hn ?_
      refine bendsX_ok hd hh hn ?_
      unfold wp_X7_rate
      refine in_ok (g_t (by decide) (isHearth_ok hd (g_t a ?_)))
      rw [c0, pn_in (by omega) (by omega), pn_cl (by omega)]
      refine ⟨vin0_2, by omega, fun w hw => ?_⟩
      have hw : w = (nI g.gH - 1) - nI (g.co h) := by rw [hw]; show (σ.1 78 0 - 1) - σ.1 80 h = _; rw [e78, h2]
      subst hw
      have eT : ((σ.2 75 0 + 100) + 1) = σ.2 75 0 + 101 := by
        rw [Int64.add_assoc]; rfl
      rw [hr, sJ_ot]
      refine ⟨fun q => absurd q (by decide), fun _ => ⟨fun q => absurd q (by decide), fun _ => ⟨fun _ => bendsM_ok hd hh hp hn (eq_k ?_ (hK _ (rate_inv hI eT))), fun q => absurd rfl q⟩⟩⟩
      rfl
    · subst e
      unfold wp_X6_rateGather wp_X6_rateLean wp_X6_rateFlue
      simp only [sJJ, sJ_at]
      refine above_ok hd hh hn ?_
      refine bendsX_ok hd hh hn ?_
      unfold wp_X7_rate
      refine in_ok (g_t (by decide) (isHearth_ok hd (g_t a ?_)))
      rw [c0, pn_in (by omega) (by omega), pn_cl (by omega)]
      refine ⟨vin0_2, by omega, fun w hw => ?_⟩
      have hw : w = (nI g.gH - 1) - nI (g.co h) := by rw [hw]; show (σ.1 78 0 - 1) - σ.1 80 h = _; rw [e78, h2]
      subst hw
      have eT : (((σ.2 75 0 + 1000) + 100) + 1) = σ.2 75 0 + 1101 := by
        rw [Int64.add_assoc, Int64.add_assoc]; rfl
      rw [hr, sJ_ot]
      refine ⟨fun q => absurd q (by decide), fun _ => ⟨fun q => absurd q (by decide), fun _ => ⟨fun q => absurd q (by decide), fun _ => ⟨fun _ => bendsM_ok hd hh hp hn (eq_k ?_ (hK _ (rate_inv hI eT))), fun q => absurd rfl q⟩⟩⟩⟩
      exact Int32.mul_comm _ _
    · subst e
      unfold wp_X6_rateShared wp_X6_rateStraight wp_X6_rateFlue
      simp only [sJJ, sJ_at]
      refine above_ok hd hh hn ?_
      refine leansX_ok hd hh hn ?_
      unfold wp_X7_rate
      refine in_ok (g_t (by decide) (isHearth_ok hd (g_t a ?_)))
      rw [c0, pn_in (by omega) (by omega), pn_cl (by omega)]
      refine ⟨vin0_2, by omega, fun w hw => ?_⟩
      have hw : w = (nI g.gH - 1) - nI (g.co h) := by rw [hw]; show (σ.1 78 0 - 1) - σ.1 80 h = _; rw [e78, h2]
      subst hw
      have eT : (((σ.2 75 0 + 10000) + 10) + 1) = σ.2 75 0 + 10011 := by
        rw [Int64.add_assoc, Int64.add_assoc]; rfl
      rw [hr, sJ_ot]
      refine ⟨fun q => absurd q (by decide), fun _ => ⟨fun q => absurd q (by decide), fun _ => ⟨fun q => absurd q (by decide), fun _ => ⟨fun q => absurd q (by decide), fun _ => ⟨fun _ => leansM_ok hd hh hp hn ⟨vin0_2, eq_k ?_ (hK _ (rate_inv hI eT))⟩, fun q => absurd rfl q⟩⟩⟩⟩⟩
      show _ + σ.1 4 3 = _ + σ.1 79 0; rw [e43, e79]; rfl
    · subst e
      unfold wp_X6_rateOld wp_X6_rateFlue
      simp only [sJJ, sJ_at]
      refine above_ok hd hh hn ?_
      rw [pn_in (by omega) (by omega), pn_cl (by omega)]
      refine ⟨by omega, ?_⟩
      unfold wp_X7_rate
      refine in_ok (g_t (by decide) (isHearth_ok hd (g_t a ?_)))
      rw [c0, pn_in (by omega) (by omega), pn_cl (by omega)]
      refine ⟨vin0_2, by omega, fun w hw => ?_⟩
      have hw : w = (nI g.gH - 1) - nI (g.co h) := by rw [hw]; show (σ.1 78 0 - 1) - σ.1 80 h = _; rw [e78, h2]
      subst hw
      have eT : ((σ.2 75 0 + 100000) + 1) = σ.2 75 0 + 100001 := by
        rw [Int64.add_assoc]; rfl
      rw [hr, sJ_ot]
      refine ⟨fun q => absurd q (by decide), fun _ => ⟨fun q => absurd q (by decide), fun _ => ⟨fun q => absurd q (by decide), fun _ => ⟨fun q => absurd q (by decide), fun _ => ⟨fun q => absurd q (by decide), fun _ => ⟨by omega, eq_k ?_ (hK _ (rate_inv hI eT))⟩⟩⟩⟩⟩⟩
      show _ - σ.1 8 h = _ - σ.1 82 h; rw [h4, h5]
    · unfold wp_X7_rate
      refine in_ok (g_f ?_ (eq_k rfl k0))
      simp only [tI_eq, z0, t_1, t_2, t_3, t_5, show (4 : Int32).toInt = 4 from by decide] at *
      omega
  · unfold wp_X7_rate
    exact in_ok (i2_eq (fun _ => isHearth_ok hd (g_f n (eq_k rfl k0))) (fun _ => eq_k rfl k0))
end OP5
section MEND
variable {g : Geo} {σ : St} {K : St → Prop} {F : Prop}
theorem sub_ti {a b : Int32} (h1 : -100000 ≤ a.toInt) (h2 : a.toInt ≤ 100000) (h3 : -100000 ≤ b.toInt) (h4 : b.toInt ≤ 100000) : (a - b).toInt = a.toInt - b.toInt := by
  rw [Int32.toInt_sub]
  exact Int.bmod_eq_of_le (by omega) (by omega)
theorem add_ti {a b : Int32} (h1 : -100000 ≤ a.toInt) (h2 : a.toInt ≤ 100000) (h3 : -100000 ≤ b.toInt) (h4 : b.toInt ≤ 100000) : (a + b).toInt = a.toInt + b.toInt := by
  rw [Int32.toInt_add]
  exact Int.bmod_eq_of_le (by omega) (by omega)
theorem mul_le_mul2 {a b c d : Nat} (h1 : a ≤ c) (h2 : b ≤ d) : a * b ≤ c * d := Nat.mul_le_mul h1 h2
theorem dB (hI : Inv g σ) {h q : Nat} (hn : h < g.gN) (h4 : q < 4) : -1000 ≤ (dVal g σ h q).toInt ∧ (dVal g σ h q).toInt ≤ 1000 := by
  have hd := hI.1.1
  obtain ⟨⟨-, -, c3⟩, -⟩ := hI.2.2.1 h hn
  have t1 := hI.2.2.2.1 1 (by omega)
  have t2 := hI.2.2.2.1 2 (by omega)
  have t3 := hI.2.2.2.1 3 (by omega)
  rw [show tuM 1 = 20 from rfl] at t1
  rw [show tuM 2 = 20 from rfl] at t2
  rw [show tuM 3 = 20 from rfl] at t3
  have w : -9 ≤ (wnd g σ h q).toInt ∧ (wnd g σ h q).toInt ≤ 9 := by
    unfold wnd
    split
    · next hc =>
      obtain ⟨c, hc2, ec⟩ := of_pin hc
      rw [ec, pn_cl (by omega)]
      exact (hI.2.2.2.2.1 q h4 c (by omega)).2
    · decide
  have m1 := mul_le_mul2 t3.2.2.2 (show g.gH - 1 - g.co h ≤ 15 by omega)
  have b1 : gBe g σ h ≤ 16 := Nat.le_trans (cntB_le _ _ _) (by omega)
  have b2 : gCo g σ h ≤ 16 := Nat.le_trans (cntB_le _ _ _) (by omega)
  have m2 := mul_le_mul2 t1.2.2.2 b1
  have m3 := mul_le_mul2 t2.2.2.2 b2
  unfold dVal
  rw [ns1 (by omega), pk_sub (by omega), pk_mul, pk_mul, pk_mul]
  generalize g.tu 3 * (g.gH - 1 - g.co h) = A at *
  generalize g.tu 1 * gBe g σ h = B at *
  generalize g.tu 2 * gCo g σ h = C at *
  have eA := tI_n (show A < 2 ^ 31 by omega)
  have eB := tI_n (show B < 2 ^ 31 by omega)
  have eC := tI_n (show C < 2 ^ 31 by omega)
  have e1 : (nI A - nI B).toInt = A - B := by rw [sub_ti (by omega) (by omega) (by omega) (by omega), eA, eB]
  have e2 : (nI A - nI B - nI C).toInt = A - B - C := by rw [sub_ti (by omega) (by omega) (by omega) (by omega), e1, eC]
  rw [add_ti (by omega) (by omega) (by omega) (by omega), e2]
  omega
theorem wanted_ok {Q : Int32 → St → Prop} {h o q : Nat} (hI : Inv g σ) (hn : h < g.gN) (ho : o < g.gN) (h4 : q < 4) (hq : ∀ v : Int32, v.toInt = (if o = h then (g.ne h : Int) else max (g.ne h : Int) ((dVal g σ o q).toInt - g.tu 5)) → Q v σ) : wp_X6_wanted (nI h) (nI o) (nI q) Q σ := by
  have hd := hI.1.1
  obtain ⟨-, -, n1, n2, n3⟩ := hI.2.2.1 h hn
  have t5 := hI.2.2.2.1 5 (by omega)
  rw [show tuM 5 = 99 from rfl] at t5
  have e5 := tI_n (show g.tu 5 < 2 ^ 31 by omega)
  have en := tI_n (show g.ne h < 2 ^ 31 by omega)
  have hb := dB hI ho h4
  unfold wp_X6_wanted
  rw [pn_in (by omega) (by omega), pn_cl (by omega), n1, pn_eq (by omega) (by omega)]
  refine ⟨by omega, fun e => hq _ (by rw [if_pos e, en]), fun e => strength_ok hI ho h4 ⟨vi5, fun v hv => hq v ?_⟩⟩
  rw [cl5, t5.1] at hv
  rw [if_neg e, hv]
  have es : (dVal g σ o q - nI (g.tu 5)).toInt = (dVal g σ o q).toInt - g.tu 5 := by rw [sub_ti (by omega) (by omega) (by omega) (by omega), e5]
  by_cases k : nI (g.ne h) < dVal g σ o q - nI (g.tu 5)
  · rw [if_pos k, es]
    rw [tI_lt, en, es] at k
    omega
  · rw [if_neg k, en]
    rw [tI_lt, en, es] at k
    omega
def aX (g : Geo) (σ : St) (h q o : Nat) : Int := (if o = h then (g.ne h : Int) else max (g.ne h : Int) ((dVal g σ o q).toInt - g.tu 5)) - (dVal g σ h q).toInt
def bM (g : Geo) (σ : St) (h q o : Nat) : Int := (if o = h then (g.ne h : Int) else (dVal g σ o q).toInt - g.tu 5) - (dVal g σ h q).toInt
def LX (g : Geo) (σ : St) (h q o : Nat) (v : Int32) : Prop := 0 ≤ v.toInt ∧ v.toInt ≤ 3000 ∧ ∀ P : Int, 0 ≤ P → (v.toInt ≤ P ↔ ∀ q' o', o' < g.gN → q' < 4 → (q' < q ∨ (q' = q ∧ o' < o)) → aX g σ h q' o' ≤ P)
def LM (g : Geo) (σ : St) (h q o : Nat) (m : Nat) : Prop := m ≤ 3000 ∧ ∀ p : Nat, (m ≤ p ↔ ∀ q' o', o' < g.gN → q' < 4 → (q' < q ∨ (q' = q ∧ o' < o)) → bM g σ h q' o' ≤ ((p * g.tu 3 : Nat) : Int))
theorem ceil_le {L t p : Nat} (ht : 1 ≤ t) : (L + t - 1) / t ≤ p ↔ L ≤ p * t := by
  rw [← Nat.lt_succ_iff, Nat.div_lt_iff_lt_mul (by omega), Nat.succ_mul]
  omega
theorem mendM_step {Q : Int32 → St → Prop} {K14 : Int32 → Int32 → Int32 → St → Prop} {K22 : Int32 → Int32 → Int32 → Int32 → St → Prop} {h q o w : Nat} (hI : Inv g σ) (hn : h < g.gN) (hq : q < 4) (ho : o < g.gN) (hw : LM g σ h q o w) (hk : ∀ w', LM g σ h q (o + 1) w' → K22 (nI h) (nI w') (nI q) (nI (o + 1)) σ) : wp_X7_mend_b22 Q K14 K22 (nI h) (nI w) (nI q) (nI o) σ := by
  have hd' := hI.1.1
  have e79 := hI.1.2.2.2.2.2.2
  obtain ⟨-, -, n1, n2, n3⟩ := hI.2.2.1 h hn
  have t3 := hI.2.2.2.1 3 (by omega)
  rw [show tuM 3 = 20 from rfl, show tuL 3 = 1 from rfl] at t3
  have t5 := hI.2.2.2.1 5 (by omega)
  rw [show tuM 5 = 99 from rfl] at t5
  have e5 := tI_n (show g.tu 5 < 2 ^ 31 by omega)
  have en := tI_n (show g.ne h < 2 ^ 31 by omega)
  have d1 := dB hI ho hq
  have d2 := dB hI hn hq
  have hw1 := hw.1
  have fin : ∀ u : Nat, u ≤ 3000 → (∀ p : Nat, u ≤ p ↔ bM g σ h q o ≤ ((p * g.tu 3 : Nat) : Int)) → wp_X7_mend_b102 Q K14 K22 (nI h) (nI w) (nI q) (nI o) (nI u) σ := by
    intro u hu hp
    have up : ∀ z : Nat, z ≤ 3000 → (∀ p, z ≤ p ↔ (w ≤ p ∧ u ≤ p)) → LM g σ h q (o + 1) z := by
      intro z hz hzp
      refine ⟨hz, fun p => (hzp p).trans ⟨fun H q' o' a1 a2 a3 => ?_, fun H => ⟨(hw.2 p).mpr fun q' o' a1 a2 a3 => H q' o' a1 a2 (by omega), (hp p).mpr (H q o ho hq (by omega))⟩⟩⟩
      by_cases e : q' = q ∧ o' = o
      · rw [e.1, e.2]; exact (hp p).mp H.2
      · exact (hw.2 p).mp H.1 q' o' a1 a2 (by omega)
    unfold wp_X7_mend_b102
    rw [pn_le (by omega) (by omega), na1]
    exact ⟨fun c => hk w (up w hw1 (by omega)), fun c => hk u (up u hu (by omega))⟩
  have b62 : ∀ s0 : Int32, s0.toInt - (dVal g σ h q).toInt = bM g σ h q o → -1200 ≤ s0.toInt → s0.toInt ≤ 1200 → wp_X7_mend_b62 Q K14 K22 (nI h) (nI w) (nI q) (nI o) s0 σ := by
    intro s0 hs h1 h2
    unfold wp_X7_mend_b62
    refine drawOf_ok hI hn hq ?_
    have es : (s0 - dVal g σ h q).toInt = bM g σ h q o := by rw [sub_ti (by omega) (by omega) (by omega) (by omega), hs]
    rw [cl3, t3.2.1]
    refine ⟨fun c => ⟨vi3, vi3, ?_, ?_⟩, fun c => ?_⟩
    · rw [show (0 : Int32) = nI 0 from rfl, pn_eq (by omega) (by omega)]; omega
    · rw [tI_lt, z0, es] at c
      obtain ⟨L, hL, eL⟩ := of_pin (x := s0 - dVal g σ h q) (n := 2500) ⟨by omega, by omega⟩
      have hLb : (L : Int) = bM g σ h q o := by rw [← es, eL, tI_n (by omega)]
      rw [eL, nI_add, ns1 (by omega), pk_div (by omega) (by omega) (by omega)]
      have hc := fun p => ceil_le (L := L) (p := p) t3.2.2.1
      refine fin _ ?_ (fun p => (hc p).trans (by rw [← hLb]; omega))
      refine (hc 3000).mpr ?_
      have : 3000 * 1 ≤ 3000 * g.tu 3 := Nat.mul_le_mul_left _ t3.2.2.1
      omega
    · rw [tI_lt, z0, es] at c
      exact fin 0 (by omega) (fun p => ⟨fun _ => by omega, fun _ => by omega⟩)
  unfold wp_X7_mend_b22
  rw [c0, e79, pn_le (by omega) (by omega), pn_eq (by omega) (by omega), pn_in (by omega) (by omega), pn_cl (show h < 2 ^ 31 by omega), n2]
  refine ⟨vin0_2, fun c => absurd c (by omega), fun _ => ⟨fun e => ⟨by omega, b62 _ ?_ (by omega) (by omega)⟩, fun e => drawOf_ok hI ho hq ⟨vi5, ?_⟩⟩⟩
  · rw [en]; unfold bM; rw [if_pos e]
  · rw [cl5, t5.2.1]
    have es : (dVal g σ o q - nI (g.tu 5)).toInt = (dVal g σ o q).toInt - g.tu 5 := by rw [sub_ti (by omega) (by omega) (by omega) (by omega), e5]
    exact b62 _ (by rw [es]; unfold bM; rw [if_neg e]) (by omega) (by omega)
theorem mendX_step {Q : Int32 → St → Prop} {K17 : Int32 → Int32 → Int32 → St → Prop} {K25 : Int32 → Int32 → Int32 → Int32 → St → Prop} {h q o : Nat} {w : Int32} (hI : Inv g σ) (hn : h < g.gN) (hq : q < 4) (ho : o < g.gN) (hw : LX g σ h q o w) (hk : ∀ w', LX g σ h q (o + 1) w' → K25 (nI h) w' (nI q) (nI (o + 1)) σ) : wp_X6_mend_b25 Q K17 K25 (nI h) w (nI q) (nI o) σ := by
  have hd' := hI.1.1
  have e43 := hI.1.2.2.2.1
  obtain ⟨-, -, n1, n2, n3⟩ := hI.2.2.1 h hn
  have t5 := hI.2.2.2.1 5 (by omega)
  rw [show tuM 5 = 99 from rfl] at t5
  have d1 := dB hI ho hq
  have d2 := dB hI hn hq
  unfold wp_X6_mend_b25
  rw [e43, pn_le (by omega) (by omega)]
  refine ⟨fun c => absurd c (by omega), fun _ => wanted_ok hI hn ho hq (fun v hv => strength_ok hI hn hq (fun u hu => ?_))⟩
  have vb : -1200 ≤ v.toInt ∧ v.toInt ≤ 1200 := by
    rw [hv]
    split <;> omega
  have ea : (v - dVal g σ h q).toInt = aX g σ h q o := by
    rw [sub_ti (by omega) (by omega) (by omega) (by omega), hv]
    rfl
  obtain ⟨w1, w2, w3⟩ := hw
  have hu2 : u.toInt = max w.toInt (aX g σ h q o) := by
    rw [hu]
    by_cases c : w < v - dVal g σ h q
    · rw [if_pos c]
      rw [tI_lt] at c
      omega
    · rw [if_neg c]
      rw [tI_lt] at c
      omega
  have ab : aX g σ h q o ≤ 2500 := by
    rw [← ea, sub_ti (by omega) (by omega) (by omega) (by omega)]
    omega
  rw [na1]
  refine hk u ⟨by omega, by omega, fun P hP => ?_⟩
  constructor
  · intro H q' o' a1 a2 a3
    by_cases e : q' = q ∧ o' = o
    · rw [e.1, e.2]; omega
    · exact (w3 P hP).mp (by omega) q' o' a1 a2 (by omega)
  · intro H
    have h1 := (w3 P hP).mpr fun q' o' a1 a2 a3 => H q' o' a1 a2 (by omega)
    have h2 := H q o ho hq (by omega)
    omega
theorem op_mend (hI : Inv g σ) (hK : K σ) (x : Int32) : wp_X6_mend x (fun r σ1 => wp_X7_mend x (fun r2 σ2 => (r = r2 → K σ2) ∧ (¬ r = r2 → F)) σ1) σ := by
  have hd := hI.1
  have hd' := hd.1
  have hh := hI.2.2.1
  have e43 := hd.2.2.2.1
  have e79 := hd.2.2.2.2.2.2
  unfold wp_X6_mend
  refine hasHearth_ok hd (i2_eq (fun a => ?_) (fun n => ?_))
  · obtain ⟨h, hn, rfl⟩ := of_pin a
    obtain ⟨-, -, n1, n2, n3⟩ := hh h hn
    have t3 := hI.2.2.2.1 3 (by omega)
    rw [show tuM 3 = 20 from rfl, show tuL 3 = 1 from rfl] at t3
    have t5 := hI.2.2.2.1 5 (by omega)
    rw [show tuM 5 = 99 from rfl] at t5
    have bA : ∀ q o, q < 4 → o < g.gN → aX g σ h q o ≤ 2100 := by
      intro q o hq ho
      have b1 := dB hI ho hq
      have b2 := dB hI hn hq
      unfold aX
      split <;> omega
    have bB : ∀ q o, q < 4 → o < g.gN → bM g σ h q o ≤ 2100 := by
      intro q o hq ho
      have b1 := dB hI ho hq
      have b2 := dB hI hn hq
      unfold bM
      split <;> omega
    have hAB : ∀ P : Int, (∀ q' o', o' < g.gN → q' < 4 → (q' < 4 ∨ (q' = 4 ∧ o' < 0)) → aX g σ h q' o' ≤ P) ↔ (∀ q' o', o' < g.gN → q' < 4 → (q' < 4 ∨ (q' = 4 ∧ o' < 0)) → bM g σ h q' o' ≤ P) := by
      intro P
      constructor
      · intro H q' o' h1 h2 h3
        have := H q' o' h1 h2 h3
        unfold aX at this
        unfold bM
        split <;> simp_all <;> omega
      · intro H q' o' h1 h2 h3
        have k1 := H q' o' h1 h2 h3
        have k2 := H q' h hn h2 (Or.inl h2)
        unfold bM at k1 k2
        unfold aX
        rw [if_pos rfl] at k2
        split <;> simp_all <;> omega
    obtain ⟨m, hm, hml⟩ := pk_least (fun p => ∀ q' o', o' < g.gN → q' < 4 → (q' < 4 ∨ (q' = 4 ∧ o' < 0)) → bM g σ h q' o' ≤ ((p * g.tu 3 : Nat) : Int)) ⟨3000, fun q' o' h1 h2 _ => by
      have := bB q' o' h2 h1
      have : 3000 * 1 ≤ 3000 * g.tu 3 := Nat.mul_le_mul_left _ t3.2.2.1
      omega⟩
    have hmp : ∀ p, m ≤ p ↔ ∀ q' o', o' < g.gN → q' < 4 → (q' < 4 ∨ (q' = 4 ∧ o' < 0)) → bM g σ h q' o' ≤ ((p * g.tu 3 : Nat) : Int) := by
      intro p
      constructor
      · intro hp q' o' h1 h2 h3
        have := hm q' o' h1 h2 h3
        have : m * g.tu 3 ≤ p * g.tu 3 := Nat.mul_le_mul_right _ hp
        omega
      · intro H
        by_cases hp : m ≤ p
        · exact hp
        · exact absurd H (hml p (by omega))
    have M : ∀ v : Int32, v = (if m ≤ 40 then nI m else -9) → wp_X7_mend (nI h) (fun r2 σ2 => (v = r2 → K σ2) ∧ (¬ v = r2 → F)) σ := by
      intro v hv
      unfold wp_X7_mend
      refine isHearth_ok hd (g_t a ?_)
      refine pk_loop (fun n i w => wp_X7_mend_l14 (fun r2 σ2 => (v = r2 → K σ2) ∧ (¬ v = r2 → F)) n (nI h) (nI w) (nI i) σ) (fun i w => LM g σ h i 0 w) 4 0 0 (by omega) ⟨by omega, fun p => ⟨fun _ q' o' _ _ h3 => by omega, fun _ => by omega⟩⟩ (fun n w hw => ?_) (fun n i w hi hw hk => ?_)
      · show wp_X7_mend_b14 _ _ _ _ _ _
        unfold wp_X7_mend_b14
        have em : w = m := by
          have h1 := (hw.2 m).mpr hm
          have h2 := (hmp w).mpr ((hw.2 w).mp (by omega))
          omega
        subst em
        rw [show (40 : Int32) = nI 40 from rfl, pn_le (by have := hw.1; omega) (by omega)]
        refine ⟨fun _ => ⟨fun c => eq_k (by rw [hv, if_pos c]) hK, fun c => eq_k (by rw [hv, if_neg c]) hK⟩, fun c => absurd (by decide) c⟩
      · show wp_X7_mend_b14 _ _ _ _ _ _
        unfold wp_X7_mend_b14
        refine ⟨fun c => absurd c (nI_ge (b := 4) hi (by omega)), fun _ => ?_⟩
        refine pk_loop (fun n o w => wp_X7_mend_l22 (fun r2 σ2 => (v = r2 → K σ2) ∧ (¬ v = r2 → F)) _ n (nI h) (nI w) (nI i) (nI o) σ) (fun o w => LM g σ h i o w) g.gN 0 w (by omega) hw (fun n w hw => ?_) (fun n o w ho hw hk2 => ?_)
        · show wp_X7_mend_b22 _ _ _ _ _ _ _ _
          unfold wp_X7_mend_b22
          rw [c0, e79, na1]
          refine ⟨vin0_2, fun _ => hk w ⟨hw.1, fun p => (hw.2 p).trans ⟨fun H q' o' a1 a2 a3 => H q' o' a1 a2 (by omega), fun H q' o' a1 a2 a3 => H q' o' a1 a2 (by omega)⟩⟩, fun c => absurd (nI_le (Nat.le_refl _) (by omega)) c⟩
        · show wp_X7_mend_b22 _ _ _ _ _ _ _ _
          exact mendM_step hI hn hi ho hw (fun w' hw' => hk2 w' hw')
    refine pk_loop (fun n i w => wp_X6_mend_l17 (fun r σ1 => wp_X7_mend (nI h) (fun r2 σ2 => (r = r2 → K σ2) ∧ (¬ r = r2 → F)) σ1) n (nI h) w (nI i) σ) (fun i w => LX g σ h i 0 w) 4 0 0 (by omega) ⟨by decide, by decide, fun P hP => ⟨fun _ q' o' _ _ h3 => by omega, fun _ => by rw [z0]; exact hP⟩⟩ (fun n w hw => ?_) (fun n i w hi hw hk => ?_)
    · show wp_X6_mend_b17 _ _ _ _ _ _
      unfold wp_X6_mend_b17
      refine ⟨fun _ => ?_, fun c => absurd (by decide) c⟩
      obtain ⟨w1, w2, w3⟩ := hw
      have key : ∀ p : Nat, m ≤ p ↔ w.toInt ≤ ((p * g.tu 3 : Nat) : Int) := by
        intro p
        rw [w3 _ (by omega), hAB]
        exact hmp p
      refine pk_loop (fun n i (_ : Unit) => wp_X6_mend_l71 (fun r σ1 => wp_X7_mend (nI h) (fun r2 σ2 => (r = r2 → K σ2) ∧ (¬ r = r2 → F)) σ1) n w (nI i) σ) (fun i _ => i ≤ m) 41 0 () (by omega) (Nat.zero_le _) (fun n _ hw => ?_) (fun n i _ hi hw hk => ?_)
      · show wp_X6_mend_b71 _ _ _ _ _
        unfold wp_X6_mend_b71
        exact ⟨fun _ => M _ (by rw [if_neg (by omega)]), fun c => absurd (by decide) c⟩
      · show wp_X6_mend_b71 _ _ _ _ _
        unfold wp_X6_mend_b71
        have mb := Nat.mul_le_mul (show i ≤ 40 by omega) t3.2.2.2
        rw [cl3, t3.1, pk_mul, show (40 : Int32) = nI 40 from rfl, pn_lt (by omega) (by omega), tI_lt, tI_n (by omega), na1]
        refine ⟨fun c => absurd c (by omega), fun _ => ⟨vi3, fun c => hk () ?_, fun c => M _ ?_⟩⟩
        · have := key i
          omega
        · have := (key i).mpr (by omega)
          have e : i = m := by omega
          rw [if_pos (by omega), e]
    · show wp_X6_mend_b17 _ _ _ _ _ _
      unfold wp_X6_mend_b17
      refine ⟨fun c => absurd c (nI_ge (b := 4) hi (by omega)), fun _ => ?_⟩
      refine pk_loop (fun n o w => wp_X6_mend_l25 (fun r σ1 => wp_X7_mend (nI h) (fun r2 σ2 => (r = r2 → K σ2) ∧ (¬ r = r2 → F)) σ1) _ n (nI h) w (nI i) (nI o) σ) (fun o w => LX g σ h i o w) g.gN 0 w (by omega) hw (fun n w hw => ?_) (fun n o w ho hw hk2 => ?_)
      · show wp_X6_mend_b25 _ _ _ _ _ _ _ _
        unfold wp_X6_mend_b25
        rw [e43, na1]
        refine ⟨fun _ => hk w ⟨hw.1, hw.2.1, fun P hP => (hw.2.2 P hP).trans ⟨fun H q' o' a1 a2 a3 => H q' o' a1 a2 (by omega), fun H q' o' a1 a2 a3 => H q' o' a1 a2 (by omega)⟩⟩, fun c => absurd (nI_le (Nat.le_refl _) (by omega)) c⟩
      · show wp_X6_mend_b25 _ _ _ _ _ _ _ _
        exact mendX_step hI hn hi ho hw (fun w' hw' => hk2 w' hw')
  · unfold wp_X7_mend
    exact isHearth_ok hd (g_f n (eq_k rfl hK))
end MEND
