/-! wind, way, plan, rate, mark -/
theorem g_t {c : Prop} [Decidable c] {X Y : Prop} (h : c) (y : Y) : (bI c = 0 → X) ∧ (¬ bI c = 0 → Y) := ⟨fun e => absurd h (by rwa [bI_0] at e), fun _ => y⟩
theorem g_f {c : Prop} [Decidable c] {X Y : Prop} (h : ¬ c) (x : X) : (bI c = 0 → X) ∧ (¬ bI c = 0 → Y) := ⟨fun _ => x, fun e => absurd h (by rwa [bI_0] at e)⟩
theorem t_m9 : (-9 : Int32).toInt = -9 := by decide
theorem t_9 : (9 : Int32).toInt = 9 := by decide
theorem t_m1 : (-1 : Int32).toInt = -1 := by decide
theorem t_1 : (1 : Int32).toInt = 1 := by decide
theorem t_2 : (2 : Int32).toInt = 2 := by decide
theorem t_3 : (3 : Int32).toInt = 3 := by decide
theorem t_5 : (5 : Int32).toInt = 5 := by decide
theorem t_6 : (6 : Int32).toInt = 6 := by decide
theorem i2_eq {c : Prop} [Decidable c] {X Y : Prop} (h : c → X) (h2 : ¬ c → Y) : (bI c = 0 → Y) ∧ (¬ bI c = 0 → X) := ⟨fun e => h2 (by rwa [bI_0] at e), fun e => h (by rw [bI_0] at e; exact Classical.not_not.mp e)⟩
theorem offI (σ : St) (k i : Nat) (v : Int32) : Off (fun a b => a = k ∧ b = i) σ (sI σ k i v) := fun a b n => by rw [sI_1, if_neg n]
theorem IDim.s {g : Geo} {σ : St} (hd : IDim g σ) {k i : Nat} {v : Int32} (h : ¬ RDim k i) : IDim g (sI σ k i v) := hd.fr (offI σ k i v) (fun a b r e => h (by rw [← e.1, ← e.2]; exact r))
section OP4
variable {g : Geo} {σ : St} {K : St → Prop} {F : Prop}
theorem op_wind (hI : Inv g σ) (hK : ∀ τ, Inv g τ → K τ) (x y z : Int32) : wp_X6_wind x y z (fun r σ1 => wp_X7_wind x y z (fun r2 σ2 => (r = r2 → K σ2) ∧ (¬ r = r2 → F)) σ1) σ := by
  have hd := hI.1
  have hd' := hd.1
  have bad : (¬ (0 ≤ x.toInt ∧ x.toInt < 4) ∨ ¬ pW g y ∨ ¬ (-9 ≤ z.toInt ∧ z.toInt ≤ 9)) → wp_X7_wind x y z (fun r2 σ2 => ((-1000000 : Int32) = r2 → K σ2) ∧ (¬ (-1000000 : Int32) = r2 → F)) σ := by
    intro hb
    have k0 := hK σ hI
    unfold wp_X7_wind
    refine inq_ok (i2_eq (fun a => isIn_ok hd (i2_eq (fun b => in_ok (i2_eq (fun c => absurd hb ?_) (fun _ => eq_k rfl k0))) (fun _ => eq_k rfl k0))) (fun _ => eq_k rfl k0))
    rw [t_m9, t_9] at c
    simp [a, b, c]
  unfold wp_X6_wind
  refine hasQuarter_ok (i2_eq (fun a => hasColumn_ok hd (i2_eq (fun b => ?_) (fun n => bad (Or.inr (Or.inl n))))) (fun n => bad (Or.inl n)))
  simp only [tI_lt, tI_le, t_m9, t_9]
  refine ⟨fun n => bad (Or.inr (Or.inr (by omega))), fun c1 => ⟨fun c2 => ?_, fun n => bad (Or.inr (Or.inr (by omega)))⟩⟩
  obtain ⟨q, hq, rfl⟩ := of_pin (n := 4) a
  obtain ⟨c, hc, rfl⟩ := of_pin b
  rw [pn_in (by omega) (by omega), pn_in (by omega) (by omega), pn_cl (by omega), pn_cl (by omega), show 15 + 1 + q = 16 + q by omega]
  refine ⟨by omega, by omega, fun v hv => ⟨by omega, by omega, ?_⟩⟩
  have hd2 : IDim g (sI σ (16 + q) c z) := hd.s (by unfold RDim; omega)
  unfold wp_X7_wind
  refine inq_ok (g_t a (isIn_ok hd2 (g_t b (in_ok (g_t (by rw [t_m9, t_9]; omega) ?_)))))
  rw [nm10, nI_add, pn_in (by omega) (by omega), pn_cl (by omega)]
  have hw := hI.2.2.2.2.1
  refine ⟨by omega, fun w hw' => ⟨by omega, eq_k ?_ (hK _ (hI.setWin (fun k i n => ?_) rfl (fun q' hq' c' hc' => ?_)))⟩⟩
  · rw [hv, hw', sI_1, if_neg (by omega)]
    exact (hw q hq c (by omega)).1.symm
  · unfold RWin at n
    simp only [sI_1]
    rw [if_neg (by omega), if_neg (by omega)]
  · have h0 := hw q' hq' c' hc'
    by_cases e : q' = q ∧ c' = c
    · obtain ⟨rfl, rfl⟩ := e
      rw [sI_1, if_pos ⟨rfl, rfl⟩, sI_1, if_neg (by omega), sI_1, if_pos ⟨rfl, rfl⟩]
      exact ⟨rfl, by omega, by omega⟩
    · rw [sI_1, if_neg (by omega), sI_1, if_neg (by omega), sI_1, if_neg (by omega), sI_1, if_neg (by omega)]
      exact h0
theorem reaches_ok {Q : Int32 → St → Prop} {h : Nat} {x : Int64} (hd : IDim g σ) (hh : IHea g σ) (hn : h < g.gN) (hq : Q (bI ((g.co h : Int) ≤ x.toInt ∧ x.toInt < (g.gH : Int))) σ) : wp_X4_reaches (nI h) x Q σ := by
  obtain ⟨⟨d1, d2, d3, d4, d5⟩, -, e2, -⟩ := hd
  obtain ⟨⟨c1, -, c3⟩, -⟩ := hh h hn
  unfold wp_X4_reaches
  rw [pn_in (by omega) (by omega), pn_cl (by omega), c1, e2, lg_cmp_lt, lg_cmp_ge, Int64.lt_iff_toInt_lt, Int64.le_iff_toInt_le, Int32.toInt_toInt64, Int32.toInt_toInt64, tI_n (by omega), tI_n (by omega)]
  refine ⟨by omega, fun a => ?_, fun a => ⟨fun b => ?_, fun b => ?_⟩⟩
  · rwa [bI_f (by omega)] at hq
  · rwa [bI_f (by omega)] at hq
  · rwa [bI_t (by omega)] at hq
theorem op_way (hI : Inv g σ) (hK : K σ) (x y : Int32) : wp_X6_way x y (fun r σ1 => wp_X7_way x y (fun r2 σ2 => (r = r2 → K σ2) ∧ (¬ r = r2 → F)) σ1) σ := by
  have hd := hI.1
  have hd' := hd.1
  have hp := hI.2.2.2.2.2.1
  unfold wp_X6_way
  refine hasHearth_ok hd (i2_eq (fun a => ?_) (fun n => ?_))
  · obtain ⟨h, hh, rfl⟩ := of_pin a
    have hh0 := hI.2.2.1 h hh
    refine reaches_ok hd hI.2.2.1 hh ?_
    rw [Int32.toInt_toInt64]
    have e1 : (nI g.gH - 1).toInt = (g.gH : Int) - 1 := hi_ok (by omega) (by omega)
    refine i2_eq (fun b => ?_) (fun n => ?_)
    · obtain ⟨r, hr, rfl⟩ := of_pin (x := y) (n := g.gH) ⟨by omega, by omega⟩
      rw [pn_in (by omega) (by omega), pn_in (by omega) (by omega), pn_cl (by omega), pn_cl (by omega), show 21 + 1 + h = 22 + h by omega]
      refine ⟨by omega, by omega, ?_⟩
      unfold wp_X7_way
      refine isHearth_ok hd (g_t a ?_)
      rw [pn_in (by omega) (by omega), pn_cl (by omega), c0, hh0.1.2.1, hd.2.2.2.2.2.1]
      refine ⟨by omega, vin0_2, in_ok (g_t (by rw [e1, tI_n (show g.co h < 2 ^ 31 by omega)]; omega) ?_)⟩
      rw [nm16, nI_add, pn_in (by omega) (by omega), pn_cl (by omega)]
      refine ⟨by omega, eq_k ?_ hK⟩
      have := (hp h hh).1 r (by omega)
      rw [show 0 + 16 * h + r = 16 * h + r by omega] at this
      exact this.symm
    · unfold wp_X7_way
      refine isHearth_ok hd (g_t a ?_)
      rw [pn_in (by omega) (by omega), pn_cl (by omega), c0, hh0.1.2.1, hd.2.2.2.2.2.1]
      refine ⟨by omega, vin0_2, in_ok (g_f (by rw [e1, tI_n (show g.co h < 2 ^ 31 by omega)]; omega) (eq_k rfl hK))⟩
  · unfold wp_X7_way
    exact isHearth_ok hd (g_f n (eq_k rfl hK))
theorem op_plan (hI : Inv g σ) (hK : K σ) (x y : Int32) : wp_X6_plan x y (fun r σ1 => wp_X7_plan x y (fun r2 σ2 => (r = r2 → K σ2) ∧ (¬ r = r2 → F)) σ1) σ := by
  have hd := hI.1
  have hd' := hd.1
  have hp := hI.2.2.2.2.2.1
  have hb := hI.2.1
  have hh := hI.2.2.1
  have t4 := hI.2.2.2.1 4 (by omega)
  have m4 : tuM 4 = 9 := rfl
  rw [m4] at t4
  unfold wp_X6_plan
  refine hasHearth_ok hd (i2_eq (fun a => ?_) (fun n => ?_))
  · obtain ⟨h, hn, rfl⟩ := of_pin a
    have M : ∀ v : Int32, (y = 0 → v = nI (gBe g σ h)) → (y = 1 → v = nI (gLe g σ h)) → (y = 2 → v = nI (gCo g σ h)) → (y = 3 → v = if 0 < ((nI (gBe g σ h) + 1) - (2 * (nI (g.tu 4) + 1))) then ((((nI (gBe g σ h) + 1) - (2 * (nI (g.tu 4) + 1))) + (2 * nI (g.tu 4) + 1)) - 1) / (2 * nI (g.tu 4) + 1) else 0) → (¬ y = 0 → ¬ y = 1 → ¬ y = 2 → ¬ y = 3 → v = -1) → wp_X7_plan (nI h) y (fun r2 σ2 => (v = r2 → K σ2) ∧ (¬ v = r2 → F)) σ := by
      intro v v0 v1 v2 v3 v4
      unfold wp_X7_plan
      refine isHearth_ok hd (g_t a (in_ok ?_))
      rw [z0, t_3]
      refine i2_eq (fun c => ?_) (fun n => ?_)
      · refine bendsM_ok hd hh hp hn ?_
        rw [cl4, t4.2.1]
        refine ⟨vi4, fun w hw => ⟨vi4, fun z hz => ⟨fun y0 => bendsM_ok hd hh hp hn (eq_k (v0 y0) hK), fun y0 => ⟨fun y1 => leansM_ok hd hh hp hn (eq_k (v1 y1) hK), fun y1 => ⟨fun y2 => coldM_ok hd hb hh hp hn (eq_k (v2 y2) hK), fun y2 => ⟨fun p => ?_, fun p => ?_⟩⟩⟩⟩⟩⟩
        · have y3 : y = 3 := by
            simp only [tI_eq, z0, t_1, t_2, t_3] at *
            omega
          have v3 := v3 y3
          subst hw; subst hz
          rw [if_pos p] at v3
          refine ⟨?_, eq_k v3 hK⟩
          have e : (2 : Int32) * nI (g.tu 4) + 1 = nI (2 * g.tu 4 + 1) := by rw [show (2 : Int32) = nI 2 from rfl, pk_mul, na1]
          rw [e, show (0 : Int32) = nI 0 from rfl, pn_eq (by omega) (by omega)]
          omega
        · have y3 : y = 3 := by
            simp only [tI_eq, z0, t_1, t_2, t_3] at *
            omega
          have v3 := v3 y3
          subst hw
          rw [if_neg p] at v3
          exact eq_k v3 hK
      · refine eq_k (v4 ?_ ?_ ?_ ?_) hK
        · intro e; rw [e] at n; exact n (by decide)
        · intro e; rw [e] at n; exact n (by decide)
        · intro e; rw [e] at n; exact n (by decide)
        · intro e; rw [e] at n; exact n (by decide)
    refine ⟨fun y0 => bendsX_ok hd hh hn (M _ (fun _ => rfl) ?_ ?_ ?_ ?_), fun y0 => ⟨fun y1 => leansX_ok hd hh hn (M _ ?_ (fun _ => rfl) ?_ ?_ ?_), fun y1 => ⟨fun y2 => coldX_ok hd hb hh hn (M _ ?_ ?_ (fun _ => rfl) ?_ ?_), fun y2 => ⟨fun y3 => bendsX_ok hd hh hn ?_, fun y3 => M _ ?_ ?_ ?_ ?_ (fun _ _ _ _ => rfl)⟩⟩⟩⟩
    · intro e; rw [e] at y0; exact absurd y0 (by decide)
    · intro e; rw [e] at y0; exact absurd y0 (by decide)
    · intro e; rw [e] at y0; exact absurd y0 (by decide)
    · intro e; exact absurd y0 e
    · intro e; exact absurd e y0
    · intro e; rw [e] at y1; exact absurd y1 (by decide)
    · intro e; rw [e] at y1; exact absurd y1 (by decide)
    · intro _ e; exact absurd y1 e
    · intro e; exact absurd e y0
    · intro e; exact absurd e y1
    · intro e; rw [e] at y2; exact absurd y2 (by decide)
    · intro _ _ e; exact absurd y2 e
    · unfold wp_X6_doors
      rw [cl4, t4.1]
      have e : (2 : Int32) * nI (g.tu 4) + 1 = nI (2 * g.tu 4 + 1) := by rw [show (2 : Int32) = nI 2 from rfl, pk_mul, na1]
      refine ⟨vi4, fun w hw z hz => ⟨fun p => M _ ?_ ?_ ?_ ?_ ?_, fun p => ⟨fun q => ⟨?_, M _ ?_ ?_ ?_ ?_ ?_⟩, fun q => absurd ?_ q⟩⟩⟩
      · intro e; exact absurd e y0
      · intro e; exact absurd e y1
      · intro e; exact absurd e y2
      · intro _
        subst hw
        rw [if_neg (by simp only [tI_lt, tI_le] at *; omega)]
      · intro _ _ _ e; exact absurd y3 e
      · intro e; rw [e] at q; exact absurd q (by decide)
      · intro e; exact absurd e y0
      · intro e; exact absurd e y1
      · intro e; exact absurd e y2
      · intro _
        subst hw; subst hz
        rw [if_pos (by simp only [tI_lt, tI_le] at *; omega)]
      · intro _ _ _ e; exact absurd y3 e
      · subst hz
        rw [e, show (0 : Int32) = nI 0 from rfl, pn_lt (by omega) (by omega)]
        omega
    · intro e; exact absurd e y0
    · intro e; exact absurd e y1
    · intro e; exact absurd e y2
    · intro e; exact absurd e y3
  · unfold wp_X7_plan
    exact isHearth_ok hd (g_f n (eq_k rfl hK))
theorem op_mark (hI : Inv g σ) (hK : ∀ τ, Inv g τ → K τ) (x y : Int32) : wp_X6_mark x y (fun r σ1 => wp_X7_mark x y (fun r2 σ2 => (r = r2 → K σ2) ∧ (¬ r = r2 → F)) σ1) σ := by
  have hd := hI.1
  have hd' := hd.1
  have k0 := hK σ hI
  unfold wp_X6_mark
  refine hasBrick_ok hd (i2_eq (fun a => ?_) (fun n => ?_))
  · obtain ⟨M, hM, m1, m2, m3⟩ := hI.2.2.2.2.2.2.1
    obtain ⟨r, hr, rfl⟩ := of_pin a.1
    obtain ⟨c, hc, rfl⟩ := of_pin a.2
    have e6 : (6 : Int32) = nI 6 := rfl
    rw [m1, e6, pn_lt (by omega) (by omega), pn_in (by omega) (by omega), pn_cl (show M < 2 ^ 31 by omega)]
    refine ⟨fun hm => ⟨by omega, ?_⟩, fun hm => ?_⟩
    · have e1 : (sI σ 25 M (nI r)).1 20 3 = nI M := by rw [sI_1, if_neg (by omega), m1]
      rw [e1, pn_in (by omega) (by omega), pn_cl (show M < 2 ^ 31 by omega)]
      generalize hτ : sI (sI σ 25 M (nI r)) 26 M (nI c) = τ
      have e2 : τ.1 20 3 = nI M := by rw [← hτ, sI_1, if_neg (by omega), e1]
      rw [e2, na1]
      have e3 : (sI τ 20 3 (nI (M + 1))).1 20 3 = nI (M + 1) := by rw [sI_1, if_pos ⟨rfl, rfl⟩]
      rw [e3]
      have hd2 : IDim g (sI τ 20 3 (nI (M + 1))) := by
        rw [← hτ]
        exact ((hd.s (by unfold RDim; omega)).s (by unfold RDim; omega)).s (by unfold RDim; omega)
      refine ⟨by omega, ?_⟩
      unfold wp_X7_mark
      refine isCourse_ok hd2 (g_t a.1 (isIn_ok hd2 (g_t a.2 ?_)))
      have e4 : (sI τ 20 3 (nI (M + 1))).1 96 0 = nI M := by rw [sI_1, if_neg (by omega), ← hτ, sI_1, if_neg (by omega), sI_1, if_neg (by omega), m2]
      generalize hυ : sI τ 20 3 (nI (M + 1)) = υ at *
      rw [c0, e4, show (6 : Int32) = nI 6 from rfl, pn_eq (by omega) (by omega), pn_in (by omega) (by omega), pn_cl (show M < 2 ^ 31 by omega)]
      have e5 : (sI υ 97 M (nI r)).1 96 0 = nI M := by rw [sI_1, if_neg (by omega), e4]
      rw [e5, pn_in (by omega) (by omega), pn_cl (show M < 2 ^ 31 by omega)]
      generalize hφ : sI (sI υ 97 M (nI r)) 98 M (nI c) = φ
      have e6 : φ.1 96 0 = nI M := by rw [← hφ, sI_1, if_neg (by omega), e5]
      rw [e6, na1]
      have e7 : (sI φ 96 0 (nI (M + 1))).1 96 0 = nI (M + 1) := by rw [sI_1, if_pos ⟨rfl, rfl⟩]
      rw [e7]
      refine ⟨vin0_3, fun e => absurd e (by omega), fun _ => ⟨vin0_3, by omega, vin0_3, by omega, vin0_3, vin0_3, vin0_3, eq_k rfl (hK _ (hI.setMark (fun k i n => ?_) ?_ ⟨M + 1, by omega, ?_, e7, fun j hj => ?_⟩))⟩⟩
      · unfold RMark at n
        rw [sI_1, if_neg (by omega), ← hφ, sI_1, if_neg (by omega), sI_1, if_neg (by omega), ← hυ, sI_1, if_neg (by omega), ← hτ, sI_1, if_neg (by omega), sI_1, if_neg (by omega)]
      · rw [sI_2, ← hφ, sI_2, sI_2, ← hυ, sI_2, ← hτ, sI_2, sI_2]
      · rw [sI_1, if_neg (by omega), ← hφ, sI_1, if_neg (by omega), sI_1, if_neg (by omega), e3]
      · have f1 : (sI φ 96 0 (nI (M + 1))).1 (20 + 5) j = if j = M then nI r else σ.1 25 j := by
          rw [sI_1, if_neg (by omega), ← hφ, sI_1, if_neg (by omega), sI_1, if_neg (by omega), ← hυ, sI_1, if_neg (by omega), ← hτ, sI_1, if_neg (by omega), sI_1]
          by_cases e : j = M <;> simp [e]
        have f2 : (sI φ 96 0 (nI (M + 1))).1 (20 + 6) j = if j = M then nI c else σ.1 26 j := by
          rw [sI_1, if_neg (by omega), ← hφ, sI_1, if_neg (by omega), sI_1, if_neg (by omega), ← hυ, sI_1, if_neg (by omega), ← hτ, sI_1]
          by_cases e : j = M
          · simp [e]
          · rw [if_neg (by omega), if_neg e, sI_1, if_neg (by omega)]
        have f3 : (sI φ 96 0 (nI (M + 1))).1 97 (6 * 0 + j) = if j = M then nI r else σ.1 97 j := by
          rw [show 6 * 0 + j = j by omega, sI_1, if_neg (by omega), ← hφ, sI_1, if_neg (by omega), sI_1]
          by_cases e : j = M
          · simp [e]
          · rw [if_neg (by omega), if_neg e, ← hυ, sI_1, if_neg (by omega), ← hτ, sI_1, if_neg (by omega), sI_1, if_neg (by omega)]
        have f4 : (sI φ 96 0 (nI (M + 1))).1 98 (6 * 0 + j) = if j = M then nI c else σ.1 98 j := by
          rw [show 6 * 0 + j = j by omega, sI_1, if_neg (by omega), ← hφ, sI_1]
          by_cases e : j = M
          · simp [e]
          · rw [if_neg (by omega), if_neg e, sI_1, if_neg (by omega), ← hυ, sI_1, if_neg (by omega), ← hτ, sI_1, if_neg (by omega), sI_1, if_neg (by omega)]
        rw [f1, f2, f3, f4]
        by_cases e : j = M
        · simp only [if_pos e]
          exact ⟨r, c, hr, hc, rfl, rfl, rfl, rfl⟩
        · simp only [if_neg e]
          obtain ⟨r', c', q1, q2, q3, q4, q5, q6⟩ := m3 j (by omega)
          rw [show 6 * 0 + j = j by omega] at q4 q6
          exact ⟨r', c', q1, q2, q3, q4, q5, q6⟩
    · unfold wp_X7_mark
      refine isCourse_ok hd (g_t a.1 (isIn_ok hd (g_t a.2 ?_)))
      rw [c0, m2]
      refine ⟨vin0_3, fun _ => eq_k rfl k0, fun e => absurd ?_ e⟩
      have : M = 6 := by omega
      rw [this]; rfl
  · unfold wp_X7_mark
    refine isCourse_ok hd (i2_eq (fun b => isIn_ok hd (i2_eq (fun c => absurd ⟨b, c⟩ n) (fun _ => eq_k rfl k0))) (fun _ => eq_k rfl k0))
end OP4
