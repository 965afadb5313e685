/-! the law's loop: every call, by the invariant -/
theorem wl_L {L x : Nat} (hL : L ≤ 256) (hx : x ≤ 300) : (nI L - 4 < nI x) = (L < x + 4) := by
  have e : (nI L - 4).toInt = (L : Int) - 4 := pk_sub_toInt (a := L) (b := 4) (by omega) (by omega)
  rw [tI_lt, e, tI_n (by omega)]
  exact propext (by omega)
def gI : Geo := ((10, 10, 0), (fun _ => 0), 0, (fun _ => 0), (fun _ => 0), (fun _ => 0), fun j => [1, 3, 1, 5, 1, 10].getD j 0)
theorem inv0 : Inv gI σ0 := by
  refine ⟨⟨⟨by decide, by decide, by decide, by decide, by decide⟩, rfl, rfl, rfl, rfl, rfl, rfl⟩, ⟨fun r hr => ⟨rfl, rfl, ?_⟩, rfl, rfl, ?_⟩, fun h hh => ?_, ?_, fun q hq c hc => ?_, fun h hh => ?_, ⟨0, by omega, rfl, rfl, fun j hj => by omega⟩, fun i hi => ⟨Or.inl rfl, rfl, fun z => absurd z ?_⟩, ⟨0, by omega, rfl, rfl, fun j hj => by omega⟩, rfl, rfl, rfl, rfl⟩
  · show 0 < 2 ^ 10; decide
  · show 0 < 2 ^ 10; decide
  · have hh : h < 0 := hh
    omega
  · have : ∀ j, j < 6 → σ0.1 14 j = nI (gI.tu j) ∧ σ0.1 85 j = nI (gI.tu j) ∧ tuL j ≤ gI.tu j ∧ gI.tu j ≤ tuM j := by
      intro j hj
      have : j = 0 ∨ j = 1 ∨ j = 2 ∨ j = 3 ∨ j = 4 ∨ j = 5 := by omega
      rcases this with rfl | rfl | rfl | rfl | rfl | rfl <;> exact ⟨by decide, by decide, by decide, by decide⟩
    exact this
  · have : q = 0 ∨ q = 1 ∨ q = 2 ∨ q = 3 := by omega
    rcases this with rfl | rfl | rfl | rfl <;> exact ⟨rfl, by show (-9 : Int) ≤ (0 : Int32).toInt; decide, by show (0 : Int32).toInt ≤ 9; decide⟩
  · have hh : h < 0 := hh
    omega
  · show ¬ (0 : Int32) = 1
    decide
set_option maxHeartbeats 4000000 in
theorem law_true (L : Nat) (xs : Nat → Int32) (hL : L ≤ 256) : ∃ n : Nat, wp_L_law_l18 L xs lawQ n 0 σ0 := by
  refine pk_loop (fun n j τ => wp_L_law_l18 L xs lawQ n (nI (4 * j)) τ) (fun j τ => 4 * j ≤ L ∧ ∃ g, Inv g τ) (L / 4) 0 σ0 (Nat.zero_le _) ⟨by omega, gI, inv0⟩ (fun n τ hτ => ?_) (fun n j τ hj hτ hk => ?_)
  · show wp_L_law_b18 _ _ _ _ _ _
    unfold wp_L_law_b18
    rw [wl_L hL (by omega)]
    exact ⟨fun _ => rfl, fun z => absurd (by omega) z⟩
  · show wp_L_law_b18 _ _ _ _ _ _
    unfold wp_L_law_b18
    obtain ⟨t1, g, hI⟩ := hτ
    have e4 : nI (4 * j) + 4 = nI (4 * (j + 1)) := nI_add (4 * j) 4
    have v0 : vp_in (nI (4 * j)) L := by rw [pn_in (by omega) (by omega)]; omega
    have v1 : vp_in (nI (4 * j) + 1) L = True := eq_true (by rw [na1, pn_in (by omega) (by omega)]; omega)
    have v2 : vp_in (nI (4 * j) + 2) L = True := eq_true (by rw [show nI (4 * j) + 2 = nI (4 * j + 2) from nI_add _ 2, pn_in (by omega) (by omega)]; omega)
    have v3 : vp_in (nI (4 * j) + 3) L = True := eq_true (by rw [show nI (4 * j) + 3 = nI (4 * j + 3) from nI_add _ 3, pn_in (by omega) (by omega)]; omega)
    have hKg : ∀ g' υ, Inv g' υ → wp_L_law_l18 L xs lawQ n (nI (4 * j) + 4) υ := fun g' υ h => by
      rw [e4]
      exact hk υ ⟨by omega, g', h⟩
    have hK : ∀ υ, Inv g υ → wp_L_law_l18 L xs lawQ n (nI (4 * j) + 4) υ := hKg g
    have h0 := hK τ hI
    rw [wl_L hL (by omega)]
    refine ⟨fun z => by omega, fun _ => ⟨v0, ?_⟩⟩
    simp only [v1, v2, v3, true_and, lg_cmp_eq]
    generalize wp_L_law_l18 L xs lawQ n (nI (4 * j) + 4) = K at hKg hK h0
    generalize (nI (4 * j) + 1).toNatClampNeg = i1
    generalize (nI (4 * j) + 2).toNatClampNeg = i2
    generalize (nI (4 * j) + 3).toNatClampNeg = i3
    generalize xs (nI (4 * j)).toNatClampNeg &&& 31 = op
    generalize xs i1 = a
    generalize xs i2 = b
    generalize xs i3 = c
    refine ⟨fun _ => op_type (K := K) (F := (0 : Int32) = 1) hI hK _ _, fun _ => ?_⟩
    refine ⟨fun _ => op_clear (K := K) (F := (0 : Int32) = 1) hI hK, fun _ => ?_⟩
    refine ⟨fun _ => op_wall (K := K) (F := (0 : Int32) = 1) hI hKg, fun _ => ?_⟩
    refine ⟨fun _ => op_brick (K := K) (F := (0 : Int32) = 1) hI h0 _ _, fun _ => ?_⟩
    refine ⟨fun _ => op_hearth (K := K) (F := (0 : Int32) = 1) hI h0 _ _, fun _ => ?_⟩
    refine ⟨fun _ => op_tune (K := K) (F := (0 : Int32) = 1) hI hKg _ _, fun _ => ?_⟩
    refine ⟨fun _ => op_wind (K := K) (F := (0 : Int32) = 1) hI hK _ _ _, fun _ => ?_⟩
    refine ⟨fun _ => op_many (K := K) (F := (0 : Int32) = 1) hI hK _, fun _ => ?_⟩
    refine ⟨fun _ => op_one (K := K) (F := (0 : Int32) = 1) hI hK _ _, fun _ => ?_⟩
    refine ⟨fun _ => op_together (K := K) (F := (0 : Int32) = 1) hI hK _ _, fun _ => ?_⟩
    refine ⟨fun _ => op_share (K := K) (F := (0 : Int32) = 1) hI hK _, fun _ => ?_⟩
    refine ⟨fun _ => op_more (K := K) (F := (0 : Int32) = 1) hI hK _ _ _, fun _ => ?_⟩
    refine ⟨fun _ => op_take (K := K) (F := (0 : Int32) = 1) hI hK _, fun _ => ?_⟩
    refine ⟨fun _ => op_way (K := K) (F := (0 : Int32) = 1) hI h0 _ _, fun _ => ?_⟩
    refine ⟨fun _ => op_turn (K := K) (F := (0 : Int32) = 1) hI hK _ _ _, fun _ => ?_⟩
    refine ⟨fun _ => op_judge (K := K) (F := (0 : Int32) = 1) hI hK _, fun _ => ?_⟩
    refine ⟨fun _ => op_plan (K := K) (F := (0 : Int32) = 1) hI h0 _ _, fun _ => ?_⟩
    refine ⟨fun _ => op_draw (K := K) (F := (0 : Int32) = 1) hI h0 _ _, fun _ => ?_⟩
    refine ⟨fun _ => op_smokes (K := K) (F := (0 : Int32) = 1) hI h0 _ _ _, fun _ => ?_⟩
    refine ⟨fun _ => op_mend (K := K) (F := (0 : Int32) = 1) hI h0 _, fun _ => ?_⟩
    refine ⟨fun _ => op_moved (K := K) (F := (0 : Int32) = 1) hI hK _ _, fun _ => ?_⟩
    refine ⟨fun _ => op_mark (K := K) (F := (0 : Int32) = 1) hI hK _ _, fun _ => ?_⟩
    refine ⟨fun _ => op_guess (K := K) (F := (0 : Int32) = 1) hI hK _, fun _ => ?_⟩
    refine ⟨fun _ => op_rate (K := K) (F := (0 : Int32) = 1) hI hK _ _, fun _ => ?_⟩
    refine ⟨fun _ => op_keep (K := K) (F := (0 : Int32) = 1) hI hK _, fun _ => ?_⟩
    refine ⟨fun _ => op_back (K := K) (F := (0 : Int32) = 1) hI hK _, fun _ => ?_⟩
    refine ⟨fun _ => op_count (K := K) (F := (0 : Int32) = 1) hI h0 _, fun _ => ?_⟩
    exact ⟨fun _ => op_trace (K := K) (F := (0 : Int32) = 1) hI h0, fun _ => h0⟩
