/-! turn, count -/
section TURN
variable {g : Geo} {σ : St} {K : St → Prop} {F : Prop}
theorem is_sub_sh (a b e : Int32) : (a + e) - (b + e) = a - b := by grind
theorem is_sub_on (a b d : Int32) : (a + (d - (a - b))) - b = d := by grind
theorem op_turn (hI : Inv g σ) (hK : ∀ τ, Inv g τ → K τ) (x y z : Int32) : wp_X6_turn x y z (fun r σ1 => wp_X7_turn x y z (fun r2 σ2 => (r = r2 → K σ2) ∧ (¬ r = r2 → F)) σ1) σ := by
  have hd := hI.1
  have hd' := hd.1
  have hh := hI.2.2.1
  have hp := hI.2.2.2.2.2.1
  have e41 := hd.2.2.1
  have e78 := hd.2.2.2.2.2.1
  have k0 := hK σ hI
  have bad : (¬ pN g x ∨ ∃ h, h < g.gN ∧ x = nI h ∧ ¬ ((g.co h : Int) + 1 ≤ y.toInt ∧ y.toInt < g.gH ∧ -1 ≤ z.toInt ∧ z.toInt ≤ 1)) → wp_X7_turn x y z (fun r2 σ2 => ((-1000000 : Int32) = r2 → K σ2) ∧ (¬ (-1000000 : Int32) = r2 → F)) σ := by
    intro hb
    unfold wp_X7_turn
    rcases hb with n | ⟨h, hn, rfl, n⟩
    · exact isHearth_ok hd (g_f n (eq_k rfl k0))
    · obtain ⟨⟨-, h2, h3⟩, -⟩ := hh h hn
      refine isHearth_ok hd (g_t ⟨by rw [tI_n (by omega)]; omega, by rw [tI_n (by omega)]; omega⟩ ?_)
      rw [pn_in (by omega) (by omega), pn_cl (by omega), c0, h2, e78, na1]
      refine ⟨by omega, vin0_2, in_ok ?_⟩
      rw [hi_ok (by omega) (by omega), tI_n (by omega)]
      refine i2_eq (fun a => in_ok ?_) (fun _ => eq_k rfl k0)
      rw [t_m1, t_1]
      exact g_f (by omega) (eq_k rfl k0)
  unfold wp_X6_turn
  refine hasHearth_ok hd (i2_eq (fun a => ?_) (fun n => bad (Or.inl n)))
  obtain ⟨h, hn, rfl⟩ := of_pin a
  obtain ⟨⟨h1, h2, h3⟩, -⟩ := hh h hn
  refine reaches_ok hd hh hn ?_
  have ey : (y.toInt64 - 1).toInt = y.toInt - 1 := by
    rw [Int64.toInt_sub, Int32.toInt_toInt64, show (1 : Int64).toInt = 1 from by decide]
    have := Int32.le_toInt y
    have := Int32.toInt_lt y
    exact Int.bmod_eq_of_le (by omega) (by omega)
  rw [ey]
  refine i2_eq (fun b => hasCourse_ok hd (i2_eq (fun c => ?_) (fun n => bad (Or.inr ⟨h, hn, rfl, fun q => n ⟨by omega, by omega⟩⟩)))) (fun n => bad (Or.inr ⟨h, hn, rfl, fun q => n ⟨by omega, by omega⟩⟩))
  rw [tI_lt, tI_le, t_m1, t_1]
  refine ⟨fun q => bad (Or.inr ⟨h, hn, rfl, by omega⟩), fun q1 => ⟨fun q2 => ?_, fun q => bad (Or.inr ⟨h, hn, rfl, by omega⟩)⟩⟩
  obtain ⟨r, hr, rfl⟩ := of_pin c
  rw [tI_n (by omega)] at b
  obtain ⟨p1, p2, p3⟩ := hp h hn
  rw [ns1 (by omega), pn_in (by omega) (by omega), pn_in (by omega) (by omega), pn_in (by omega) (by omega), pn_cl (by omega), pn_cl (by omega), pn_cl (show r - 1 < 2 ^ 31 by omega), show 21 + 1 + h = 22 + h by omega]
  refine ⟨by omega, by omega, by omega, by omega, fun was hw => ?_⟩
  -- the class's row
  have sX : ∀ (i : Nat) (τ : St), (∀ k j, τ.1 k j = if k = 22 + h ∧ r ≤ j ∧ j < i then σ.1 k j + (z - was) else σ.1 k j) → τ.2 = σ.2 → r ≤ i → i < g.gH → ∀ k j, (sI τ (22 + h) i (τ.1 (22 + h) i + (z - was))).1 k j = if k = 22 + h ∧ r ≤ j ∧ j < i + 1 then σ.1 k j + (z - was) else σ.1 k j := by
    intro i τ ht _ hi1 hi2 k j
    rw [sI_1]
    by_cases e : k = 22 + h ∧ j = i
    · rw [if_pos e, if_pos (by omega), ht, if_neg (by omega), e.1, e.2]
    · rw [if_neg e, ht]
      by_cases e2 : k = 22 + h ∧ r ≤ j ∧ j < i
      · rw [if_pos e2, if_pos (by omega)]
      · rw [if_neg e2, if_neg (by omega)]
  refine pk_loop (fun n i τ => wp_X6_turn_l80 (fun r_1 σ1 => wp_X7_turn (nI h) (nI r) z (fun r2 σ2 => (r_1 = r2 → K σ2) ∧ (¬ r_1 = r2 → F)) σ1) n (nI h) z was (nI i) τ) (fun i τ => r ≤ i ∧ τ.2 = σ.2 ∧ ∀ k j, τ.1 k j = if k = 22 + h ∧ r ≤ j ∧ j < i then σ.1 k j + (z - was) else σ.1 k j) g.gH r σ (by omega) ⟨Nat.le_refl _, rfl, fun k j => by rw [if_neg (by omega)]⟩ (fun n τ hτ => ?_) (fun n i τ hi hτ hk => ?_)
  · show wp_X6_turn_b80 _ _ _ _ _ _ _
    unfold wp_X6_turn_b80
    obtain ⟨-, j1, j2⟩ := hτ
    have eH : τ.1 4 1 = nI g.gH := by rw [j2, if_neg (by omega), e41]
    rw [eH]
    refine ⟨fun _ => ?_, fun q => absurd (nI_le (Nat.le_refl _) (by omega)) q⟩
    have hdτ : IDim g τ := hd.fr (S := fun k j => k = 22 + h) (fun k j n => by rw [j2, if_neg (fun e => n e.1)]) (by unfold RDim; omega)
    unfold wp_X7_turn
    refine isHearth_ok hdτ (g_t a ?_)
    have f80 : τ.1 80 h = nI (g.co h) := by rw [j2, if_neg (by omega), h2]
    rw [pn_in (by omega) (by omega), pn_cl (by omega), c0, f80, hdτ.2.2.2.2.2.1, na1]
    refine ⟨by omega, vin0_2, in_ok ?_⟩
    rw [hi_ok (by omega) (by omega), tI_n (by omega), tI_n (by omega)]
    refine g_t (by omega) (in_ok ?_)
    rw [t_m1, t_1]
    refine g_t (by omega) ?_
    have f1 : ∀ j, j < 16 → τ.1 95 (16 * h + j) = σ.1 (22 + h) j := by
      intro j hj
      rw [j2, if_neg (by omega)]
      have := p1 j hj
      rwa [show 0 + 16 * h + j = 16 * h + j by omega] at this
    rw [nm16, nI_add, ns1 (by omega), pn_in (by omega) (by omega), pn_in (by omega) (by omega), pn_cl (by omega), pn_cl (by omega), f1 r (by omega), show 16 * h + r - 1 = 16 * h + (r - 1) by omega, f1 (r - 1) (by omega)]
    refine ⟨by omega, by omega, fun was2 hw2 => ?_⟩
    have ew : was2 = was := by rw [hw, hw2]
    subst ew
    refine pk_loop (fun n i υ => wp_X7_turn_l73 (fun r2 σ2 => (was2 = r2 → K σ2) ∧ (¬ was2 = r2 → F)) n (nI h) z was2 (nI i) υ) (fun i υ => r ≤ i ∧ υ.2 = σ.2 ∧ ∀ k j, υ.1 k j = if k = 95 ∧ 16 * h + r ≤ j ∧ j < 16 * h + i then τ.1 k j + (z - was2) else τ.1 k j) g.gH r τ (by omega) ⟨Nat.le_refl _, j1, fun k j => by rw [if_neg (by omega)]⟩ (fun n υ hυ => ?_) (fun n i υ hi hυ hk => ?_)
    · show wp_X7_turn_b73 _ _ _ _ _ _ _
      unfold wp_X7_turn_b73
      obtain ⟨-, u1, u2⟩ := hυ
      have eH2 : υ.1 78 0 = nI g.gH := by rw [u2, if_neg (by omega), j2, if_neg (by omega), e78]
      rw [c0, eH2]
      refine ⟨vin0_2, fun _ => eq_k rfl (hK _ (hI.setPlan (fun k i n => ?_) u1 (fun h' hn' => ?_))), fun q => absurd (nI_le (Nat.le_refl _) (by omega)) q⟩
      · unfold RPlan at n
        rw [u2, if_neg (by omega), j2, if_neg (by omega)]
      · obtain ⟨o1, o2, o3⟩ := hp h' hn'
        obtain ⟨⟨-, -, hc3⟩, -⟩ := hh h' hn'
        have rowX : ∀ j, υ.1 (22 + h') j = if h' = h ∧ r ≤ j ∧ j < g.gH then σ.1 (22 + h') j + (z - was2) else σ.1 (22 + h') j := by
          intro j
          rw [u2, if_neg (by omega), j2]
          by_cases e : h' = h ∧ r ≤ j ∧ j < g.gH
          · rw [if_pos e, if_pos (by omega)]
          · rw [if_neg e, if_neg (by omega)]
        have rowM : ∀ j, j < 16 → υ.1 95 (0 + 16 * h' + j) = if h' = h ∧ r ≤ j ∧ j < g.gH then σ.1 95 (0 + 16 * h' + j) + (z - was2) else σ.1 95 (0 + 16 * h' + j) := by
          intro j hj
          rw [u2]
          by_cases e : h' = h ∧ r ≤ j ∧ j < g.gH
          · rw [if_pos e, if_pos (by obtain ⟨rfl, e1, e2⟩ := e; omega), j2, if_neg (by omega)]
          · rw [if_neg e, if_neg (by omega), j2, if_neg (by omega)]
        refine ⟨fun j hj => by rw [rowM j hj, rowX, o1 j hj], by rw [rowX, if_neg (by intro e; obtain ⟨rfl, e1, e2⟩ := e; omega)]; exact o2, fun j hj1 hj2 => ?_⟩
        rw [rowX, rowX]
        by_cases e : h' = h
        · subst e
          by_cases e2 : r ≤ j - 1
          · rw [if_pos (by omega), if_pos (by omega), is_sub_sh]
            exact o3 j hj1 hj2
          · by_cases e3 : r = j
            · subst e3
              rw [if_pos (by omega), if_neg (by omega), hw2, is_sub_on]
              have : z.toInt = -1 ∨ z.toInt = 0 ∨ z.toInt = 1 := by omega
              rw [tI_eq z (-1), tI_eq z 0, tI_eq z 1, t_m1, z0, t_1]
              exact this
            · rw [if_neg (by omega), if_neg (by omega)]
              exact o3 j hj1 hj2
        · rw [if_neg (by omega), if_neg (by omega)]
          exact o3 j hj1 hj2
    · show wp_X7_turn_b73 _ _ _ _ _ _ _
      unfold wp_X7_turn_b73
      obtain ⟨u0, u1, u2⟩ := hυ
      have eH2 : υ.1 78 0 = nI g.gH := by rw [u2, if_neg (by omega), j2, if_neg (by omega), e78]
      rw [c0, eH2, nm16, nI_add, pn_in (by omega) (by omega), pn_cl (by omega), na1]
      refine ⟨vin0_2, fun q => absurd q (nI_ge hi (by omega)), fun _ => ⟨by omega, by omega, hk _ ⟨by omega, u1, fun k j => ?_⟩⟩⟩
      rw [sI_1]
      by_cases e : k = 95 ∧ j = 16 * h + i
      · rw [if_pos e, if_pos (by omega), u2, if_neg (by omega), e.1, e.2]
      · rw [if_neg e, u2]
        by_cases e2 : k = 95 ∧ 16 * h + r ≤ j ∧ j < 16 * h + i
        · rw [if_pos e2, if_pos (by omega)]
        · rw [if_neg e2, if_neg (by omega)]
  · show wp_X6_turn_b80 _ _ _ _ _ _ _
    unfold wp_X6_turn_b80
    obtain ⟨j0, j1, j2⟩ := hτ
    have eH : τ.1 4 1 = nI g.gH := by rw [j2, if_neg (by omega), e41]
    rw [eH, pn_in (by omega) (by omega), pn_in (by omega) (by omega), pn_cl (by omega), pn_cl (show i < 2 ^ 31 by omega), show 21 + 1 + h = 22 + h by omega, na1]
    exact ⟨fun q => absurd q (nI_ge hi (by omega)), fun _ => ⟨by omega, by omega, by omega, hk _ ⟨by omega, j1, sX i τ j2 j1 j0 hi⟩⟩⟩
/-! count -/
def bcV (x0 : Int32) : Int32 :=
  let v9 := x0 - (((x0.toUInt32 >>> ((1 : Int32).toUInt32 &&& Int32.toUInt32 31)).toInt32) &&& 1431655765)
  let v23 := (v9 &&& 858993459) + (((v9.toUInt32 >>> ((2 : Int32).toUInt32 &&& Int32.toUInt32 31)).toInt32) &&& 858993459)
  let v33 := (v23 + ((v23.toUInt32 >>> ((4 : Int32).toUInt32 &&& Int32.toUInt32 31)).toInt32)) &&& 252645135
  let v40 := v33 + ((v33.toUInt32 >>> ((8 : Int32).toUInt32 &&& Int32.toUInt32 31)).toInt32)
  let v47 := v40 + ((v40.toUInt32 >>> ((16 : Int32).toUInt32 &&& Int32.toUInt32 31)).toInt32)
  v47 &&& 63
theorem bc_ok {Q : Int32 → St → Prop} {x0 : Int32} (hq : Q (bcV x0) σ) : wp_J6_bitCount_0f7a4 x0 Q σ := by
  unfold wp_J6_bitCount_0f7a4
  intro v9 h9 v23 h23 v33 h33 v40 h40 v47 h47
  subst h9; subst h23; subst h33; subst h40; subst h47
  exact hq
def bitB (b c : Nat) : Bool := decide (b / 2 ^ c % 2 = 1)
def frV (w b : Nat) : Int32 := (((1 : Int32) <<< (nI w &&& 31)) - 1) &&& (nI b ^^^ (-1))
theorem bc_free : ∀ w, w < 11 → ∀ b, b < 2 ^ w → nI w - bcV (frV w b) = nI (cntB (bitB b) 0 w) := by decide +kernel
def sumB (g : Geo) : Nat → Nat
  | 0 => 0
  | n + 1 => sumB g n + cntB (bitB (g.bar n)) 0 g.gW
theorem sumB_le (g : Geo) (n : Nat) : sumB g n ≤ n * g.gW := by
  induction n with
  | zero => exact Nat.zero_le _
  | succ n ih =>
    show sumB g n + _ ≤ _
    have := cntB_le (bitB (g.bar n)) 0 g.gW
    rw [Nat.succ_mul]
    omega
theorem free_ok {Q : Int32 → St → Prop} {r : Nat} (hd : IDim g σ) (hb : IBar g σ) (hr : r < 16) (hq : Q (frV g.gW (g.bar r)) σ) : wp_X4_freeColumns (nI r) Q σ := by
  unfold wp_X4_freeColumns
  rw [pn_in (by omega) (by omega), pn_cl (by omega), hd.2.1, (hb.1 r hr).1]
  exact ⟨by omega, hq⟩
theorem barred_ok {Q : Int32 → St → Prop} (hd : IDim g σ) (hb : IBar g σ) (hq : Q (nI (sumB g g.gH)) σ) : wp_X4_barredBricks Q σ := by
  have hd0 := hd
  obtain ⟨⟨d1, d2, d3, d4, d5⟩, e1, e2, -⟩ := hd
  unfold wp_X4_barredBricks
  refine pk_loop (fun n i a => wp_X4_barredBricks_l4 Q n (nI a) (nI i) σ) (fun i a => a = sumB g i) g.gH 0 0 (by omega) rfl (fun n a ha => ?_) (fun n i a hi ha hk => ?_)
  · show wp_X4_barredBricks_b4 _ _ _ _ _
    unfold wp_X4_barredBricks_b4
    rw [e2, ha]
    exact ⟨fun _ => hq, fun q => absurd (nI_le (Nat.le_refl _) (by omega)) q⟩
  · show wp_X4_barredBricks_b4 _ _ _ _ _
    unfold wp_X4_barredBricks_b4
    rw [e2]
    refine ⟨fun q => absurd q (nI_ge hi (by omega)), fun _ => free_ok hd0 hb (by omega) (bc_ok ?_)⟩
    rw [e1, bc_free g.gW (by omega) (g.bar i) (hb.1 i (by omega)).2.2, nI_add, na1]
    exact hk _ (by rw [ha]; rfl)
theorem op_count (hI : Inv g σ) (hK : K σ) (x : Int32) : wp_X6_count x (fun r σ1 => wp_X7_count x (fun r2 σ2 => (r = r2 → K σ2) ∧ (¬ r = r2 → F)) σ1) σ := by
  have hd := hI.1
  have hb := hI.2.1
  obtain ⟨⟨d1, d2, d3, d4, d5⟩, e1, e2, e3, e4, e5, e6⟩ := id hd
  obtain ⟨M, -, m1, m2, -⟩ := hI.2.2.2.2.2.2.1
  obtain ⟨T, -, t1, t2, -⟩ := hI.2.2.2.2.2.2.2.2.1
  have MM : ∀ v : Int32, (x = 0 → v = nI g.gW) → (x = 1 → v = nI g.gH) → (x = 2 → v = nI g.gN) → (x = 3 → v = nI M) → (x = 4 → v = nI T) → (x = 5 → v = nI (sumB g g.gH)) → (¬ x = 0 → ¬ x = 1 → ¬ x = 2 → ¬ x = 3 → ¬ x = 4 → ¬ x = 5 → v = -1) → wp_X7_count x (fun r2 σ2 => (v = r2 → K σ2) ∧ (¬ v = r2 → F)) σ := by
    intro v v0 v1 v2 v3 v4 v5 v6
    unfold wp_X7_count
    refine pk_loop (fun n i a => wp_X7_count_l4 (fun r2 σ2 => (v = r2 → K σ2) ∧ (¬ v = r2 → F)) n x (nI a) (nI i) σ) (fun i a => a = sumB g i) g.gH 0 0 (by omega) rfl (fun n a ha => ?_) (fun n i a hi ha hk => ?_)
    · show wp_X7_count_b4 _ _ _ _ _ _
      unfold wp_X7_count_b4
      rw [c0, e5, e4, e6, m2, t2, ha]
      exact ⟨vin0_2, fun _ => ⟨fun q => ⟨vin0_2, eq_k (v0 q) hK⟩, fun q0 => ⟨fun q => ⟨vin0_2, eq_k (v1 q) hK⟩, fun q1 => ⟨fun q => ⟨vin0_2, eq_k (v2 q) hK⟩, fun q2 => ⟨fun q => ⟨vin0_3, eq_k (v3 q) hK⟩, fun q3 => ⟨fun q => eq_k (v4 q) hK, fun q4 => ⟨fun q => eq_k (v5 q) hK, fun q5 => eq_k (v6 q0 q1 q2 q3 q4 q5) hK⟩⟩⟩⟩⟩⟩, fun q => absurd (nI_le (Nat.le_refl _) (by omega)) q⟩
    · show wp_X7_count_b4 _ _ _ _ _ _
      unfold wp_X7_count_b4
      rw [c0, e5]
      refine ⟨vin0_2, fun q => absurd q (nI_ge hi (by omega)), fun _ => ?_⟩
      refine pk_loop (fun n c a => wp_X7_count_l17 (fun r2 σ2 => (v = r2 → K σ2) ∧ (¬ v = r2 → F)) _ n x (nI a) (nI i) (nI c) σ) (fun c a => a = sumB g i + cntB (bitB (g.bar i)) 0 c) g.gW 0 a (by omega) ha (fun n a ha => ?_) (fun n c a hc ha hk2 => ?_)
      · show wp_X7_count_b17 _ _ _ _ _ _ _ _
        unfold wp_X7_count_b17
        rw [c0, e4, na1]
        exact ⟨vin0_2, fun _ => hk a (by rw [ha]; rfl), fun q => absurd (nI_le (Nat.le_refl _) (by omega)) q⟩
      · show wp_X7_count_b17 _ _ _ _ _ _ _ _
        unfold wp_X7_count_b17
        rw [c0, e4, na1, na0, na1, na1]
        refine ⟨vin0_2, fun q => absurd q (nI_ge hc (by omega)), fun _ => isBarred_ok hd hb (by omega) (by omega) (i2_eq (fun q => hk2 _ ?_) (fun q => hk2 _ ?_))⟩
        · have := cnt_t (P := bitB (g.bar i)) (a := 0) (i := c) (Nat.zero_le _) (decide_eq_true q)
          rw [Nat.sub_zero, Nat.sub_zero] at this
          rw [this]; omega
        · have := cnt_f (P := bitB (g.bar i)) (a := 0) (i := c) (Nat.zero_le _) (by unfold bitB; rw [decide_eq_true_eq]; exact q)
          rw [Nat.sub_zero, Nat.sub_zero] at this
          rw [this]; omega
  unfold wp_X6_count
  rw [e1, e2, e3, m1, t1]
  have no : ∀ {a b : Int32} {P : Prop}, a.toInt ≠ b.toInt → x = a → x = b → P := fun h1 h2 h3 => absurd (by rw [← h2, ← h3]) h1
  refine ⟨fun q => MM _ (fun _ => rfl) (no (by decide) q) (no (by decide) q) (no (by decide) q) (no (by decide) q) (no (by decide) q) (fun n => absurd q n), fun q0 => ⟨fun q => MM _ (no (by decide) q) (fun _ => rfl) (no (by decide) q) (no (by decide) q) (no (by decide) q) (no (by decide) q) (fun _ n => absurd q n), fun q1 => ⟨fun q => MM _ (no (by decide) q) (no (by decide) q) (fun _ => rfl) (no (by decide) q) (no (by decide) q) (no (by decide) q) (fun _ _ n => absurd q n), fun q2 => ⟨fun q => MM _ (no (by decide) q) (no (by decide) q) (no (by decide) q) (fun _ => rfl) (no (by decide) q) (no (by decide) q) (fun _ _ _ n => absurd q n), fun q3 => ⟨fun q => MM _ (no (by decide) q) (no (by decide) q) (no (by decide) q) (no (by decide) q) (fun _ => rfl) (no (by decide) q) (fun _ _ _ _ n => absurd q n), fun q4 => ⟨fun q => barred_ok hd hb (MM _ (no (by decide) q) (no (by decide) q) (no (by decide) q) (no (by decide) q) (no (by decide) q) (fun _ => rfl) (fun _ _ _ _ _ n => absurd q n)), fun q5 => MM _ (fun n => absurd n q0) (fun n => absurd n q1) (fun n => absurd n q2) (fun n => absurd n q3) (fun n => absurd n q4) (fun n => absurd n q5) (fun _ _ _ _ _ _ => rfl)⟩⟩⟩⟩⟩⟩
end TURN
