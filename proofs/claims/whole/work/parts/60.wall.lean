/-! wall -/
section WP
variable {σ τ υ : St} {T p : Nat} {tx : Nat → Nat} {g : Geo}
theorem wallP_ok {Q : Int32 → St → Prop} (tu : Nat → Nat) (hT : T ≤ 300) (h2 : σ.1 75 2 = nI T) (ht : ∀ j, j < T → (σ.1 76 j) &&& 255 = nI (tx j) ∧ tx j < 256)
    (hq1 : ∀ τ g', runS (tk T (Bt T tx)) (T + 1) 0 0 (g0 tu) = .inr g' → WFg g' → Cor σ τ → DM g' τ → τ.1 75 17 = -9 → wp_X7_wall_b102 Q τ)
    (hq0 : ∀ τ f, runS (tk T (Bt T tx)) (T + 1) 0 0 (g0 tu) = .inl f → Cor σ τ → τ.1 75 17 = nI f → f ≤ T → wp_X7_wall_b102 Q τ) : wp_X7_wall Q σ := by
  unfold wp_X7_wall
  rw [cl_1]
  refine ⟨vin1_2, vin1_2, vin1_2, vin1_2, ?_⟩
  generalize hσ1 : sI (sI (sI (sI (sI (sI σ 75 13 (0 : Int32)) 75 17 (-9)) 77 1 (10 : Int32)) 78 1 (10 : Int32)) 79 1 (0 : Int32)) 84 1 (0 : Int32) = σ1
  have r13 : FE σ (sI σ 75 13 (0 : Int32)) := ⟨fun x j n m => by rw [sI_1, if_neg (by omega)], rfl⟩
  have f1 : FE σ σ1 := by
    rw [← hσ1]
    exact (((((r13.f _).s (by unfold RMd; omega) _).s (by unfold RMd; omega) _).s (by unfold RMd; omega) _).s (by unfold RMd; omega) _)
  have a13 : σ1.1 75 13 = nI 0 := by rw [← hσ1, sI_1, if_neg (by omega), sI_1, if_neg (by omega), sI_1, if_neg (by omega), sI_1, if_neg (by omega), sI_1, if_neg (by omega), sI_1, if_pos ⟨rfl, rfl⟩]; rfl
  have a17 : σ1.1 75 17 = -9 := by rw [← hσ1, sI_1, if_neg (by omega), sI_1, if_neg (by omega), sI_1, if_neg (by omega), sI_1, if_neg (by omega), sI_1, if_pos ⟨rfl, rfl⟩]
  have a77 : σ1.1 77 1 = nI 10 := by rw [← hσ1, sI_1, if_neg (by omega), sI_1, if_neg (by omega), sI_1, if_neg (by omega), sI_1, if_pos ⟨rfl, rfl⟩]; rfl
  have a78 : σ1.1 78 1 = nI 10 := by rw [← hσ1, sI_1, if_neg (by omega), sI_1, if_neg (by omega), sI_1, if_pos ⟨rfl, rfl⟩]; rfl
  have a79 : σ1.1 79 1 = nI 0 := by rw [← hσ1, sI_1, if_neg (by omega), sI_1, if_pos ⟨rfl, rfl⟩]; rfl
  have a84 : σ1.1 84 1 = nI 0 := by rw [← hσ1, sI_1, if_pos ⟨rfl, rfl⟩]; rfl
  refine pk_loop (fun n i τ => wp_X7_wall_l43 Q n (nI i) τ) (fun i τ => FE σ τ ∧ (∀ k j, ¬ (k = 83 ∧ 16 ≤ j) → τ.1 k j = σ1.1 k j) ∧ ∀ r, r < i → τ.1 83 (16 + r) = nI 0) 16 0 σ1 (by omega) ⟨f1, fun _ _ _ => rfl, fun r hr => by omega⟩ (fun n τ hτ => ?_) (fun n i τ hi hτ hk => ?_)
  · show wp_X7_wall_b43 _ _ _ _
    unfold wp_X7_wall_b43
    obtain ⟨t1, t2, t3⟩ := hτ
    have hX : TXm T tx τ := (show TXm T tx σ from ⟨hT, h2, ht⟩).fe t1
    have hD : DM (g0 tu) τ := ⟨by rw [t2 _ _ (by omega)]; exact a77, by rw [t2 _ _ (by omega)]; exact a78, by rw [t2 _ _ (by omega)]; exact a84, by rw [t2 _ _ (by omega)]; exact a79, t3, fun h hh => by have hh : h < 0 := hh; omega⟩
    refine ⟨fun _ => next_ok (p := 0) hX (by rw [t2 _ _ (by omega)]; exact a13) (by omega) (fun υ f ht0 hx0 => ?_), fun z => absurd (by decide) z⟩
    have u17 : υ.1 75 17 = -9 := by rw [f.1 _ _ (by omega), t2 _ _ (by omega)]; exact a17
    refine pk_loop (fun n i φ => wp_X7_wall_l71 Q n (nI i) φ) (fun i φ => FE σ φ ∧ ((∃ p g, p ≤ T ∧ i ≤ p ∧ Tok T (Bt T tx) p (tk T (Bt T tx) p) ∧ TokM (tk T (Bt T tx) p) φ ∧ DM g φ ∧ WFg g ∧ φ.1 75 17 = -9 ∧ (i = 0 → Blank g) ∧ runS (tk T (Bt T tx)) (T + 1) 0 0 (g0 tu) = runS (tk T (Bt T tx)) (T + 1 - i) i p g) ∨ (∃ f, runS (tk T (Bt T tx)) (T + 1) 0 0 (g0 tu) = .inl f ∧ f ≤ T ∧ φ.1 75 17 = nI f ∧ i ≤ T + 1))) (T + 2) 0 υ (by omega) ⟨t1.tr f.g, Or.inl ⟨0, g0 tu, by omega, by omega, ht0, hx0, hD.fq f, g0_wf tu, u17, fun _ => g0_bl tu, rfl⟩⟩ (fun n φ hφ => ?_) (fun n i φ hi hφ hk => ?_)
    · obtain ⟨v1, ⟨p, g, y1, y2, -⟩ | ⟨f, y1, y2, y3, y4⟩⟩ := hφ
      · omega
      · omega
    · show wp_X7_wall_b71 _ _ _ _
      unfold wp_X7_wall_b71
      obtain ⟨v1, ⟨p, g, y1, y2, y3, y4, y5, y6, y7, y8, y9⟩ | ⟨f, y1, y2, y3, y4⟩⟩ := hφ
      · obtain ⟨m, hm⟩ : ∃ m, T + 1 - i = m + 1 := ⟨T - i, by omega⟩
        have y9' := y9
        rw [hm] at y9'
        have e9 : runS (tk T (Bt T tx)) (m + 1) i p g = if (tk T (Bt T tx) p).k = 7 then .inr g else bS (itmS (tk T (Bt T tx)) (tk T (Bt T tx) p).k (tk T (Bt T tx) p).s (tk T (Bt T tx) p).e (decide (i = 0)) g) (fun x => runS (tk T (Bt T tx)) m (i + 1) x.1 x.2) := rfl
        rw [e9] at y9'
        obtain ⟨z1, z2, z3, z4, z5, z6⟩ := y3.b y1
        have k7 := kdM_7 z6
        rw [y4.2.2.1, show (0 : Int32) = nI 0 from rfl, pn_eq (by omega) (by omega), k7.2, na1]
        refine ⟨fun _ => ⟨fun w => ?_, fun w => ?_⟩, fun w => absurd y7 w⟩
        · rw [if_pos w] at y9'
          exact hq1 φ g y9' y6 v1.cor y5 y7
        · rw [if_neg w] at y9'
          refine item_ok y7 ((show TXm T tx σ from ⟨hT, h2, ht⟩).fe v1) y1 y3 y4 y5 y6 w (by omega) (fun ψ q g' hi2 f2 d7 d2 hq hq2 hq3 pq => hk ψ ⟨v1.tr f2, Or.inl ⟨q, g', hq, by omega, hq2, hq3, d2, itm_wf y6 (fun w => y8 (of_decide_eq_true w)) hi2, d7, fun w => by omega, ?_⟩⟩) (fun ψ f hi2 f2 e7 hf => hk ψ ⟨v1.tr f2, Or.inr ⟨f, y9'.trans (bS_l hi2), hf, e7, by omega⟩⟩)
          rw [y9', bS_r hi2, show T + 1 - (i + 1) = m by omega]
      · rw [y3]
        exact ⟨fun w => absurd w (n9 (by omega)), fun _ => hq0 φ f y1 v1.cor y3 y2⟩
  · show wp_X7_wall_b43 _ _ _ _
    unfold wp_X7_wall_b43
    obtain ⟨t1, t2, t3⟩ := hτ
    rw [show (16 : Int32) + nI i = nI (16 + i) from nI_add 16 i, pn_in (by omega) (by omega), pn_cl (by omega), na1]
    refine ⟨fun z => absurd z (nI_ge (b := 16) hi (by omega)), fun _ => ⟨by omega, hk _ ⟨t1.s (by unfold RMd; omega) _, fun k j n => by rw [sI_1, if_neg (by omega)]; exact t2 k j n, fun r hr => ?_⟩⟩⟩
    rw [sI_1]
    by_cases e : r = i
    · rw [if_pos ⟨rfl, by omega⟩]; rfl
    · rw [if_neg (by omega)]; exact t3 r (by omega)
/-- what a wall read anew leaves of the reference -/
def MWR (g : Geo) (υ ψ : St) : Prop := (ψ.2 = υ.2 ∧ ∀ k i, ¬ (77 ≤ k ∧ k ≤ 84) → ¬ (k = 86) → ¬ (k = 95 ∨ k = 96 ∨ k = 99) → ¬ (k = 75 ∧ i = 2) → ψ.1 k i = υ.1 k i) ∧ (ψ.1 77 0 = nI g.gW ∧ ψ.1 78 0 = nI g.gH ∧ ψ.1 79 0 = nI g.gN ∧ ψ.1 84 0 = nI g.cold) ∧ (∀ r, r < 16 → ψ.1 83 r = nI (g.bar r)) ∧ (∀ h, h < g.gN → ψ.1 80 h = nI (g.co h) ∧ ψ.1 81 h = nI (g.cl h) ∧ ψ.1 82 h = nI (g.ne h) ∧ ∀ r, r < 16 → ψ.1 95 (16 * h + r) = nI (g.cl h)) ∧ (∀ c, c < 40 → ψ.1 86 c = 0) ∧ ψ.1 96 0 = 0 ∧ (ψ.1 99 0 = 0 ∧ ψ.1 99 1 = 0) ∧ ψ.1 75 2 = 0
theorem cp6 : (6 : Int32).toNatClampNeg = 6 := by decide
theorem b102_ok {Q : Int32 → St → Prop} (hw : WFg g) (hD : DM g σ) (h17 : σ.1 75 17 = -9) (hq : ∀ ψ, MWR g σ ψ → Q (nI g.gN) ψ) : wp_X7_wall_b102 Q σ := by
  obtain ⟨⟨w1, w2, w3, w4, w5⟩, w6, w7, w8⟩ := hw
  obtain ⟨d1, d2, d3, d4, d5, d6⟩ := hD
  unfold wp_X7_wall_b102
  rw [cl_1, c0]
  refine ⟨fun _ => ⟨vin1_2, vin0_2, vin1_2, vin0_2, vin1_2, vin0_2, vin1_2, vin0_2, ?_⟩, fun z => absurd h17 z⟩
  generalize h1 : sI σ 77 0 (σ.1 77 1) = a1
  generalize h2 : sI a1 78 0 (a1.1 78 1) = a2
  generalize h3 : sI a2 79 0 (a2.1 79 1) = a3
  generalize h4 : sI a3 84 0 (a3.1 84 1) = a4
  have rd : ∀ k i, ¬ ((k = 77 ∨ k = 78 ∨ k = 79 ∨ k = 84) ∧ i = 0) → a4.1 k i = σ.1 k i := fun k i n => by rw [← h4, sI_1, if_neg (by omega), ← h3, sI_1, if_neg (by omega), ← h2, sI_1, if_neg (by omega), ← h1, sI_1, if_neg (by omega)]
  have j2 : a4.2 = σ.2 := by rw [← h4, sI_2, ← h3, sI_2, ← h2, sI_2, ← h1, sI_2]
  have e77 : a4.1 77 0 = nI g.gW := by rw [← h4, sI_1, if_neg (by omega), ← h3, sI_1, if_neg (by omega), ← h2, sI_1, if_neg (by omega), ← h1, sI_1, if_pos ⟨rfl, rfl⟩]; exact d1
  have e78 : a4.1 78 0 = nI g.gH := by rw [← h4, sI_1, if_neg (by omega), ← h3, sI_1, if_neg (by omega), ← h2, sI_1, if_pos ⟨rfl, rfl⟩, ← h1, sI_1, if_neg (by omega)]; exact d2
  have e79 : a4.1 79 0 = nI g.gN := by rw [← h4, sI_1, if_neg (by omega), ← h3, sI_1, if_pos ⟨rfl, rfl⟩, ← h2, sI_1, if_neg (by omega), ← h1, sI_1, if_neg (by omega)]; exact d4
  have e84 : a4.1 84 0 = nI g.cold := by rw [← h4, sI_1, if_pos ⟨rfl, rfl⟩, ← h3, sI_1, if_neg (by omega), ← h2, sI_1, if_neg (by omega), ← h1, sI_1, if_neg (by omega)]; exact d3
  -- the loops' common frame
  refine pk_loop (fun n i τ => wp_X7_wall_l169 Q n (nI i) τ) (fun i τ => τ.2 = σ.2 ∧ (∀ k j, ¬ (k = 83 ∧ j < 16) → τ.1 k j = a4.1 k j) ∧ ∀ r, r < i → τ.1 83 r = nI (g.bar r)) 16 0 a4 (by omega) ⟨j2, fun _ _ _ => rfl, fun r hr => by omega⟩ (fun n τ hτ => ?_) (fun n i τ hi hτ hk => ?_)
  · show wp_X7_wall_b169 _ _ _ _
    unfold wp_X7_wall_b169
    obtain ⟨t1, t2, t3⟩ := hτ
    refine ⟨fun _ => ?_, fun z => absurd (by decide) z⟩
    refine pk_loop (fun n i υ => wp_X7_wall_l198 Q n (nI i) υ) (fun i υ => υ.2 = σ.2 ∧ (∀ k j, ¬ ((80 ≤ k ∧ k ≤ 82) ∧ j < 3) → ¬ k = 95 → υ.1 k j = τ.1 k j) ∧ ∀ h, h < i → h < g.gN → υ.1 80 h = nI (g.co h) ∧ υ.1 81 h = nI (g.cl h) ∧ υ.1 82 h = nI (g.ne h) ∧ ∀ r, r < 16 → υ.1 95 (16 * h + r) = nI (g.cl h)) 3 0 τ (by omega) ⟨t1, fun _ _ _ _ => rfl, fun h hh => by omega⟩ (fun n υ hυ => ?_) (fun n i υ hi hυ hk => ?_)
    · show wp_X7_wall_b198 _ _ _ _
      unfold wp_X7_wall_b198
      obtain ⟨u1, u2, u3⟩ := hυ
      refine ⟨fun _ => ?_, fun z => absurd (by decide) z⟩
      refine pk_loop (fun n i φ => wp_X7_wall_l284 Q n (nI i) φ) (fun i φ => φ.2 = σ.2 ∧ (∀ k j, ¬ k = 86 → φ.1 k j = υ.1 k j) ∧ ∀ c, c < i → φ.1 86 c = 0) 40 0 υ (by omega) ⟨u1, fun _ _ _ => rfl, fun c hc => by omega⟩ (fun n φ hφ => ?_) (fun n i φ hi hφ hk => ?_)
      · show wp_X7_wall_b284 _ _ _ _
        unfold wp_X7_wall_b284
        obtain ⟨v1, v2, v3⟩ := hφ
        have nb : vp_nar .boolean (0 : Int32) = 0 := by decide
        rw [cl_1, c0, nb]
        refine ⟨fun _ => ⟨by unfold vp_in; decide, vin0_2, vin1_2, vin0_2, ?_⟩, fun z => absurd (by decide) z⟩
        generalize hψ : sI (sI (sI (sI φ 96 0 (0 : Int32)) 99 0 0) 99 1 0) 75 2 (0 : Int32) = ψ
        have rp : ∀ k j, ¬ (k = 96 ∧ j = 0) → ¬ (k = 99 ∧ (j = 0 ∨ j = 1)) → ¬ (k = 75 ∧ j = 2) → ψ.1 k j = φ.1 k j := fun k j n1 n2 n3 => by rw [← hψ, sI_1, if_neg n3, sI_1, if_neg (by omega), sI_1, if_neg (by omega), sI_1, if_neg n1]
        have q79 : ψ.1 79 0 = nI g.gN := by rw [rp _ _ (by omega) (by omega) (by omega), v2 _ _ (by omega), u2 _ _ (by omega) (by omega), t2 _ _ (by omega)]; exact e79
        rw [q79]
        refine hq ψ ⟨⟨by rw [← hψ]; exact v1, fun k i n1 n2 n3 n4 => ?_⟩, ⟨?_, ?_, q79, ?_⟩, fun r hr => ?_, fun h hh => ?_, fun c hc => ?_, ?_, ⟨?_, ?_⟩, ?_⟩
        · rw [rp _ _ (by omega) (by omega) n4, v2 _ _ n2, u2 _ _ (by omega) (by omega), t2 _ _ (by omega), rd _ _ (by omega)]
        · rw [rp _ _ (by omega) (by omega) (by omega), v2 _ _ (by omega), u2 _ _ (by omega) (by omega), t2 _ _ (by omega)]; exact e77
        · rw [rp _ _ (by omega) (by omega) (by omega), v2 _ _ (by omega), u2 _ _ (by omega) (by omega), t2 _ _ (by omega)]; exact e78
        · rw [rp _ _ (by omega) (by omega) (by omega), v2 _ _ (by omega), u2 _ _ (by omega) (by omega), t2 _ _ (by omega)]; exact e84
        · rw [rp _ _ (by omega) (by omega) (by omega), v2 _ _ (by omega), u2 _ _ (by omega) (by omega)]; exact t3 r hr
        · obtain ⟨x1, x2, x3, x4⟩ := u3 h (by omega) hh
          refine ⟨?_, ?_, ?_, fun r hr => ?_⟩
          · rw [rp _ _ (by omega) (by omega) (by omega), v2 _ _ (by omega)]; exact x1
          · rw [rp _ _ (by omega) (by omega) (by omega), v2 _ _ (by omega)]; exact x2
          · rw [rp _ _ (by omega) (by omega) (by omega), v2 _ _ (by omega)]; exact x3
          · rw [rp _ _ (by omega) (by omega) (by omega), v2 _ _ (by omega)]; exact x4 r hr
        · rw [rp _ _ (by omega) (by omega) (by omega)]; exact v3 c hc
        · rw [← hψ, sI_1, if_neg (by omega), sI_1, if_neg (by omega), sI_1, if_neg (by omega), sI_1, if_pos ⟨rfl, rfl⟩]
        · rw [← hψ, sI_1, if_neg (by omega), sI_1, if_neg (by omega), sI_1, if_pos ⟨rfl, rfl⟩]
        · rw [← hψ, sI_1, if_neg (by omega), sI_1, if_pos ⟨rfl, rfl⟩]
        · rw [← hψ, sI_1, if_pos ⟨rfl, rfl⟩]
      · show wp_X7_wall_b284 _ _ _ _
        unfold wp_X7_wall_b284
        obtain ⟨v1, v2, v3⟩ := hφ
        rw [pn_in (by omega) (by omega), pn_cl (by omega), na1]
        refine ⟨fun z => absurd z (nI_ge (b := 40) hi (by omega)), fun _ => ⟨hi, hk _ ⟨v1, fun k j n => by rw [sI_1, if_neg (by omega)]; exact v2 k j n, fun c hc => ?_⟩⟩⟩
        rw [sI_1]
        by_cases e : c = i
        · rw [if_pos ⟨rfl, e⟩]
        · rw [if_neg (by omega)]; exact v3 c (by omega)
    · show wp_X7_wall_b198 _ _ _ _
      unfold wp_X7_wall_b198
      obtain ⟨u1, u2, u3⟩ := hυ
      rw [show (3 : Int32) + nI i = nI (3 + i) from nI_add 3 i, pn_in (by omega) (by omega), pn_in (by omega) (by omega), pn_cl (by omega), pn_cl (by omega)]
      refine ⟨fun z => absurd z (nI_ge (b := 3) hi (by omega)), fun _ => ⟨by omega, by omega, by omega, by omega, by omega, by omega, ?_⟩⟩
      generalize k1 : sI υ 80 i (υ.1 80 (3 + i)) = b1
      generalize k2 : sI b1 81 i (b1.1 81 (3 + i)) = b2
      generalize k3 : sI b2 82 i (b2.1 82 (3 + i)) = b3
      have rb : ∀ k j, ¬ ((80 ≤ k ∧ k ≤ 82) ∧ j = i) → b3.1 k j = υ.1 k j := fun k j n => by rw [← k3, sI_1, if_neg (by omega), ← k2, sI_1, if_neg (by omega), ← k1, sI_1, if_neg (by omega)]
      have old : ∀ k, 80 ≤ k → k ≤ 82 → υ.1 k (3 + i) = σ.1 k (3 + i) := fun k n1 n2 => by rw [u2 _ _ (by omega) (by omega), t2 _ _ (by omega), rd _ _ (by omega)]
      have g80 : b3.1 80 i = σ.1 80 (3 + i) := by rw [← k3, sI_1, if_neg (by omega), ← k2, sI_1, if_neg (by omega), ← k1, sI_1, if_pos ⟨rfl, rfl⟩]; exact old _ (by omega) (by omega)
      have g81 : b3.1 81 i = σ.1 81 (3 + i) := by rw [← k3, sI_1, if_neg (by omega), ← k2, sI_1, if_pos ⟨rfl, rfl⟩, ← k1, sI_1, if_neg (by omega)]; exact old _ (by omega) (by omega)
      have g82 : b3.1 82 i = σ.1 82 (3 + i) := by rw [← k3, sI_1, if_pos ⟨rfl, rfl⟩, ← k2, sI_1, if_neg (by omega), ← k1, sI_1, if_neg (by omega)]; exact old _ (by omega) (by omega)
      have jb : b3.2 = σ.2 := by rw [← k3, sI_2, ← k2, sI_2, ← k1, sI_2]; exact u1
      refine pk_loop (fun n r φ => wp_X7_wall_l247 Q _ n (nI i) (nI r) φ) (fun r φ => φ.2 = σ.2 ∧ (∀ k j, ¬ (k = 95 ∧ 16 * i ≤ j ∧ j < 16 * i + 16) → φ.1 k j = b3.1 k j) ∧ ∀ r', r' < r → φ.1 95 (16 * i + r') = b3.1 81 i) 16 0 b3 (by omega) ⟨jb, fun _ _ _ => rfl, fun r hr => by omega⟩ (fun n φ hφ => ?_) (fun n r φ hr hφ hk2 => ?_)
      · show wp_X7_wall_b247 _ _ _ _ _ _
        unfold wp_X7_wall_b247
        obtain ⟨v1, v2, v3⟩ := hφ
        rw [na1 i]
        refine ⟨fun _ => hk φ ⟨v1, fun k j n1 n2 => ?_, fun h hh hN => ?_⟩, fun z => absurd (by decide) z⟩
        · rw [v2 _ _ (by omega), rb _ _ (by omega)]; exact u2 k j n1 n2
        · by_cases e : h = i
          · rw [e] at hN ⊢
            obtain ⟨x1, x2, x3⟩ := d6 i hN
            refine ⟨?_, ?_, ?_, fun r hr => ?_⟩
            · rw [v2 _ _ (by omega), g80]; exact x1
            · rw [v2 _ _ (by omega), g81]; exact x2
            · rw [v2 _ _ (by omega), g82]; exact x3
            · rw [v3 r hr, g81]; exact x2
          · obtain ⟨x1, x2, x3, x4⟩ := u3 h (by omega) hN
            refine ⟨?_, ?_, ?_, fun r hr => ?_⟩
            · rw [v2 _ _ (by omega), rb _ _ (by omega)]; exact x1
            · rw [v2 _ _ (by omega), rb _ _ (by omega)]; exact x2
            · rw [v2 _ _ (by omega), rb _ _ (by omega)]; exact x3
            · rw [v2 _ _ (by omega), rb _ _ (by omega)]; exact x4 r hr
      · show wp_X7_wall_b247 _ _ _ _ _ _
        unfold wp_X7_wall_b247
        obtain ⟨v1, v2, v3⟩ := hφ
        rw [nm16, nI_add, pn_in (by omega) (by omega), pn_in (by omega) (by omega), pn_cl (by omega), pn_cl (by omega), na1 r, v2 81 i (by omega)]
        refine ⟨fun z => absurd z (nI_ge (b := 16) hr (by omega)), fun _ => ⟨by omega, by omega, hk2 _ ⟨v1, fun k j n => by rw [sI_1, if_neg (by omega)]; exact v2 k j n, fun r' hr' => ?_⟩⟩⟩
        rw [sI_1]
        by_cases e : r' = r
        · rw [if_pos ⟨rfl, by omega⟩]
        · rw [if_neg (by omega)]; exact v3 r' (by omega)
  · show wp_X7_wall_b169 _ _ _ _
    unfold wp_X7_wall_b169
    obtain ⟨t1, t2, t3⟩ := hτ
    rw [show (16 : Int32) + nI i = nI (16 + i) from nI_add 16 i, pn_in (by omega) (by omega), pn_in (by omega) (by omega), pn_cl (by omega), pn_cl (by omega), na1]
    refine ⟨fun z => absurd z (nI_ge (b := 16) hi (by omega)), fun _ => ⟨by omega, by omega, hk _ ⟨t1, fun k j n => by rw [sI_1, if_neg (by omega)]; exact t2 k j n, fun r hr => ?_⟩⟩⟩
    rw [sI_1]
    by_cases e : r = i
    · rw [if_pos ⟨rfl, e⟩, t2 _ _ (by omega), rd _ _ (by omega), e]
      exact d5 i hi
    · rw [if_neg (by omega)]; exact t3 r (by omega)
/-- what it leaves of the class -/
def XWR (g : Geo) (σ ψ : St) : Prop := (ψ.2 = σ.2 ∧ ∀ k i, (k = 14 ∨ 75 ≤ k) → ψ.1 k i = σ.1 k i) ∧ (ψ.1 4 0 = nI g.gW ∧ ψ.1 4 1 = nI g.gH ∧ ψ.1 4 2 = nI g.cold ∧ ψ.1 4 3 = nI g.gN) ∧ (∀ r, r < 16 → ψ.1 5 r = nI (g.bar r)) ∧ (∀ h, h < g.gN → ψ.1 6 h = nI (g.co h) ∧ ψ.1 7 h = nI (g.cl h) ∧ ψ.1 8 h = nI (g.ne h) ∧ ∀ r, r < 16 → ψ.1 (22 + h) r = nI (g.cl h)) ∧ (∀ q, q < 4 → ∀ c, c < 10 → ψ.1 (16 + q) c = 0) ∧ ψ.1 20 3 = 0 ∧ (ψ.1 42 0 = 0 ∧ ψ.1 42 1 = 0) ∧ ψ.1 0 1 = 0
theorem copyW_ok {Q : St → Prop} (hN : g.gN ≤ 3) (hD : DX g σ) (hq : ∀ τ, τ.2 = σ.2 → (∀ k i, ¬ (4 ≤ k ∧ k ≤ 8) → τ.1 k i = σ.1 k i) → (τ.1 4 0 = nI g.gW ∧ τ.1 4 1 = nI g.gH ∧ τ.1 4 2 = nI g.cold ∧ τ.1 4 3 = nI g.gN) → (∀ r, r < 16 → τ.1 5 r = nI (g.bar r)) → (∀ h, h < g.gN → τ.1 6 h = nI (g.co h) ∧ τ.1 7 h = nI (g.cl h) ∧ τ.1 8 h = nI (g.ne h)) → Q τ) : wp_X4_copyFrom Q σ := by
  obtain ⟨d1, d2, d3, d4, d5, d6⟩ := hD
  unfold wp_X4_copyFrom
  rw [c0, cl16, cl3]
  refine ⟨by decide, by decide, by decide, by decide, ?_⟩
  generalize h1 : sI σ 4 0 (σ.1 9 0) = a1
  generalize h2 : sI a1 4 1 (a1.1 9 1) = a2
  generalize h3 : sI a2 4 2 (a2.1 9 2) = a3
  generalize h4 : sI a3 4 3 (a3.1 9 3) = a4
  have rd : ∀ k i, ¬ (k = 4) → a4.1 k i = σ.1 k i := fun k i n => by rw [← h4, sI_1, if_neg (by omega), ← h3, sI_1, if_neg (by omega), ← h2, sI_1, if_neg (by omega), ← h1, sI_1, if_neg (by omega)]
  have e0 : a4.1 4 0 = nI g.gW := by rw [← h4, sI_1, if_neg (by omega), ← h3, sI_1, if_neg (by omega), ← h2, sI_1, if_neg (by omega), ← h1, sI_1, if_pos ⟨rfl, rfl⟩]; exact d1
  have e1 : a4.1 4 1 = nI g.gH := by rw [← h4, sI_1, if_neg (by omega), ← h3, sI_1, if_neg (by omega), ← h2, sI_1, if_pos ⟨rfl, rfl⟩, ← h1, sI_1, if_neg (by omega)]; exact d2
  have e2 : a4.1 4 2 = nI g.cold := by rw [← h4, sI_1, if_neg (by omega), ← h3, sI_1, if_pos ⟨rfl, rfl⟩, ← h2, sI_1, if_neg (by omega), ← h1, sI_1, if_neg (by omega)]; exact d3
  have e3 : a4.1 4 3 = nI g.gN := by rw [← h4, sI_1, if_pos ⟨rfl, rfl⟩, ← h3, sI_1, if_neg (by omega), ← h2, sI_1, if_neg (by omega), ← h1, sI_1, if_neg (by omega)]; exact d4
  have j4 : a4.2 = σ.2 := by rw [← h4, sI_2, ← h3, sI_2, ← h2, sI_2, ← h1, sI_2]
  generalize h5 : sR a4 5 (va_cpy (a4.1 10) (a4.1 5) 0 0 16) = a5
  generalize h6 : sR a5 6 (va_cpy (a5.1 11) (a5.1 6) 0 0 3) = a6
  generalize h7 : sR a6 7 (va_cpy (a6.1 12) (a6.1 7) 0 0 3) = a7
  generalize h8 : sR a7 8 (va_cpy (a7.1 13) (a7.1 8) 0 0 3) = a8
  have r5 : ∀ k i, ¬ k = 5 → a5.1 k i = a4.1 k i := fun k i n => by rw [← h5, sR_1, if_neg n]
  have r6 : ∀ k i, ¬ k = 6 → a6.1 k i = a5.1 k i := fun k i n => by rw [← h6, sR_1, if_neg n]
  have r7 : ∀ k i, ¬ k = 7 → a7.1 k i = a6.1 k i := fun k i n => by rw [← h7, sR_1, if_neg n]
  have r8 : ∀ k i, ¬ k = 8 → a8.1 k i = a7.1 k i := fun k i n => by rw [← h8, sR_1, if_neg n]
  have p5 : ∀ r, r < 16 → a5.1 5 r = a4.1 10 r := fun r hr => by rw [← h5, sR_1, if_pos rfl, cpy0, if_pos hr]
  have p6 : ∀ r, r < 3 → a6.1 6 r = a5.1 11 r := fun r hr => by rw [← h6, sR_1, if_pos rfl, cpy0, if_pos hr]
  have p7 : ∀ r, r < 3 → a7.1 7 r = a6.1 12 r := fun r hr => by rw [← h7, sR_1, if_pos rfl, cpy0, if_pos hr]
  have p8 : ∀ r, r < 3 → a8.1 8 r = a7.1 13 r := fun r hr => by rw [← h8, sR_1, if_pos rfl, cpy0, if_pos hr]
  have all : ∀ k i, ¬ (5 ≤ k ∧ k ≤ 8) → a8.1 k i = a4.1 k i := fun k i n => by rw [r8 _ _ (by omega), r7 _ _ (by omega), r6 _ _ (by omega), r5 _ _ (by omega)]
  refine hq a8 (by rw [← h8, sR_2, ← h7, sR_2, ← h6, sR_2, ← h5, sR_2]; exact j4) (fun k i n => by rw [all _ _ (by omega), rd _ _ (by omega)]) ⟨by rw [all _ _ (by omega)]; exact e0, by rw [all _ _ (by omega)]; exact e1, by rw [all _ _ (by omega)]; exact e2, by rw [all _ _ (by omega)]; exact e3⟩ (fun r hr => ?_) (fun h hh => ?_)
  · rw [r8 _ _ (by omega), r7 _ _ (by omega), r6 _ _ (by omega), p5 r hr, rd _ _ (by omega)]; exact d5 r hr
  · obtain ⟨x1, x2, x3⟩ := d6 h hh
    refine ⟨?_, ?_, ?_⟩
    · rw [r8 _ _ (by omega), r7 _ _ (by omega), p6 h (by omega), r5 _ _ (by omega), rd _ _ (by omega)]; exact x1
    · rw [r8 _ _ (by omega), p7 h (by omega), r6 _ _ (by omega), r5 _ _ (by omega), rd _ _ (by omega)]; exact x2
    · rw [p8 h (by omega), r7 _ _ (by omega), r6 _ _ (by omega), r5 _ _ (by omega), rd _ _ (by omega)]; exact x3
theorem hasHC_ok {Q : Int32 → St → Prop} {i : Nat} (hN : g.gN ≤ 3) (h43 : σ.1 4 3 = nI g.gN) (hi : i < 3) (hq : Q (bI (i < g.gN)) σ) : wp_X4_hasHearth (nI i) Q σ := by
  unfold wp_X4_hasHearth
  rw [h43, pn_le (by omega) (by omega)]
  refine ⟨fun z => absurd z (nI_pos (by omega)), fun _ => ⟨fun z => ?_, fun z => ?_⟩⟩
  · rwa [bI_f (by omega)] at hq
  · rwa [bI_t (by omega)] at hq
theorem upW_ok {Q : St → Prop} (hN : g.gN ≤ 3) (h43 : σ.1 4 3 = nI g.gN) (h7 : ∀ h, h < g.gN → σ.1 7 h = nI (g.cl h)) (hq : ∀ τ, τ.2 = σ.2 → (∀ k i, ¬ (22 ≤ k ∧ k < 25) → τ.1 k i = σ.1 k i) → (∀ h, h < g.gN → ∀ r, r < 16 → τ.1 (22 + h) r = nI (g.cl h)) → Q τ) : wp_X2_goStraightUp Q σ := by
  unfold wp_X2_goStraightUp
  refine pk_loop (fun n i τ => wp_X2_goStraightUp_l2 Q n (nI i) τ) (fun i τ => τ.2 = σ.2 ∧ (∀ k j, ¬ (22 ≤ k ∧ k < 25) → τ.1 k j = σ.1 k j) ∧ ∀ h, h < i → h < g.gN → ∀ r, r < 16 → τ.1 (22 + h) r = nI (g.cl h)) 3 0 σ (by omega) ⟨rfl, fun _ _ _ => rfl, fun h hh => by omega⟩ (fun n τ hτ => ?_) (fun n i τ hi hτ hk => ?_)
  · show wp_X2_goStraightUp_b2 _ _ _ _
    unfold wp_X2_goStraightUp_b2
    exact ⟨fun _ => hq τ hτ.1 hτ.2.1 (fun h hh r hr => hτ.2.2 h (by omega) hh r hr), fun z => absurd (by decide) z⟩
  · show wp_X2_goStraightUp_b2 _ _ _ _
    unfold wp_X2_goStraightUp_b2 wp_X2_goStraightUp_b31 wp_fillI
    obtain ⟨t1, t2, t3⟩ := hτ
    rw [pn_in (by omega) (by omega), pn_cl (by omega), na1]
    have go : ∀ v : Int32, (i < g.gN → v = nI (g.cl i)) → wp_X2_goStraightUp_l2 Q n (nI (i + 1)) (sR τ (21 + 1 + i) (fun j => if j < 16 then v else τ.1 (21 + 1 + i) j)) := by
      intro v hv
      refine hk _ ⟨t1, fun k j n => by rw [sR_1, if_neg (by omega)]; exact t2 k j n, fun h hh hN2 r hr => ?_⟩
      rw [sR_1]
      by_cases e : h = i
      · rw [if_pos (by omega), if_pos hr, e]
        exact hv (by omega)
      · rw [if_neg (by omega)]; exact t3 h (by omega) hN2 r hr
    refine ⟨fun z => absurd z (nI_ge (b := 3) hi (by omega)), fun _ => ⟨hi, hasHC_ok hN (by rw [t2 _ _ (by omega)]; exact h43) hi (i2_eq (fun c => ⟨hi, go _ (fun _ => ?_)⟩) (fun c => go _ (fun z => absurd z c)))⟩⟩
    rw [t2 _ _ (by omega)]
    exact h7 i c
theorem tailX_ok {Q : Int32 → St → Prop} (hN : g.gN ≤ 3) (hD : DX g σ) (hq : ∀ ψ, XWR g σ ψ → Q (nI g.gN) ψ) : wp_X4_copyFrom (fun σ37 => (wp_X2_goStraightUp (fun σ53 => (∃ n : Nat, wp_X6_wall_l66 Q n (0) (sI σ53 20 3 (0 : Int32)))) (sI σ37 0 1 (0 : Int32)))) σ := by
  refine copyW_ok hN hD (fun τ t1 t2 t3 t4 t5 => upW_ok hN (by rw [sI_1, if_neg (by omega)]; exact t3.2.2.2) (fun h hh => by rw [sI_1, if_neg (by omega)]; exact (t5 h hh).2.1) (fun υ u1 u2 u3 => ?_))
  have u2' : ∀ k i, ¬ (22 ≤ k ∧ k < 25) → ¬ (k = 0 ∧ i = 1) → υ.1 k i = τ.1 k i := fun k i n1 n2 => by rw [u2 k i n1, sI_1, if_neg n2]
  have u01 : υ.1 0 1 = 0 := by rw [u2 _ _ (by omega), sI_1, if_pos ⟨rfl, rfl⟩]
  generalize hυ2 : sI υ 20 3 (0 : Int32) = υ2
  have rd : ∀ k i, ¬ (k = 20 ∧ i = 3) → υ2.1 k i = υ.1 k i := fun k i n => by rw [← hυ2, sI_1, if_neg n]
  have v20 : υ2.1 20 3 = 0 := by rw [← hυ2, sI_1, if_pos ⟨rfl, rfl⟩]
  have j2 : υ2.2 = σ.2 := by rw [← hυ2, sI_2, u1, sI_2]; exact t1
  refine pk_loop (fun n i φ => wp_X6_wall_l66 Q n (nI i) φ) (fun i φ => φ.2 = σ.2 ∧ (∀ k j, ¬ (16 ≤ k ∧ k < 20) → φ.1 k j = υ2.1 k j) ∧ ∀ q, q < i → ∀ c, c < 10 → φ.1 (16 + q) c = 0) 4 0 υ2 (by omega) ⟨j2, fun _ _ _ => rfl, fun q hq => by omega⟩ (fun n φ hφ => ?_) (fun n i φ hi hφ hk => ?_)
  · show wp_X6_wall_b66 _ _ _ _
    unfold wp_X6_wall_b66
    obtain ⟨v1, v2, v3⟩ := hφ
    refine ⟨fun _ => ?_, fun z => absurd (by decide) z⟩
    refine pk_loop (fun n i ψ => wp_X6_wall_l89 Q n (nI i) ψ) (fun i ψ => ψ.2 = σ.2 ∧ (∀ k j, ¬ k = 42 → ψ.1 k j = φ.1 k j) ∧ ∀ j, j < i → ψ.1 42 j = 0) 2 0 φ (by omega) ⟨v1, fun _ _ _ => rfl, fun j hj => by omega⟩ (fun n ψ hψ => ?_) (fun n i ψ hi hψ hk => ?_)
    · show wp_X6_wall_b89 _ _ _ _
      unfold wp_X6_wall_b89
      obtain ⟨x1, x2, x3⟩ := hψ
      have q43 : ψ.1 4 3 = nI g.gN := by rw [x2 _ _ (by omega), v2 _ _ (by omega), rd _ _ (by omega), u2' _ _ (by omega) (by omega)]; exact t3.2.2.2
      rw [q43]
      refine ⟨fun _ => hq ψ ⟨⟨x1, fun k i hk => ?_⟩, ⟨?_, ?_, ?_, q43⟩, fun r hr => ?_, fun h hh => ⟨?_, ?_, ?_, fun r hr => ?_⟩, fun q hq c hc => ?_, ?_, ⟨x3 0 (by omega), x3 1 (by omega)⟩, ?_⟩, fun z => absurd (by decide) z⟩
      · rw [x2 _ _ (by omega), v2 _ _ (by omega), rd _ _ (by omega), u2' _ _ (by omega) (by omega), t2 _ _ (by omega)]
      · rw [x2 _ _ (by omega), v2 _ _ (by omega), rd _ _ (by omega), u2' _ _ (by omega) (by omega)]; exact t3.1
      · rw [x2 _ _ (by omega), v2 _ _ (by omega), rd _ _ (by omega), u2' _ _ (by omega) (by omega)]; exact t3.2.1
      · rw [x2 _ _ (by omega), v2 _ _ (by omega), rd _ _ (by omega), u2' _ _ (by omega) (by omega)]; exact t3.2.2.1
      · rw [x2 _ _ (by omega), v2 _ _ (by omega), rd _ _ (by omega), u2' _ _ (by omega) (by omega)]; exact t4 r hr
      · rw [x2 _ _ (by omega), v2 _ _ (by omega), rd _ _ (by omega), u2' _ _ (by omega) (by omega)]; exact (t5 h hh).1
      · rw [x2 _ _ (by omega), v2 _ _ (by omega), rd _ _ (by omega), u2' _ _ (by omega) (by omega)]; exact (t5 h hh).2.1
      · rw [x2 _ _ (by omega), v2 _ _ (by omega), rd _ _ (by omega), u2' _ _ (by omega) (by omega)]; exact (t5 h hh).2.2
      · rw [x2 _ _ (by omega), v2 _ _ (by omega), rd _ _ (by omega)]; exact u3 h hh r hr
      · rw [x2 _ _ (by omega)]; exact v3 q hq c hc
      · rw [x2 _ _ (by omega), v2 _ _ (by omega)]; exact v20
      · rw [x2 _ _ (by omega), v2 _ _ (by omega), rd _ _ (by omega)]; exact u01
    · show wp_X6_wall_b89 _ _ _ _
      unfold wp_X6_wall_b89
      obtain ⟨x1, x2, x3⟩ := hψ
      have nb : vp_nar .boolean (0 : Int32) = 0 := by decide
      rw [nb, pn_in (by omega) (by omega), pn_cl (by omega), na1]
      refine ⟨fun z => absurd z (nI_ge (b := 2) hi (by omega)), fun _ => ⟨hi, hk _ ⟨x1, fun k j n => by rw [sI_1, if_neg (by omega)]; exact x2 k j n, fun j hj => ?_⟩⟩⟩
      rw [sI_1]
      by_cases e : j = i
      · rw [if_pos ⟨rfl, e⟩]
      · rw [if_neg (by omega)]; exact x3 j (by omega)
  · show wp_X6_wall_b66 _ _ _ _
    unfold wp_X6_wall_b66 wp_fillI
    obtain ⟨v1, v2, v3⟩ := hφ
    rw [pn_in (by omega) (by omega), pn_cl (by omega), na1]
    refine ⟨fun z => absurd z (nI_ge (b := 4) hi (by omega)), fun _ => ⟨hi, hk _ ⟨v1, fun k j n => by rw [sR_1, if_neg (by omega)]; exact v2 k j n, fun q hq c hc => ?_⟩⟩⟩
    rw [sR_1]
    by_cases e : q = i
    · rw [if_pos (by omega), if_pos hc]
    · rw [if_neg (by omega)]; exact v3 q (by omega) c hc
end WP
def gT (g : Geo) (tu : Nat → Nat) : Geo := (g.1, g.2.1, g.2.2.1, g.2.2.2.1, g.2.2.2.2.1, g.2.2.2.2.2.1, tu)
section WO
variable {g : Geo} {σ : St} {K : St → Prop} {F : Prop}
theorem op_wall (hI : Inv g σ) (hK : ∀ g' τ, Inv g' τ → K τ) : wp_X6_wall (fun r σ1 => wp_X7_wall (fun r2 σ2 => (r = r2 → K σ2) ∧ (¬ r = r2 → F)) σ1) σ := by
  obtain ⟨T, hT, x1, x2, x3⟩ := hI.2.2.2.2.2.2.2.2.1
  have tx1 : ∀ j, (σ.1 1 j) &&& 255 = nI ((σ.1 1 j).toBitVec.toNat % 2 ^ 8) ∧ (σ.1 1 j).toBitVec.toNat % 2 ^ 8 < 256 := fun j => ⟨pk_and _ 8 (by decide), Nat.mod_lt _ (by decide)⟩
  unfold wp_X6_wall
  rw [x1]
  refine read_ok (tx := fun j => (σ.1 1 j).toBitVec.toNat % 2 ^ 8) g.tu hT (fun j _ => tx1 j) (fun τ g' hR hw hc hD => ⟨fun _ => ?_, fun z => absurd (by decide) z⟩) (fun τ f hR hc hf => ⟨fun z => absurd z (nI_pos (by omega)), fun _ => ?_⟩)
  · refine tailX_ok hw.1.2.2.2.2 hD (fun υ hυ => ?_)
    obtain ⟨⟨a1, a2⟩, ⟨b0, b1, b2, b3⟩, b5, b6, b7, b8, b9, b10⟩ := hυ
    have tx2 : ∀ j, j < T → (υ.1 76 j) &&& 255 = nI ((σ.1 1 j).toBitVec.toNat % 2 ^ 8) ∧ (σ.1 1 j).toBitVec.toNat % 2 ^ 8 < 256 := fun j hj => by
      rw [a2 _ _ (by omega), hc.1 _ _ (by unfold Scr; omega), ← x3 j hj]
      exact tx1 j
    refine wallP_ok (tx := fun j => (σ.1 1 j).toBitVec.toNat % 2 ^ 8) g.tu hT (by rw [a2 _ _ (by omega), hc.1 _ _ (by unfold Scr; omega)]; exact x2) tx2 (fun φ g2 hR2 hw2 hc2 hD2 h17 => ?_) (fun φ f hR2 hc2 h17 hf => ?_)
    · have eg : g2 = g' := by
        rw [hR] at hR2
        injection hR2 with e
        exact e.symm
      subst eg
      refine b102_ok hw2 hD2 h17 (fun ψ hψ => eq_k rfl (hK (gT g2 g.tu) ψ ?_))
      obtain ⟨⟨m1, m2⟩, ⟨n1, n2, n3, n4⟩, n5, n6, n7, n8, n9, n10⟩ := hψ
      obtain ⟨w1, w2, w3, w4⟩ := hw2
      have cl : ∀ k i, k < 75 → ¬ Scr k i → ψ.1 k i = υ.1 k i := fun k i h1 h2 => by rw [m2 _ _ (by omega) (by omega) (by omega) (by omega), hc2.1 _ _ h2]
      have ol : ∀ k i, (k = 14 ∨ k = 85 ∨ k = 94) → ψ.1 k i = σ.1 k i := fun k i h => by rw [m2 _ _ (by omega) (by omega) (by omega) (by omega), hc2.1 _ _ (by unfold Scr; omega), a2 _ _ (by omega), hc.1 _ _ (by unfold Scr; omega)]
      refine ⟨⟨w1, ?_, ?_, ?_, n1, n2, n3⟩, ⟨fun r hr => ⟨?_, n5 r hr, w2 r hr⟩, ?_, n4, w3⟩, fun h hh => ?_, fun j hj => ?_, fun q hq c hcc => ?_, fun h hh => ?_, ⟨0, by omega, ?_, n8, fun j hj => by omega⟩, fun i hi => ?_, ⟨0, by omega, ?_, n10, fun j hj => by omega⟩, ?_⟩
      · rw [cl _ _ (by omega) (by unfold Scr; omega)]; exact b0
      · rw [cl _ _ (by omega) (by unfold Scr; omega)]; exact b1
      · rw [cl _ _ (by omega) (by unfold Scr; omega)]; exact b3
      · rw [cl _ _ (by omega) (by unfold Scr; omega)]; exact b5 r hr
      · rw [cl _ _ (by omega) (by unfold Scr; omega)]; exact b2
      · obtain ⟨y1, y2, y3, y4⟩ := b6 h hh
        obtain ⟨z1, z2, z3, z4⟩ := n6 h hh
        obtain ⟨u1, u2, u3⟩ := w4 h hh
        rw [cl 6 _ (by omega) (by unfold Scr; omega), cl 7 _ (by omega) (by unfold Scr; omega), cl 8 _ (by omega) (by unfold Scr; omega)]
        exact ⟨⟨y1, z1, u1⟩, ⟨y2, z2, u2⟩, y3, z3, u3⟩
      · rw [ol _ _ (by omega), ol _ _ (by omega)]
        exact hI.2.2.2.1 j hj
      · rw [cl (16 + q) c (by omega) (by unfold Scr; omega), b7 q hq c hcc, n7 _ (by omega)]
        exact ⟨rfl, by decide, by decide⟩
      · have hh : h < g2.gN := hh
        have h3 : h < 3 := by omega
        obtain ⟨y1, y2, y3, y4⟩ := b6 h hh
        obtain ⟨z1, z2, z3, z4⟩ := n6 h hh
        obtain ⟨u1, u2, u3⟩ := w4 h hh
        have row : ∀ r, r < 16 → ψ.1 (22 + h) r = nI (g2.cl h) := fun r hr => by rw [cl _ _ (by omega) (by unfold Scr; omega)]; exact y4 r hr
        have hH : g2.gH ≤ 16 := w1.2.2.2.1
        refine ⟨fun r hr => ?_, row _ (by show g2.co h < 16; omega), fun r r1 r2 => ?_⟩
        · rw [Nat.zero_add, row r hr]; exact z4 r hr
        · have r2 : r < g2.gH := r2
          rw [row r (by omega), row (r - 1) (by omega)]
          exact Or.inr (Or.inl (by simp))
      · rw [cl _ _ (by omega) (by unfold Scr; omega)]; exact b8
      · have : i = 0 ∨ i = 1 := by omega
        rcases this with rfl | rfl
        · rw [cl _ _ (by omega) (by unfold Scr; omega), b9.1, n9.1]
          exact ⟨Or.inl rfl, rfl, fun z => absurd z (by decide)⟩
        · rw [cl _ _ (by omega) (by unfold Scr; omega), b9.2, n9.2]
          exact ⟨Or.inl rfl, rfl, fun z => absurd z (by decide)⟩
      · rw [cl _ _ (by omega) (by unfold Scr; omega)]; exact b10
      · obtain ⟨r1, r2, r3, r4⟩ := hI.2.2.2.2.2.2.2.2.2
        refine ⟨by rw [m1, hc2.2.1, hc2.2.2, a1, hc.2.1, hc.2.2]; exact r1, by rw [ol _ _ (by omega)]; exact r2, by rw [ol _ _ (by omega)]; exact r3, by rw [ol _ _ (by omega)]; exact r4⟩
    · rw [hR] at hR2
      cases hR2
  · have hIt := hI.cor hc
    refine wallP_ok (tx := fun j => (σ.1 1 j).toBitVec.toNat % 2 ^ 8) g.tu hT (by rw [hc.1 _ _ (by unfold Scr; omega)]; exact x2) (fun j hj => by rw [hc.1 _ _ (by unfold Scr; omega), ← x3 j hj]; exact tx1 j) (fun φ g2 hR2 hw2 hc2 hD2 h17 => ?_) (fun φ f2 hR2 hc2 h17 hf2 => ?_)
    · rw [hR] at hR2
      cases hR2
    · have ef : f2 = f := by
        rw [hR] at hR2
        injection hR2 with e
        exact e.symm
      subst ef
      unfold wp_X7_wall_b102
      rw [h17]
      exact ⟨fun z => absurd z (n9 (by omega)), fun _ => eq_k rfl (hK g _ (hIt.cor hc2))⟩
end WO
