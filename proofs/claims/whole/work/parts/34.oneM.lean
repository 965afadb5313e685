section OM
variable {g : Geo} {σ τ : St} {K : St → Prop} {F : Prop} {h : Nat} {o : Nat → Nat}
def sV (o : Nat → Nat) (W last k c s : Nat) : Nat := if bitP (o (last - k)) c then dV o W last k c ((s + 3) % 4) else 100000
def wV (o : Nat → Nat) (W last k c s e : Nat) : Nat := if 1 ≤ c + e ∧ c + e - 1 < W ∧ bitP (o (last - k)) (c + e - 1) then dV o W last k (c + e - 1) e + (if s ≠ 0 ∧ s ≠ e + 1 then 100 else 0) + (if e = 1 then 0 else 1) else 100000
theorem wV_b (o : Nat → Nat) (W last k c s e : Nat) (hk : k ≤ 16) : wV o W last k c s e ≤ 100101 := by
  have := dV_b o W last k (c + e - 1) e
  unfold wV
  split
  · split <;> split <;> omega
  · omega
theorem wV_c (o : Nat → Nat) (W last k c s e : Nat) (hk : k ≤ 16) (hs : s < 4) (he : e < 3) : (wV o W last k c s e = cdV (dV o W last k) W (o (last - k)) c ((s + 3) % 4) e) ∨ (100000 ≤ wV o W last k c s e ∧ cdV (dV o W last k) W (o (last - k)) c ((s + 3) % 4) e = 100000) := by
  have db := dV_b o W last k (c + e - 1) e
  unfold wV cdV
  by_cases z : 1 ≤ c + e ∧ c + e - 1 < W ∧ bitP (o (last - k)) (c + e - 1)
  · rw [if_pos z]
    by_cases y : dV o W last k (c + e - 1) e < 100000
    · left
      rw [if_pos (c := 1 ≤ c + e ∧ c + e - 1 < W ∧ bitP (o (last - k)) (c + e - 1) ∧ dV o W last k (c + e - 1) e < 100000) ⟨z.1, z.2.1, z.2.2, y⟩]
      by_cases q : s ≠ 0 ∧ s ≠ e + 1
      · rw [if_pos q, if_pos (show (s + 3) % 4 ≠ 3 ∧ (s + 3) % 4 ≠ e by omega)]
      · rw [if_neg q, if_neg (show ¬ ((s + 3) % 4 ≠ 3 ∧ (s + 3) % 4 ≠ e) by omega)]
    · right
      rw [if_neg (c := 1 ≤ c + e ∧ _) (fun q => y q.2.2.2)]
      exact ⟨by omega, rfl⟩
  · rw [if_neg z, if_neg (fun q => z ⟨q.1, q.2.1, q.2.2.1⟩)]
    exact Or.inl rfl
theorem stillAt_ok {Q : Int32 → St → Prop} {r c s : Nat} (hr : r < 16) (hc : c < 10) (hs : s < 4) (hq : Q (τ.1 89 ((10 * r + c) * 4 + s)) τ) : wp_X7_stillAt (nI r) (nI c) (nI s) Q τ := by
  unfold wp_X7_stillAt
  rw [nm10, nI_add, show (4 : Int32) = nI 4 from rfl, pk_mul, nI_add, pn_in (by omega) (by omega), pn_cl (by omega)]
  exact ⟨by omega, hq⟩
theorem col_e (c e : Nat) : nI c + (nI e - 1) = nI (c + e) - 1 := by
  rw [← nI_add]
  grind
theorem e_2 (e : Nat) : nI e - 1 + 2 = nI (e + 1) := by
  rw [← na1]
  grind
theorem e_1 (e : Nat) : nI e - 1 + 1 = nI (e + 1) - 1 := by
  rw [← na1]
  grind
theorem byStep_ok {Q : Int32 → St → Prop} {r k c s e : Nat} (hI : Inv g τ) (hr : r + 1 + k = g.gH - 1) (hc : c < g.gW) (hs : s < 4) (he : e < 3) (ho : ∀ r c, r < g.gH → c < g.gW → (bitP (o r) c ↔ ¬ bitP (g.bar r) c))
    (tab : ∀ c' s', c' < g.gW → s' < 4 → τ.1 89 ((10 * (r + 1) + c') * 4 + s') = nI (sV o g.gW (g.gH - 1) k c' s'))
    (hq : Q (nI (wV o g.gW (g.gH - 1) k c s e)) τ) : wp_X7_byStep (nI r) (nI c) (nI s) (nI e - 1) Q τ := by
  have hd := hI.1
  have hd' := hd.1
  have ek : g.gH - 1 - k = r + 1 := by omega
  unfold wp_X7_byStep
  rw [col_e, na1]
  refine isIn_ok hd (i2_eq (fun z => ?_) (fun z => ?_))
  · rw [nm1_pW (by omega)] at z
    rw [ns1 (by omega)]
    refine isBarred_ok hd hI.2.1 (by omega) (by omega) (i2_eq (fun y => ?_) (fun y => ?_))
    · unfold wV at hq
      rw [ek, if_neg (fun q => ((ho (r + 1) (c + e - 1) (by omega) z.2).mp q.2.2) y)] at hq
      exact hq
    · have hb := (ho (r + 1) (c + e - 1) (by omega) z.2).mpr y
      unfold wV at hq
      rw [ek, if_pos ⟨z.1, z.2, hb⟩] at hq
      have fin : ∀ s0 : Nat, s0 = (if s ≠ 0 ∧ s ≠ e + 1 then 100 else 0) → wp_X7_byStep_b48 Q (nI r) (nI e - 1) (nI (c + e - 1)) (nI s0) τ := by
        intro s0 h0
        rw [← h0] at hq
        unfold wp_X7_byStep_b48
        rw [e_2, na1]
        refine stillAt_ok (by omega) (by omega) (by omega) ?_
        rw [tab _ _ z.2 (by omega)]
        have es : sV o g.gW (g.gH - 1) k (c + e - 1) (e + 1) = dV o g.gW (g.gH - 1) k (c + e - 1) e := by
          unfold sV
          rw [ek, if_pos hb, show (e + 1 + 3) % 4 = e by omega]
        rw [es, nI_add]
        refine ⟨fun q => ?_, fun q => ?_⟩
        · have : e = 1 := by
            rw [tI_eq, nI_m1 _ (by omega), z0] at q; omega
          rw [if_pos this] at hq
          rw [na0]
          exact hq
        · have : ¬ e = 1 := fun w => q (by rw [w]; rfl)
          rw [if_neg this] at hq
          rw [na1]
          exact hq
      unfold wp_X7_byStep_b47
      rw [e_2, show (0 : Int32) = nI 0 from rfl, pn_le (by omega) (by omega), pn_eq (by omega) (by omega)]
      exact ⟨fun q => fin 0 (by rw [if_neg (by omega)]), fun q => ⟨fun q2 => fin 0 (by rw [if_neg (by omega)]), fun q2 => fin 100 (by rw [if_pos (by omega)])⟩⟩
  · rw [nm1_pW (by omega)] at z
    unfold wV at hq
    rw [if_neg (fun q => z ⟨q.1, q.2.1⟩)] at hq
    exact hq
def TBM (g : Geo) (o : Nat → Nat) (τ : St) (r c s : Nat) : Prop := ∀ r' c' s', r' < g.gH → c' < g.gW → s' < 4 → (r < r' ∨ (r' = r ∧ (c' < c ∨ (c' = c ∧ s' < s)))) → τ.1 89 ((10 * r' + c') * 4 + s') = nI (sV o g.gW (g.gH - 1) (g.gH - 1 - r') c' s')
theorem b115_ok {K9 : Int32 → Int32 → St → Prop} {K21 : Int32 → Int32 → Int32 → St → Prop} {K34 : Int32 → Int32 → Int32 → Int32 → St → Prop} {Q : Int32 → St → Prop} {x : Int32} {r c s : Nat} (hI : Inv g σ) (hτ : Cor σ τ) (hr : r < g.gH) (hc : c < g.gW) (hs : s < 4) (ho : ∀ r c, r < g.gH → c < g.gW → (bitP (o r) c ↔ ¬ bitP (g.bar r) c)) (tb : TBM g o τ r c s)
    (hk : ∀ υ, Cor σ υ → TBM g o υ r c (s + 1) → K34 x (nI r) (nI c) (nI (s + 1)) υ) : wp_X7_leastOne_b115 Q K9 K21 K34 x (nI r) (nI c) (nI s) (nI (dV o g.gW (g.gH - 1) (g.gH - 1 - r) c ((s + 3) % 4))) τ := by
  have hIt := hI.cor hτ
  have hd' := hI.1.1
  have s89 : ∀ i, Scr 89 i := fun i => by unfold Scr; omega
  unfold wp_X7_leastOne_b115
  have er : g.gH - 1 - (g.gH - 1 - r) = r := by omega
  have up : ∀ v : Nat, v = sV o g.gW (g.gH - 1) (g.gH - 1 - r) c s → TBM g o (sI τ 89 ((10 * r + c) * 4 + s) (nI v)) r c (s + 1) := by
    intro v hv r' c' s' h1 h2 h3 h4
    rw [sI_1]
    by_cases e : r' = r ∧ c' = c ∧ s' = s
    · obtain ⟨rfl, rfl, rfl⟩ := e
      rw [if_pos ⟨rfl, rfl⟩, hv]
    · rw [if_neg (by omega)]
      exact tb r' c' s' h1 h2 h3 (by omega)
  rw [nm10, nI_add, show (4 : Int32) = nI 4 from rfl, pk_mul, nI_add, pn_in (by omega) (by omega), pn_cl (by omega), na1]
  refine isBarred_ok hIt.1 hIt.2.1 (by omega) (by omega) (i2_eq (fun y => ⟨by omega, hk _ (hτ.sI (s89 _) _) (up 100000 ?_)⟩) (fun y => ⟨by omega, hk _ (hτ.sI (s89 _) _) (up _ ?_)⟩))
  · unfold sV
    rw [er, if_neg (fun q => (ho r c hr hc).mp q y)]
  · unfold sV
    rw [er, if_pos ((ho r c hr hc).mpr y)]
theorem b34_ok {K9 : Int32 → Int32 → St → Prop} {K21 : Int32 → Int32 → Int32 → St → Prop} {K34 : Int32 → Int32 → Int32 → Int32 → St → Prop} {Q : Int32 → St → Prop} {x : Int32} {r c s : Nat} (hI : Inv g σ) (hτ : Cor σ τ) (hr : r < g.gH) (hc : c < g.gW) (hs : s < 4) (ho : ∀ r c, r < g.gH → c < g.gW → (bitP (o r) c ↔ ¬ bitP (g.bar r) c)) (tb : TBM g o τ r c s)
    (hk : ∀ υ, Cor σ υ → TBM g o υ r c (s + 1) → K34 x (nI r) (nI c) (nI (s + 1)) υ) : wp_X7_leastOne_b34 Q K9 K21 K34 x (nI r) (nI c) (nI s) τ := by
  have hIt := hI.cor hτ
  have hd' := hI.1.1
  have e78 := hIt.1.2.2.2.2.2.1
  have B := b115_ok (K9 := K9) (K21 := K21) (Q := Q) hI hτ hr hc hs ho tb hk
  unfold wp_X7_leastOne_b34
  rw [c0, e78, ns1 (by omega), pn_eq (by omega) (by omega)]
  refine ⟨fun q => absurd q (nI_ge (b := 4) hs (by omega)), fun _ => ⟨vin0_2, fun e => ⟨1, ?_⟩, fun e => ⟨4, ?_⟩⟩⟩
  · show wp_X7_leastOne_b63 _ _ _ _ _ _ _ _ _ _ _ _
    unfold wp_X7_leastOne_b63
    rw [show g.gH - 1 - r = 0 by omega] at B
    rw [c0, e78, ns1 (by omega), pn_le (by omega) (by omega)]
    exact ⟨fun _ => B, fun _ => ⟨vin0_2, fun _ => B, fun q => absurd (by omega) q⟩⟩
  · obtain ⟨k, hk2⟩ : ∃ k, g.gH - 1 - r = k + 1 := ⟨g.gH - 1 - r - 1, by omega⟩
    rw [hk2, dV_s] at B
    have ek : g.gH - 1 - k = r + 1 := by omega
    have tab : ∀ c' s', c' < g.gW → s' < 4 → τ.1 89 ((10 * (r + 1) + c') * 4 + s') = nI (sV o g.gW (g.gH - 1) k c' s') := fun c' s' h1 h2 => by
      have := tb (r + 1) c' s' (by omega) h1 h2 (by omega)
      rwa [show g.gH - 1 - (r + 1) = k by omega] at this
    have w0 := wV_c o g.gW (g.gH - 1) k c s 0 (by omega) hs (by omega)
    have w1 := wV_c o g.gW (g.gH - 1) k c s 1 (by omega) hs (by omega)
    have w2 := wV_c o g.gW (g.gH - 1) k c s 2 (by omega) hs (by omega)
    have b0 := wV_b o g.gW (g.gH - 1) k c s 0 (by omega)
    have b1 := wV_b o g.gW (g.gH - 1) k c s 1 (by omega)
    have b2 := wV_b o g.gW (g.gH - 1) k c s 2 (by omega)
    have v0 := cdV_b (W := g.gW) (b := o (g.gH - 1 - k)) (c := c) (a := (s + 3) % 4) (s := 0) (dV_b o g.gW (g.gH - 1) k)
    have v1 := cdV_b (W := g.gW) (b := o (g.gH - 1 - k)) (c := c) (a := (s + 3) % 4) (s := 1) (dV_b o g.gW (g.gH - 1) k)
    have v2 := cdV_b (W := g.gW) (b := o (g.gH - 1 - k)) (c := c) (a := (s + 3) % 4) (s := 2) (dV_b o g.gW (g.gH - 1) k)
    have z01 : (-1 : Int32) = nI 0 - 1 := by decide
    have nx : ∀ {K63 : Int32 → Int32 → Int32 → Int32 → Int32 → Int32 → St → Prop} (e u : Nat), e < 3 → u ≤ 100000 → K63 x (nI r) (nI c) (nI s) (nI (min u (wV o g.gW (g.gH - 1) k c s e))) (nI (e + 1) - 1) τ → wp_X7_leastOne_b63 Q K9 K21 K34 K63 x (nI r) (nI c) (nI s) (nI u) (nI e - 1) τ := by
      intro K63 e u he hu hK
      have be := wV_b o g.gW (g.gH - 1) k c s e (by omega)
      unfold wp_X7_leastOne_b63
      rw [c0, e78, show nI g.gH - 1 = nI (g.gH - 1) from ns1 (by omega), pn_le (by omega) (by omega), tI_lt, nI_m1 _ (by omega), t_1, e_1]
      refine ⟨fun q => absurd q (by omega), fun _ => ⟨vin0_2, fun q => absurd q (by omega), fun _ => byStep_ok hIt (by omega) hc hs he ho tab ?_⟩⟩
      rw [pn_le (by omega) (by omega)]
      refine ⟨fun q => ?_, fun q => ?_⟩
      · rwa [show min u (wV o g.gW (g.gH - 1) k c s e) = u by omega] at hK
      · rwa [show min u (wV o g.gW (g.gH - 1) k c s e) = wV o g.gW (g.gH - 1) k c s e by omega] at hK
    rw [z01, show (100000 : Int32) = nI 100000 from rfl]
    refine nx 0 100000 (by omega) (by omega) (nx 1 _ (by omega) (by omega) (nx 2 _ (by omega) (by omega) ?_))
    show wp_X7_leastOne_b63 _ _ _ _ _ _ _ _ _ _ _ _
    unfold wp_X7_leastOne_b63
    rw [tI_lt, nI_m1 _ (by omega), t_1]
    refine ⟨fun _ => ?_, fun q => absurd (by omega) q⟩
    have em : min (min (min 100000 (wV o g.gW (g.gH - 1) k c s 0)) (wV o g.gW (g.gH - 1) k c s 1)) (wV o g.gW (g.gH - 1) k c s 2) = min (cdV (dV o g.gW (g.gH - 1) k) g.gW (o (g.gH - 1 - k)) c ((s + 3) % 4) 0) (min (cdV (dV o g.gW (g.gH - 1) k) g.gW (o (g.gH - 1 - k)) c ((s + 3) % 4) 1) (cdV (dV o g.gW (g.gH - 1) k) g.gW (o (g.gH - 1 - k)) c ((s + 3) % 4) 2)) := by omega
    rw [em]
    exact B
theorem leastOne_ok {Q : Int32 → St → Prop} (hI : Inv g σ) (hn : h < g.gN) (ho : ∀ r c, r < g.gH → c < g.gW → (bitP (o r) c ↔ ¬ bitP (g.bar r) c))
    (hq : ∀ υ, Cor σ υ → (∀ r' c' s', g.co h ≤ r' → r' < g.gH → c' < g.gW → s' < 4 → υ.1 89 ((10 * r' + c') * 4 + s') = nI (sV o g.gW (g.gH - 1) (g.gH - 1 - r') c' s')) → Q (nI (sV o g.gW (g.gH - 1) (g.gH - 1 - g.co h) (g.cl h) 0)) υ) : wp_X7_leastOne (nI h) Q σ := by
  have hd := hI.1
  have hd' := hd.1
  obtain ⟨⟨-, a1, a3⟩, ⟨-, b1, b3⟩, -⟩ := hI.2.2.1 h hn
  unfold wp_X7_leastOne
  rw [c0, hd.2.2.2.2.2.1]
  refine ⟨vin0_2, fun v hv => ?_⟩
  have e0 : v = nI (g.co h + (g.gH - g.co h)) - 1 := by rw [hv, show g.co h + (g.gH - g.co h) = g.gH by omega]
  rw [e0]
  refine ⟨(g.gH - g.co h) + 1, ?_⟩
  refine pk_loopD (fun n j υ => wp_X7_leastOne_l9 Q n (nI h) (nI (g.co h + j) - 1) υ) (fun j υ => j ≤ g.gH - g.co h ∧ Cor σ υ ∧ ∀ r' c' s', g.co h + j ≤ r' → r' < g.gH → c' < g.gW → s' < 4 → υ.1 89 ((10 * r' + c') * 4 + s') = nI (sV o g.gW (g.gH - 1) (g.gH - 1 - r') c' s')) (fun n υ hυ => ?_) (fun n j υ hυ hk => ?_) (g.gH - g.co h) σ ⟨Nat.le_refl _, Cor.rf, fun r' c' a' h1 h2 => by omega⟩
  · show wp_X7_leastOne_b9 _ _ _ _ _
    unfold wp_X7_leastOne_b9
    obtain ⟨-, u1, u3⟩ := hυ
    obtain ⟨⟨-, a1', -⟩, ⟨-, b1', -⟩, -⟩ := (hI.cor u1).2.2.1 h hn
    rw [pn_in (by omega) (by omega), pn_cl (by omega), a1', b1', tI_lt, Nat.add_zero, nI_m1 _ (by omega), tI_n (by omega)]
    refine ⟨by omega, fun _ => ⟨by omega, by omega, stillAt_ok (s := 0) (by omega) (by omega) (by omega) ?_⟩, fun q => absurd (by omega) q⟩
    rw [u3 _ _ _ (by omega) (by omega) b3 (by omega)]
    exact hq υ u1 (fun r' c' s' h1 => u3 r' c' s' (by omega))
  · show wp_X7_leastOne_b9 _ _ _ _ _
    unfold wp_X7_leastOne_b9
    obtain ⟨u0, u1, u3⟩ := hυ
    obtain ⟨⟨-, a1', -⟩, ⟨-, b1', -⟩, -⟩ := (hI.cor u1).2.2.1 h hn
    rw [pn_in (by omega) (by omega), pn_cl (by omega), a1', tI_lt, nI_m1 _ (by omega), tI_n (by omega)]
    refine ⟨by omega, fun q => absurd q (by omega), fun _ => ?_⟩
    have er : nI (g.co h + (j + 1)) - 1 = nI (g.co h + j) := by rw [ns1 (by omega)]; rfl
    rw [er]
    refine pk_loop (fun n c υ => wp_X7_leastOne_l21 Q _ n (nI h) (nI (g.co h + j)) (nI c) υ) (fun c υ => Cor σ υ ∧ TBM g o υ (g.co h + j) c 0) g.gW 0 υ (by omega) ⟨u1, fun r' c' a' h1 h2 h3 h4 => u3 r' c' a' (by omega) h1 h2 h3⟩ (fun n φ hφ => ?_) (fun n c φ hcW hφ hk2 => ?_)
    · show wp_X7_leastOne_b21 _ _ _ _ _ _ _
      unfold wp_X7_leastOne_b21
      obtain ⟨w1, w3⟩ := hφ
      rw [c0, (hI.cor w1).1.2.2.2.2.1, pm1]
      exact ⟨vin0_2, fun _ => hk _ ⟨by omega, w1, fun r' c' a' h0 h1 h2 h3 => w3 r' c' a' h1 h2 h3 (by omega)⟩, fun q => absurd (nI_le (Nat.le_refl _) (by omega)) q⟩
    · show wp_X7_leastOne_b21 _ _ _ _ _ _ _
      unfold wp_X7_leastOne_b21
      obtain ⟨w1, w3⟩ := hφ
      rw [c0, (hI.cor w1).1.2.2.2.2.1]
      refine ⟨vin0_2, fun q => absurd q (nI_ge hcW (by omega)), fun _ => ?_⟩
      refine pk_loop (fun n a φ => wp_X7_leastOne_l34 Q _ _ n (nI h) (nI (g.co h + j)) (nI c) (nI a) φ) (fun a φ => Cor σ φ ∧ TBM g o φ (g.co h + j) c a) 4 0 φ (by omega) ⟨w1, w3⟩ (fun n ψ hψ => ?_) (fun n a ψ ha hψ hk3 => ?_)
      · show wp_X7_leastOne_b34 _ _ _ _ _ _ _ _ _
        unfold wp_X7_leastOne_b34
        obtain ⟨x1, x3⟩ := hψ
        rw [na1]
        exact ⟨fun _ => hk2 _ ⟨x1, fun r' c' a' h1 h2 h3 h4 => x3 r' c' a' h1 h2 h3 (by omega)⟩, fun q => absurd (by decide) q⟩
      · show wp_X7_leastOne_b34 _ _ _ _ _ _ _ _ _
        exact b34_ok hI hψ.1 (by omega) hcW ha ho hψ.2 (fun υ h1 h2 => hk3 υ ⟨h1, h2⟩)
theorem oneM_ok {Q : Int32 → St → Prop} {x : Int32} (hI : Inv g σ) (hn : h < g.gN) (ho : ∀ r c, r < g.gH → c < g.gW → (bitP (o r) c ↔ ¬ bitP (g.bar r) c)) (hx : x = -1 ∨ x = -2 ∨ ∃ j, x = nI (g.co h + j) ∧ g.co h + j ≤ g.gH - 1)
    (hno : ∀ υ, Cor σ υ → ¬ (bitP (o (g.co h)) (g.cl h) ∧ dV o g.gW (g.gH - 1) (g.gH - 1 - g.co h) (g.cl h) 3 < 100000) → Q (-9) υ)
    (h1 : ∀ υ, Cor σ υ → bitP (o (g.co h)) (g.cl h) → dV o g.gW (g.gH - 1) (g.gH - 1 - g.co h) (g.cl h) 3 < 100000 → x = -1 → Q (nI (dV o g.gW (g.gH - 1) (g.gH - 1 - g.co h) (g.cl h) 3 / 100)) υ)
    (h2 : ∀ υ, Cor σ υ → bitP (o (g.co h)) (g.cl h) → dV o g.gW (g.gH - 1) (g.gH - 1 - g.co h) (g.cl h) 3 < 100000 → x = -2 → Q (nI (dV o g.gW (g.gH - 1) (g.gH - 1 - g.co h) (g.cl h) 3 % 100)) υ)
    (h3 : ∀ υ j, Cor σ υ → bitP (o (g.co h)) (g.cl h) → dV o g.gW (g.gH - 1) (g.gH - 1 - g.co h) (g.cl h) 3 < 100000 → x = nI (g.co h + j) → g.co h + j ≤ g.gH - 1 → Q (nI (pth o g.gW (g.gH - 1) (g.co h) (g.cl h) j).1) υ) : wp_X7_one_b41 Q (nI h) x σ := by
  have hd := hI.1
  have hd' := hd.1
  obtain ⟨⟨-, a1, a3⟩, ⟨-, b1, b3⟩, -⟩ := hI.2.2.1 h hn
  have db := dV_b o g.gW (g.gH - 1) (g.gH - 1 - g.co h) (g.cl h) 3
  have er : g.gH - 1 - (g.gH - 1 - g.co h) = g.co h := by omega
  unfold wp_X7_one_b41
  refine leastOne_ok hI hn ho (fun υ hυ tab => ?_)
  obtain ⟨⟨-, a1', -⟩, ⟨-, b1', -⟩, -⟩ := (hI.cor hυ).2.2.1 h hn
  by_cases hb : bitP (o (g.co h)) (g.cl h)
  · have es : sV o g.gW (g.gH - 1) (g.gH - 1 - g.co h) (g.cl h) 0 = dV o g.gW (g.gH - 1) (g.gH - 1 - g.co h) (g.cl h) 3 := by
      unfold sV; rw [er, if_pos hb]
    rw [es, show (100000 : Int32) = nI 100000 from rfl, pn_lt (by omega) (by omega)]
    refine ⟨fun q => ?_, fun q => hno υ hυ (fun y => q y.2)⟩
    have n100 : ¬ (100 : Int32) = 0 := by decide
    refine ⟨fun q0 => ?_, fun q0 => ⟨fun q1 => ⟨n100, ?_⟩, fun q1 => ⟨n100, ?_⟩⟩⟩
    · rcases hx with rfl | rfl | ⟨j, rfl, hj⟩
      · exact absurd q0 (by decide)
      · exact absurd q0 (by decide)
      · rw [pn_in (by omega) (by omega), pn_cl (by omega), a1', b1']
        have ok := pth_ok (o := o) (W := g.gW) (last := g.gH - 1) (co := g.co h) b3 hb q
        refine ⟨by omega, by omega, ?_⟩
        refine pk_loop (fun n i (s : Int32 × Int32) => wp_X7_one_l96 Q n (nI (g.co h + j)) s.1 s.2 (nI i) υ) (fun i s => ∃ i', i = g.co h + i' ∧ s.1 = nI (pth o g.gW (g.gH - 1) (g.co h) (g.cl h) i').1 ∧ s.2 = nI (((pth o g.gW (g.gH - 1) (g.co h) (g.cl h) i').2 + 1) % 4)) (g.co h + j) (g.co h) (nI (g.cl h), 0) (by omega) ⟨0, rfl, rfl, by show (0 : Int32) = nI ((3 + 1) % 4); decide⟩ (fun n s hs => ?_) (fun n i s hi hs hk => ?_)
        · show wp_X7_one_b96 _ _ _ _ _ _ _
          unfold wp_X7_one_b96
          obtain ⟨i', e, e1, -⟩ := hs
          have : i' = j := by omega
          subst this
          refine ⟨fun _ => ?_, fun z => absurd (nI_le (Nat.le_refl _) (by omega)) z⟩
          rw [e1]
          exact h3 υ i' hυ hb q rfl hj
        · show wp_X7_one_b96 _ _ _ _ _ _ _
          unfold wp_X7_one_b96
          obtain ⟨i', rfl, e1, e2⟩ := hs
          obtain ⟨o1, o2, o3, o4⟩ := ok i' (by omega)
          have st := stV_ok (o := o) (W := g.gW) (last := g.gH - 1) (k := g.gH - 1 - (g.co h + i') - 1) (c := (pth o g.gW (g.gH - 1) (g.co h) (g.cl h) i').1) (a := (pth o g.gW (g.gH - 1) (g.co h) (g.cl h) i').2) (by rw [show g.gH - 1 - (g.co h + i') - 1 + 1 = g.gH - 1 - (g.co h + i') by omega]; exact o4) _ rfl
          have s3 := stV_3 o g.gW (g.gH - 1) (g.gH - 1 - (g.co h + i')) (pth o g.gW (g.gH - 1) (g.co h) (g.cl h) i').1 (pth o g.gW (g.gH - 1) (g.co h) (g.cl h) i').2
          rw [show g.gH - 1 - (g.co h + i') - 1 + 1 = g.gH - 1 - (g.co h + i') by omega] at st
          have ep1 : (pth o g.gW (g.gH - 1) (g.co h) (g.cl h) (i' + 1)).1 = (pth o g.gW (g.gH - 1) (g.co h) (g.cl h) i').1 + stV o g.gW (g.gH - 1) (g.gH - 1 - (g.co h + i')) (pth o g.gW (g.gH - 1) (g.co h) (g.cl h) i').1 (pth o g.gW (g.gH - 1) (g.co h) (g.cl h) i').2 - 1 := rfl
          have ep2 : (pth o g.gW (g.gH - 1) (g.co h) (g.cl h) (i' + 1)).2 = stV o g.gW (g.gH - 1) (g.gH - 1 - (g.co h + i')) (pth o g.gW (g.gH - 1) (g.co h) (g.cl h) i').1 (pth o g.gW (g.gH - 1) (g.co h) (g.cl h) i').2 := rfl
          generalize pth o g.gW (g.gH - 1) (g.co h) (g.cl h) i' = P at *
          generalize hS : stV o g.gW (g.gH - 1) (g.gH - 1 - (g.co h + i')) P.1 P.2 = S at *
          obtain ⟨t1, t2, t3, t4, -, -⟩ := st
          refine ⟨fun z => absurd z (nI_ge hi (by omega)), fun _ => ?_⟩
          rw [e1, e2]
          have z01 : (-1 : Int32) = nI 0 - 1 := by decide
          rw [z01]
          have row : ∀ c' s', c' < g.gW → s' < 4 → υ.1 89 ((10 * (g.co h + i' + 1) + c') * 4 + s') = nI (sV o g.gW (g.gH - 1) (g.gH - 1 - (g.co h + i') - 1) c' s') := fun c' s' h1 h2 => by
            have := tab (g.co h + i' + 1) c' s' (by omega) (by omega) h1 h2
            rwa [show g.gH - 1 - (g.co h + i' + 1) = g.gH - 1 - (g.co h + i') - 1 by omega] at this
          have hval : υ.1 89 ((10 * (g.co h + i') + P.1) * 4 + (P.2 + 1) % 4) = nI (dV o g.gW (g.gH - 1) (g.gH - 1 - (g.co h + i')) P.1 P.2) := by
            rw [tab _ _ _ (by omega) (by omega) o1 (by omega)]
            unfold sV
            rw [show g.gH - 1 - (g.gH - 1 - (g.co h + i')) = g.co h + i' by omega, if_pos o3, show ((P.2 + 1) % 4 + 3) % 4 = P.2 by omega]
          have wc : ∀ e, e < 3 → ((nI (wV o g.gW (g.gH - 1) (g.gH - 1 - (g.co h + i') - 1) P.1 ((P.2 + 1) % 4) e) = nI (dV o g.gW (g.gH - 1) (g.gH - 1 - (g.co h + i')) P.1 P.2)) ↔ cdV (dV o g.gW (g.gH - 1) (g.gH - 1 - (g.co h + i') - 1)) g.gW (o (g.gH - 1 - (g.gH - 1 - (g.co h + i') - 1))) P.1 P.2 e = dV o g.gW (g.gH - 1) (g.gH - 1 - (g.co h + i')) P.1 P.2) := by
            intro e he
            have w := wV_c o g.gW (g.gH - 1) (g.gH - 1 - (g.co h + i') - 1) P.1 ((P.2 + 1) % 4) e (by omega) (by omega) he
            have wb := wV_b o g.gW (g.gH - 1) (g.gH - 1 - (g.co h + i') - 1) P.1 ((P.2 + 1) % 4) e (by omega)
            rw [show ((P.2 + 1) % 4 + 3) % 4 = P.2 by omega] at w
            rw [nI_eq (by omega) (by omega)]
            rcases w with w | ⟨w, w'⟩
            · rw [w]
            · rw [w']; omega
          refine pk_loop (fun n e (_ : Unit) => wp_X7_one_l105 Q _ n (nI (g.co h + j)) (nI P.1) (nI ((P.2 + 1) % 4)) (nI (g.co h + i')) (nI e - 1) υ) (fun e _ => e ≤ S) S 0 () (by omega) (Nat.zero_le _) (fun n _ hw => ?_) (fun n e _ he hw hk2 => ?_)
          · show wp_X7_one_b105 _ _ _ _ _ _ _ _ _
            unfold wp_X7_one_b105
            refine byStep_ok (hI.cor hυ) (by omega) o1 (by omega) s3 ho row (stillAt_ok (by omega) (by omega) (by omega) ?_)
            rw [hval]
            refine ⟨fun _ => ?_, fun z => absurd ((wc S s3).mpr t1) z⟩
            rw [col_e, ns1 t3, e_2, na1]
            refine hk (nI (P.1 + S - 1), nI (S + 1)) ⟨i' + 1, by omega, ?_, ?_⟩
            · rw [ep1]
            · rw [ep2, show (S + 1) % 4 = S + 1 by omega]
          · show wp_X7_one_b105 _ _ _ _ _ _ _ _ _
            unfold wp_X7_one_b105
            refine byStep_ok (hI.cor hυ) (by omega) o1 (by omega) (by omega) ho row (stillAt_ok (by omega) (by omega) (by omega) ?_)
            rw [hval, e_1]
            exact ⟨fun z => absurd ((wc e (by omega)).mp z) (t2 e he), fun _ => hk2 () (by omega)⟩
    · rw [show (100 : Int32) = nI 100 from rfl, pk_div (by omega) (by omega) (by omega)]
      exact h1 υ hυ hb q q1
    · rw [show (100 : Int32) = nI 100 from rfl, pk_rem (by omega) (by omega) (by omega)]
      rcases hx with rfl | rfl | ⟨j, rfl, hj⟩
      · exact absurd rfl q1
      · exact h2 υ hυ hb q rfl
      · exact absurd (nI_pos' (by omega)) q0
  · have es : sV o g.gW (g.gH - 1) (g.gH - 1 - g.co h) (g.cl h) 0 = 100000 := by
      unfold sV; rw [er, if_neg hb]
    rw [es]
    exact ⟨fun q => absurd q (by decide), fun _ => hno υ hυ (fun y => hb y.1)⟩
theorem op_one (hI : Inv g σ) (hK : ∀ τ, Inv g τ → K τ) (x y : Int32) : wp_X6_one x y (fun r σ1 => wp_X7_one x y (fun r2 σ2 => (r = r2 → K σ2) ∧ (¬ r = r2 → F)) σ1) σ := by
  have hd := hI.1
  have hd' := hd.1
  have t_m2 : (-2 : Int32).toInt = -2 := by decide
  unfold wp_X6_one
  refine hasHearth_ok hd (i2_eq (fun a => ?_) (fun n => ?_))
  · obtain ⟨h, hn, rfl⟩ := of_pin a
    obtain ⟨⟨-, a1, a3⟩, ⟨-, b1, b3⟩, -⟩ := hI.2.2.1 h hn
    have main : (y = -1 ∨ y = -2 ∨ ∃ j, y = nI (g.co h + j) ∧ g.co h + j ≤ g.gH - 1) → wp_X6_one_b37 (fun r σ1 => wp_X7_one (nI h) y (fun r2 σ2 => (r = r2 → K σ2) ∧ (¬ r = r2 → F)) σ1) (nI h) y σ := by
      intro hy
      unfold wp_X6_one_b37
      refine prep_ok hI hn (fun τ hc ⟨o, hP, ho⟩ => ?_)
      have ho2 : ∀ r c, r < g.gH → c < g.gW → (bitP (o r) c ↔ ¬ bitP (g.bar r) c) := fun r c hr hcw => (ho r c hr hcw).trans ⟨fun z => z.1, fun z => ⟨z, fun e => by cases e⟩⟩
      have enter : ∀ (υ : St) (Q : Int32 → St → Prop), Cor σ υ → wp_X7_one_b41 Q (nI h) y υ → wp_X7_one (nI h) y Q υ := by
        intro υ Q hυ H
        have hIu := hI.cor hυ
        obtain ⟨⟨-, a1', -⟩, -⟩ := hIu.2.2.1 h hn
        unfold wp_X7_one
        refine isHearth_ok hIu.1 (g_t a (in_ok (i2_eq (fun _ => H) (fun z => ?_))))
        rw [pn_in (by omega) (by omega), pn_cl (by omega), c0, a1', hIu.1.2.2.2.2.2.1]
        refine ⟨by omega, vin0_2, in_ok (g_t ?_ H)⟩
        rw [t_m2, t_m1] at z
        rw [hi_ok (by omega) (by omega), tI_n (by omega)]
        rcases hy with rfl | rfl | ⟨j, rfl, hj⟩
        · rw [t_m1] at z; omega
        · rw [t_m2] at z; omega
        · rw [tI_n (by omega)]; omega
      refine findX_ok hI hn hc hP (fun υ hυ hno => ⟨fun _ => enter υ _ hυ ?_, fun q => absurd rfl q⟩) (fun υ hυ hb hlt f9 f10 fp => ⟨fun q => absurd q (by decide), fun _ => ?_⟩)
      · exact oneM_ok (hI.cor hυ) hn ho2 hy (fun φ hφ _ => eq_k rfl (hK _ ((hI.cor hυ).cor hφ))) (fun φ _ e1 e2 _ => absurd ⟨e1, e2⟩ hno) (fun φ _ e1 e2 _ => absurd ⟨e1, e2⟩ hno) (fun φ _ _ e1 e2 _ _ => absurd ⟨e1, e2⟩ hno)
      · rw [f9, f10]
        refine ⟨fun q => enter υ _ hυ (oneM_ok (hI.cor hυ) hn ho2 hy (fun φ _ z => absurd ⟨hb, hlt⟩ z) (fun φ hφ _ _ _ => eq_k rfl (hK _ ((hI.cor hυ).cor hφ))) (fun φ _ _ _ e => ?_) (fun φ j _ _ _ e _ => ?_)), fun q => ⟨fun q2 => enter υ _ hυ (oneM_ok (hI.cor hυ) hn ho2 hy (fun φ _ z => absurd ⟨hb, hlt⟩ z) (fun φ _ _ _ e => absurd e q) (fun φ hφ _ _ _ => eq_k rfl (hK _ ((hI.cor hυ).cor hφ))) (fun φ j _ _ _ e _ => ?_)), fun q2 => ?_⟩⟩
        · rw [q] at e; exact absurd e (by decide)
        · rw [q, tI_eq, t_m1, tI_n (by omega)] at e; omega
        · rw [q2, tI_eq, t_m2, tI_n (by omega)] at e; omega
        · rcases hy with hy | hy | ⟨j, hy, hj⟩
          · exact absurd hy q
          · exact absurd hy q2
          · have fj := fp j hj
            have ey : υ.1 48 y.toNatClampNeg = nI (pth o g.gW (g.gH - 1) (g.co h) (g.cl h) j).1 := by rw [hy, pn_cl (by omega)]; exact fj
            have ei : vp_in y 16 := by rw [hy, pn_in (by omega) (by omega)]; omega
            rw [ey]
            refine ⟨ei, enter υ _ hυ (oneM_ok (hI.cor hυ) hn ho2 (Or.inr (Or.inr ⟨j, hy, hj⟩)) (fun φ _ z => absurd ⟨hb, hlt⟩ z) (fun φ _ _ _ e => absurd e q) (fun φ _ _ _ e => absurd e q2) (fun φ j' hφ _ _ e hj' => eq_k ?_ (hK _ ((hI.cor hυ).cor hφ))))⟩
            rw [hy] at e
            have := (nI_eq (by omega) (by omega)).mp e
            have : j = j' := by omega
            rw [this]
    refine ⟨fun q => main (Or.inl q), fun q => ⟨fun q2 => main (Or.inr (Or.inl q2)), fun q2 => reaches_ok hd hI.2.2.1 hn ?_⟩⟩
    rw [Int32.toInt_toInt64]
    refine i2_eq (fun z => main (Or.inr (Or.inr ⟨y.toInt.toNat - g.co h, ?_, by omega⟩))) (fun z => ?_)
    · rw [tI_eq, tI_n (by omega)]; omega
    · unfold wp_X7_one
      refine isHearth_ok hd (g_t a (in_ok (g_f ?_ ?_)))
      · rw [t_m2, t_m1]
        rw [tI_eq, t_m1] at q
        rw [tI_eq, t_m2] at q2
        omega
      · rw [pn_in (by omega) (by omega), pn_cl (by omega), c0, a1, hd.2.2.2.2.2.1]
        refine ⟨by omega, vin0_2, in_ok (g_f ?_ (eq_k rfl (hK _ hI)))⟩
        rw [hi_ok (by omega) (by omega), tI_n (by omega)]
        omega
  · unfold wp_X7_one
    exact isHearth_ok hd (g_f n (eq_k rfl (hK _ hI)))
end OM
