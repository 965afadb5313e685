/-! together, share -/
section TO
variable {g : Geo} {σ τ : St} {K : St → Prop} {F : Prop} {S : Nat} {op : Nat → Nat}
theorem p2N (hd : IDim g σ) : 2 ^ g.gN ≤ 8 ∧ 1 ≤ 2 ^ g.gN ∧ (1 : Int32) <<< (nI g.gN &&& 31) = nI (2 ^ g.gN) := by
  have hd' := hd.1
  have h1 : 2 ^ g.gN ≤ 2 ^ 3 := Nat.pow_le_pow_right (by omega) hd'.2.2.2.2
  have h2 : 0 < 2 ^ g.gN := Nat.pow_pos (by omega)
  exact ⟨by omega, by omega, shl1 _ (by omega)⟩
theorem isSetX_ok {Q : Int32 → St → Prop} {x : Int32} (hd : IDim g σ) (hq : Q (bI (1 ≤ x.toInt ∧ x.toInt < ((2 ^ g.gN : Nat) : Int))) σ) : wp_X6_isSet x Q σ := by
  obtain ⟨p1, p2, p3⟩ := p2N hd
  unfold wp_X6_isSet
  rw [hd.2.2.2.1, p3, tI_lt, tI_le, t_1, tI_n (by omega)]
  refine ⟨fun z => ?_, fun z => ⟨fun y => ?_, fun y => ?_⟩⟩
  · rwa [bI_f (by omega)] at hq
  · rwa [bI_f (by omega)] at hq
  · rwa [bI_t (by omega)] at hq
theorem isSetM_ok {Q : Int32 → St → Prop} {x : Int32} (hd : IDim g σ) (hq : Q (bI (1 ≤ x.toInt ∧ x.toInt < ((2 ^ g.gN : Nat) : Int))) σ) : wp_X7_isSet x Q σ := by
  obtain ⟨p1, p2, p3⟩ := p2N hd
  unfold wp_X7_isSet
  rw [c0, hd.2.2.2.2.2.2, p3]
  refine ⟨vin0_2, in_ok ?_⟩
  rw [hi_ok (by omega) (by omega), t_1]
  refine ⟨bI_01, ?_⟩
  rwa [bI_c (d := 1 ≤ x.toInt ∧ x.toInt < ((2 ^ g.gN : Nat) : Int)) (by omega)]
theorem of_set {x : Int32} (h : 1 ≤ x.toInt ∧ x.toInt < ((2 ^ g.gN : Nat) : Int)) : ∃ S, 1 ≤ S ∧ S < 2 ^ g.gN ∧ x = nI S := by
  obtain ⟨S, h1, rfl⟩ := of_pin (x := x) (n := 2 ^ g.gN) ⟨by omega, h.2⟩
  by_cases e : S = 0
  · rw [e] at h
    exact absurd h.1 (by decide)
  · exact ⟨S, by omega, h1, rfl⟩
theorem least_of {q : Prm} {k b v : Nat} (hk : k ≤ 16) (h1 : Can q k zz b v) (h2 : ∀ l, Can q k zz b l → v ≤ l) (h3 : ∀ b' l, Can q k zz b' l → b ≤ b') : ∀ b' l', Can q k zz b' l' → 100 * b + v ≤ 100 * b' + l' := by
  intro b' l' h
  have := (Can_b (fun _ _ => by show 0 < 10; omega) h1).2.2
  have := h3 b' l' h
  by_cases e : b' = b
  · rw [e] at h
    have := h2 l' h
    omega
  · omega
theorem op_together (hI : Inv g σ) (hK : ∀ τ, Inv g τ → K τ) (x y : Int32) : wp_X6_together x y (fun r σ1 => wp_X7_together x y (fun r2 σ2 => (r = r2 → K σ2) ∧ (¬ r = r2 → F)) σ1) σ := by
  have hd := hI.1
  have hd' := hd.1
  have bad : ¬ ((1 ≤ x.toInt ∧ x.toInt < ((2 ^ g.gN : Nat) : Int)) ∧ 0 ≤ y.toInt ∧ y.toInt ≤ 1) → wp_X7_together x y (fun r2 σ2 => ((-1 : Int32) = r2 → K σ2) ∧ (¬ (-1 : Int32) = r2 → F)) σ := by
    intro n
    unfold wp_X7_together
    refine isSetM_ok hd (i2_eq (fun a => in_ok ?_) (fun _ => eq_k rfl (hK _ hI)))
    rw [z0, t_1]
    exact g_f (fun z => n ⟨a, z⟩) (eq_k rfl (hK _ hI))
  unfold wp_X6_together
  refine isSetX_ok hd (i2_eq (fun a => ?_) (fun n => bad (fun z => n z.1)))
  rw [tI_lt, tI_le, z0, t_1]
  refine ⟨fun z => bad (by omega), fun z => ⟨fun z2 => ?_, fun z2 => bad (by omega)⟩⟩
  obtain ⟨S, s1, s2, rfl⟩ := of_set a
  obtain ⟨op, hop⟩ := op_ex (cl := 0) hI (by omega)
  have enter : ∀ (υ : St) (R : Int32 → St → Prop), Cor σ υ → wp_X7_gather (nI S) (fun σ21 => wp_X7_goTogether (fun r25 σ25 => (r25 = ((-9) : Int32) → R r25 σ25) ∧ (¬ r25 = ((-9) : Int32) → ((y = 0 → R r25 σ25) ∧ (¬ y = 0 → (wp_X7_firstSpot (fun r56 σ56 => (vp_in ((1000 * (σ25.1 75 26)) + r56) 16000 ∧ R (σ56.1 93 ((1000 * (σ25.1 75 26)) + r56).toNatClampNeg) σ56)) σ25))))) σ21) υ → wp_X7_together (nI S) y R υ := by
    intro υ R hc H
    have hIu := hI.cor hc
    unfold wp_X7_together
    refine isSetM_ok hIu.1 (g_t a (in_ok ?_))
    rw [z0, t_1]
    exact g_t (by omega) H
  refine togX_ok hI s2 hop (fun τ b l hc hP hT c1 c2 => ?_) (fun τ hc hP hT c1 => ?_)
  · have fin : ∀ (υ : St) (v : Int32), Cor σ υ → (y = 0 → v = nI b) → (¬ y = 0 → v = nI l) → wp_X7_together (nI S) y (fun r2 σ2 => (v = r2 → K σ2) ∧ (¬ v = r2 → F)) υ := by
      intro υ v hc2 v0 v1
      have hIu := hI.cor hc2
      refine enter υ _ hc2 (togM_ok hIu s2 s1 hop (fun φ hφ hno => absurd c1 (hno b l)) (fun b' v' φ low hφ hM a1 a2 a3 a4 a5 a6 a7 a8 => ?_))
      have e := bl_uq (p := qS g S op) (by show g.gH - 1 ≤ 15; omega) c1 c2 a3 (least_of (show g.gH - 1 + 1 ≤ 16 by omega) a3 a4 a5)
      obtain ⟨rfl, rfl⟩ := e
      have hIf := hIu.cor hφ
      refine ⟨fun z => ?_, fun _ => ⟨fun z => eq_k (v0 z) (hK _ hIf), fun z => firstSpot_ok hIf hM ?_⟩⟩
      · rw [tI_eq, t_m9, tI_n (by omega)] at z; omega
      · have hl := mcod_lt (m := cB S 3) (fun i _ => (fsp_lt hM i).1) (fun i h _ => (fsp_lt hM i).2 h)
        have p1 := p10_le (cB S 3)
        have low16 : low ≤ 15 := by
          obtain ⟨S8, -⟩ := bits_lt g.gN (by omega) S s2
          have := cB_pos S S8 s1
          have := hM.2.1 0 (by omega)
          have : (qS g S op).la = g.gH - 1 := rfl
          omega
        rw [hM.1.2.2.1, show (1000 : Int32) * nI low = nI (1000 * low) from pk_mul 1000 low, nI_add, pn_in (by omega) (by omega), pn_cl (by omega), a7]
        exact ⟨by omega, eq_k (v1 z) (hK _ hIf)⟩
    refine ⟨fun z => absurd z (by decide), fun _ => ?_⟩
    have c1' := (can0_perm (q := qS g S op) (pi_bij S (bits_lt g.gN (by omega) S s2).1)).mpr c1
    have vo := value_ok (b := b) (l := l) (Q := fun _ _ => True) hP hT c1' (fun b' l' h => c2 b' l' ((can0_perm (q := qS g S op) (pi_bij S (bits_lt g.gN (by omega) S s2).1)).mp h))
    refine ⟨fun z => vo.1 _ (fun υ hf => fin υ _ (hc.tr hf.cor) (fun _ => rfl) (fun n => absurd z n)), fun z => vo.2 _ (fun υ hf => fin υ _ (hc.tr hf.cor) (fun n => absurd n z) (fun _ => rfl))⟩
  · refine ⟨fun _ => enter τ _ hc (togM_ok (hI.cor hc) s2 s1 hop (fun φ hφ _ => ⟨fun _ => eq_k rfl (hK _ ((hI.cor hc).cor hφ)), fun z => absurd rfl z⟩) (fun b' v' φ low hφ hM a1 a2 a3 a4 a5 a6 a7 a8 => absurd a3 (c1 _ _))), fun z => absurd rfl z⟩
/-! share -/
def Fea (g : Geo) (op : Nat → Nat) (S : Nat) : Prop := ∃ b l, Can (qS g S op) (g.gH - 1 + 1) zz b l
theorem bcn : ∀ S, S < 8 → bcV (nI S) = nI (cB S 3) := by decide +kernel
theorem bin_ok : ∀ S, S < 8 → ((nI S &&& 1) + ((nI S >>> ((1 : Int32) &&& 31)) &&& 1)) + ((nI S >>> ((2 : Int32) &&& 31)) &&& 1) = nI (cB S 3) := by decide +kernel
theorem bitsIn_ok {Q : Int32 → St → Prop} (hS : S < 8) (hq : Q (nI (cB S 3)) σ) : wp_X7_bitsIn (nI S) Q σ := by
  unfold wp_X7_bitsIn
  rw [bin_ok S hS]
  exact hq
theorem bcS_ok {Q : Int32 → St → Prop} (hS : S < 8) (hq : Q (nI (cB S 3)) σ) : wp_J6_bitCount_0f7a4 (nI S) Q σ := by
  refine bc_ok ?_
  rw [bcn S hS]
  exact hq
/-- the set that is shared: none, or the first of the most -/
def Shr (g : Geo) (op : Nat → Nat) (S : Nat) : Prop := (S = 0 ∧ ∀ S', 1 ≤ S' → S' < 2 ^ g.gN → ¬ Fea g op S') ∨ (1 ≤ S ∧ S < 2 ^ g.gN ∧ Fea g op S ∧ ∀ S', 1 ≤ S' → S' < 2 ^ g.gN → Fea g op S' → cB S' 3 ≤ cB S 3 ∧ (S' < S → cB S' 3 < cB S 3))
theorem Shr.uq {S S' : Nat} (h : Shr g op S) (h' : Shr g op S') : S = S' := by
  rcases h with ⟨a1, a2⟩ | ⟨a1, a2, a3, a4⟩
  · rcases h' with ⟨b1, b2⟩ | ⟨b1, b2, b3, b4⟩
    · omega
    · exact absurd b3 (a2 _ b1 b2)
  · rcases h' with ⟨b1, b2⟩ | ⟨b1, b2, b3, b4⟩
    · exact absurd a3 (b2 _ a1 a2)
    · have x := a4 _ b1 b2 b3
      have y := b4 _ a1 a2 a3
      have : ¬ S < S' := fun z => by have := y.2 z; omega
      have : ¬ S' < S := fun z => by have := x.2 z; omega
      omega
theorem sharedX_ok {Q : Int32 → St → Prop} (hI : Inv g σ) (hop : OpOK g 0 op) (hq : ∀ υ S, Cor σ υ → Shr g op S → S < 8 → Q (nI S) υ) : wp_X6_sharedSet Q σ := by
  have hd := hI.1
  have hd' := hd.1
  obtain ⟨p1, p2, p3⟩ := p2N hd
  unfold wp_X6_sharedSet
  rw [hd.2.2.2.1]
  refine ⟨g.gN + 1, ?_⟩
  refine pk_loopD (fun n j υ => wp_X6_sharedSet_l8 Q n (nI j) υ) (fun j υ => j ≤ g.gN ∧ Cor σ υ ∧ ∀ S', 1 ≤ S' → S' < 2 ^ g.gN → Fea g op S' → cB S' 3 ≤ j) (fun n υ hυ => ?_) (fun n j υ hυ hk => ?_) g.gN σ ⟨Nat.le_refl _, Cor.rf, fun S' h1 h2 _ => ?_⟩
  · show wp_X6_sharedSet_b8 _ _ _ _
    unfold wp_X6_sharedSet_b8
    refine ⟨fun _ => hq υ 0 hυ.2.1 (Or.inl ⟨rfl, fun S' h1 h2 h3 => ?_⟩) (by omega), fun z => absurd (by decide) z⟩
    have := hυ.2.2 S' h1 h2 h3
    have := cB_pos S' (by omega) h1
    omega
  · show wp_X6_sharedSet_b8 _ _ _ _
    unfold wp_X6_sharedSet_b8
    obtain ⟨u0, u1, u2⟩ := hυ
    rw [show (1 : Int32) = nI 1 from rfl, pn_lt (by omega) (by omega)]
    refine ⟨fun z => absurd z (by omega), fun _ => ?_⟩
    refine pk_loop (fun n S υ => wp_X6_sharedSet_l15 Q _ n (nI (j + 1)) (nI S) υ) (fun S υ => 1 ≤ S ∧ Cor σ υ ∧ ∀ S', 1 ≤ S' → S' < S → Fea g op S' → cB S' 3 ≤ j) (2 ^ g.gN) 1 υ p2 ⟨Nat.le_refl _, u1, fun S' h1 h2 => by omega⟩ (fun n φ hφ => ?_) (fun n S φ hS hφ hk2 => ?_)
    · show wp_X6_sharedSet_b15 _ _ _ _ _ _
      unfold wp_X6_sharedSet_b15
      obtain ⟨w0, w1, w2⟩ := hφ
      rw [(hI.cor w1).1.2.2.2.1, p3, pk_m1]
      exact ⟨fun _ => hk φ ⟨by omega, w1, fun S' h1 h2 h3 => w2 S' h1 h2 h3⟩, fun z => absurd (nI_le (Nat.le_refl _) (by omega)) z⟩
    · show wp_X6_sharedSet_b15 _ _ _ _ _ _
      unfold wp_X6_sharedSet_b15
      obtain ⟨w0, w1, w2⟩ := hφ
      have hIw := hI.cor w1
      have c3 := cB_le S (by omega) 3 (by omega)
      rw [hIw.1.2.2.2.1, p3]
      refine ⟨fun z => absurd z (nI_ge hS (by omega)), fun _ => bcS_ok (by omega) ?_⟩
      rw [pn_eq (by omega) (by omega), na1]
      refine ⟨fun z => togA_ok hIw hS hop (fun ψ b l hc x1 => ⟨fun y => absurd y (by decide), fun _ => hq ψ S (w1.tr hc) (Or.inr ⟨w0, hS, ⟨b, l, x1⟩, fun S' h1 h2 h3 => ⟨?_, fun h4 => ?_⟩⟩) (by omega)⟩) (fun ψ hc x1 => ⟨fun _ => hk2 ψ ⟨by omega, w1.tr hc, fun S' h1 h2 h3 => ?_⟩, fun y => absurd rfl y⟩), fun z => hk2 φ ⟨by omega, w1, fun S' h1 h2 h3 => ?_⟩⟩
      · have := u2 S' h1 h2 h3; omega
      · have := w2 S' h1 h4 h3; omega
      · by_cases e : S' = S
        · rw [e] at h3
          obtain ⟨b, l, h3⟩ := h3
          exact absurd h3 (x1 b l)
        · exact w2 S' h1 (by omega) h3
      · by_cases e : S' = S
        · have := u2 S (by omega) hS (by rw [← e]; exact h3)
          rw [e]; omega
        · exact w2 S' h1 (by omega) h3
  · have : ∀ n, n < 4 → ∀ S, S < 2 ^ n → cB S 3 ≤ n := by decide
    exact this g.gN (by omega) S' h2
theorem op_share (hI : Inv g σ) (hK : ∀ τ, Inv g τ → K τ) (x : Int32) : wp_X6_share x (fun r σ1 => wp_X7_share x (fun r2 σ2 => (r = r2 → K σ2) ∧ (¬ r = r2 → F)) σ1) σ := by
  have hd := hI.1
  have hd' := hd.1
  obtain ⟨p1, p2, p3⟩ := p2N hd
  have bad : ¬ (0 ≤ x.toInt ∧ x.toInt ≤ 1) → wp_X7_share x (fun r2 σ2 => ((-1 : Int32) = r2 → K σ2) ∧ (¬ (-1 : Int32) = r2 → F)) σ := by
    intro n
    unfold wp_X7_share
    exact in_ok (g_f (by rw [z0, t_1]; exact n) (eq_k rfl (hK _ hI)))
  unfold wp_X6_share
  rw [tI_lt, tI_le, z0, t_1]
  refine ⟨fun z => bad (by omega), fun z => ⟨fun z2 => ?_, fun z2 => bad (by omega)⟩⟩
  obtain ⟨op, hop⟩ := op_ex (cl := 0) hI (by omega)
  refine sharedX_ok hI hop (fun υ S hc hS S8 => ?_)
  have hIu := hI.cor hc
  have M : ∀ v : Int32, (x = 0 → v = nI S) → (¬ x = 0 → v = nI (cB S 3)) → wp_X7_share x (fun r2 σ2 => (v = r2 → K σ2) ∧ (¬ v = r2 → F)) υ := by
    intro v v0 v1
    unfold wp_X7_share
    refine in_ok (g_t (by rw [z0, t_1]; omega) ?_)
    refine pk_loop (fun n i (s : Nat × St) => wp_X7_share_l15 (fun r2 σ2 => (v = r2 → K σ2) ∧ (¬ v = r2 → F)) n x (nI s.1) (nI i) s.2) (fun i s => 1 ≤ i ∧ Cor υ s.2 ∧ s.1 < i ∧ ((s.1 = 0 ∧ ∀ S', 1 ≤ S' → S' < i → ¬ Fea g op S') ∨ (1 ≤ s.1 ∧ Fea g op s.1 ∧ ∀ S', 1 ≤ S' → S' < i → Fea g op S' → cB S' 3 ≤ cB s.1 3 ∧ (S' < s.1 → cB S' 3 < cB s.1 3)))) (2 ^ g.gN) 1 (0, υ) p2 ⟨Nat.le_refl _, Cor.rf, by omega, Or.inl ⟨rfl, fun S' h1 h2 => by omega⟩⟩ (fun n s hs => ?_) (fun n i s hi hs hk => ?_)
    · show wp_X7_share_b15 _ _ _ _ _ _
      unfold wp_X7_share_b15
      obtain ⟨s0, s1, s2, s3⟩ := hs
      have hIs := hIu.cor s1
      rw [c0, hIs.1.2.2.2.2.2.2, p3]
      have es : s.1 = S := by
        refine Shr.uq (g := g) (op := op) ?_ hS
        rcases s3 with s3 | ⟨a1, a2, a3⟩
        · exact Or.inl s3
        · exact Or.inr ⟨a1, s2, a2, a3⟩
      rw [es]
      exact ⟨vin0_2, fun _ => ⟨fun y => eq_k (v0 y) (hK _ hIs), fun y => bitsIn_ok S8 (eq_k (v1 y) (hK _ hIs))⟩, fun y => absurd (nI_le (Nat.le_refl _) (by omega)) y⟩
    · show wp_X7_share_b15 _ _ _ _ _ _
      unfold wp_X7_share_b15
      obtain ⟨s0, s1, s2, s3⟩ := hs
      obtain ⟨f, φ⟩ := s
      have s2 : f < i := s2
      have hIs := hIu.cor s1
      have ci := cB_le i (by omega) 3 (by omega)
      have cf := cB_le f (by omega) 3 (by omega)
      rw [c0, hIs.1.2.2.2.2.2.2, p3]
      refine ⟨vin0_2, fun y => absurd y (nI_ge hi (by omega)), fun _ => bitsIn_ok (S := i) (by omega) (bitsIn_ok (S := f) (by omega) ?_)⟩
      rw [pn_le (by omega) (by omega), na1]
      refine ⟨fun y => hk (f, φ) ⟨by omega, s1, by show f < i + 1; omega, ?_⟩, fun y => ?_⟩
      · rcases s3 with ⟨a1, a2⟩ | ⟨a1, a2, a3⟩
        · have a1 : f = 0 := a1
          have := cB_pos i (by omega) s0
          rw [a1] at y
          have : cB 0 3 = 0 := rfl
          omega
        · refine Or.inr ⟨a1, a2, fun S' h1 h2 h3 => ?_⟩
          by_cases e : S' = i
          · rw [e]; exact ⟨y, fun w => by have w : i < f := w; omega⟩
          · exact a3 S' h1 (by omega) h3
      · refine togM_ok hIs hi s0 hop (fun ψ hψ hno => ?_) (fun b v' ψ low hψ hM a1 a2 a3 a4 a5 a6 a7 a8 => ?_)
        · unfold wp_X7_share_b57
          rw [na1]
          refine ⟨fun _ => hk (f, ψ) ⟨by omega, s1.tr hψ, by show f < i + 1; omega, ?_⟩, fun w => absurd rfl w⟩
          have nf : ¬ Fea g op i := fun ⟨b, l, h⟩ => hno b l h
          rcases s3 with ⟨a1, a2⟩ | ⟨a1, a2, a3⟩
          · refine Or.inl ⟨a1, fun S' h1 h2 h3 => ?_⟩
            by_cases e : S' = i
            · rw [e] at h3; exact nf h3
            · exact a2 S' h1 (by omega) h3
          · refine Or.inr ⟨a1, a2, fun S' h1 h2 h3 => ?_⟩
            by_cases e : S' = i
            · rw [e] at h3; exact absurd h3 nf
            · exact a3 S' h1 (by omega) h3
        · unfold wp_X7_share_b57
          rw [na1]
          refine ⟨fun w => ?_, fun _ => hk (i, ψ) ⟨by omega, s1.tr hψ, by show i < i + 1; omega, Or.inr ⟨s0, ⟨b, v', a3⟩, fun S' h1 h2 h3 => ?_⟩⟩⟩
          · rw [tI_eq, t_m9, tI_n (by omega)] at w; omega
          · show cB S' 3 ≤ cB i 3 ∧ (S' < i → cB S' 3 < cB i 3)
            by_cases e : S' = i
            · rw [e]; exact ⟨Nat.le_refl _, fun w => by omega⟩
            · rcases s3 with ⟨b1, b2⟩ | ⟨b1, b2, b3⟩
              · exact absurd h3 (b2 S' h1 (by omega))
              · have : cB S' 3 ≤ cB f 3 := (b3 S' h1 (by omega) h3).1
                exact ⟨by omega, fun _ => by omega⟩
  refine ⟨fun y => M _ (fun _ => rfl) (fun n => absurd y n), fun y => bcS_ok S8 (M _ (fun n => absurd n y) (fun _ => rfl))⟩
end TO
