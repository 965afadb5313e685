/-! a wall's items, as the reference reads them -/
def DM (g : Geo) (σ : St) : Prop := σ.1 77 1 = nI g.gW ∧ σ.1 78 1 = nI g.gH ∧ σ.1 84 1 = nI g.cold ∧ σ.1 79 1 = nI g.gN ∧ (∀ r, r < 16 → σ.1 83 (16 + r) = nI (g.bar r)) ∧ ∀ h, h < g.gN → σ.1 80 (3 + h) = nI (g.co h) ∧ σ.1 81 (3 + h) = nI (g.cl h) ∧ σ.1 82 (3 + h) = nI (g.ne h)
def RMd (k i : Nat) : Prop := ((k = 77 ∨ k = 78 ∨ k = 79 ∨ k = 84) ∧ i = 1) ∨ ((k = 80 ∨ k = 81 ∨ k = 82) ∧ 3 ≤ i) ∨ (k = 83 ∧ 16 ≤ i)
def FE (σ τ : St) : Prop := (∀ k i, ¬ (k = 75 ∧ 13 ≤ i ∧ i ≤ 17) → ¬ RMd k i → τ.1 k i = σ.1 k i) ∧ τ.2 = σ.2
theorem FE.rf {σ : St} : FE σ σ := ⟨fun _ _ _ _ => rfl, rfl⟩
theorem FE.tr {σ τ υ : St} (a : FE σ τ) (b : FE τ υ) : FE σ υ := ⟨fun k i n m => (b.1 k i n m).trans (a.1 k i n m), b.2.trans a.2⟩
theorem FQ.g {σ τ : St} (a : FQ σ τ) : FE σ τ := ⟨fun k i n _ => a.1 k i (fun z => n (by omega)), a.2⟩
theorem FE.s {σ τ : St} (a : FE σ τ) {k i : Nat} (hk : RMd k i) (v : Int32) : FE σ (sI τ k i v) := ⟨fun x j n m => by rw [sI_1, if_neg (fun z => m (by rw [z.1, z.2]; exact hk))]; exact a.1 x j n m, a.2⟩
theorem FE.f {σ τ : St} (a : FE σ τ) (v : Int32) : FE σ (sI τ 75 17 v) := ⟨fun x j n m => by rw [sI_1, if_neg (by omega)]; exact a.1 x j n m, a.2⟩
theorem FE.cor {σ τ : St} (a : FE σ τ) : Cor σ τ := ⟨fun k i n => a.1 k i (fun z => n (by unfold Scr; omega)) (fun z => n (by unfold RMd at z; unfold Scr; omega)), by rw [a.2], by rw [a.2]⟩
theorem TXm.fe {T : Nat} {tx : Nat → Nat} {σ τ : St} (h : TXm T tx σ) (f : FE σ τ) : TXm T tx τ := by
  obtain ⟨h1, h2, h4⟩ := h
  exact ⟨h1, by rw [f.1 _ _ (by omega) (by unfold RMd; omega)]; exact h2, fun j hj => by rw [f.1 _ _ (by omega) (by unfold RMd; omega)]; exact h4 j hj⟩
theorem DM.fq {g : Geo} {σ τ : St} (h : DM g σ) (f : FQ σ τ) : DM g τ := by
  obtain ⟨h1, h2, h3, h4, h5, h6⟩ := h
  refine ⟨by rw [f.1 _ _ (by omega)]; exact h1, by rw [f.1 _ _ (by omega)]; exact h2, by rw [f.1 _ _ (by omega)]; exact h3, by rw [f.1 _ _ (by omega)]; exact h4, fun r hr => by rw [f.1 _ _ (by omega)]; exact h5 r hr, fun x hx => ?_⟩
  rw [f.1 _ _ (by omega), f.1 _ _ (by omega), f.1 _ _ (by omega)]
  exact h6 x hx
theorem TokM.s {t : Tk} {τ : St} (h : TokM t τ) {k i : Nat} (hk : ¬ k = 75) (v : Int32) : TokM t (sI τ k i v) := by
  obtain ⟨h1, h2, h3, h4⟩ := h
  exact ⟨by rw [sI_1, if_neg (by omega)]; exact h1, by rw [sI_1, if_neg (by omega)]; exact h2, by rw [sI_1, if_neg (by omega)]; exact h3, fun z => by rw [sI_1, if_neg (by omega)]; exact h4 z⟩
theorem kdM_eq {K n : Nat} (h1 : 1 ≤ n) (h6 : n ≤ 6) (h7 : K ≤ 7) : kdM K = n ↔ K = n := by
  unfold kdM
  by_cases a : K = 0
  · rw [if_pos a]; omega
  · rw [if_neg a]
    by_cases b : K = 7
    · rw [if_pos b]; omega
    · rw [if_neg b]
theorem kdM_7 {K : Nat} (h : K ≤ 7) : kdM K ≤ 7 ∧ (kdM K = 0 ↔ K = 7) := by
  unfold kdM
  by_cases a : K = 0
  · rw [if_pos a]; omega
  · rw [if_neg a]
    by_cases b : K = 7
    · rw [if_pos b]; omega
    · rw [if_neg b]; omega
theorem n9 {f : Nat} (h : f ≤ 300) : ¬ nI f = (-9 : Int32) := by
  intro z
  rw [tI_eq, t_m9, tI_n (by omega)] at z
  omega
theorem vin1_2 : vp_in (1 : Int32) 2 := by unfold vp_in; decide
section RN
variable {σ τ : St} {T p : Nat} {tx : Nat → Nat} {g : Geo}
theorem numM_ok {Q : Int32 → St → Prop} {lo hi : Int32} (l h : Nat) (h17 : σ.1 75 17 = -9) (hX : TXm T tx σ) (hp : p ≤ T) (ht : Tok T (Bt T tx) p (tk T (Bt T tx) p)) (hx : TokM (tk T (Bt T tx) p) σ) (hl : lo.toInt = (l : Int)) (hh : hi.toInt = (h : Int))
    (hq1 : ∀ τ v e, numS (tk T (Bt T tx)) p l h = .inr (v, e) → FQ σ τ → e ≤ T → Tok T (Bt T tx) e (tk T (Bt T tx) e) → TokM (tk T (Bt T tx) e) τ → l ≤ v → v ≤ h → v ≤ 99 → p < e → Q (nI v) τ)
    (hq0 : ∀ r s, numS (tk T (Bt T tx)) p l h = .inl s → s ≤ T → Q r (sI σ 75 17 (nI s))) : wp_X7_number lo hi Q σ := by
  have hT := hX.1
  obtain ⟨x1, x2, x3, x4⟩ := hx
  obtain ⟨b1, b2, b3, b4, b5, b6⟩ := ht.b hp
  have k7 := kdM_7 b6
  have no : ¬ ((tk T (Bt T tx) p).k = 5 ∧ l ≤ (tk T (Bt T tx) p).v ∧ (tk T (Bt T tx) p).v ≤ h) → wp_X7_number_b25 Q σ := by
    intro n
    unfold wp_X7_number_b25 wp_X7_number_b26 wp_X7_due
    rw [x2]
    exact ⟨fun _ => ⟨fun _ => hq0 _ _ (by unfold numS; rw [if_neg n]) (by omega), fun z => absurd rfl z⟩, fun z => absurd h17 z⟩
  unfold wp_X7_number
  rw [x3, show (5 : Int32) = nI 5 from rfl, pn_eq (by omega) (by omega), kdM_eq (by omega) (by omega) b6]
  refine ⟨fun z => in_ok ?_, fun z => no (fun w => z w.1)⟩
  have v99 := b5 z
  rw [x4 z, hl, hh, tI_n (by omega)]
  refine i2_eq (fun w => ?_) (fun w => no (fun y => w (by omega)))
  unfold wp_X7_number_b26 wp_X7_due
  refine ⟨fun _ => ⟨fun y => absurd y (by decide), fun _ => next_ok hX x1 b3 (fun τ f ht2 hx2 => ?_)⟩, fun y => absurd h17 y⟩
  rw [x4 z]
  exact hq1 τ _ _ (by unfold numS; rw [if_pos ⟨z, by omega, by omega⟩]) f b3 ht2 hx2 (by omega) (by omega) v99 (b4 (by omega))
theorem numF_ok {Q : Int32 → St → Prop} {lo hi : Int32} {f : Nat} (h17 : σ.1 75 17 = nI f) (hf : f ≤ 300) (hq : ∀ r, Q r σ) : wp_X7_number lo hi Q σ := by
  have d : ∀ x, wp_X7_due x (fun r σ => Q r σ) σ := by
    intro x
    unfold wp_X7_due
    rw [h17]
    exact ⟨fun z => absurd z (n9 hf), fun _ => hq _⟩
  unfold wp_X7_number wp_X7_number_b25 wp_X7_number_b26
  exact ⟨fun _ => in_ok (i2_eq (fun _ => d _) (fun _ => d _)), fun _ => d _⟩
theorem cloM_ok {Q : St → Prop} (h17 : σ.1 75 17 = -9) (hX : TXm T tx σ) (hp : p ≤ T) (ht : Tok T (Bt T tx) p (tk T (Bt T tx) p)) (hx : TokM (tk T (Bt T tx) p) σ)
    (hq1 : ∀ τ e, cloS (tk T (Bt T tx)) p = .inr e → FQ σ τ → e ≤ T → Tok T (Bt T tx) e (tk T (Bt T tx) e) → TokM (tk T (Bt T tx) e) τ → p < e → Q τ)
    (hq0 : ∀ s, cloS (tk T (Bt T tx)) p = .inl s → s ≤ T → Q (sI σ 75 17 (nI s))) : wp_X7_item_b284 Q σ := by
  have hT := hX.1
  obtain ⟨x1, x2, x3, x4⟩ := hx
  obtain ⟨b1, b2, b3, b4, b5, b6⟩ := ht.b hp
  have k7 := kdM_7 b6
  unfold wp_X7_item_b284
  rw [x3, show (6 : Int32) = nI 6 from rfl, pn_eq (by omega) (by omega), kdM_eq (by omega) (by omega) b6]
  unfold wp_X7_item_b299 wp_X7_due
  rw [x2]
  refine ⟨fun z => ⟨fun _ => ⟨fun y => absurd y (by decide), fun _ => next_ok hX x1 b3 (fun τ f ht2 hx2 => ?_)⟩, fun y => absurd h17 y⟩, fun z => ⟨fun _ => ⟨fun _ => hq0 _ (by unfold cloS; rw [if_neg z]) (by omega), fun y => absurd rfl y⟩, fun y => absurd h17 y⟩⟩
  exact hq1 τ _ (by unfold cloS; rw [if_pos z]) f b3 ht2 hx2 (b4 (by omega))
theorem cloF_ok {Q : St → Prop} {f : Nat} (h17 : σ.1 75 17 = nI f) (hf : f ≤ 300) (hq : Q σ) : wp_X7_item_b284 Q σ := by
  unfold wp_X7_item_b284 wp_X7_item_b299 wp_X7_due
  rw [h17]
  exact ⟨fun _ => ⟨fun z => absurd z (n9 hf), fun _ => hq⟩, fun _ => ⟨fun z => absurd z (n9 hf), fun _ => hq⟩⟩
theorem cl_1 : (1 : Int32).toNatClampNeg = 1 := by decide
theorem cn_1 : (nI 1).toNatClampNeg = 1 := by decide
theorem spaM_ok {Q : Int32 → St → Prop} {W : Nat} (h17 : σ.1 75 17 = -9) (hX : TXm T tx σ) (hp : p ≤ T) (ht : Tok T (Bt T tx) p (tk T (Bt T tx) p)) (hx : TokM (tk T (Bt T tx) p) σ) (h77 : σ.1 77 1 = nI W) (hW : 2 ≤ W ∧ W ≤ 10)
    (hq1 : ∀ τ m e, spaS (tk T (Bt T tx)) p W = .inr (m, e) → FQ σ τ → e ≤ T → Tok T (Bt T tx) e (tk T (Bt T tx) e) → TokM (tk T (Bt T tx) e) τ → p < e → m < 2 ^ W → Q (nI m) τ)
    (hq0 : ∀ τ s, spaS (tk T (Bt T tx)) p W = .inl s → FE σ τ → τ.1 75 17 = nI s → s ≤ T → Q 0 τ) : wp_X7_span Q σ := by
  have hT := hX.1
  have eW : (nI W - 1).toInt = ((W - 1 : Nat) : Int) := by rw [ns1 (by omega), tI_n (by omega)]
  unfold wp_X7_span
  rw [cl_1, h77]
  refine ⟨vin1_2, numM_ok 0 (W - 1) h17 hX hp ht hx z0 eW (fun τ c e hn f he ht2 hx2 l1 l2 l3 pe => ⟨vin1_2, ?_⟩) (fun r s hn hs => ⟨vin1_2, ?_⟩)⟩
  · have t17 : τ.1 75 17 = -9 := by rw [f.1 _ _ (by omega)]; exact h17
    have t77 : τ.1 77 1 = nI W := by rw [f.1 _ _ (by omega)]; exact h77
    rw [t77]
    refine numM_ok c (W - 1) t17 (hX.fr f) he ht2 hx2 (tI_n (by omega)) eW (fun υ d e2 hn2 f2 he2 ht3 hx3 m1 m2 m3 pe2 => ?_) (fun r s hn2 hs => ?_)
    · have es : spaS (tk T (Bt T tx)) p W = .inr (2 ^ (d + 1) - 2 ^ c, e2) := (bS_r hn).trans (bS_r hn2)
      have ms := spaS_r (by omega) es
      have u17 : υ.1 75 17 = -9 := by rw [f2.1 _ _ (by omega)]; exact t17
      rw [u17, spm d (by omega) c (by omega) m1]
      exact ⟨fun _ => hq1 υ _ e2 es (f.tr f2) he2 ht3 hx3 (by omega) ms.1, fun z => absurd rfl z⟩
    · have e17 : (sI τ 75 17 (nI s)).1 75 17 = nI s := by rw [sI_1, if_pos ⟨rfl, rfl⟩]
      rw [e17]
      exact ⟨fun z => absurd z (n9 (by omega)), fun _ => hq0 _ s ((bS_r hn).trans (bS_l hn2)) (f.g.f _) e17 hs⟩
  · have e17 : (sI σ 75 17 (nI s)).1 75 17 = nI s := by rw [sI_1, if_pos ⟨rfl, rfl⟩]
    refine numF_ok e17 (by omega) (fun r2 => ?_)
    rw [e17]
    exact ⟨fun z => absurd z (n9 (by omega)), fun _ => hq0 _ s (bS_l hn) (FE.rf.f _) e17 hs⟩
theorem item_ok {Q : St → Prop} {i : Nat} (h17 : σ.1 75 17 = -9) (hX : TXm T tx σ) (hp : p ≤ T) (ht : Tok T (Bt T tx) p (tk T (Bt T tx) p)) (hx : TokM (tk T (Bt T tx) p) σ) (hD : DM g σ) (hw : WFg g) (h7 : (tk T (Bt T tx) p).k ≠ 7) (hi31 : i < 2 ^ 31)
    (hq1 : ∀ τ q g', itmS (tk T (Bt T tx)) (tk T (Bt T tx) p).k (tk T (Bt T tx) p).s (tk T (Bt T tx) p).e (decide (i = 0)) g = .inr (q, g') → FE σ τ → τ.1 75 17 = -9 → DM g' τ → q ≤ T → Tok T (Bt T tx) q (tk T (Bt T tx) q) → TokM (tk T (Bt T tx) q) τ → p < q → Q τ)
    (hq0 : ∀ τ f, itmS (tk T (Bt T tx)) (tk T (Bt T tx) p).k (tk T (Bt T tx) p).s (tk T (Bt T tx) p).e (decide (i = 0)) g = .inl f → FE σ τ → τ.1 75 17 = nI f → f ≤ T → Q τ) : wp_X7_item (nI (kdM (tk T (Bt T tx) p).k)) (nI i) Q σ := by
  have hT := hX.1
  obtain ⟨⟨w1, w2, w3, w4, w5⟩, w6, w7, w8⟩ := hw
  have pw := pow_le w2
  obtain ⟨x1, x2, x3, x4⟩ := hx
  obtain ⟨b1, b2, b3, b4, b5, b6⟩ := ht.b hp
  have k7 := kdM_7 b6
  have e4 := b4 h7
  generalize hK : (tk T (Bt T tx) p).k = K at *
  generalize hs : (tk T (Bt T tx) p).s = s at *
  generalize he : (tk T (Bt T tx) p).e = e at *
  have none : itmS (tk T (Bt T tx)) K s e (decide (i = 0)) g = .inl s → wp_X7_item_b48 Q (nI (kdM K)) 0 σ := by
    intro h
    unfold wp_X7_item_b48 wp_X7_due
    rw [x2]
    refine ⟨fun _ => ⟨fun _ => ?_, fun z => absurd rfl z⟩, fun z => absurd h17 z⟩
    have e17 : (sI σ 75 17 (nI s)).1 75 17 = nI s := by rw [sI_1, if_pos ⟨rfl, rfl⟩]
    dsimp only
    rw [e17]
    exact ⟨fun z => absurd z (n9 (by omega)), fun _ => hq0 _ s h (FE.rf.f _) e17 (by omega)⟩
  have fault : ∀ υ f, itmS (tk T (Bt T tx)) K s e (decide (i = 0)) g = .inl f → FE σ υ → υ.1 75 17 = nI f → f ≤ T → wp_X7_item_b284 Q υ := fun υ f h fe e17 hf => cloF_ok e17 (by omega) (hq0 υ f h fe e17 hf)
  have close : ∀ (body : Nat ⊕ (Geo × Nat)), itmS (tk T (Bt T tx)) K s e (decide (i = 0)) g = endS (tk T (Bt T tx)) body → ∀ υ g' e', body = .inr (g', e') → FE σ υ → υ.1 75 17 = -9 → DM g' υ → e' ≤ T → Tok T (Bt T tx) e' (tk T (Bt T tx) e') → TokM (tk T (Bt T tx) e') υ → e < e' → wp_X7_item_b284 Q υ := by
    intro body hb υ g' e' hbe fe e17 d he' ht' hx' pe
    refine cloM_ok e17 (hX.fe fe) he' ht' hx' (fun φ q hc f hq ht2 hx2 pq => hq1 φ q g' (hb.trans ((bS_r hbe).trans (bS_r hc))) (fe.tr f.g) (by rw [f.1 _ _ (by omega)]; exact e17) (d.fq f) hq ht2 hx2 (by omega)) (fun s' hc hs' => hq0 _ s' (hb.trans ((bS_r hbe).trans (bS_l hc))) (fe.f _) (by rw [sI_1, if_pos ⟨rfl, rfl⟩]) hs')
  have some : (K = 1 → decide (i = 0) = true) → (K = 4 → g.gN < 3) → 1 ≤ K ∧ K ≤ 4 → wp_X7_item_b48 Q (nI (kdM K)) 1 σ := by
    intro c1 c4 c14
    unfold wp_X7_item_b48 wp_X7_due
    refine ⟨fun _ => ⟨fun z => absurd z (by decide), fun _ => next_ok hX x1 (by omega) (fun τ f hte hxe => ?_)⟩, fun z => absurd h17 z⟩
    have t17 : τ.1 75 17 = -9 := by rw [f.1 _ _ (by omega)]; exact h17
    have hXt := hX.fr f
    have hDt := hD.fq f
    obtain ⟨d1, d2, d3, d4, d5, d6⟩ := hDt
    have eT : e ≤ T := by omega
    dsimp only
    rw [t17, cl_1, d2, d3, d4, show (1 : Int32) = nI 1 from rfl, show (2 : Int32) = nI 2 from rfl, show (3 : Int32) = nI 3 from rfl, pn_eq (by omega) (by omega), pn_eq (by omega) (by omega), pn_eq (by omega) (by omega), kdM_eq (by omega) (by omega) b6, kdM_eq (by omega) (by omega) b6, kdM_eq (by omega) (by omega) b6]
    refine ⟨fun _ => ⟨fun k1 => ?_, fun k1 => ⟨fun k2 => ⟨vin1_2, ?_⟩, fun k2 => ⟨fun k3 => ⟨vin1_2, ?_⟩, fun k3 => ⟨vin1_2, fun v hv => ⟨vin1_2, ?_⟩⟩⟩⟩⟩, fun z => absurd rfl z⟩
    · have hi : itmS (tk T (Bt T tx)) K s e (decide (i = 0)) g = endS (tk T (Bt T tx)) (szS (tk T (Bt T tx)) e g) := by unfold itmS; rw [if_pos k1, if_pos (c1 k1)]
      refine numM_ok 2 10 t17 hXt eT hte hxe t_2 (by decide) (fun υ w e1 hn f2 he1 ht1 hx1 l1 l2 l3 pe => ?_) (fun r s' hn hs' => ?_)
      · have u17 : υ.1 75 17 = -9 := by rw [f2.1 _ _ (by omega)]; exact t17
        refine numM_ok 2 16 u17 (hXt.fr f2) he1 ht1 hx1 t_2 (by decide) (fun φ h e2 hn2 f3 he2 ht2 hx2 m1 m2 m3 pe2 => ?_) (fun r s' hn2 hs' => ?_)
        · have v17 : φ.1 75 17 = -9 := by rw [f3.1 _ _ (by omega)]; exact u17
          have f4 := (f.tr f2).tr f3
          rw [v17]
          refine ⟨fun _ => ?_, fun z => absurd rfl z⟩
          unfold wp_X7_item_b108 wp_X7_item_b134
          rw [cl_1, cn_1]
          have q17 : (sI φ 77 1 (nI w)).1 75 17 = -9 := by rw [sI_1, if_neg (by omega)]; exact v17
          rw [q17]
          refine ⟨vin1_2, fun _ => ⟨vin1_2, ?_⟩, fun z => absurd rfl z⟩
          refine close _ hi _ (gDim g w h) e2 ((bS_r hn).trans (bS_r hn2)) ((f4.g.s (by unfold RMd; omega) _).s (by unfold RMd; omega) _) (by rw [sI_1, if_neg (by omega)]; exact q17) ?_ he2 ht2 ((hx2.s (by omega) _).s (by omega) _) (by omega)
          obtain ⟨y1, y2, y3, y4, y5, y6⟩ := hD.fq f4
          refine ⟨by rw [sI_1, if_neg (by omega), sI_1, if_pos ⟨rfl, rfl⟩]; rfl, by rw [sI_1, if_pos ⟨rfl, rfl⟩]; rfl, by rw [sI_1, if_neg (by omega), sI_1, if_neg (by omega)]; exact y3, by rw [sI_1, if_neg (by omega), sI_1, if_neg (by omega)]; exact y4, fun r hr => by rw [sI_1, if_neg (by omega), sI_1, if_neg (by omega)]; exact y5 r hr, fun x hx => ?_⟩
          rw [sI_1, if_neg (by omega), sI_1, if_neg (by omega), sI_1, if_neg (by omega), sI_1, if_neg (by omega), sI_1, if_neg (by omega), sI_1, if_neg (by omega)]
          exact y6 x hx
        · have q17 : (sI υ 75 17 (nI s')).1 75 17 = nI s' := by rw [sI_1, if_pos ⟨rfl, rfl⟩]
          rw [q17]
          refine ⟨fun z => absurd z (n9 (by omega)), fun _ => ⟨vin1_2, ?_⟩⟩
          unfold wp_X7_item_b108 wp_X7_item_b134
          rw [cl_1, cn_1]
          have r17 : ∀ v, (sI (sI υ 75 17 (nI s')) 77 1 v).1 75 17 = nI s' := fun v => by rw [sI_1, if_neg (by omega)]; exact q17
          rw [r17]
          refine ⟨vin1_2, fun z => absurd z (n9 (by omega)), fun _ => ⟨vin1_2, vin1_2, ?_⟩⟩
          refine fault _ s' (hi.trans (bS_l ((bS_r hn).trans (bS_l hn2)))) ((((f.tr f2).g.f _).s (by unfold RMd; omega) _).s (by unfold RMd; omega) _) ?_ hs'
          rw [sI_1, if_neg (by omega)]; exact r17 _
      · have q17 : (sI τ 75 17 (nI s')).1 75 17 = nI s' := by rw [sI_1, if_pos ⟨rfl, rfl⟩]
        refine numF_ok q17 (by omega) (fun r2 => ?_)
        rw [q17]
        refine ⟨fun z => absurd z (n9 (by omega)), fun _ => ⟨vin1_2, ?_⟩⟩
        unfold wp_X7_item_b108 wp_X7_item_b134
        rw [cl_1, cn_1]
        have r17 : ∀ v, (sI (sI τ 75 17 (nI s')) 77 1 v).1 75 17 = nI s' := fun v => by rw [sI_1, if_neg (by omega)]; exact q17
        rw [r17]
        refine ⟨vin1_2, fun z => absurd z (n9 (by omega)), fun _ => ⟨vin1_2, vin1_2, ?_⟩⟩
        refine fault _ s' (hi.trans (bS_l (bS_l hn))) (((f.g.f _).s (by unfold RMd; omega) _).s (by unfold RMd; omega) _) ?_ hs'
        rw [sI_1, if_neg (by omega)]; exact r17 _
    · have hi : itmS (tk T (Bt T tx)) K s e (decide (i = 0)) g = endS (tk T (Bt T tx)) (bmS (tk T (Bt T tx)) e g) := by unfold itmS; rw [if_neg k1, if_pos k2]
      have bad : ∀ υ r r2 s', itmS (tk T (Bt T tx)) K s e (decide (i = 0)) g = .inl s' → FE σ υ → υ.1 75 17 = nI s' → s' ≤ T → (υ.1 75 17 = ((-9) : Int32) → wp_X7_item_b183 Q r2 r (16) υ) ∧ (¬ υ.1 75 17 = ((-9) : Int32) → wp_X7_item_b183 Q r2 (0) (16) υ) := by
        intro υ r r2 s' hb fe e17 hs'
        rw [e17]
        refine ⟨fun z => absurd z (n9 (by omega)), fun _ => ?_⟩
        unfold wp_X7_item_b183
        have c16 : (16 + 0 : Int32).toNatClampNeg = 16 := by decide
        rw [c16]
        refine ⟨by unfold vp_in; decide, by unfold vp_in; decide, fault _ s' hb (fe.s (by unfold RMd; omega) _) (by rw [sI_1, if_neg (by omega)]; exact e17) hs'⟩
      refine numM_ok 0 (g.gH - 1) t17 hXt eT hte hxe z0 (by rw [show nI g.gH - nI 1 = nI (g.gH - 1) from pk_sub (by omega), tI_n (by omega)]) (fun υ r e1 hn f2 he1 ht1 hx1 l1 l2 l3 pe => ?_) (fun r s' hn hs' => ?_)
      · have u17 : υ.1 75 17 = -9 := by rw [f2.1 _ _ (by omega)]; exact t17
        have u77 : υ.1 77 1 = nI g.gW := by rw [f2.1 _ _ (by omega)]; exact d1
        refine spaM_ok u17 (hXt.fr f2) he1 ht1 hx1 u77 ⟨w1, w2⟩ (fun φ m e2 hn2 f3 he2 ht2 hx2 pe2 mW => ?_) (fun φ s' hn2 fe e17 hs' => bad φ _ _ s' (hi.trans (bS_l ((bS_r hn).trans (bS_l hn2)))) ((f.tr f2).g.tr fe) e17 hs')
        have v17 : φ.1 75 17 = -9 := by rw [f3.1 _ _ (by omega)]; exact u17
        have f4 := (f.tr f2).tr f3
        obtain ⟨y1, y2, y3, y4, y5, y6⟩ := hD.fq f4
        have br := w6 r (by omega)
        rw [v17]
        refine ⟨fun _ => ?_, fun z => absurd rfl z⟩
        unfold wp_X7_item_b183
        rw [show (16 : Int32) = nI 16 from rfl, nI_add, pn_in (by omega) (by omega), pn_cl (by omega), y5 r (by omega), nI_or (by omega) (by omega)]
        refine ⟨by omega, by omega, close _ hi _ (gBar g r m) e2 ((bS_r hn).trans (bS_r hn2)) (f4.g.s (by unfold RMd; omega) _) (by rw [sI_1, if_neg (by omega)]; exact v17) ?_ he2 ht2 (hx2.s (by omega) _) (by omega)⟩
        refine ⟨by rw [sI_1, if_neg (by omega)]; exact y1, by rw [sI_1, if_neg (by omega)]; exact y2, by rw [sI_1, if_neg (by omega)]; exact y3, by rw [sI_1, if_neg (by omega)]; exact y4, fun x hx => ?_, fun x hx => ?_⟩
        · rw [sI_1]
          show _ = nI (if x = r then g.bar x ||| m else g.bar x)
          by_cases c : x = r
          · rw [if_pos ⟨rfl, by omega⟩, if_pos c, c]
          · rw [if_neg (by omega), if_neg c]; exact y5 x hx
        · rw [sI_1, if_neg (by omega), sI_1, if_neg (by omega), sI_1, if_neg (by omega)]; exact y6 x hx
      · have q17 : (sI τ 75 17 (nI s')).1 75 17 = nI s' := by rw [sI_1, if_pos ⟨rfl, rfl⟩]
        unfold wp_X7_span
        refine ⟨vin1_2, numF_ok q17 (by omega) (fun r2 => ⟨vin1_2, numF_ok q17 (by omega) (fun r3 => ?_)⟩)⟩
        rw [q17]
        exact ⟨fun z => absurd z (n9 (by omega)), fun _ => by
          have := bad (sI τ 75 17 (nI s')) r 0 s' (hi.trans (bS_l (bS_l hn))) (f.g.f _) q17 hs'
          rw [q17] at this
          exact this⟩
    · have hi : itmS (tk T (Bt T tx)) K s e (decide (i = 0)) g = endS (tk T (Bt T tx)) (cdS (tk T (Bt T tx)) e g) := by unfold itmS; rw [if_neg k1, if_neg k2, if_pos k3]
      refine spaM_ok t17 hXt eT hte hxe d1 ⟨w1, w2⟩ (fun φ m e2 hn2 f3 he2 ht2 hx2 pe2 mW => ⟨vin1_2, ?_⟩) (fun φ s' hn2 fe e17 hs' => ⟨vin1_2, fault _ s' (hi.trans (bS_l (bS_l hn2))) ((f.g.tr fe).s (by unfold RMd; omega) _) (by rw [sI_1, if_neg (by omega)]; exact e17) hs'⟩)
      have v17 : φ.1 75 17 = -9 := by rw [f3.1 _ _ (by omega)]; exact t17
      obtain ⟨y1, y2, y3, y4, y5, y6⟩ := hD.fq (f.tr f3)
      rw [nI_or (by omega) (by omega)]
      refine close _ hi _ (gCol g m) e2 (bS_r hn2) ((f.tr f3).g.s (by unfold RMd; omega) _) (by rw [sI_1, if_neg (by omega)]; exact v17) ?_ he2 ht2 (hx2.s (by omega) _) (by omega)
      refine ⟨by rw [sI_1, if_neg (by omega)]; exact y1, by rw [sI_1, if_neg (by omega)]; exact y2, by rw [sI_1, if_pos ⟨rfl, rfl⟩]; rfl, by rw [sI_1, if_neg (by omega)]; exact y4, fun x hx => by rw [sI_1, if_neg (by omega)]; exact y5 x hx, fun x hx => ?_⟩
      rw [sI_1, if_neg (by omega), sI_1, if_neg (by omega), sI_1, if_neg (by omega)]; exact y6 x hx
    · have k4 : K = 4 := by omega
      have hN := c4 k4
      have hi : itmS (tk T (Bt T tx)) K s e (decide (i = 0)) g = endS (tk T (Bt T tx)) (hrS (tk T (Bt T tx)) e g) := by unfold itmS; rw [if_neg k1, if_neg k2, if_neg k3, if_pos k4, if_pos hN]
      have hv2 : v = nI (3 + g.gN) := by rw [hv, nI_add]
      subst hv2
      have ci : (nI (3 + g.gN)).toNatClampNeg = 3 + g.gN := pn_cl (by omega)
      have vi : vp_in (nI (3 + g.gN)) 6 := by rw [pn_in (by omega) (by omega)]; omega
      have cl3n : RMd 80 (3 + g.gN) ∧ RMd 81 (3 + g.gN) ∧ RMd 82 (3 + g.gN) := by unfold RMd; omega
      have last : ∀ υ f' r v79, itmS (tk T (Bt T tx)) K s e (decide (i = 0)) g = .inl f' → FE σ υ → υ.1 75 17 = nI f' → f' ≤ T → wp_X7_item_b284 Q (sI (sI υ 82 (3 + g.gN) r) 79 1 v79) := by
        intro υ f' r v79 hb fe e17 hf'
        refine fault _ f' hb ((fe.s cl3n.2.2 _).s (by unfold RMd; omega) _) ?_ hf'
        rw [sI_1, if_neg (by omega), sI_1, if_neg (by omega)]; exact e17
      rw [ci]
      refine numM_ok 0 (g.gH - 2) t17 hXt eT hte hxe z0 (by rw [show nI g.gH - nI 2 = nI (g.gH - 2) from pk_sub (by omega), tI_n (by omega)]) (fun υ c e1 hn f2 he1 ht1 hx1 l1 l2 l3 pe => ⟨vi, vin1_2, ?_⟩) (fun r s' hn hs' => ⟨vi, vin1_2, ?_⟩)
      · have f5 := f.tr f2
        have u17 : (sI υ 80 (3 + g.gN) (nI c)).1 75 17 = -9 := by rw [sI_1, if_neg (by omega), f2.1 _ _ (by omega)]; exact t17
        have u77 : (sI υ 80 (3 + g.gN) (nI c)).1 77 1 = nI g.gW := by rw [sI_1, if_neg (by omega), f2.1 _ _ (by omega)]; exact d1
        have fe1 : FE σ (sI υ 80 (3 + g.gN) (nI c)) := f5.g.s cl3n.1 _
        rw [u77]
        refine numM_ok 0 (g.gW - 1) u17 (hX.fe fe1) he1 ht1 (hx1.s (by omega) _) z0 (by rw [show nI g.gW - nI 1 = nI (g.gW - 1) from pk_sub (by omega), tI_n (by omega)]) (fun φ d e2 hn2 f3 he2 ht2 hx2 m1 m2 m3 pe2 => ⟨vi, ?_⟩) (fun r s' hn2 hs' => ⟨vi, ?_⟩)
        · have v17 : (sI φ 81 (3 + g.gN) (nI d)).1 75 17 = -9 := by rw [sI_1, if_neg (by omega), f3.1 _ _ (by omega)]; exact u17
          have fe2 : FE σ (sI φ 81 (3 + g.gN) (nI d)) := (fe1.tr f3.g).s cl3n.2.1 _
          refine numM_ok 0 99 v17 (hX.fe fe2) he2 ht2 (hx2.s (by omega) _) z0 (by decide) (fun ψ n e3 hn3 f6 he3 ht3 hx3 n1 n2 n3 pe3 => ⟨vi, vin1_2, vin1_2, ?_⟩) (fun r s' hn3 hs' => ⟨vi, vin1_2, vin1_2, ?_⟩)
          · have rd : ∀ k j, ¬ (k = 80 ∧ j = 3 + g.gN) → ¬ (k = 81 ∧ j = 3 + g.gN) → ¬ (k = 75 ∧ 13 ≤ j ∧ j ≤ 16) → ψ.1 k j = σ.1 k j := fun k j a1 a2 a3 => by rw [f6.1 k j a3, sI_1, if_neg a2, f3.1 k j a3, sI_1, if_neg a1, f5.1 k j a3]
            obtain ⟨y1, y2, y3, y4, y5, y6⟩ := hD
            have q79 : (sI ψ 82 (3 + g.gN) (nI n)).1 79 1 = nI g.gN := by rw [sI_1, if_neg (by omega), rd _ _ (by omega) (by omega) (by omega)]; exact y4
            have q80 : ψ.1 80 (3 + g.gN) = nI c := by rw [f6.1 _ _ (by omega), sI_1, if_neg (by omega), f3.1 _ _ (by omega), sI_1, if_pos ⟨rfl, rfl⟩]
            have q81 : ψ.1 81 (3 + g.gN) = nI d := by rw [f6.1 _ _ (by omega), sI_1, if_pos ⟨rfl, rfl⟩]
            have q17 : ψ.1 75 17 = -9 := by rw [f6.1 _ _ (by omega)]; exact v17
            rw [q79, show nI g.gN + nI 1 = nI (g.gN + 1) from nI_add _ _]
            refine close _ hi _ (gHea g c d n) e3 ((bS_r hn).trans ((bS_r hn2).trans (bS_r hn3))) (((fe2.tr f6.g).s cl3n.2.2 _).s (by unfold RMd; omega) _) (by rw [sI_1, if_neg (by omega), sI_1, if_neg (by omega)]; exact q17) ?_ he3 ht3 ((hx3.s (by omega) _).s (by omega) _) (by omega)
            refine ⟨?_, ?_, ?_, ?_, fun x hx => ?_, fun x hx => ?_⟩
            · rw [sI_1, if_neg (by omega), sI_1, if_neg (by omega), rd _ _ (by omega) (by omega) (by omega)]; exact y1
            · rw [sI_1, if_neg (by omega), sI_1, if_neg (by omega), rd _ _ (by omega) (by omega) (by omega)]; exact y2
            · rw [sI_1, if_neg (by omega), sI_1, if_neg (by omega), rd _ _ (by omega) (by omega) (by omega)]; exact y3
            · rw [sI_1, if_pos ⟨rfl, rfl⟩]; rfl
            · rw [sI_1, if_neg (by omega), sI_1, if_neg (by omega), rd _ _ (by omega) (by omega) (by omega)]; exact y5 x hx
            · have hx : x < g.gN + 1 := hx
              have r80 : (sI (sI ψ 82 (3 + g.gN) (nI n)) 79 1 (nI (g.gN + 1))).1 80 (3 + x) = ψ.1 80 (3 + x) := by rw [sI_1, if_neg (by omega), sI_1, if_neg (by omega)]
              have r81 : (sI (sI ψ 82 (3 + g.gN) (nI n)) 79 1 (nI (g.gN + 1))).1 81 (3 + x) = ψ.1 81 (3 + x) := by rw [sI_1, if_neg (by omega), sI_1, if_neg (by omega)]
              have r82 : (sI (sI ψ 82 (3 + g.gN) (nI n)) 79 1 (nI (g.gN + 1))).1 82 (3 + x) = if x = g.gN then nI n else ψ.1 82 (3 + x) := by
                rw [sI_1, if_neg (by omega), sI_1]
                by_cases c : x = g.gN
                · rw [if_pos ⟨rfl, by omega⟩, if_pos c]
                · rw [if_neg (by omega), if_neg c]
              show _ = nI (if x = g.gN then c else g.co x) ∧ _ = nI (if x = g.gN then d else g.cl x) ∧ _ = nI (if x = g.gN then n else g.ne x)
              rw [r80, r81, r82]
              by_cases c : x = g.gN
              · rw [if_pos c, if_pos c, if_pos c, if_pos c, c]
                exact ⟨q80, q81, rfl⟩
              · rw [if_neg c, if_neg c, if_neg c, if_neg c, rd _ _ (by omega) (by omega) (by omega), rd _ _ (by omega) (by omega) (by omega), rd _ _ (by omega) (by omega) (by omega)]
                exact y6 x (by omega)
          · exact last _ s' _ _ (hi.trans (bS_l ((bS_r hn).trans ((bS_r hn2).trans (bS_l hn3))))) (fe2.f _) (by rw [sI_1, if_pos ⟨rfl, rfl⟩]) hs'
        · have q17 : (sI (sI (sI υ 80 (3 + g.gN) (nI c)) 75 17 (nI s')) 81 (3 + g.gN) r).1 75 17 = nI s' := by rw [sI_1, if_neg (by omega), sI_1, if_pos ⟨rfl, rfl⟩]
          refine numF_ok q17 (by omega) (fun r2 => ⟨vi, vin1_2, vin1_2, last _ s' _ _ (hi.trans (bS_l ((bS_r hn).trans (bS_l hn2)))) ((fe1.f _).s cl3n.2.1 _) q17 hs'⟩)
      · have q17 : (sI (sI τ 75 17 (nI s')) 80 (3 + g.gN) r).1 75 17 = nI s' := by rw [sI_1, if_neg (by omega), sI_1, if_pos ⟨rfl, rfl⟩]
        refine numF_ok q17 (by omega) (fun r2 => ⟨vi, ?_⟩)
        have q17' : (sI (sI (sI τ 75 17 (nI s')) 80 (3 + g.gN) r) 81 (3 + g.gN) r2).1 75 17 = nI s' := by rw [sI_1, if_neg (by omega)]; exact q17
        exact numF_ok q17' (by omega) (fun r3 => ⟨vi, vin1_2, vin1_2, last _ s' _ _ (hi.trans (bS_l (bS_l hn))) (((f.g.f _).s cl3n.1 _).s cl3n.2.1 _) q17' hs'⟩)
  unfold wp_X7_item wp_X7_item_b43 wp_X7_item_b47
  rw [cl_1, hD.2.2.2.1, show (0 : Int32) = nI 0 from rfl, show (3 : Int32) = nI 3 from rfl]
  have q1 : (nI (kdM K) = (1 : Int32)) = (K = 1) := by rw [show (1 : Int32) = nI 1 from rfl, pn_eq (by omega) (by omega), kdM_eq (by omega) (by omega) b6]
  have q2 : (nI (kdM K) = (2 : Int32)) = (K = 2) := by rw [show (2 : Int32) = nI 2 from rfl, pn_eq (by omega) (by omega), kdM_eq (by omega) (by omega) b6]
  have q3 : (nI (kdM K) = nI 3) = (K = 3) := by rw [pn_eq (by omega) (by omega), kdM_eq (by omega) (by omega) b6]
  have q4 : (nI (kdM K) = (4 : Int32)) = (K = 4) := by rw [show (4 : Int32) = nI 4 from rfl, pn_eq (by omega) (by omega), kdM_eq (by omega) (by omega) b6]
  rw [q1, q2, q3, q4, pn_eq hi31 (by omega), pn_le (by omega) (by omega)]
  refine ⟨fun k1 => ⟨fun z => some (fun _ => decide_eq_true z) (fun z => by omega) (by omega), fun z => none ?_⟩, fun k1 => ⟨fun k2 => some (fun z => absurd z k1) (fun z => by omega) (by omega), fun k2 => ⟨fun k3 => some (fun z => absurd z k1) (fun z => by omega) (by omega), fun k3 => ⟨fun k4 => ⟨vin1_2, fun z => none ?_, fun z => some (fun z => absurd z k1) (fun _ => by omega) (by omega)⟩, fun k4 => none ?_⟩⟩⟩⟩
  · unfold itmS
    rw [if_pos k1, if_neg (by rw [decide_eq_true_iff]; exact z)]
  · unfold itmS
    rw [if_neg k1, if_neg k2, if_neg k3, if_pos k4, if_neg (by omega)]
  · unfold itmS
    rw [if_neg k1, if_neg k2, if_neg k3, if_neg k4]
end RN
