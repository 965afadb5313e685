/-! a wall's items, as told -/
def bS {A B : Type} (x : Nat ⊕ A) (f : A → Nat ⊕ B) : Nat ⊕ B := match x with
  | .inl a => .inl a
  | .inr a => f a
theorem bS_l {A B : Type} {x : Nat ⊕ A} {f : A → Nat ⊕ B} {a : Nat} (h : x = .inl a) : bS x f = .inl a := by rw [h]; rfl
theorem bS_r {A B : Type} {x : Nat ⊕ A} {f : A → Nat ⊕ B} {a : A} (h : x = .inr a) : bS x f = f a := by rw [h]; rfl
theorem bS_inr {A B : Type} {x : Nat ⊕ A} {f : A → Nat ⊕ B} {y : B} (h : bS x f = .inr y) : ∃ a, x = .inr a ∧ f a = .inr y := by
  cases x with
  | inl a => exact absurd h (by intro z; cases z)
  | inr a => exact ⟨a, rfl, h⟩
def numS (k : TkF) (p lo hi : Nat) : Nat ⊕ (Nat × Nat) := if (k p).k = 5 ∧ lo ≤ (k p).v ∧ (k p).v ≤ hi then .inr ((k p).v, (k p).e) else .inl (k p).s
def cloS (k : TkF) (p : Nat) : Nat ⊕ Nat := if (k p).k = 6 then .inr (k p).e else .inl (k p).s
def spaS (k : TkF) (p W : Nat) : Nat ⊕ (Nat × Nat) := bS (numS k p 0 (W - 1)) (fun c => bS (numS k c.2 c.1 (W - 1)) (fun d => .inr (2 ^ (d.1 + 1) - 2 ^ c.1, d.2)))
def gDim (g : Geo) (w h : Nat) : Geo := ((w, h, g.gN), g.2)
def gBar (g : Geo) (r m : Nat) : Geo := (g.1, fun i => if i = r then g.bar i ||| m else g.bar i, g.2.2)
def gCol (g : Geo) (m : Nat) : Geo := (g.1, g.2.1, g.cold ||| m, g.2.2.2)
def gHea (g : Geo) (c d n : Nat) : Geo := ((g.gW, g.gH, g.gN + 1), g.bar, g.cold, (fun i => if i = g.gN then c else g.co i), (fun i => if i = g.gN then d else g.cl i), (fun i => if i = g.gN then n else g.ne i), g.tu)
def szS (k : TkF) (p : Nat) (g : Geo) : Nat ⊕ (Geo × Nat) := bS (numS k p 2 10) (fun w => bS (numS k w.2 2 16) (fun h => .inr (gDim g w.1 h.1, h.2)))
def bmS (k : TkF) (p : Nat) (g : Geo) : Nat ⊕ (Geo × Nat) := bS (numS k p 0 (g.gH - 1)) (fun r => bS (spaS k r.2 g.gW) (fun m => .inr (gBar g r.1 m.1, m.2)))
def cdS (k : TkF) (p : Nat) (g : Geo) : Nat ⊕ (Geo × Nat) := bS (spaS k p g.gW) (fun m => .inr (gCol g m.1, m.2))
def hrS (k : TkF) (p : Nat) (g : Geo) : Nat ⊕ (Geo × Nat) := bS (numS k p 0 (g.gH - 2)) (fun c => bS (numS k c.2 0 (g.gW - 1)) (fun d => bS (numS k d.2 0 99) (fun n => .inr (gHea g c.1 d.1 n.1, n.2))))
def endS (k : TkF) (x : Nat ⊕ (Geo × Nat)) : Nat ⊕ (Nat × Geo) := bS x (fun y => bS (cloS k y.2) (fun q => .inr (q, y.1)))
def itmS (k : TkF) (K s e : Nat) (first : Bool) (g : Geo) : Nat ⊕ (Nat × Geo) :=
  if K = 1 then (if first = true then endS k (szS k e g) else .inl s) else if K = 2 then endS k (bmS k e g) else if K = 3 then endS k (cdS k e g) else if K = 4 then (if g.gN < 3 then endS k (hrS k e g) else .inl s) else .inl s
def runS (k : TkF) : Nat → Nat → Nat → Geo → Nat ⊕ Geo
  | 0, _, _, _ => .inl 0
  | n + 1, i, p, g => if (k p).k = 7 then .inr g else bS (itmS k (k p).k (k p).s (k p).e (decide (i = 0)) g) (fun x => runS k n (i + 1) x.1 x.2)
def WFg (g : Geo) : Prop := (2 ≤ g.gW ∧ g.gW ≤ 10 ∧ 2 ≤ g.gH ∧ g.gH ≤ 16 ∧ g.gN ≤ 3) ∧ (∀ r, r < 16 → g.bar r < 2 ^ g.gW) ∧ g.cold < 2 ^ g.gW ∧ ∀ h, h < g.gN → g.co h + 2 ≤ g.gH ∧ g.cl h < g.gW ∧ g.ne h ≤ 99
def Blank (g : Geo) : Prop := (∀ r, r < 16 → g.bar r = 0) ∧ g.cold = 0 ∧ g.gN = 0
theorem numS_r {k : TkF} {p lo hi v e : Nat} (h : numS k p lo hi = .inr (v, e)) : lo ≤ v ∧ v ≤ hi := by
  unfold numS at h
  by_cases c : (k p).k = 5 ∧ lo ≤ (k p).v ∧ (k p).v ≤ hi
  · rw [if_pos c] at h
    injection h with h
    injection h with h1 h2
    rw [← h1]
    exact c.2
  · rw [if_neg c] at h
    cases h
theorem spaS_r {k : TkF} {p W m e : Nat} (hW : 2 ≤ W) (h : spaS k p W = .inr (m, e)) : m < 2 ^ W ∧ 0 < m := by
  unfold spaS at h
  obtain ⟨⟨c, p1⟩, h1, h⟩ := bS_inr h
  obtain ⟨⟨d, p2⟩, h2, h⟩ := bS_inr h
  injection h with h
  injection h with h3 h4
  dsimp only at h3
  obtain ⟨a1, a2⟩ := numS_r h2
  have e1 : 2 ^ (d + 1) ≤ 2 ^ W := Nat.pow_le_pow_right (by omega) (by omega)
  have e2 : 2 ^ c < 2 ^ (d + 1) := Nat.pow_lt_pow_right (by omega) (by show c < d + 1; have : c ≤ d := a1; omega)
  have e3 : 0 < 2 ^ c := Nat.pow_pos (by omega)
  omega
theorem endS_r {k : TkF} {x : Nat ⊕ (Geo × Nat)} {q : Nat} {g : Geo} (h : endS k x = .inr (q, g)) : ∃ e, x = .inr (g, e) := by
  unfold endS at h
  obtain ⟨⟨g', e⟩, h1, h⟩ := bS_inr h
  obtain ⟨q', h2, h⟩ := bS_inr h
  injection h with h
  injection h with h3 h4
  exact ⟨e, by rw [h1, ← h4]⟩
theorem itm_wf {k : TkF} {K s e q : Nat} {first : Bool} {g g' : Geo} (hw : WFg g) (hf : first = true → Blank g) (h : itmS k K s e first g = .inr (q, g')) : WFg g' := by
  obtain ⟨⟨w1, w2, w3, w4, w5⟩, w6, w7, w8⟩ := hw
  unfold itmS at h
  by_cases k1 : K = 1
  · rw [if_pos k1] at h
    by_cases c : first = true
    · rw [if_pos c] at h
      obtain ⟨b1, b2, b3⟩ := hf c
      obtain ⟨e1, h⟩ := endS_r h
      unfold szS at h
      obtain ⟨⟨w, p1⟩, h1, h⟩ := bS_inr h
      obtain ⟨⟨hh, p2⟩, h2, h⟩ := bS_inr h
      injection h with h
      injection h with h3 h4
      dsimp only at h3
      obtain ⟨a1, a2⟩ := numS_r h1
      obtain ⟨a3, a4⟩ := numS_r h2
      rw [← h3]
      have p : 0 < 2 ^ w := Nat.pow_pos (by omega)
      refine ⟨⟨a1, a2, a3, a4, w5⟩, fun r hr => ?_, ?_, fun x hx => ?_⟩
      · show g.bar r < 2 ^ w
        rw [b1 r hr]; exact p
      · show g.cold < 2 ^ w
        rw [b2]; exact p
      · have hx : x < g.gN := hx
        omega
    · rw [if_neg c] at h; cases h
  · rw [if_neg k1] at h
    by_cases k2 : K = 2
    · rw [if_pos k2] at h
      obtain ⟨e1, h⟩ := endS_r h
      unfold bmS at h
      obtain ⟨⟨r, p1⟩, h1, h⟩ := bS_inr h
      obtain ⟨⟨m, p2⟩, h2, h⟩ := bS_inr h
      injection h with h
      injection h with h3 h4
      dsimp only at h3
      obtain ⟨a1, a2⟩ := spaS_r w1 h2
      rw [← h3]
      refine ⟨⟨w1, w2, w3, w4, w5⟩, fun x hx => ?_, w7, w8⟩
      show (if x = r then g.bar x ||| m else g.bar x) < 2 ^ g.gW
      by_cases c : x = r
      · rw [if_pos c]; exact Nat.or_lt_two_pow (w6 x hx) a1
      · rw [if_neg c]; exact w6 x hx
    · rw [if_neg k2] at h
      by_cases k3 : K = 3
      · rw [if_pos k3] at h
        obtain ⟨e1, h⟩ := endS_r h
        unfold cdS at h
        obtain ⟨⟨m, p1⟩, h1, h⟩ := bS_inr h
        injection h with h
        injection h with h3 h4
        dsimp only at h3
        obtain ⟨a1, a2⟩ := spaS_r w1 h1
        rw [← h3]
        exact ⟨⟨w1, w2, w3, w4, w5⟩, w6, Nat.or_lt_two_pow w7 a1, w8⟩
      · rw [if_neg k3] at h
        by_cases k4 : K = 4
        · rw [if_pos k4] at h
          by_cases c : g.gN < 3
          · rw [if_pos c] at h
            obtain ⟨e1, h⟩ := endS_r h
            unfold hrS at h
            obtain ⟨⟨x, p1⟩, h1, h⟩ := bS_inr h
            obtain ⟨⟨y, p2⟩, h2, h⟩ := bS_inr h
            obtain ⟨⟨z, p3⟩, h3, h⟩ := bS_inr h
            injection h with h
            injection h with h4 h5
            dsimp only at h4
            obtain ⟨a1, a2⟩ := numS_r h1
            obtain ⟨a3, a4⟩ := numS_r h2
            obtain ⟨a5, a6⟩ := numS_r h3
            rw [← h4]
            refine ⟨⟨w1, w2, w3, w4, by show g.gN + 1 ≤ 3; omega⟩, w6, w7, fun i hi => ?_⟩
            have hi : i < g.gN + 1 := hi
            show (if i = g.gN then x else g.co i) + 2 ≤ g.gH ∧ (if i = g.gN then y else g.cl i) < g.gW ∧ (if i = g.gN then z else g.ne i) ≤ 99
            by_cases e : i = g.gN
            · rw [if_pos e, if_pos e, if_pos e]
              exact ⟨by omega, by omega, by omega⟩
            · rw [if_neg e, if_neg e, if_neg e]
              exact w8 i (by omega)
          · rw [if_neg c] at h; cases h
        · rw [if_neg k4] at h; cases h
/-! as the class reads them -/
def DX (g : Geo) (σ : St) : Prop := σ.1 9 0 = nI g.gW ∧ σ.1 9 1 = nI g.gH ∧ σ.1 9 2 = nI g.cold ∧ σ.1 9 3 = nI g.gN ∧ (∀ r, r < 16 → σ.1 10 r = nI (g.bar r)) ∧ ∀ h, h < g.gN → σ.1 11 h = nI (g.co h) ∧ σ.1 12 h = nI (g.cl h) ∧ σ.1 13 h = nI (g.ne h)
def FH (σ τ : St) : Prop := (∀ k i, ¬ (k = 2 ∧ (i = 7 ∨ i = 8)) → τ.1 k i = σ.1 k i) ∧ τ.2 = σ.2
theorem FH.rf {σ : St} : FH σ σ := ⟨fun _ _ _ => rfl, rfl⟩
theorem FH.tr {σ τ υ : St} (a : FH σ τ) (b : FH τ υ) : FH σ υ := ⟨fun k i n => (b.1 k i n).trans (a.1 k i n), b.2.trans a.2⟩
theorem FH.s {σ τ : St} (a : FH σ τ) {i : Nat} (hi : i = 7 ∨ i = 8) (v : Int32) : FH σ (sI τ 2 i v) := ⟨fun k j n => by rw [sI_1, if_neg (by omega)]; exact a.1 k j n, a.2⟩
def FD (σ τ : St) : Prop := (∀ k i, ¬ (k = 2 ∧ (i = 7 ∨ i = 8)) → ¬ (9 ≤ k ∧ k ≤ 13) → τ.1 k i = σ.1 k i) ∧ τ.2 = σ.2
theorem FD.rf {σ : St} : FD σ σ := ⟨fun _ _ _ _ => rfl, rfl⟩
theorem FD.tr {σ τ υ : St} (a : FD σ τ) (b : FD τ υ) : FD σ υ := ⟨fun k i n m => (b.1 k i n m).trans (a.1 k i n m), b.2.trans a.2⟩
theorem FH.d {σ τ : St} (a : FH σ τ) : FD σ τ := ⟨fun k i n _ => a.1 k i n, a.2⟩
theorem FD.s {σ τ : St} (a : FD σ τ) {k i : Nat} (hk : 9 ≤ k ∧ k ≤ 13) (v : Int32) : FD σ (sI τ k i v) := ⟨fun x j n m => by rw [sI_1, if_neg (by omega)]; exact a.1 x j n m, a.2⟩
theorem FD.cor {σ τ : St} (a : FD σ τ) : Cor σ τ := ⟨fun k i n => a.1 k i (fun z => n (by unfold Scr; omega)) (fun z => n (by unfold Scr; omega)), by rw [a.2], by rw [a.2]⟩
theorem FD.h {σ τ : St} (a : FD σ τ) {i : Nat} (hi : i = 7 ∨ i = 8) (v : Int32) : FD σ (sI τ 2 i v) := ⟨fun x j n m => by rw [sI_1, if_neg (by omega)]; exact a.1 x j n m, a.2⟩
theorem TKd.fd {T n : Nat} {tx : Nat → Nat} {σ τ : St} (h : TKd T tx n σ) (f : FD σ τ) : TKd T tx n τ := by
  obtain ⟨⟨h1, h2, h3, h4⟩, h5, h6⟩ := h
  refine ⟨⟨h1, h2, by rw [f.1 _ _ (by omega) (by omega)]; exact h3, by rw [f.1 _ _ (by omega) (by omega)]; exact h4⟩, fun j hj => ?_, h6⟩
  rw [f.1 100 _ (by omega) (by omega), f.1 101 _ (by omega) (by omega), f.1 74 _ (by omega) (by omega)]
  exact h5 j hj
theorem TKd.fh {T n : Nat} {tx : Nat → Nat} {σ τ : St} (h : TKd T tx n σ) (f : FH σ τ) : TKd T tx n τ := h.fd f.d
/-- the hand is at the token ahead of place p -/
def HP (T : Nat) (tx : Nat → Nat) (n lo : Nat) (σ : St) (p : Nat) : Prop := ∃ i, lo ≤ i ∧ i < n ∧ σ.1 2 7 = nI i ∧ p = psn (tk T (Bt T tx)) (i + 1)
/-- the hand is at the token that begins at s -/
def HF (T : Nat) (tx : Nat → Nat) (n : Nat) (σ : St) (s : Nat) : Prop := ∃ i, i ≤ n ∧ σ.1 2 7 = nI i ∧ s = (tk T (Bt T tx) (psn (tk T (Bt T tx)) i)).s
theorem HP.s {T n lo p : Nat} {tx : Nat → Nat} {σ : St} (h : HP T tx n lo σ p) {k i : Nat} (hk : k ≠ 2) (v : Int32) : HP T tx n lo (sI σ k i v) p := by
  obtain ⟨j, h1, h2, h3, h4⟩ := h
  exact ⟨j, h1, h2, by rw [sI_1, if_neg (by omega)]; exact h3, h4⟩
theorem HF.s {T n p : Nat} {tx : Nat → Nat} {σ : St} (h : HF T tx n σ p) {k i : Nat} (hk : k ≠ 2) (v : Int32) : HF T tx n (sI σ k i v) p := by
  obtain ⟨j, h2, h3, h4⟩ := h
  exact ⟨j, h2, by rw [sI_1, if_neg (by omega)]; exact h3, h4⟩
theorem DX.fr {g : Geo} {σ τ : St} (h : DX g σ) (f : FH σ τ) : DX g τ := by
  obtain ⟨h1, h2, h3, h4, h5, h6⟩ := h
  refine ⟨by rw [f.1 _ _ (by omega)]; exact h1, by rw [f.1 _ _ (by omega)]; exact h2, by rw [f.1 _ _ (by omega)]; exact h3, by rw [f.1 _ _ (by omega)]; exact h4, fun r hr => by rw [f.1 _ _ (by omega)]; exact h5 r hr, fun x hx => ?_⟩
  rw [f.1 _ _ (by omega), f.1 _ _ (by omega), f.1 _ _ (by omega)]
  exact h6 x hx
theorem nI_or {a b : Nat} (ha : a < 2 ^ 31) (hb : b < 2 ^ 31) : nI a ||| nI b = nI (a ||| b) := by
  apply Int32.toBitVec_inj.mp
  apply BitVec.eq_of_toNat_eq
  rw [Int32.toBitVec_or, BitVec.toNat_or, pk_tn (by omega), pk_tn (by omega), pk_tn (Nat.or_lt_two_pow (n := 32) (by omega) (by omega))]
theorem spv : ∀ d, d < 10 → ∀ c, c < 10 → c ≤ d → (((1 : Int32) <<< ((nI d + 1) &&& 31)) - 1) &&& ((((1 : Int32) <<< (nI c &&& 31)) - 1) ^^^ (-1)) = nI (2 ^ (d + 1) - 2 ^ c) := by decide +kernel
theorem spm : ∀ d, d < 10 → ∀ c, c < 10 → c ≤ d → ((2 : Int32) <<< (nI d &&& 31)) - ((1 : Int32) <<< (nI c &&& 31)) = nI (2 ^ (d + 1) - 2 ^ c) := by decide +kernel
section RD
variable {σ τ : St} {T p n lo : Nat} {tx : Nat → Nat} {g : Geo}
theorem TKd.at {j : Nat} (hX : TKd T tx n σ) (hj : j ≤ n) : psn (tk T (Bt T tx)) j ≤ T ∧ Tok T (Bt T tx) (psn (tk T (Bt T tx)) j) (tk T (Bt T tx) (psn (tk T (Bt T tx)) j)) := by
  by_cases e : j = n
  · rw [e]; exact ⟨hX.2.2.1, hX.2.2.2.1⟩
  · have := hX.2.1 j (by omega)
    exact ⟨this.1, this.2.1⟩
theorem readNumber_ok {Q : Int32 → St → Prop} {lo' hi : Int32} (l h : Nat) (hX : TKd T tx n σ) (h2 : HP T tx n lo σ p) (hl : lo'.toInt = (l : Int)) (hh : hi.toInt = (h : Int))
    (hq1 : ∀ τ v e, numS (tk T (Bt T tx)) p l h = .inr (v, e) → FH σ τ → HP T tx n lo τ e → τ.1 2 8 = nI v → l ≤ v → v ≤ h → v ≤ 99 → Q 1 τ)
    (hq0 : ∀ τ s, numS (tk T (Bt T tx)) p l h = .inl s → FH σ τ → HF T tx n τ s → Q 0 τ) : wp_X1_readNumber lo' hi Q σ := by
  obtain ⟨i, i1, i2, i3, i4⟩ := h2
  have hT := hX.1.2.1
  have hn := hX.1.1
  unfold wp_X1_readNumber
  rw [i3, na1]
  generalize hσ : sI σ 2 7 (nI (i + 1)) = σ1
  have f1 : FH σ σ1 := by rw [← hσ]; exact FH.rf.s (by omega) _
  have e7 : σ1.1 2 7 = nI (i + 1) := by rw [← hσ, sI_1, if_pos ⟨rfl, rfl⟩]
  have hX1 := hX.fh f1
  rw [e7, hX1.1.2.2.2, pn_le (by omega) (by omega), pn_in (by omega) (by omega), pn_cl (by omega)]
  have no : ∀ τ, FH σ τ → τ.1 2 7 = nI (i + 1) → ¬ ((tk T (Bt T tx) p).k = 5 ∧ l ≤ (tk T (Bt T tx) p).v ∧ (tk T (Bt T tx) p).v ≤ h) → Q 0 τ := fun τ f u7 z => hq0 τ _ (by unfold numS; rw [if_neg z]) f ⟨i + 1, by omega, u7, by rw [i4]⟩
  refine ⟨fun z => no σ1 f1 e7 (fun w => ?_), fun z => ⟨by omega, ?_⟩⟩
  · have en : i + 1 = n := by omega
    have := hX1.2.2.2.2
    rw [← en, ← i4] at this
    omega
  · obtain ⟨y1, y2, y3, y4, y5, y6⟩ := hX1.2.1 (i + 1) (by omega)
    rw [← i4] at y1 y2 y3 y4 y5 y6
    obtain ⟨b1, b2, b3, b4, b5, b6⟩ := y2.b y1
    rw [y4, show (5 : Int32) = nI 5 from rfl, pn_eq (by omega) (by omega)]
    refine ⟨fun z5 => ⟨by omega, ?_⟩, fun z5 => no σ1 f1 e7 (fun w => z5 w.1)⟩
    have v99 := b5 z5
    rw [y6 z5]
    generalize hτ : sI σ1 2 8 (nI (tk T (Bt T tx) p).v) = τ
    have f2 : FH σ τ := by rw [← hτ]; exact f1.s (by omega) _
    have t7 : τ.1 2 7 = nI (i + 1) := by rw [← hτ, sI_1, if_neg (by omega)]; exact e7
    have t8 : τ.1 2 8 = nI (tk T (Bt T tx) p).v := by rw [← hτ, sI_1, if_pos ⟨rfl, rfl⟩]
    rw [t8, tI_lt, tI_lt, hl, hh, tI_n (by omega)]
    refine ⟨fun w => no τ f2 t7 (by omega), fun w => ⟨fun w2 => no τ f2 t7 (by omega), fun w2 => ?_⟩⟩
    exact hq1 τ _ _ (by unfold numS; rw [if_pos ⟨z5, by omega, by omega⟩]) f2 ⟨i + 1, by omega, by omega, t7, by rw [i4]; rfl⟩ t8 (by omega) (by omega) v99
theorem readClose_ok {Q : Int32 → St → Prop} (hX : TKd T tx n σ) (h2 : HP T tx n lo σ p)
    (hq1 : ∀ τ e, cloS (tk T (Bt T tx)) p = .inr e → FH σ τ → HP T tx n lo τ e → Q 1 τ)
    (hq0 : ∀ τ s, cloS (tk T (Bt T tx)) p = .inl s → FH σ τ → HF T tx n τ s → Q 0 τ) : wp_X1_readClose Q σ := by
  obtain ⟨i, i1, i2, i3, i4⟩ := h2
  have hT := hX.1.2.1
  have hn := hX.1.1
  unfold wp_X1_readClose
  rw [i3, na1]
  generalize hσ : sI σ 2 7 (nI (i + 1)) = σ1
  have f1 : FH σ σ1 := by rw [← hσ]; exact FH.rf.s (by omega) _
  have e7 : σ1.1 2 7 = nI (i + 1) := by rw [← hσ, sI_1, if_pos ⟨rfl, rfl⟩]
  have hX1 := hX.fh f1
  rw [e7, hX1.1.2.2.2, pn_le (by omega) (by omega), pn_in (by omega) (by omega), pn_cl (by omega)]
  have no : ¬ (tk T (Bt T tx) p).k = 6 → Q 0 σ1 := fun z => hq0 σ1 _ (by unfold cloS; rw [if_neg z]) f1 ⟨i + 1, by omega, e7, by rw [i4]⟩
  refine ⟨fun z => no (fun w => ?_), fun z => ⟨by omega, ?_⟩⟩
  · have en : i + 1 = n := by omega
    have := hX1.2.2.2.2
    rw [← en, ← i4] at this
    omega
  · obtain ⟨y1, y2, y3, y4, y5, y6⟩ := hX1.2.1 (i + 1) (by omega)
    rw [← i4] at y1 y2 y3 y4 y5 y6
    obtain ⟨b1, b2, b3, b4, b5, b6⟩ := y2.b y1
    rw [y4, show (6 : Int32) = nI 6 from rfl, pn_eq (by omega) (by omega)]
    exact ⟨fun z6 => hq1 σ1 _ (by unfold cloS; rw [if_pos z6]) f1 ⟨i + 1, by omega, by omega, e7, by rw [i4]; rfl⟩, no⟩
theorem readSpan_ok {Q : Int32 → St → Prop} {W : Nat} (hX : TKd T tx n σ) (h2 : HP T tx n lo σ p) (h9 : σ.1 9 0 = nI W) (hW : 2 ≤ W ∧ W ≤ 10)
    (hq1 : ∀ τ m e, spaS (tk T (Bt T tx)) p W = .inr (m, e) → FH σ τ → HP T tx n lo τ e → m < 2 ^ W → 0 < m → Q (nI m) τ)
    (hq0 : ∀ τ s, spaS (tk T (Bt T tx)) p W = .inl s → FH σ τ → HF T tx n τ s → Q 0 τ) : wp_X1_readSpan Q σ := by
  have hT := hX.1.2.1
  have eW : (nI W - 1).toInt = ((W - 1 : Nat) : Int) := by rw [ns1 (by omega), tI_n (by omega)]
  unfold wp_X1_readSpan
  rw [h9]
  refine readNumber_ok 0 (W - 1) hX h2 z0 eW (fun τ c e1 hn f t2 t5 l1 l2 l3 => ⟨fun z => absurd z (by decide), fun _ => ?_⟩) (fun τ s hn f t3 => ⟨fun _ => hq0 τ s (bS_l hn) f t3, fun z => absurd rfl z⟩)
  have t9 : τ.1 9 0 = nI W := by rw [f.1 _ _ (by omega)]; exact h9
  rw [t5, t9]
  refine readNumber_ok c (W - 1) (hX.fh f) t2 (tI_n (by omega)) eW (fun υ d e2 hn2 f2 u2 u5 m1 m2 m3 => ⟨fun z => absurd z (by decide), fun _ => ?_⟩) (fun υ s hn2 f2 u3 => ⟨fun _ => hq0 υ s ((bS_r hn).trans (bS_l hn2)) (f.tr f2) u3, fun z => absurd rfl z⟩)
  have es : spaS (tk T (Bt T tx)) p W = .inr (2 ^ (d + 1) - 2 ^ c, e2) := (bS_r hn).trans (bS_r hn2)
  have ms := spaS_r (by omega) es
  rw [u5, spv d (by omega) c (by omega) m1]
  exact hq1 υ _ e2 es (f.tr f2) u2 ms.1 ms.2
theorem readSize_ok {Q : Int32 → St → Prop} (hX : TKd T tx n σ) (h2 : HP T tx n lo σ p) (hD : DX g σ)
    (hq1 : ∀ τ g' e, szS (tk T (Bt T tx)) p g = .inr (g', e) → FD σ τ → DX g' τ → HP T tx n lo τ e → Q 1 τ)
    (hq0 : ∀ τ s, szS (tk T (Bt T tx)) p g = .inl s → FD σ τ → HF T tx n τ s → Q 0 τ) : wp_X1_readSize Q σ := by
  have hT := hX.1.2.1
  unfold wp_X1_readSize
  refine readNumber_ok 2 10 hX h2 t_2 (by decide) (fun τ w e1 hn f t2 t5 l1 l2 l3 => ⟨fun z => absurd z (by decide), fun _ => ?_⟩) (fun τ s hn f t3 => ⟨fun _ => hq0 τ s (bS_l hn) f.d t3, fun z => absurd rfl z⟩)
  have fD : FD σ (sI τ 9 0 (τ.1 2 8)) := f.d.s (by omega) _
  have q2 : HP T tx n lo (sI τ 9 0 (τ.1 2 8)) e1 := t2.s (by omega) _
  obtain ⟨d1, d2, d3, d4, d5, d6⟩ := hD.fr f
  refine readNumber_ok 2 16 (hX.fd fD) q2 t_2 (by decide) (fun υ h e2 hn2 f2 u2 u5 m1 m2 m3 => ⟨fun z => absurd z (by decide), fun _ => ?_⟩) (fun υ s hn2 f2 u3 => ⟨fun _ => hq0 υ s ((bS_r hn).trans (bS_l hn2)) (fD.tr f2.d) u3, fun z => absurd rfl z⟩)
  refine hq1 _ _ e2 ((bS_r hn).trans (bS_r hn2)) ((fD.tr f2.d).s (by omega) _) ⟨?_, ?_, ?_, ?_, fun r hr => ?_, fun x hx => ?_⟩ (u2.s (by omega) _)
  · rw [sI_1, if_neg (by omega), f2.1 _ _ (by omega), sI_1, if_pos ⟨rfl, rfl⟩]; exact t5
  · rw [sI_1, if_pos ⟨rfl, rfl⟩]; exact u5
  · rw [sI_1, if_neg (by omega), f2.1 _ _ (by omega), sI_1, if_neg (by omega)]; exact d3
  · rw [sI_1, if_neg (by omega), f2.1 _ _ (by omega), sI_1, if_neg (by omega)]; exact d4
  · rw [sI_1, if_neg (by omega), f2.1 _ _ (by omega), sI_1, if_neg (by omega)]; exact d5 r hr
  · rw [sI_1, if_neg (by omega), f2.1 _ _ (by omega), sI_1, if_neg (by omega), sI_1, if_neg (by omega), f2.1 _ _ (by omega), sI_1, if_neg (by omega), sI_1, if_neg (by omega), f2.1 _ _ (by omega), sI_1, if_neg (by omega)]; exact d6 x hx
theorem readBeam_ok {Q : Int32 → St → Prop} (hX : TKd T tx n σ) (h2 : HP T tx n lo σ p) (hw : WFg g) (hD : DX g σ)
    (hq1 : ∀ τ g' e, bmS (tk T (Bt T tx)) p g = .inr (g', e) → FD σ τ → DX g' τ → HP T tx n lo τ e → Q 1 τ)
    (hq0 : ∀ τ s, bmS (tk T (Bt T tx)) p g = .inl s → FD σ τ → HF T tx n τ s → Q 0 τ) : wp_X1_readBeam Q σ := by
  have hT := hX.1.2.1
  obtain ⟨⟨w1, w2, w3, w4, w5⟩, w6, w7, w8⟩ := hw
  have pw := pow_le w2
  unfold wp_X1_readBeam
  rw [hD.2.1]
  refine readNumber_ok 0 (g.gH - 1) hX h2 z0 (by rw [ns1 (by omega), tI_n (by omega)]) (fun τ r e1 hn f t2 t5 l1 l2 l3 => ⟨fun z => absurd z (by decide), fun _ => ?_⟩) (fun τ s hn f t3 => ⟨fun _ => hq0 τ s (bS_l hn) f.d t3, fun z => absurd rfl z⟩)
  have hDt := hD.fr f
  refine readSpan_ok (hX.fh f) t2 hDt.1 ⟨w1, w2⟩ (fun υ m e2 hs2 f2 u2 m1 m2 => ⟨fun z => ?_, fun _ => ?_⟩) (fun υ s hs2 f2 u3 => ⟨fun _ => hq0 υ s ((bS_r hn).trans (bS_l hs2)) (f.tr f2).d u3, fun z => absurd rfl z⟩)
  · have : m = 0 := (nI_eq (b := 0) (by omega) (by omega)).mp z
    omega
  · obtain ⟨d1, d2, d3, d4, d5, d6⟩ := hDt.fr f2
    have br := w6 r (by omega)
    rw [t5, pn_in (by omega) (by omega), pn_cl (by omega), d5 r (by omega), nI_or (by omega) (by omega)]
    refine ⟨by omega, by omega, hq1 _ _ e2 ((bS_r hn).trans (bS_r hs2)) ((f.tr f2).d.s (by omega) _) ⟨?_, ?_, ?_, ?_, fun x hx => ?_, fun x hx => ?_⟩ (u2.s (by omega) _)⟩
    · rw [sI_1, if_neg (by omega)]; exact d1
    · rw [sI_1, if_neg (by omega)]; exact d2
    · rw [sI_1, if_neg (by omega)]; exact d3
    · rw [sI_1, if_neg (by omega)]; exact d4
    · rw [sI_1]
      show _ = nI (if x = r then g.bar x ||| m else g.bar x)
      by_cases e : x = r
      · rw [if_pos ⟨rfl, e⟩, if_pos e, e]
      · rw [if_neg (by omega), if_neg e]; exact d5 x hx
    · rw [sI_1, if_neg (by omega), sI_1, if_neg (by omega), sI_1, if_neg (by omega)]; exact d6 x hx
theorem readCold_ok {Q : Int32 → St → Prop} (hX : TKd T tx n σ) (h2 : HP T tx n lo σ p) (hw : WFg g) (hD : DX g σ)
    (hq1 : ∀ τ g' e, cdS (tk T (Bt T tx)) p g = .inr (g', e) → FD σ τ → DX g' τ → HP T tx n lo τ e → Q 1 τ)
    (hq0 : ∀ τ s, cdS (tk T (Bt T tx)) p g = .inl s → FD σ τ → HF T tx n τ s → Q 0 τ) : wp_X1_readCold Q σ := by
  have hT := hX.1.2.1
  obtain ⟨⟨w1, w2, w3, w4, w5⟩, w6, w7, w8⟩ := hw
  have pw := pow_le w2
  unfold wp_X1_readCold
  refine readSpan_ok hX h2 hD.1 ⟨w1, w2⟩ (fun υ m e2 hs2 f2 u2 m1 m2 => ⟨fun z => ?_, fun _ => ?_⟩) (fun υ s hs2 f2 u3 => ⟨fun _ => hq0 _ s (bS_l hs2) (f2.d.s (by omega) _) (u3.s (by omega) _), fun z => absurd rfl z⟩)
  · have : m = 0 := (nI_eq (b := 0) (by omega) (by omega)).mp z
    omega
  · obtain ⟨d1, d2, d3, d4, d5, d6⟩ := hD.fr f2
    rw [d3, nI_or (by omega) (by omega)]
    refine hq1 _ _ e2 (bS_r hs2) (f2.d.s (by omega) _) ⟨?_, ?_, ?_, ?_, fun x hx => ?_, fun x hx => ?_⟩ (u2.s (by omega) _)
    · rw [sI_1, if_neg (by omega)]; exact d1
    · rw [sI_1, if_neg (by omega)]; exact d2
    · rw [sI_1, if_pos ⟨rfl, rfl⟩]; rfl
    · rw [sI_1, if_neg (by omega)]; exact d4
    · rw [sI_1, if_neg (by omega)]; exact d5 x hx
    · rw [sI_1, if_neg (by omega), sI_1, if_neg (by omega), sI_1, if_neg (by omega)]; exact d6 x hx
theorem readHearth_ok {Q : Int32 → St → Prop} (hX : TKd T tx n σ) (h2 : HP T tx n lo σ p) (hw : WFg g) (hN : g.gN < 3) (hD : DX g σ)
    (hq1 : ∀ τ g' e, hrS (tk T (Bt T tx)) p g = .inr (g', e) → FD σ τ → DX g' τ → HP T tx n lo τ e → Q 1 τ)
    (hq0 : ∀ τ s, hrS (tk T (Bt T tx)) p g = .inl s → FD σ τ → HF T tx n τ s → Q 0 τ) : wp_X1_readHearth Q σ := by
  have hT := hX.1.2.1
  obtain ⟨⟨w1, w2, w3, w4, w5⟩, w6, w7, w8⟩ := hw
  unfold wp_X1_readHearth
  rw [hD.2.1, hD.2.2.2.1, pn_in (by omega) (by omega), pn_cl (by omega)]
  refine readNumber_ok 0 (g.gH - 2) hX h2 z0 (by rw [ns2 (by omega), tI_n (by omega)]) (fun τ c e1 hn f t2 t5 l1 l2 l3 => ⟨fun z => absurd z (by decide), fun _ => ⟨hN, ?_⟩⟩) (fun τ s hn f t3 => ⟨fun _ => hq0 τ s (bS_l hn) f.d t3, fun z => absurd rfl z⟩)
  have hDt := hD.fr f
  have fD : FD σ (sI τ 11 g.gN (τ.1 2 8)) := f.d.s (by omega) _
  have e9 : (sI τ 11 g.gN (τ.1 2 8)).1 9 0 = nI g.gW := by rw [sI_1, if_neg (by omega)]; exact hDt.1
  rw [e9]
  refine readNumber_ok 0 (g.gW - 1) (hX.fd fD) (t2.s (by omega) _) z0 (by rw [ns1 (by omega), tI_n (by omega)]) (fun υ d e2 hn2 f2 u2 u5 m1 m2 m3 => ⟨fun z => absurd z (by decide), fun _ => ⟨hN, ?_⟩⟩) (fun υ s hn2 f2 u3 => ⟨fun _ => hq0 υ s ((bS_r hn).trans (bS_l hn2)) (fD.tr f2.d) u3, fun z => absurd rfl z⟩)
  have fD2 : FD σ (sI υ 12 g.gN (υ.1 2 8)) := (fD.tr f2.d).s (by omega) _
  refine readNumber_ok 0 99 (hX.fd fD2) (u2.s (by omega) _) z0 (by decide) (fun φ nn e3 hn3 f3 v2 v5 n1 n2 n3 => ⟨fun z => absurd z (by decide), fun _ => ⟨hN, ?_⟩⟩) (fun φ s hn3 f3 v3 => ⟨fun _ => hq0 φ s ((bS_r hn).trans ((bS_r hn2).trans (bS_l hn3))) (fD2.tr f3.d) v3, fun z => absurd rfl z⟩)
  obtain ⟨d1, d2, d3, d4, d5, d6⟩ := hDt
  have rd : ∀ k i, ¬ (k = 11 ∧ i = g.gN) → ¬ (k = 12 ∧ i = g.gN) → ¬ (k = 2 ∧ (i = 7 ∨ i = 8)) → φ.1 k i = τ.1 k i := fun k i n1 n2 n3 => by rw [f3.1 k i n3, sI_1, if_neg n2, f2.1 k i n3, sI_1, if_neg n1]
  have r11 : φ.1 11 g.gN = nI c := by rw [f3.1 _ _ (by omega), sI_1, if_neg (by omega), f2.1 _ _ (by omega), sI_1, if_pos ⟨rfl, rfl⟩]; exact t5
  have r12 : φ.1 12 g.gN = nI d := by rw [f3.1 _ _ (by omega), sI_1, if_pos ⟨rfl, rfl⟩]; exact u5
  have e93 : (sI φ 13 g.gN (φ.1 2 8)).1 9 3 = nI g.gN := by rw [sI_1, if_neg (by omega), rd _ _ (by omega) (by omega) (by omega)]; exact d4
  rw [e93, na1]
  refine hq1 _ _ e3 ((bS_r hn).trans ((bS_r hn2).trans (bS_r hn3))) (((fD2.tr f3.d).s (by omega) _).s (by omega) _) ⟨?_, ?_, ?_, ?_, fun x hx => ?_, fun x hx => ?_⟩ ((v2.s (by omega) _).s (by omega) _)
  · rw [sI_1, if_neg (by omega), sI_1, if_neg (by omega), rd _ _ (by omega) (by omega) (by omega)]; exact d1
  · rw [sI_1, if_neg (by omega), sI_1, if_neg (by omega), rd _ _ (by omega) (by omega) (by omega)]; exact d2
  · rw [sI_1, if_neg (by omega), sI_1, if_neg (by omega), rd _ _ (by omega) (by omega) (by omega)]; exact d3
  · rw [sI_1, if_pos ⟨rfl, rfl⟩]; rfl
  · rw [sI_1, if_neg (by omega), sI_1, if_neg (by omega), rd _ _ (by omega) (by omega) (by omega)]; exact d5 x hx
  · have hx : x < g.gN + 1 := hx
    show _ = nI (if x = g.gN then c else g.co x) ∧ _ = nI (if x = g.gN then d else g.cl x) ∧ _ = nI (if x = g.gN then nn else g.ne x)
    have q11 : (sI (sI φ 13 g.gN (φ.1 2 8)) 9 3 (nI (g.gN + 1))).1 11 x = φ.1 11 x := by rw [sI_1, if_neg (by omega), sI_1, if_neg (by omega)]
    have q12 : (sI (sI φ 13 g.gN (φ.1 2 8)) 9 3 (nI (g.gN + 1))).1 12 x = φ.1 12 x := by rw [sI_1, if_neg (by omega), sI_1, if_neg (by omega)]
    have q13 : (sI (sI φ 13 g.gN (φ.1 2 8)) 9 3 (nI (g.gN + 1))).1 13 x = if x = g.gN then φ.1 2 8 else φ.1 13 x := by
      rw [sI_1, if_neg (by omega), sI_1]
      by_cases e : x = g.gN
      · rw [if_pos ⟨rfl, e⟩, if_pos e]
      · rw [if_neg (fun z => e z.2), if_neg e]
    rw [q11, q12, q13]
    by_cases e : x = g.gN
    · rw [if_pos e, if_pos e, if_pos e, if_pos e, e]
      exact ⟨r11, r12, v5⟩
    · rw [if_neg e, if_neg e, if_neg e, if_neg e, rd _ _ (by omega) (by omega) (by omega), rd _ _ (by omega) (by omega) (by omega), rd _ _ (by omega) (by omega) (by omega)]
      exact d6 x (by omega)
theorem readItem_ok {Q : Int32 → St → Prop} {j : Nat} {first : Bool} (hX : TKd T tx n σ) (h7 : σ.1 2 7 = nI j) (hj : j < n) (hfi : first = true ↔ j = 0) (hw : WFg g) (hD : DX g σ)
    (hq1 : ∀ τ q g', itmS (tk T (Bt T tx)) (tk T (Bt T tx) (psn (tk T (Bt T tx)) j)).k (tk T (Bt T tx) (psn (tk T (Bt T tx)) j)).s (psn (tk T (Bt T tx)) (j + 1)) first g = .inr (q, g') → FD σ τ → DX g' τ → HP T tx n j τ q → Q 1 τ)
    (hq0 : ∀ τ f, itmS (tk T (Bt T tx)) (tk T (Bt T tx) (psn (tk T (Bt T tx)) j)).k (tk T (Bt T tx) (psn (tk T (Bt T tx)) j)).s (psn (tk T (Bt T tx)) (j + 1)) first g = .inl f → FD σ τ → HF T tx n τ f → Q 0 τ) : wp_X1_readItem Q σ := by
  have hT := hX.1.2.1
  have hn := hX.1.1
  have h2 : HP T tx n j σ (psn (tk T (Bt T tx)) (j + 1)) := ⟨j, Nat.le_refl _, hj, h7, rfl⟩
  have h3 : HF T tx n σ (tk T (Bt T tx) (psn (tk T (Bt T tx)) j)).s := ⟨j, by omega, h7, rfl⟩
  obtain ⟨y1, y2, y3, h4, -, -⟩ := hX.2.1 j hj
  have hK := (y2.b y1).2.2.2.2.2
  generalize (tk T (Bt T tx) (psn (tk T (Bt T tx)) j)).k = K at hq1 hq0 h4 hK
  generalize (tk T (Bt T tx) (psn (tk T (Bt T tx)) j)).s = s at hq1 hq0 h3
  generalize psn (tk T (Bt T tx)) (j + 1) = e at hq1 hq0 h2
  have fin : ∀ (body : Nat ⊕ (Geo × Nat)), itmS (tk T (Bt T tx)) K s e first g = endS (tk T (Bt T tx)) body → ∀ τ g' e', body = .inr (g', e') → FD σ τ → DX g' τ → HP T tx n j τ e' → wp_X1_readClose (fun r σ' => (r = 0 → Q 0 σ') ∧ (¬ r = 0 → Q 1 σ')) τ := by
    intro body hi τ g' e' hb f d t2
    refine readClose_ok (hX.fd f) t2 (fun υ q hc f2 u2 => ⟨fun z => absurd z (by decide), fun _ => hq1 υ q g' (hi.trans ((bS_r hb).trans (bS_r hc))) (f.tr f2.d) (d.fr f2) u2⟩) (fun υ s' hc f2 u3 => ⟨fun _ => hq0 υ s' (hi.trans ((bS_r hb).trans (bS_l hc))) (f.tr f2.d) u3, fun z => absurd rfl z⟩)
  have bad : ∀ (body : Nat ⊕ (Geo × Nat)), itmS (tk T (Bt T tx)) K s e first g = endS (tk T (Bt T tx)) body → ∀ τ s', body = .inl s' → FD σ τ → HF T tx n τ s' → Q 0 τ := fun body hi τ s' hb f t3 => hq0 τ s' (hi.trans (bS_l hb)) f t3
  have none : itmS (tk T (Bt T tx)) K s e first g = .inl s → Q 0 σ := fun h => hq0 σ s h FD.rf h3
  unfold wp_X1_readItem
  rw [h7, pn_in (a := j) (n := 300) (by omega) (by omega), pn_cl (show j < 2 ^ 31 by omega), h4, show (1 : Int32) = nI 1 from rfl, show (2 : Int32) = nI 2 from rfl, show (3 : Int32) = nI 3 from rfl, show (4 : Int32) = nI 4 from rfl, pn_eq (a := K) (b := 1) (by omega) (by omega), pn_eq (a := K) (b := 2) (by omega) (by omega), pn_eq (a := K) (b := 3) (by omega) (by omega), pn_eq (a := K) (b := 4) (by omega) (by omega), hD.2.2.2.1, pn_le (by omega) (by have := hw.1; omega)]
  have ej : (nI j = 0) = (j = 0) := by rw [show (0 : Int32) = nI 0 from rfl, pn_eq (by omega) (by omega)]
  unfold itmS at none fin bad
  refine ⟨by omega, fun k1 => ?_, fun k1 => ⟨fun k2 => ?_, fun k2 => ⟨fun k3 => ?_, fun k3 => ⟨fun k4 => ?_, fun k4 => ?_⟩⟩⟩⟩
  · rw [if_pos k1] at none fin bad
    rw [ej]
    refine ⟨fun z => ?_, fun z => ?_⟩
    · rw [if_pos (hfi.mpr z)] at fin bad
      exact readSize_ok hX h2 hD (fun τ g' e' hb f d t2 => ⟨fun w => absurd w (by decide), fun _ => fin _ rfl τ g' e' hb f d t2⟩) (fun τ s' hb f t3 => ⟨fun _ => bad _ rfl τ s' hb f t3, fun w => absurd rfl w⟩)
    · rw [if_neg (fun w => z (hfi.mp w))] at none; exact none rfl
  · rw [if_neg k1, if_pos k2] at fin bad
    exact readBeam_ok hX h2 hw hD (fun τ g' e' hb f d t2 => ⟨fun w => absurd w (by decide), fun _ => fin _ rfl τ g' e' hb f d t2⟩) (fun τ s' hb f t3 => ⟨fun _ => bad _ rfl τ s' hb f t3, fun w => absurd rfl w⟩)
  · rw [if_neg k1, if_neg k2, if_pos k3] at fin bad
    exact readCold_ok hX h2 hw hD (fun τ g' e' hb f d t2 => ⟨fun w => absurd w (by decide), fun _ => fin _ rfl τ g' e' hb f d t2⟩) (fun τ s' hb f t3 => ⟨fun _ => bad _ rfl τ s' hb f t3, fun w => absurd rfl w⟩)
  · rw [if_neg k1, if_neg k2, if_neg k3, if_pos k4] at none fin bad
    refine ⟨fun z => ?_, fun z => ?_⟩
    · rw [if_neg (by omega)] at none; exact none rfl
    · have c : g.gN < 3 := by omega
      rw [if_pos c] at fin bad
      exact readHearth_ok hX h2 hw c hD (fun τ g' e' hb f d t2 => ⟨fun w => absurd w (by decide), fun _ => fin _ rfl τ g' e' hb f d t2⟩) (fun τ s' hb f t3 => ⟨fun _ => bad _ rfl τ s' hb f t3, fun w => absurd rfl w⟩)
  · rw [if_neg k1, if_neg k2, if_neg k3, if_neg k4] at none
    exact none rfl
def g0 (tu : Nat → Nat) : Geo := ((10, 10, 0), (fun _ => 0), 0, (fun _ => 0), (fun _ => 0), (fun _ => 0), tu)
theorem g0_wf (tu : Nat → Nat) : WFg (g0 tu) := by
  refine ⟨⟨by show 2 ≤ 10; omega, by show 10 ≤ 10; omega, by show 2 ≤ 10; omega, by show 10 ≤ 16; omega, by show 0 ≤ 3; omega⟩, fun r hr => ?_, ?_, fun h hh => ?_⟩
  · show 0 < 2 ^ 10; decide
  · show 0 < 2 ^ 10; decide
  · have hh : h < 0 := hh
    omega
theorem g0_bl (tu : Nat → Nat) : Blank (g0 tu) := ⟨fun _ _ => rfl, rfl, rfl⟩
theorem read_ok {Q : Int32 → St → Prop} (tu : Nat → Nat) (hT : T ≤ 300) (ht : ∀ j, j < T → (σ.1 1 j) &&& 255 = nI (tx j) ∧ tx j < 256)
    (hq1 : ∀ τ g', runS (tk T (Bt T tx)) (T + 1) 0 0 (g0 tu) = .inr g' → WFg g' → Cor σ τ → DX g' τ → Q (-9) τ)
    (hq0 : ∀ τ f, runS (tk T (Bt T tx)) (T + 1) 0 0 (g0 tu) = .inl f → Cor σ τ → f ≤ T → Q (nI f) τ) : wp_X1_read (nI T) Q σ := by
  have s2 : ∀ i, Scr 2 i := fun i => by unfold Scr; omega
  have s9 : ∀ i, Scr 9 i := fun i => by unfold Scr; omega
  have s10 : ∀ i, Scr 10 i := fun i => by unfold Scr; omega
  unfold wp_X1_read
  intro v hv
  have hv2 : v = nI T := by
    rw [hv, show Int32.ofNat 300 = nI 300 from rfl]
    have e : (nI 300 < nI T) = (300 < T) := pn_lt (by omega) (by omega)
    rw [if_neg (by rw [e]; omega)]
  rw [hv2]
  have hX0 : TXc T tx (sI (sI σ 2 0 1) 2 1 (nI T)) := ⟨hT, by rw [sI_1, if_neg (by omega), sI_1, if_pos ⟨rfl, rfl⟩], by rw [sI_1, if_pos ⟨rfl, rfl⟩], fun j hj => by rw [sI_1, if_neg (by omega), sI_1, if_neg (by omega)]; exact ht j hj⟩
  have c0 : Cor σ (sI (sI σ 2 0 1) 2 1 (nI T)) := (Cor.rf.sI (s2 _) _).sI (s2 _) _
  refine part_ok hX0 (fun σ1 n f1 hK1 => ?_)
  have c1 : Cor σ σ1 := c0.tr f1.cor
  unfold wp_X4_reset wp_fillI
  generalize hσ2 : sI (sI (sI (sI σ1 9 0 (10 : Int32)) 9 1 (10 : Int32)) 9 2 (0 : Int32)) 9 3 (0 : Int32) = σ2
  have c2 : Cor σ1 σ2 := by rw [← hσ2]; exact (((Cor.rf.sI (s9 _) _).sI (s9 _) _).sI (s9 _) _).sI (s9 _) _
  have d2 : FD σ1 σ2 := by rw [← hσ2]; exact (((FD.rf.s (by omega) _).s (by omega) _).s (by omega) _).s (by omega) _
  have b0 : σ2.1 9 0 = nI 10 := by rw [← hσ2, sI_1, if_neg (by omega), sI_1, if_neg (by omega), sI_1, if_neg (by omega), sI_1, if_pos ⟨rfl, rfl⟩]; rfl
  have b1 : σ2.1 9 1 = nI 10 := by rw [← hσ2, sI_1, if_neg (by omega), sI_1, if_neg (by omega), sI_1, if_pos ⟨rfl, rfl⟩]; rfl
  have b2 : σ2.1 9 2 = nI 0 := by rw [← hσ2, sI_1, if_neg (by omega), sI_1, if_pos ⟨rfl, rfl⟩]; rfl
  have b3 : σ2.1 9 3 = nI 0 := by rw [← hσ2, sI_1, if_pos ⟨rfl, rfl⟩]; rfl
  generalize hσ3 : sR σ2 10 (fun j => if j < 16 then (0 : Int32) else σ2.1 10 j) = σ3
  have c3 : Cor σ2 σ3 := by rw [← hσ3]; exact Cor.rf.sR (s10) _
  have rd3 : ∀ k i, ¬ k = 10 → σ3.1 k i = σ2.1 k i := fun k i n => by rw [← hσ3, sR_1, if_neg n]
  have d3 : FD σ1 σ3 := ⟨fun k i n m => by rw [rd3 _ _ (by omega)]; exact d2.1 k i n m, by rw [← hσ3, sR_2]; exact d2.2⟩
  have b10 : ∀ r, r < 16 → σ3.1 10 r = nI 0 := fun r hr => by
    rw [← hσ3, sR_1, if_pos rfl]
    show (if r < 16 then (0 : Int32) else σ2.1 10 r) = nI 0
    rw [if_pos hr]; rfl
  show ∃ n : Nat, wp_X1_read_l31 Q n (nI 0) (sI σ3 2 7 (0 : Int32))
  generalize hσ4 : sI σ3 2 7 (0 : Int32) = σ4
  have rd4 : ∀ k i, ¬ k = 2 → σ4.1 k i = σ3.1 k i := fun k i n => by rw [← hσ4, sI_1, if_neg (by omega)]
  have c4 : Cor σ3 σ4 := by rw [← hσ4]; exact Cor.rf.sI (s2 _) _
  have a7 : σ4.1 2 7 = nI 0 := by rw [← hσ4, sI_1, if_pos ⟨rfl, rfl⟩]; rfl
  have d4 : FD σ1 σ4 := by rw [← hσ4]; exact d3.h (by omega) _
  have cc : Cor σ σ4 := c1.tr (c2.tr (c3.tr c4))
  have hX : TKd T tx n σ4 := hK1.fd d4
  have hn := hX.1.1
  have hD : DX (g0 tu) σ4 := ⟨by rw [rd4 _ _ (by omega), rd3 _ _ (by omega)]; exact b0, by rw [rd4 _ _ (by omega), rd3 _ _ (by omega)]; exact b1, by rw [rd4 _ _ (by omega), rd3 _ _ (by omega)]; exact b2, by rw [rd4 _ _ (by omega), rd3 _ _ (by omega)]; exact b3, fun r hr => by rw [rd4 _ _ (by omega)]; exact b10 r hr, fun h hh => by have hh : h < 0 := hh; omega⟩
  refine pk_loop (fun n i τ => wp_X1_read_l31 Q n (nI i) τ) (fun i τ => ∃ j g, FD σ4 τ ∧ i ≤ j ∧ j ≤ n ∧ (i = 0 → j = 0) ∧ τ.1 2 7 = nI j ∧ DX g τ ∧ WFg g ∧ (i = 0 → Blank g) ∧ runS (tk T (Bt T tx)) (T + 1) 0 0 (g0 tu) = runS (tk T (Bt T tx)) (T + 1 - i) i (psn (tk T (Bt T tx)) j) g) (T + 1) 0 σ4 (by omega) ⟨0, g0 tu, FD.rf, by omega, by omega, fun _ => rfl, a7, hD, g0_wf tu, fun _ => g0_bl tu, rfl⟩ (fun m τ hτ => ?_) (fun m i τ hi hτ hk => ?_)
  · obtain ⟨j, g, t1, t2, t3, -⟩ := hτ
    omega
  · show wp_X1_read_b31 _ _ _ _
    unfold wp_X1_read_b31
    obtain ⟨j, g, t1, t2, t3, t3b, t5, t6, t7, t8, t9⟩ := hτ
    obtain ⟨f, hm⟩ : ∃ f, T + 1 - i = f + 1 := ⟨T - i, by omega⟩
    have t9' := t9
    rw [hm] at t9'
    have e9 : runS (tk T (Bt T tx)) (f + 1) i (psn (tk T (Bt T tx)) j) g = if (tk T (Bt T tx) (psn (tk T (Bt T tx)) j)).k = 7 then .inr g else bS (itmS (tk T (Bt T tx)) (tk T (Bt T tx) (psn (tk T (Bt T tx)) j)).k (tk T (Bt T tx) (psn (tk T (Bt T tx)) j)).s (psn (tk T (Bt T tx)) (j + 1)) (decide (i = 0)) g) (fun x => runS (tk T (Bt T tx)) f (i + 1) x.1 x.2) := rfl
    rw [e9] at t9'
    have hXt := hX.fd t1
    have endc : j = n → Q (-9) τ := by
      intro ej
      rw [if_pos (by rw [ej]; exact hXt.2.2.2.2)] at t9'
      exact hq1 τ g t9' t7 (cc.tr t1.cor) t6
    have p1 : (nI n ≤ nI i) = (n ≤ i) := pn_le (by omega) (by omega)
    have p2 : (nI n ≤ nI j) = (n ≤ j) := pn_le (by omega) (by omega)
    rw [hXt.1.2.2.2, t5, p1, p2]
    refine ⟨fun z => endc (by omega), fun _ => ⟨fun z => endc (by omega), fun z => ?_⟩⟩
    · rw [if_neg (hXt.2.1 j (by omega)).2.2.1] at t9'
      refine readItem_ok (first := decide (i = 0)) hXt t5 (by omega) ⟨fun w => t3b (of_decide_eq_true w), fun w => decide_eq_true (by omega)⟩ t7 t6 (fun υ q g' hi2 f2 d2 u2 => ⟨fun w => absurd w (by decide), fun _ => ?_⟩) (fun υ fl hi2 f2 u3 => ⟨fun _ => ?_, fun w => absurd rfl w⟩)
      · obtain ⟨x, x1, x2, x3, x4⟩ := u2
        rw [x3, na1 x, na1 i]
        refine hk _ ⟨x + 1, g', (t1.tr f2).h (by omega) _, by omega, by omega, fun w => by omega, by rw [sI_1, if_pos ⟨rfl, rfl⟩], ?_, itm_wf t7 (fun w => t8 (of_decide_eq_true w)) hi2, fun w => by omega, ?_⟩
        · exact d2.fr (FH.rf.s (by omega) _)
        · rw [t9', bS_r hi2, show T + 1 - (i + 1) = f by omega, x4]
      · obtain ⟨x, x2, x3, x4⟩ := u3
        have hXu := hXt.fd f2
        have res := t9'.trans (bS_l hi2)
        obtain ⟨p1, p2⟩ := hXu.at x2
        obtain ⟨q1, q2, q3, q4, q5, q6⟩ := p2.b p1
        rw [hXu.1.2.2.2, x3, hXu.1.2.2.1, pn_le (by omega) (by omega), pn_in (by omega) (by omega), pn_cl (by omega)]
        refine ⟨fun z2 => ?_, fun z2 => ⟨by omega, ?_⟩⟩
        · have ex : x = n := by omega
          have e7 := hXu.2.2.2.2
          have et : fl = T := by
            rw [x4, ex]
            rw [ex] at p2 q1 q2 q3
            rcases p2.2 with ⟨r1, -, -⟩ | ⟨r1, r2, r3, r4⟩ | ⟨r1, r2, r3, r4, r5⟩ | ⟨r1, r2, r3, r4, r5⟩
            · omega
            · have := r4.k4
              omega
            · have := nkd_2 (Bt T tx) (tk T (Bt T tx) (psn (tk T (Bt T tx)) n)).s (tk T (Bt T tx) (psn (tk T (Bt T tx)) n)).e
              omega
            · rw [r5] at e7
              by_cases y : Bt T tx (tk T (Bt T tx) (psn (tk T (Bt T tx)) n)).s = 59
              · rw [if_pos y] at e7; omega
              · rw [if_neg y] at e7; omega
          rw [← et]
          exact hq0 υ fl res (cc.tr (t1.tr f2).cor) (by omega)
        · rw [(hXu.2.1 x (by omega)).2.2.2.2.1, ← x4]
          exact hq0 υ fl res (cc.tr (t1.tr f2).cor) (by omega)
end RD
