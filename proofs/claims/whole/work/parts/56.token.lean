/-! the text, token by token -/
def Bt (T : Nat) (tx : Nat → Nat) (j : Nat) : Nat := if j < T then tx j else 999
abbrev letP (c : Nat) : Prop := 97 ≤ c ∧ c ≤ 122
abbrev digP (c : Nat) : Prop := 48 ≤ c ∧ c ≤ 57
abbrev blaP (c : Nat) : Prop := c = 32
def Run (P : Nat → Prop) (B : Nat → Nat) (p e : Nat) : Prop := p ≤ e ∧ (∀ j, p ≤ j → j < e → P (B j)) ∧ ¬ P (B e)
theorem Run.uq {P : Nat → Prop} {B : Nat → Nat} {p e e' : Nat} (a : Run P B p e) (b : Run P B p e') : e = e' := by
  by_cases h : e < e'
  · exact absurd (b.2.1 e a.1 h) a.2.2
  · by_cases h2 : e' < e
    · exact absurd (a.2.1 e' b.1 h2) b.2.2
    · omega
/-- a number's value, held down -/
def cvn (B : Nat → Nat) (s : Nat) : Nat → Nat
  | 0 => 0
  | n + 1 => min (10 * cvn B s n + B (s + n) - 48) 100
theorem cvn_le (B : Nat → Nat) (s : Nat) : ∀ n, cvn B s n ≤ 100
  | 0 => Nat.zero_le _
  | n + 1 => Nat.min_le_right _ _
def wdL (k : Nat) : List Nat := [[115, 105, 122, 101], [98, 101, 97, 109], [99, 111, 108, 100], [104, 101, 97, 114, 116, 104]].getD k []
def wdP (k : Nat) (B : Nat → Nat) (s e : Nat) : Prop := e = s + (wdL k).length ∧ ∀ i, i < (wdL k).length → B (s + i) = (wdL k).getD i 0
def WK (B : Nat → Nat) (s e K : Nat) : Prop := (wdP 0 B s e ∧ K = 1) ∨ (wdP 1 B s e ∧ K = 2) ∨ (wdP 2 B s e ∧ K = 3) ∨ (wdP 3 B s e ∧ K = 4) ∨ (¬ wdP 0 B s e ∧ ¬ wdP 1 B s e ∧ ¬ wdP 2 B s e ∧ ¬ wdP 3 B s e ∧ K = 0)
theorem wd_1 {k : Nat} {B : Nat → Nat} {s e : Nat} (h : wdP k B s e) (hk : k < 4) : B s = [115, 98, 99, 104].getD k 0 := by
  have := h.2 0 (by have : k = 0 ∨ k = 1 ∨ k = 2 ∨ k = 3 := by omega
                    rcases this with rfl | rfl | rfl | rfl <;> decide)
  rw [Nat.add_zero] at this
  rw [this]
  have : k = 0 ∨ k = 1 ∨ k = 2 ∨ k = 3 := by omega
  rcases this with rfl | rfl | rfl | rfl <;> decide
theorem WK.uq {B : Nat → Nat} {s e K K' : Nat} (a : WK B s e K) (b : WK B s e K') : K = K' := by
  have h0 : wdP 0 B s e → B s = 115 := fun h => wd_1 h (by omega)
  have h1 : wdP 1 B s e → B s = 98 := fun h => wd_1 h (by omega)
  have h2 : wdP 2 B s e → B s = 99 := fun h => wd_1 h (by omega)
  have h3 : wdP 3 B s e → B s = 104 := fun h => wd_1 h (by omega)
  have aux : ∀ K, WK B s e K → (B s = 115 ∧ K = 1 ∧ wdP 0 B s e) ∨ (B s = 98 ∧ K = 2 ∧ wdP 1 B s e) ∨ (B s = 99 ∧ K = 3 ∧ wdP 2 B s e) ∨ (B s = 104 ∧ K = 4 ∧ wdP 3 B s e) ∨ (K = 0 ∧ ¬ wdP 0 B s e ∧ ¬ wdP 1 B s e ∧ ¬ wdP 2 B s e ∧ ¬ wdP 3 B s e) := by
    intro K h
    rcases h with ⟨h, hk⟩ | ⟨h, hk⟩ | ⟨h, hk⟩ | ⟨h, hk⟩ | ⟨n0, n1, n2, n3, hk⟩
    · exact Or.inl ⟨h0 h, hk, h⟩
    · exact Or.inr (Or.inl ⟨h1 h, hk, h⟩)
    · exact Or.inr (Or.inr (Or.inl ⟨h2 h, hk, h⟩))
    · exact Or.inr (Or.inr (Or.inr (Or.inl ⟨h3 h, hk, h⟩)))
    · exact Or.inr (Or.inr (Or.inr (Or.inr ⟨hk, n0, n1, n2, n3⟩)))
  rcases aux K a with ⟨x, y, z⟩ | ⟨x, y, z⟩ | ⟨x, y, z⟩ | ⟨x, y, z⟩ | ⟨y, z0, z1, z2, z3⟩ <;>
  rcases aux K' b with ⟨x', y', w⟩ | ⟨x', y', w⟩ | ⟨x', y', w⟩ | ⟨x', y', w⟩ | ⟨y', w0, w1, w2, w3⟩ <;>
  first | omega | exact absurd w z0 | exact absurd w z1 | exact absurd w z2 | exact absurd w z3 | exact absurd z w0 | exact absurd z w1 | exact absurd z w2 | exact absurd z w3
/-- a token: where it begins, its kind, its value, where it ends -/
abbrev Tk : Type := Nat × Nat × Nat × Nat
abbrev Tk.s (t : Tk) : Nat := t.1
abbrev Tk.k (t : Tk) : Nat := t.2.1
abbrev Tk.v (t : Tk) : Nat := t.2.2.1
abbrev Tk.e (t : Tk) : Nat := t.2.2.2
def nkd (B : Nat → Nat) (s e : Nat) : Nat := if 99 < cvn B s (e - s) ∨ (B s = 48 ∧ 1 < e - s) then 0 else 5
def Tok (T : Nat) (B : Nat → Nat) (p : Nat) (t : Tk) : Prop := Run blaP B p t.s ∧ ((T ≤ t.s ∧ t.k = 7 ∧ t.e = t.s) ∨ (t.s < T ∧ letP (B t.s) ∧ Run letP B t.s t.e ∧ WK B t.s t.e t.k) ∨ (t.s < T ∧ digP (B t.s) ∧ Run digP B t.s t.e ∧ t.v = cvn B t.s (t.e - t.s) ∧ t.k = nkd B t.s t.e) ∨ (t.s < T ∧ ¬ letP (B t.s) ∧ ¬ digP (B t.s) ∧ t.e = t.s + 1 ∧ t.k = if B t.s = 59 then 6 else 0))
theorem nkd_2 (B : Nat → Nat) (s e : Nat) : nkd B s e = 0 ∨ nkd B s e = 5 := by
  unfold nkd
  split
  · exact Or.inl rfl
  · exact Or.inr rfl
theorem WK.k4 {B : Nat → Nat} {s e K : Nat} (h : WK B s e K) : K ≤ 4 := by
  unfold WK at h
  omega
theorem Tok.uq {T : Nat} {B : Nat → Nat} {p : Nat} {t t' : Tk} (a : Tok T B p t) (b : Tok T B p t') : t.s = t'.s ∧ t.k = t'.k ∧ t.e = t'.e ∧ (t.k = 5 → t.v = t'.v) := by
  obtain ⟨s, k, v, e⟩ := t
  obtain ⟨s', k', v', e'⟩ := t'
  obtain ⟨a0, a1⟩ := a
  obtain ⟨b0, b1⟩ := b
  have es := a0.uq b0
  dsimp only [Tk.s, Tk.k, Tk.v, Tk.e] at *
  subst es
  rcases a1 with ⟨x1, x2, x3⟩ | ⟨x1, x2, x3, x4⟩ | ⟨x1, x2, x3, x4, x5⟩ | ⟨x1, x2, x3, x4, x5⟩
  · rcases b1 with ⟨y1, y2, y3⟩ | ⟨y1, y2, y3, y4⟩ | ⟨y1, y2, y3, y4, y5⟩ | ⟨y1, y2, y3, y4, y5⟩
    · exact ⟨rfl, by omega, by omega, fun z => by omega⟩
    · omega
    · omega
    · omega
  · rcases b1 with ⟨y1, y2, y3⟩ | ⟨y1, y2, y3, y4⟩ | ⟨y1, y2, y3, y4, y5⟩ | ⟨y1, y2, y3, y4, y5⟩
    · omega
    · have ee := x3.uq y3
      subst ee
      have := x4.k4
      exact ⟨rfl, x4.uq y4, rfl, fun z => by omega⟩
    · omega
    · exact absurd x2 y2
  · rcases b1 with ⟨y1, y2, y3⟩ | ⟨y1, y2, y3, y4⟩ | ⟨y1, y2, y3, y4, y5⟩ | ⟨y1, y2, y3, y4, y5⟩
    · omega
    · omega
    · have ee := x3.uq y3
      subst ee
      exact ⟨rfl, x5.trans y5.symm, rfl, fun _ => x4.trans y4.symm⟩
    · exact absurd x2 y3
  · rcases b1 with ⟨y1, y2, y3⟩ | ⟨y1, y2, y3, y4⟩ | ⟨y1, y2, y3, y4, y5⟩ | ⟨y1, y2, y3, y4, y5⟩
    · omega
    · exact absurd y2 x2
    · exact absurd y2 x3
    · refine ⟨rfl, x5.trans y5.symm, by omega, fun z => ?_⟩
      rw [x5] at z
      by_cases w : B s = 59
      · rw [if_pos w] at z; omega
      · rw [if_neg w] at z; omega
theorem Bt_T {T : Nat} {tx : Nat → Nat} {j : Nat} (h : T ≤ j) : Bt T tx j = 999 := if_neg (by omega)
theorem Bt_t {T : Nat} {tx : Nat → Nat} {j : Nat} (h : j < T) : Bt T tx j = tx j := if_pos h
theorem Run.le {P : Nat → Prop} {T : Nat} {tx : Nat → Nat} {p e : Nat} (h : Run P (Bt T tx) p e) (hp : p ≤ T) (h9 : ¬ P 999) : e ≤ T := by
  by_cases z : e ≤ T
  · exact z
  · have := h.2.1 T hp (by omega)
    rw [Bt_T (Nat.le_refl _)] at this
    exact absurd this h9
theorem Tok.b {T : Nat} {tx : Nat → Nat} {p : Nat} {t : Tk} (h : Tok T (Bt T tx) p t) (hp : p ≤ T) : p ≤ t.s ∧ t.s ≤ t.e ∧ t.e ≤ T ∧ (t.k ≠ 7 → p < t.e) ∧ (t.k = 5 → t.v ≤ 99) ∧ t.k ≤ 7 := by
  obtain ⟨s, k, v, e⟩ := t
  obtain ⟨a0, a1⟩ := h
  have sT := a0.le hp (by decide)
  have ps := a0.1
  dsimp only [Tk.s, Tk.k, Tk.v, Tk.e] at *
  rcases a1 with ⟨x1, x2, x3⟩ | ⟨x1, x2, x3, x4⟩ | ⟨x1, x2, x3, x4, x5⟩ | ⟨x1, x2, x3, x4, x5⟩
  · exact ⟨ps, by omega, by omega, fun z => absurd x2 z, fun z => by omega, by omega⟩
  · have eT := x3.le sT (by decide)
    have se := x3.1
    have k4 := x4.k4
    refine ⟨ps, se, eT, fun _ => ?_, fun z => by omega, by omega⟩
    by_cases z : s = e
    · exact absurd x2 (by rw [z]; exact x3.2.2)
    · omega
  · have eT := x3.le sT (by decide)
    have se := x3.1
    have n2 := nkd_2 (Bt T tx) s e
    refine ⟨ps, se, eT, fun _ => ?_, fun z => ?_, by omega⟩
    · by_cases z : s = e
      · exact absurd x2 (by rw [z]; exact x3.2.2)
      · omega
    · rw [x5] at z
      unfold nkd at z
      by_cases w : 99 < cvn (Bt T tx) s (e - s) ∨ (Bt T tx s = 48 ∧ 1 < e - s)
      · rw [if_pos w] at z; omega
      · omega
  · refine ⟨ps, by omega, by omega, fun _ => by omega, fun z => ?_, ?_⟩
    · rw [x5] at z
      by_cases w : Bt T tx s = 59
      · rw [if_pos w] at z; omega
      · rw [if_neg w] at z; omega
    · rw [x5]
      by_cases w : Bt T tx s = 59
      · rw [if_pos w]; omega
      · rw [if_neg w]; omega
noncomputable def tk (T : Nat) (B : Nat → Nat) (p : Nat) : Tk := @dite _ (∃ t, Tok T B p t) (Classical.propDecidable _) (fun h => Classical.choose h) (fun _ => (0, 0, 0, 0))
theorem tk_ok {T : Nat} {B : Nat → Nat} {p : Nat} {t : Tk} (h : Tok T B p t) : Tok T B p (tk T B p) := by
  have e : ∃ t, Tok T B p t := ⟨t, h⟩
  unfold tk
  rw [dif_pos e]
  exact Classical.choose_spec e
/-! as the class reads them -/
def TXc (T : Nat) (tx : Nat → Nat) (σ : St) : Prop := T ≤ 300 ∧ σ.1 2 0 = 1 ∧ σ.1 2 1 = nI T ∧ ∀ j, j < T → (σ.1 1 j) &&& 255 = nI (tx j) ∧ tx j < 256
def FR (σ τ : St) : Prop := (∀ k i, ¬ (k = 2 ∧ (i = 2 ∨ i = 8)) → τ.1 k i = σ.1 k i) ∧ τ.2 = σ.2
theorem FR.rf {σ : St} : FR σ σ := ⟨fun _ _ _ => rfl, rfl⟩
theorem FR.tr {σ τ υ : St} (a : FR σ τ) (b : FR τ υ) : FR σ υ := ⟨fun k i n => (b.1 k i n).trans (a.1 k i n), b.2.trans a.2⟩
theorem FR.s {σ τ : St} (a : FR σ τ) {i : Nat} (hi : i = 2 ∨ i = 8) (v : Int32) : FR σ (sI τ 2 i v) := ⟨fun k j n => by rw [sI_1, if_neg (by omega)]; exact a.1 k j n, a.2⟩
theorem TXc.fr {T : Nat} {tx : Nat → Nat} {σ τ : St} (h : TXc T tx σ) (f : FR σ τ) : TXc T tx τ := by
  obtain ⟨h1, h2, h3, h4⟩ := h
  exact ⟨h1, by rw [f.1 _ _ (by omega)]; exact h2, by rw [f.1 _ _ (by omega)]; exact h3, fun j hj => by rw [f.1 _ _ (by omega)]; exact h4 j hj⟩
section RX
variable {σ τ : St} {T s p e : Nat} {tx : Nat → Nat}
theorem TXc.b (hX : TXc T tx σ) (j : Nat) : Bt T tx j < 1000 := by
  unfold Bt
  split
  · have := (hX.2.2.2 j (by assumption)).2; omega
  · omega
theorem byteAt_ok {Q : Int32 → St → Prop} (hX : TXc T tx σ) (hp : p < 2 ^ 31) (hq : Q (if p < T then nI (Bt T tx p) else -1) σ) : wp_X1_byteAt (nI p) Q σ := by
  obtain ⟨h1, h2, h3, h4⟩ := hX
  unfold wp_X1_byteAt
  rw [h3, pn_le (by omega) (by omega), pn_in (by omega) (by omega), pn_cl hp]
  refine ⟨fun z => absurd z (nI_pos hp), fun _ => ⟨fun z => ?_, fun z => ⟨h2, by omega, ?_⟩⟩⟩
  · rwa [if_neg (by omega)] at hq
  · rw [if_pos (by omega), Bt_t (by omega)] at hq
    rw [(h4 p (by omega)).1]
    exact hq
theorem letterAt_ok {Q : Int32 → St → Prop} (hX : TXc T tx σ) (hp : p < 2 ^ 31) (hq : Q (bI (letP (Bt T tx p))) σ) : wp_X1_letterAt (nI p) Q σ := by
  have hb := hX.b p
  unfold wp_X1_letterAt
  refine byteAt_ok hX hp ?_
  by_cases z : p < T
  · rw [if_pos z, show (97 : Int32) = nI 97 from rfl, show (122 : Int32) = nI 122 from rfl, pn_lt (by omega) (by omega), pn_lt (by omega) (by omega)]
    refine ⟨fun w => ?_, fun w => ⟨fun w2 => ?_, fun w2 => ?_⟩⟩
    · rwa [bI_f (by omega)] at hq
    · rwa [bI_f (by omega)] at hq
    · rwa [bI_t (by omega)] at hq
  · rw [if_neg z]
    rw [Bt_T (by omega), bI_f (by omega)] at hq
    exact ⟨fun _ => hq, fun w => absurd (by decide) w⟩
theorem digitAt_ok {Q : Int32 → St → Prop} (hX : TXc T tx σ) (hp : p < 2 ^ 31) (hq : Q (bI (digP (Bt T tx p))) σ) : wp_X1_digitAt (nI p) Q σ := by
  have hb := hX.b p
  unfold wp_X1_digitAt
  refine byteAt_ok hX hp ?_
  by_cases z : p < T
  · rw [if_pos z, show (48 : Int32) = nI 48 from rfl, show (57 : Int32) = nI 57 from rfl, pn_lt (by omega) (by omega), pn_lt (by omega) (by omega)]
    refine ⟨fun w => ?_, fun w => ⟨fun w2 => ?_, fun w2 => ?_⟩⟩
    · rwa [bI_f (by omega)] at hq
    · rwa [bI_f (by omega)] at hq
    · rwa [bI_t (by omega)] at hq
  · rw [if_neg z]
    rw [Bt_T (by omega), bI_f (by omega)] at hq
    exact ⟨fun _ => hq, fun w => absurd (by decide) w⟩
theorem sc_0 : ∀ j, j < 4 → strC 0 j = nI ((wdL 0).getD j 0) ∧ (wdL 0).getD j 0 < 256 := by decide
theorem wordIs_0_ok {Q : Int32 → St → Prop} (hX : TXc T tx σ) (h2 : σ.1 2 2 = nI e) (hse : s ≤ e) (he : e ≤ T) (hq1 : wdP 0 (Bt T tx) s e → Q 1 σ) (hq0 : ¬ wdP 0 (Bt T tx) s e → Q 0 σ) : wp_X1_wordIs_0 (nI s) Q σ := by
  have hT := hX.1
  have ln : (wdL 0).length = 4 := rfl
  unfold wp_X1_wordIs_0
  rw [h2, pn_sub hse, show (4 : Int32) = nI 4 from rfl, pn_eq (by omega) (by omega)]
  refine ⟨fun z => ?_, fun z => hq0 (fun w => z (by have := w.1; omega))⟩
  refine pk_loop (fun n i (_ : Unit) => wp_X1_wordIs_0_l17 Q n (nI s) (nI i) σ) (fun i _ => ∀ j, j < i → Bt T tx (s + j) = (wdL 0).getD j 0) 4 0 () (by omega) (fun j hj => by omega) (fun n u hu => ?_) (fun n i u hi hu hk => ?_)
  · show wp_X1_wordIs_0_b17 _ _ _ _ _
    unfold wp_X1_wordIs_0_b17
    exact ⟨fun _ => hq1 ⟨by omega, fun i hi => hu i (by omega)⟩, fun w => absurd (by decide) w⟩
  · show wp_X1_wordIs_0_b17 _ _ _ _ _
    unfold wp_X1_wordIs_0_b17
    obtain ⟨c1, c2⟩ := sc_0 i hi
    have hb := hX.b (s + i)
    rw [nI_add, na1, pn_in (by omega) (by omega), pn_cl (by omega), c1]
    refine ⟨fun w => absurd w (nI_ge (b := 4) hi (by omega)), fun _ => byteAt_ok hX (by omega) ?_⟩
    rw [if_pos (by omega), pn_eq (by omega) (by omega)]
    refine ⟨hi, fun w => hk () (fun j hj => ?_), fun w => hq0 (fun v => w (v.2 i (by omega)))⟩
    by_cases y : j = i
    · rw [y]; exact w
    · exact hu j (by omega)
theorem sc_1 : ∀ j, j < 4 → strC 1 j = nI ((wdL 1).getD j 0) ∧ (wdL 1).getD j 0 < 256 := by decide
theorem wordIs_1_ok {Q : Int32 → St → Prop} (hX : TXc T tx σ) (h2 : σ.1 2 2 = nI e) (hse : s ≤ e) (he : e ≤ T) (hq1 : wdP 1 (Bt T tx) s e → Q 1 σ) (hq0 : ¬ wdP 1 (Bt T tx) s e → Q 0 σ) : wp_X1_wordIs_1 (nI s) Q σ := by
  have hT := hX.1
  have ln : (wdL 1).length = 4 := rfl
  unfold wp_X1_wordIs_1
  rw [h2, pn_sub hse, show (4 : Int32) = nI 4 from rfl, pn_eq (by omega) (by omega)]
  refine ⟨fun z => ?_, fun z => hq0 (fun w => z (by have := w.1; omega))⟩
  refine pk_loop (fun n i (_ : Unit) => wp_X1_wordIs_1_l17 Q n (nI s) (nI i) σ) (fun i _ => ∀ j, j < i → Bt T tx (s + j) = (wdL 1).getD j 0) 4 0 () (by omega) (fun j hj => by omega) (fun n u hu => ?_) (fun n i u hi hu hk => ?_)
  · show wp_X1_wordIs_1_b17 _ _ _ _ _
    unfold wp_X1_wordIs_1_b17
    exact ⟨fun _ => hq1 ⟨by omega, fun i hi => hu i (by omega)⟩, fun w => absurd (by decide) w⟩
  · show wp_X1_wordIs_1_b17 _ _ _ _ _
    unfold wp_X1_wordIs_1_b17
    obtain ⟨c1, c2⟩ := sc_1 i hi
    have hb := hX.b (s + i)
    rw [nI_add, na1, pn_in (by omega) (by omega), pn_cl (by omega), c1]
    refine ⟨fun w => absurd w (nI_ge (b := 4) hi (by omega)), fun _ => byteAt_ok hX (by omega) ?_⟩
    rw [if_pos (by omega), pn_eq (by omega) (by omega)]
    refine ⟨hi, fun w => hk () (fun j hj => ?_), fun w => hq0 (fun v => w (v.2 i (by omega)))⟩
    by_cases y : j = i
    · rw [y]; exact w
    · exact hu j (by omega)
theorem sc_2 : ∀ j, j < 4 → strC 2 j = nI ((wdL 2).getD j 0) ∧ (wdL 2).getD j 0 < 256 := by decide
theorem wordIs_2_ok {Q : Int32 → St → Prop} (hX : TXc T tx σ) (h2 : σ.1 2 2 = nI e) (hse : s ≤ e) (he : e ≤ T) (hq1 : wdP 2 (Bt T tx) s e → Q 1 σ) (hq0 : ¬ wdP 2 (Bt T tx) s e → Q 0 σ) : wp_X1_wordIs_2 (nI s) Q σ := by
  have hT := hX.1
  have ln : (wdL 2).length = 4 := rfl
  unfold wp_X1_wordIs_2
  rw [h2, pn_sub hse, show (4 : Int32) = nI 4 from rfl, pn_eq (by omega) (by omega)]
  refine ⟨fun z => ?_, fun z => hq0 (fun w => z (by have := w.1; omega))⟩
  refine pk_loop (fun n i (_ : Unit) => wp_X1_wordIs_2_l17 Q n (nI s) (nI i) σ) (fun i _ => ∀ j, j < i → Bt T tx (s + j) = (wdL 2).getD j 0) 4 0 () (by omega) (fun j hj => by omega) (fun n u hu => ?_) (fun n i u hi hu hk => ?_)
  · show wp_X1_wordIs_2_b17 _ _ _ _ _
    unfold wp_X1_wordIs_2_b17
    exact ⟨fun _ => hq1 ⟨by omega, fun i hi => hu i (by omega)⟩, fun w => absurd (by decide) w⟩
  · show wp_X1_wordIs_2_b17 _ _ _ _ _
    unfold wp_X1_wordIs_2_b17
    obtain ⟨c1, c2⟩ := sc_2 i hi
    have hb := hX.b (s + i)
    rw [nI_add, na1, pn_in (by omega) (by omega), pn_cl (by omega), c1]
    refine ⟨fun w => absurd w (nI_ge (b := 4) hi (by omega)), fun _ => byteAt_ok hX (by omega) ?_⟩
    rw [if_pos (by omega), pn_eq (by omega) (by omega)]
    refine ⟨hi, fun w => hk () (fun j hj => ?_), fun w => hq0 (fun v => w (v.2 i (by omega)))⟩
    by_cases y : j = i
    · rw [y]; exact w
    · exact hu j (by omega)
theorem sc_3 : ∀ j, j < 6 → strC 3 j = nI ((wdL 3).getD j 0) ∧ (wdL 3).getD j 0 < 256 := by decide
theorem wordIs_3_ok {Q : Int32 → St → Prop} (hX : TXc T tx σ) (h2 : σ.1 2 2 = nI e) (hse : s ≤ e) (he : e ≤ T) (hq1 : wdP 3 (Bt T tx) s e → Q 1 σ) (hq0 : ¬ wdP 3 (Bt T tx) s e → Q 0 σ) : wp_X1_wordIs_3 (nI s) Q σ := by
  have hT := hX.1
  have ln : (wdL 3).length = 6 := rfl
  unfold wp_X1_wordIs_3
  rw [h2, pn_sub hse, show (6 : Int32) = nI 6 from rfl, pn_eq (by omega) (by omega)]
  refine ⟨fun z => ?_, fun z => hq0 (fun w => z (by have := w.1; omega))⟩
  refine pk_loop (fun n i (_ : Unit) => wp_X1_wordIs_3_l17 Q n (nI s) (nI i) σ) (fun i _ => ∀ j, j < i → Bt T tx (s + j) = (wdL 3).getD j 0) 6 0 () (by omega) (fun j hj => by omega) (fun n u hu => ?_) (fun n i u hi hu hk => ?_)
  · show wp_X1_wordIs_3_b17 _ _ _ _ _
    unfold wp_X1_wordIs_3_b17
    exact ⟨fun _ => hq1 ⟨by omega, fun i hi => hu i (by omega)⟩, fun w => absurd (by decide) w⟩
  · show wp_X1_wordIs_3_b17 _ _ _ _ _
    unfold wp_X1_wordIs_3_b17
    obtain ⟨c1, c2⟩ := sc_3 i hi
    have hb := hX.b (s + i)
    rw [nI_add, na1, pn_in (by omega) (by omega), pn_cl (by omega), c1]
    refine ⟨fun w => absurd w (nI_ge (b := 6) hi (by omega)), fun _ => byteAt_ok hX (by omega) ?_⟩
    rw [if_pos (by omega), pn_eq (by omega) (by omega)]
    refine ⟨hi, fun w => hk () (fun j hj => ?_), fun w => hq0 (fun v => w (v.2 i (by omega)))⟩
    by_cases y : j = i
    · rw [y]; exact w
    · exact hu j (by omega)
theorem partWord_ok {Q : Int32 → St → Prop} (hX : TXc T tx σ) (h2 : σ.1 2 2 = nI s) (hs : s ≤ T) (hq : ∀ τ e K, FR σ τ → Run letP (Bt T tx) s e → WK (Bt T tx) s e K → τ.1 2 2 = nI e → Q (nI K) τ) : wp_X1_partWord (nI s) Q σ := by
  have hT := hX.1
  have fin : ∀ τ e, FR σ τ → s ≤ e → e ≤ T → (∀ j, s ≤ j → j < e → letP (Bt T tx j)) → ¬ letP (Bt T tx e) → τ.1 2 2 = nI e → wp_X1_partWord_b35 Q (nI s) τ := by
    intro τ e f se eT al nl t2
    have hXt := hX.fr f
    have out : ∀ K : Nat, ∀ v : Int32, v = nI K → WK (Bt T tx) s e K → Q v τ := fun K v hv hK => by rw [hv]; exact hq _ e K f ⟨se, al, nl⟩ hK t2
    unfold wp_X1_partWord_b35
    refine wordIs_0_ok hXt t2 se eT (fun w => ⟨fun z => absurd z (by decide), fun _ => out 1 _ rfl (Or.inl ⟨w, rfl⟩)⟩) (fun n0 => ⟨fun _ => ?_, fun z => absurd rfl z⟩)
    refine wordIs_1_ok hXt t2 se eT (fun w => ⟨fun z => absurd z (by decide), fun _ => out 2 _ rfl (Or.inr (Or.inl ⟨w, rfl⟩))⟩) (fun n1 => ⟨fun _ => ?_, fun z => absurd rfl z⟩)
    refine wordIs_2_ok hXt t2 se eT (fun w => ⟨fun z => absurd z (by decide), fun _ => out 3 _ rfl (Or.inr (Or.inr (Or.inl ⟨w, rfl⟩)))⟩) (fun n2 => ⟨fun _ => ?_, fun z => absurd rfl z⟩)
    exact wordIs_3_ok hXt t2 se eT (fun w => ⟨fun z => absurd z (by decide), fun _ => out 4 _ rfl (Or.inr (Or.inr (Or.inr (Or.inl ⟨w, rfl⟩))))⟩) (fun n3 => ⟨fun _ => out 0 _ rfl (Or.inr (Or.inr (Or.inr (Or.inr ⟨n0, n1, n2, n3, rfl⟩)))), fun z => absurd rfl z⟩)
  unfold wp_X1_partWord
  refine pk_loop (fun n i τ => wp_X1_partWord_l0 Q n (nI s) τ) (fun i τ => FR σ τ ∧ s ≤ i ∧ (∀ j, s ≤ j → j < i → letP (Bt T tx j)) ∧ τ.1 2 2 = nI i) T s σ hs ⟨FR.rf, Nat.le_refl _, fun j a b => by omega, h2⟩ (fun n τ hτ => ?_) (fun n i τ hi hτ hk => ?_)
  · show wp_X1_partWord_b0 _ _ _ _
    unfold wp_X1_partWord_b0
    obtain ⟨t1, t2, t3, t4⟩ := hτ
    rw [(hX.fr t1).2.2.1, t4]
    exact ⟨fun _ => fin τ T t1 t2 (Nat.le_refl _) t3 (by rw [Bt_T (Nat.le_refl _)]; omega) t4, fun z => absurd (nI_le (Nat.le_refl _) (by omega)) z⟩
  · show wp_X1_partWord_b0 _ _ _ _
    unfold wp_X1_partWord_b0
    obtain ⟨t1, t2, t3, t4⟩ := hτ
    rw [(hX.fr t1).2.2.1, t4]
    refine ⟨fun z => absurd z (nI_ge hi (by omega)), fun _ => letterAt_ok (hX.fr t1) (by omega) (i2_eq (fun c => ?_) (fun c => fin τ i t1 t2 (by omega) t3 c t4))⟩
    rw [t4, na1]
    refine hk _ ⟨t1.s (by omega) _, by omega, fun j a b => ?_, by rw [sI_1, if_pos ⟨rfl, rfl⟩]⟩
    by_cases y : j = i
    · rw [y]; exact c
    · exact t3 j a (by omega)
theorem partNumber_ok {Q : Int32 → St → Prop} (hX : TXc T tx σ) (h2 : σ.1 2 2 = nI s) (hs : s < T) (hq : ∀ τ e, FR σ τ → Run digP (Bt T tx) s e → τ.1 2 2 = nI e → τ.1 2 8 = nI (cvn (Bt T tx) s (e - s)) → Q (nI (nkd (Bt T tx) s e)) τ) : wp_X1_partNumber (nI s) Q σ := by
  have hT := hX.1
  have fin : ∀ τ e, FR σ τ → s ≤ e → e ≤ T → (∀ j, s ≤ j → j < e → digP (Bt T tx j)) → ¬ digP (Bt T tx e) → τ.1 2 2 = nI e → τ.1 2 8 = nI (cvn (Bt T tx) s (e - s)) → wp_X1_partNumber_b68 Q (nI s) τ := by
    intro τ e f se eT al nl t2 t5
    have hXt := hX.fr f
    have c100 := cvn_le (Bt T tx) s (e - s)
    have out : ∀ v : Int32, v = nI (nkd (Bt T tx) s e) → Q v τ := fun v hv => by rw [hv]; exact hq _ e f ⟨se, al, nl⟩ t2 t5
    have b92 : ¬ (Bt T tx s = 48 ∧ 1 < e - s) → wp_X1_partNumber_b92 Q τ := by
      intro nz
      unfold wp_X1_partNumber_b92 wp_X1_partNumber_b93
      rw [t5, show (99 : Int32) = nI 99 from rfl, pn_le (by omega) (by omega)]
      refine ⟨fun _ => ⟨fun w => out _ ?_, fun w => out _ ?_⟩, fun z => absurd rfl z⟩
      · unfold nkd; rw [if_neg (by omega)]; rfl
      · unfold nkd; rw [if_pos (by omega)]; rfl
    unfold wp_X1_partNumber_b68
    rw [t2, pn_sub se, show (1 : Int32) = nI 1 from rfl, pn_le (by omega) (by omega)]
    refine ⟨fun z => b92 (by omega), fun z => byteAt_ok hXt (by omega) ?_⟩
    have hb := hX.b s
    rw [if_pos hs, show (48 : Int32) = nI 48 from rfl, pn_eq (by omega) (by omega)]
    refine ⟨fun w => ?_, fun w => b92 (by omega)⟩
    unfold wp_X1_partNumber_b93
    refine ⟨fun z => absurd z (by decide), fun _ => out _ ?_⟩
    unfold nkd; rw [if_pos (by omega)]; rfl
  unfold wp_X1_partNumber
  refine pk_loop (fun n i τ => wp_X1_partNumber_l5 Q n (nI s) τ) (fun i τ => FR σ τ ∧ s ≤ i ∧ (∀ j, s ≤ j → j < i → digP (Bt T tx j)) ∧ τ.1 2 2 = nI i ∧ τ.1 2 8 = nI (cvn (Bt T tx) s (i - s))) T s (sI σ 2 8 0) (by omega) ⟨FR.rf.s (by omega) _, Nat.le_refl _, fun j a b => by omega, by rw [sI_1, if_neg (by omega)]; exact h2, by rw [sI_1, if_pos ⟨rfl, rfl⟩, Nat.sub_self]; rfl⟩ (fun n τ hτ => ?_) (fun n i τ hi hτ hk => ?_)
  · show wp_X1_partNumber_b5 _ _ _ _
    unfold wp_X1_partNumber_b5
    obtain ⟨t1, t2, t3, t4, t6⟩ := hτ
    rw [(hX.fr t1).2.2.1, t4]
    exact ⟨fun _ => fin τ T t1 t2 (Nat.le_refl _) t3 (by rw [Bt_T (Nat.le_refl _)]; omega) t4 t6, fun z => absurd (nI_le (Nat.le_refl _) (by omega)) z⟩
  · show wp_X1_partNumber_b5 _ _ _ _
    unfold wp_X1_partNumber_b5
    obtain ⟨t1, t2, t3, t4, t6⟩ := hτ
    rw [(hX.fr t1).2.2.1, t4]
    refine ⟨fun z => absurd z (nI_ge hi (by omega)), fun _ => digitAt_ok (hX.fr t1) (by omega) (i2_eq (fun c => ?_) (fun c => fin τ i t1 t2 (by omega) t3 c t4 t6))⟩
    rw [t4]
    refine byteAt_ok (hX.fr t1) (by omega) ?_
    have c100 := cvn_le (Bt T tx) s (i - s)
    have en : nI (cvn (Bt T tx) s (i - s)) * 10 + nI (Bt T tx i) - 48 = nI (10 * cvn (Bt T tx) s (i - s) + Bt T tx i - 48) := by
      rw [show (10 : Int32) = nI 10 from rfl, show (48 : Int32) = nI 48 from rfl, pk_mul, nI_add, pn_sub (by omega), Nat.mul_comm]
    rw [if_pos hi, t6, en]
    intro v hv
    have e1 : cvn (Bt T tx) s (i + 1 - s) = min (10 * cvn (Bt T tx) s (i - s) + Bt T tx i - 48) 100 := by
      rw [show i + 1 - s = (i - s) + 1 by omega]
      show min (10 * cvn (Bt T tx) s (i - s) + Bt T tx (s + (i - s)) - 48) 100 = _
      rw [show s + (i - s) = i by omega]
    have hv2 : v = nI (cvn (Bt T tx) s (i + 1 - s)) := by
      rw [hv, e1, show (100 : Int32) = nI 100 from rfl]
      have ew : (nI 100 < nI (10 * cvn (Bt T tx) s (i - s) + Bt T tx i - 48)) = (100 < 10 * cvn (Bt T tx) s (i - s) + Bt T tx i - 48) := pn_lt (by omega) (by omega)
      by_cases w : 100 < 10 * cvn (Bt T tx) s (i - s) + Bt T tx i - 48
      · rw [if_pos (by rw [ew]; exact w), Nat.min_eq_right (by omega)]
      · rw [if_neg (by rw [ew]; exact w), Nat.min_eq_left (by omega)]
    have e2 : (sI τ 2 8 v).1 2 2 = nI i := by rw [sI_1, if_neg (by omega)]; exact t4
    rw [e2, na1]
    refine hk _ ⟨(t1.s (by omega) _).s (by omega) _, by omega, fun j a b => ?_, by rw [sI_1, if_pos ⟨rfl, rfl⟩], by rw [sI_1, if_neg (by omega), sI_1, if_pos ⟨rfl, rfl⟩]; exact hv2⟩
    by_cases y : j = i
    · rw [y]; exact c
    · exact t3 j a (by omega)
theorem partToken_ok {Q : Int32 → St → Prop} (hX : TXc T tx σ) (h2 : σ.1 2 2 = nI s) (hs : s < T) (hr : Run blaP (Bt T tx) p s) (hq : ∀ τ, FR σ τ → Tok T (Bt T tx) p (tk T (Bt T tx) p) → (tk T (Bt T tx) p).s = s → (tk T (Bt T tx) p).k ≠ 7 → τ.1 2 2 = nI (tk T (Bt T tx) p).e → ((tk T (Bt T tx) p).k = 5 → τ.1 2 8 = nI (tk T (Bt T tx) p).v) → Q (nI (tk T (Bt T tx) p).k) τ) : wp_X1_partToken Q σ := by
  have hT := hX.1
  have done : ∀ τ t, FR σ τ → Tok T (Bt T tx) p t → t.s = s → t.k ≠ 7 → τ.1 2 2 = nI t.e → (t.k = 5 → τ.1 2 8 = nI t.v) → ∀ v : Int32, v = nI t.k → Q v τ := by
    intro τ t f ht x1 x2 x3 x4 v hv
    have h := tk_ok ht
    obtain ⟨e1, e2, e3, e4⟩ := ht.uq h
    rw [hv, e2]
    exact hq τ f h (by rw [← e1]; exact x1) (by rw [← e2]; exact x2) (by rw [← e3]; exact x3) (fun z => by rw [← e4 (by rw [e2]; exact z)]; exact x4 (by rw [e2]; exact z))
  have hb := hX.b s
  unfold wp_X1_partToken
  rw [h2]
  refine letterAt_ok hX (by omega) (i2_eq (fun c => ?_) (fun c => ?_))
  · refine partWord_ok hX h2 (by omega) (fun υ e K fu hru hK u2 => ?_)
    have k4 := hK.k4
    exact done υ (s, K, 0, e) fu ⟨hr, Or.inr (Or.inl ⟨hs, c, hru, hK⟩)⟩ rfl (by show K ≠ 7; omega) u2 (fun w => by have w : K = 5 := w; omega) _ rfl
  · refine digitAt_ok hX (by omega) (i2_eq (fun d => ?_) (fun d => ?_))
    · refine partNumber_ok hX h2 hs (fun υ e fu hru u2 u5 => ?_)
      have k5 := nkd_2 (Bt T tx) s e
      exact done υ (s, nkd (Bt T tx) s e, cvn (Bt T tx) s (e - s), e) fu ⟨hr, Or.inr (Or.inr (Or.inl ⟨hs, d, hru, rfl, rfl⟩))⟩ rfl (by show nkd (Bt T tx) s e ≠ 7; omega) u2 (fun _ => u5) _ rfl
    · rw [h2, na1]
      have f1 : FR σ (sI σ 2 2 (nI (s + 1))) := FR.rf.s (by omega) _
      refine byteAt_ok (hX.fr f1) (by omega) ?_
      rw [if_pos hs, show (59 : Int32) = nI 59 from rfl, pn_eq (by omega) (by omega)]
      have out : ∀ v : Nat, v = (if Bt T tx s = 59 then 6 else 0) → Q (nI v) (sI σ 2 2 (nI (s + 1))) := by
        intro v hv
        have v6 : v = 6 ∨ v = 0 := by
          by_cases y : Bt T tx s = 59
          · rw [if_pos y] at hv; exact Or.inl hv
          · rw [if_neg y] at hv; exact Or.inr hv
        exact done _ (s, v, 0, s + 1) f1 ⟨hr, Or.inr (Or.inr (Or.inr ⟨hs, c, d, rfl, hv⟩))⟩ rfl (by show v ≠ 7; omega) (by rw [sI_1, if_pos ⟨rfl, rfl⟩]) (fun w => by have w : v = 5 := w; omega) _ rfl
      exact ⟨fun w => out 6 (by rw [if_pos w]), fun w => out 0 (by rw [if_neg w])⟩
end RX
/-! all tokens, one behind the other -/
abbrev TkF : Type := Nat → Tk
def psn (k : TkF) : Nat → Nat
  | 0 => 0
  | j + 1 => (k (psn k j)).e
def TKd (T : Nat) (tx : Nat → Nat) (n : Nat) (σ : St) : Prop := (n ≤ T ∧ T ≤ 300 ∧ σ.1 2 1 = nI T ∧ σ.1 2 6 = nI n) ∧ (∀ j, j < n → psn (tk T (Bt T tx)) j ≤ T ∧ Tok T (Bt T tx) (psn (tk T (Bt T tx)) j) (tk T (Bt T tx) (psn (tk T (Bt T tx)) j)) ∧ (tk T (Bt T tx) (psn (tk T (Bt T tx)) j)).k ≠ 7 ∧ σ.1 100 j = nI (tk T (Bt T tx) (psn (tk T (Bt T tx)) j)).k ∧ σ.1 101 j = nI (tk T (Bt T tx) (psn (tk T (Bt T tx)) j)).s ∧ ((tk T (Bt T tx) (psn (tk T (Bt T tx)) j)).k = 5 → σ.1 74 j = nI (tk T (Bt T tx) (psn (tk T (Bt T tx)) j)).v)) ∧ psn (tk T (Bt T tx)) n ≤ T ∧ Tok T (Bt T tx) (psn (tk T (Bt T tx)) n) (tk T (Bt T tx) (psn (tk T (Bt T tx)) n)) ∧ (tk T (Bt T tx) (psn (tk T (Bt T tx)) n)).k = 7
def FP (σ τ : St) : Prop := (∀ k i, ¬ (k = 2 ∧ (i = 2 ∨ i = 6 ∨ i = 8)) → ¬ (k = 74 ∨ k = 100 ∨ k = 101) → τ.1 k i = σ.1 k i) ∧ τ.2 = σ.2
theorem FP.rf {σ : St} : FP σ σ := ⟨fun _ _ _ _ => rfl, rfl⟩
theorem FP.tr {σ τ υ : St} (a : FP σ τ) (b : FP τ υ) : FP σ υ := ⟨fun k i n m => (b.1 k i n m).trans (a.1 k i n m), b.2.trans a.2⟩
theorem FR.p {σ τ : St} (a : FR σ τ) : FP σ τ := ⟨fun k i n _ => a.1 k i (by omega), a.2⟩
theorem FP.s {σ τ : St} (a : FP σ τ) {k i : Nat} (hi : (k = 2 ∧ (i = 2 ∨ i = 6 ∨ i = 8)) ∨ (k = 74 ∨ k = 100 ∨ k = 101)) (v : Int32) : FP σ (sI τ k i v) := ⟨fun x j n m => by rw [sI_1, if_neg (by omega)]; exact a.1 x j n m, a.2⟩
theorem FP.cor {σ τ : St} (a : FP σ τ) : Cor σ τ := ⟨fun k i n => a.1 k i (fun z => n (by unfold Scr; omega)) (fun z => n (by unfold Scr; omega)), by rw [a.2], by rw [a.2]⟩
theorem TXc.fp {T : Nat} {tx : Nat → Nat} {σ τ : St} (h : TXc T tx σ) (f : FP σ τ) : TXc T tx τ := by
  obtain ⟨h1, h2, h3, h4⟩ := h
  exact ⟨h1, by rw [f.1 _ _ (by omega) (by omega)]; exact h2, by rw [f.1 _ _ (by omega) (by omega)]; exact h3, fun j hj => by rw [f.1 _ _ (by omega) (by omega)]; exact h4 j hj⟩
section RP
variable {σ τ : St} {T : Nat} {tx : Nat → Nat}
theorem part_ok {Q : St → Prop} (hX : TXc T tx σ) (hq : ∀ τ n, FP σ τ → TKd T tx n τ → Q τ) : wp_X1_part Q σ := by
  have hT := hX.1
  unfold wp_X1_part
  refine pk_loop (fun n i τ => wp_X1_part_l10 Q n τ) (fun i τ => ∃ q m, FP σ τ ∧ i ≤ q ∧ q ≤ T ∧ m ≤ q ∧ τ.1 2 2 = nI q ∧ τ.1 2 6 = nI m ∧ psn (tk T (Bt T tx)) m ≤ q ∧ (∀ j, psn (tk T (Bt T tx)) m ≤ j → j < q → blaP (Bt T tx j)) ∧ (∀ j, j < m → psn (tk T (Bt T tx)) j ≤ T ∧ Tok T (Bt T tx) (psn (tk T (Bt T tx)) j) (tk T (Bt T tx) (psn (tk T (Bt T tx)) j)) ∧ (tk T (Bt T tx) (psn (tk T (Bt T tx)) j)).k ≠ 7 ∧ τ.1 100 j = nI (tk T (Bt T tx) (psn (tk T (Bt T tx)) j)).k ∧ τ.1 101 j = nI (tk T (Bt T tx) (psn (tk T (Bt T tx)) j)).s ∧ ((tk T (Bt T tx) (psn (tk T (Bt T tx)) j)).k = 5 → τ.1 74 j = nI (tk T (Bt T tx) (psn (tk T (Bt T tx)) j)).v))) (T + 1) 0 (sI (sI σ 2 6 (0 : Int32)) 2 2 (0 : Int32)) (by omega) ⟨0, 0, (FP.rf.s (by omega) _).s (by omega) _, by omega, by omega, by omega, by rw [sI_1, if_pos ⟨rfl, rfl⟩]; rfl, by rw [sI_1, if_neg (by omega), sI_1, if_pos ⟨rfl, rfl⟩]; rfl, Nat.le_refl _, fun j a b => by omega, fun j h => by omega⟩ (fun n τ hτ => ?_) (fun n i τ hi hτ hk => ?_)
  · obtain ⟨q, m, t1, t2, t3, -⟩ := hτ
    omega
  · show wp_X1_part_b10 _ _ _
    unfold wp_X1_part_b10
    obtain ⟨q, m, t1, t2, t3, t4, t5, t6, t7, t8, t9⟩ := hτ
    have hXt := hX.fp t1
    rw [hXt.2.2.1, t5, t6, pn_le (by omega) (by omega), show (300 : Int32) = nI 300 from rfl, pn_le (by omega) (by omega)]
    refine ⟨fun z => ?_, fun z => ⟨fun z2 => by omega, fun _ => byteAt_ok hXt (by omega) ?_⟩⟩
    · have eq : q = T := by omega
      have hend : Tok T (Bt T tx) (psn (tk T (Bt T tx)) m) (T, 7, 0, T) := ⟨⟨by show psn (tk T (Bt T tx)) m ≤ T; omega, fun j a b => t8 j a (by have b : j < T := b; omega), by show ¬ blaP (Bt T tx T); rw [Bt_T (Nat.le_refl _)]; decide⟩, Or.inl ⟨Nat.le_refl _, rfl, rfl⟩⟩
      have h := tk_ok hend
      have e2 := (hend.uq h).2.1
      exact hq τ m t1 ⟨⟨by omega, hT, hXt.2.2.1, t6⟩, t9, by omega, h, e2.symm⟩
    · have hb := hX.b q
      rw [if_pos (by omega), show (32 : Int32) = nI 32 from rfl, pn_eq (by omega) (by omega), t5, t6, na1 q]
      refine ⟨fun c => hk _ ⟨q + 1, m, t1.s (by omega) _, by omega, by omega, by omega, by rw [sI_1, if_pos ⟨rfl, rfl⟩], by rw [sI_1, if_neg (by omega)]; exact t6, by omega, fun j a b => ?_, fun j hj => ?_⟩, fun c => ?_⟩
      · by_cases y : j = q
        · rw [y]; exact c
        · exact t8 j a (by omega)
      · rw [sI_1, if_neg (by omega), sI_1, if_neg (by omega), sI_1, if_neg (by omega)]
        exact t9 j hj
      · rw [pn_in (a := m) (n := 300) (by omega) (by omega), pn_cl (show m < 2 ^ 31 by omega)]
        refine ⟨by omega, ?_⟩
        have eA6 : (sI τ 101 m (nI q)).1 2 6 = nI m := by rw [sI_1, if_neg (by omega)]; exact t6
        have eA2 : (sI τ 101 m (nI q)).1 2 2 = nI q := by rw [sI_1, if_neg (by omega)]; exact t5
        have rA : ∀ k j, ¬ (k = 101 ∧ j = m) → (sI τ 101 m (nI q)).1 k j = τ.1 k j := fun k j n => by rw [sI_1, if_neg n]
        have rA1 : (sI τ 101 m (nI q)).1 101 m = nI q := by rw [sI_1, if_pos ⟨rfl, rfl⟩]
        have fA : FP σ (sI τ 101 m (nI q)) := t1.s (by omega) _
        rw [eA6, pn_cl (show m < 2 ^ 31 by omega)]
        generalize sI τ 101 m (nI q) = A at eA6 eA2 rA rA1 fA ⊢
        refine partToken_ok (p := psn (tk T (Bt T tx)) m) (hX.fp fA) eA2 (by omega) ⟨t7, t8, c⟩ (fun υ f ht hs hk7 u2 u8 => ?_)
        have hbd := ht.b (by omega)
        obtain ⟨z1, z2, z3, z4, z5, z6⟩ := hbd
        have z4 := z4 hk7
        have hx : Tok T (Bt T tx) q (tk T (Bt T tx) (psn (tk T (Bt T tx)) m)) := ⟨⟨by omega, fun j a b => by omega, ht.1.2.2⟩, ht.2⟩
        have z9 := (hx.b (by omega)).2.2.2.1 hk7
        generalize hB : sI υ 100 m (nI (tk T (Bt T tx) (psn (tk T (Bt T tx)) m)).k) = B
        have rB : ∀ k j, ¬ (k = 100 ∧ j = m) → B.1 k j = υ.1 k j := fun k j n => by rw [← hB, sI_1, if_neg n]
        have rB1 : B.1 100 m = nI (tk T (Bt T tx) (psn (tk T (Bt T tx)) m)).k := by rw [← hB, sI_1, if_pos ⟨rfl, rfl⟩]
        have fB : FP σ B := by rw [← hB]; exact (fA.tr f.p).s (by omega) _
        have e6 : B.1 2 6 = nI m := by rw [rB _ _ (by omega), f.1 _ _ (by omega)]; exact eA6
        rw [e6, pn_in (a := m) (n := 300) (by omega) (by omega), pn_cl (show m < 2 ^ 31 by omega)]
        generalize hC : sI B 74 m (B.1 2 8) = C
        have rC : ∀ k j, ¬ (k = 74 ∧ j = m) → C.1 k j = B.1 k j := fun k j n => by rw [← hC, sI_1, if_neg n]
        have rC1 : C.1 74 m = υ.1 2 8 := by rw [← hC, sI_1, if_pos ⟨rfl, rfl⟩, rB _ _ (by omega)]
        have fC : FP σ C := by rw [← hC]; exact fB.s (by omega) _
        have e6' : C.1 2 6 = nI m := by rw [rC _ _ (by omega)]; exact e6
        rw [e6', na1 m]
        have rd : ∀ k j, ¬ (k = 2 ∧ j = 6) → (sI C 2 6 (nI (m + 1))).1 k j = C.1 k j := fun k j n => by rw [sI_1, if_neg n]
        refine ⟨by omega, by omega, hk _ ⟨(tk T (Bt T tx) (psn (tk T (Bt T tx)) m)).e, m + 1, fC.s (by omega) _, by omega, z3, by omega, ?_, by rw [sI_1, if_pos ⟨rfl, rfl⟩], Nat.le_refl _, fun j a b => ?_, fun j hj => ?_⟩⟩
        · rw [rd _ _ (by omega), rC _ _ (by omega), rB _ _ (by omega)]; exact u2
        · have a : (tk T (Bt T tx) (psn (tk T (Bt T tx)) m)).e ≤ j := a
          omega
        · rw [rd _ _ (by omega), rd _ _ (by omega), rd _ _ (by omega)]
          by_cases y : j = m
          · rw [y, rC1, rC 100 _ (by omega), rC 101 _ (by omega), rB1, rB 101 _ (by omega), f.1 101 _ (by omega), rA1, hs]
            exact ⟨by omega, ht, hk7, rfl, rfl, u8⟩
          · rw [rC _ _ (by omega), rC _ _ (by omega), rC _ _ (by omega), rB _ _ (by omega), rB _ _ (by omega), rB _ _ (by omega), f.1 _ _ (by omega), f.1 _ _ (by omega), f.1 _ _ (by omega), rA _ _ (by omega), rA _ _ (by omega), rA _ _ (by omega)]
            exact t9 j (by omega)
end RP
