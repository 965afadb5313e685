/-! THE PURE PART. What the class's cells and the reference's have in common, whatever is called. -/
/-- scratch: cells that say nothing from one call to the next -/
def Scr (k i : Nat) : Prop := k = 2 ∨ (100 ≤ k ∧ k ≤ 102) ∨ (9 ≤ k ∧ k ≤ 13) ∨ k = 27 ∨ (43 ≤ k ∧ k ≤ 74) ∨ (k = 75 ∧ i ≠ 2) ∨ ((k = 77 ∨ k = 78 ∨ k = 79 ∨ k = 84) ∧ 1 ≤ i) ∨ ((k = 80 ∨ k = 81 ∨ k = 82) ∧ 3 ≤ i) ∨ (k = 83 ∧ 16 ≤ i) ∨ (89 ≤ k ∧ k ≤ 93)
def Cor (σ τ : St) : Prop := (∀ k i, ¬ Scr k i → τ.1 k i = σ.1 k i) ∧ τ.2 0 14 = σ.2 0 14 ∧ τ.2 75 0 = σ.2 75 0
theorem Cor.rf {σ : St} : Cor σ σ := ⟨fun _ _ _ => rfl, rfl, rfl⟩
theorem Cor.tr {σ τ υ : St} (h : Cor σ τ) (g : Cor τ υ) : Cor σ υ := ⟨fun k i n => (g.1 k i n).trans (h.1 k i n), g.2.1.trans h.2.1, g.2.2.trans h.2.2⟩
theorem sI_1 (σ : St) (k i : Nat) (v : Int32) (a b : Nat) : (sI σ k i v).1 a b = if a = k ∧ b = i then v else σ.1 a b := by
  unfold sI sR
  by_cases h : a = k
  · subst h
    by_cases h2 : b = i <;> simp [upd, h2]
  · simp [h]
theorem sI_2 (σ : St) (k i : Nat) (v : Int32) : (sI σ k i v).2 = σ.2 := rfl
theorem sJ_1 (σ : St) (k i : Nat) (v : Int64) : (sJ σ k i v).1 = σ.1 := rfl
theorem sJ_2 (σ : St) (k i : Nat) (v : Int64) (a b : Nat) : (sJ σ k i v).2 a b = if a = k ∧ b = i then v else σ.2 a b := by
  unfold sJ sL
  by_cases h : a = k
  · subst h
    by_cases h2 : b = i <;> simp [vp_updL, h2]
  · simp [h]
theorem sR_1 (σ : St) (k : Nat) (f : Nat → Int32) (a : Nat) : (sR σ k f).1 a = if a = k then f else σ.1 a := rfl
theorem sR_2 (σ : St) (k : Nat) (f : Nat → Int32) : (sR σ k f).2 = σ.2 := rfl
theorem sL_1 (σ : St) (k : Nat) (f : Nat → Int64) : (sL σ k f).1 = σ.1 := rfl
theorem sL_2 (σ : St) (k : Nat) (f : Nat → Int64) (a : Nat) : (sL σ k f).2 a = if a = k then f else σ.2 a := rfl
theorem Cor.sI {σ τ : St} (h : Cor σ τ) {k i : Nat} (hs : Scr k i) (v : Int32) : Cor σ (sI τ k i v) := by
  refine ⟨fun a b n => ?_, h.2.1, h.2.2⟩
  rw [sI_1, if_neg (fun e => n (by rw [e.1, e.2]; exact hs))]
  exact h.1 a b n
theorem Cor.sR {σ τ : St} (h : Cor σ τ) {k : Nat} (hs : ∀ i, Scr k i) (f : Nat → Int32) : Cor σ (sR τ k f) := by
  refine ⟨fun a b n => ?_, h.2.1, h.2.2⟩
  rw [sR_1, if_neg (fun e => n (by rw [e]; exact hs b))]
  exact h.1 a b n
theorem Cor.sJ {σ τ : St} (h : Cor σ τ) {k i : Nat} (hs : k ≠ 0 ∧ k ≠ 75) (v : Int64) : Cor σ (sJ τ k i v) := by
  refine ⟨fun a b n => h.1 a b n, ?_, ?_⟩
  · rw [sJ_2, if_neg (fun e => hs.1 e.1.symm)]; exact h.2.1
  · rw [sJ_2, if_neg (fun e => hs.2 e.1.symm)]; exact h.2.2
theorem Cor.sL {σ τ : St} (h : Cor σ τ) {k : Nat} (hs : k ≠ 0 ∧ k ≠ 75) (f : Nat → Int64) : Cor σ (sL τ k f) := by
  refine ⟨fun a b n => h.1 a b n, ?_, ?_⟩
  · rw [sL_2, if_neg (fun e => hs.1 e.symm)]; exact h.2.1
  · rw [sL_2, if_neg (fun e => hs.2 e.symm)]; exact h.2.2
/-- the wall, the hearths, the tunes, as numbers -/
abbrev Geo : Type := (Nat × Nat × Nat) × (Nat → Nat) × Nat × (Nat → Nat) × (Nat → Nat) × (Nat → Nat) × (Nat → Nat)
abbrev Geo.gW (g : Geo) : Nat := g.1.1
abbrev Geo.gH (g : Geo) : Nat := g.1.2.1
abbrev Geo.gN (g : Geo) : Nat := g.1.2.2
abbrev Geo.bar (g : Geo) : Nat → Nat := g.2.1
abbrev Geo.cold (g : Geo) : Nat := g.2.2.1
abbrev Geo.co (g : Geo) : Nat → Nat := g.2.2.2.1
abbrev Geo.cl (g : Geo) : Nat → Nat := g.2.2.2.2.1
abbrev Geo.ne (g : Geo) : Nat → Nat := g.2.2.2.2.2.1
abbrev Geo.tu (g : Geo) : Nat → Nat := g.2.2.2.2.2.2
def IDim (g : Geo) (σ : St) : Prop := (2 ≤ g.gW ∧ g.gW ≤ 10 ∧ 2 ≤ g.gH ∧ g.gH ≤ 16 ∧ g.gN ≤ 3) ∧ σ.1 4 0 = nI g.gW ∧ σ.1 4 1 = nI g.gH ∧ σ.1 4 3 = nI g.gN ∧ σ.1 77 0 = nI g.gW ∧ σ.1 78 0 = nI g.gH ∧ σ.1 79 0 = nI g.gN
def IBar (g : Geo) (σ : St) : Prop := (∀ r, r < 16 → σ.1 5 r = nI (g.bar r) ∧ σ.1 83 r = nI (g.bar r) ∧ g.bar r < 2 ^ g.gW) ∧ σ.1 4 2 = nI g.cold ∧ σ.1 84 0 = nI g.cold ∧ g.cold < 2 ^ g.gW
def IHea (g : Geo) (σ : St) : Prop := ∀ h, h < g.gN → (σ.1 6 h = nI (g.co h) ∧ σ.1 80 h = nI (g.co h) ∧ g.co h + 2 ≤ g.gH) ∧ (σ.1 7 h = nI (g.cl h) ∧ σ.1 81 h = nI (g.cl h) ∧ g.cl h < g.gW) ∧ σ.1 8 h = nI (g.ne h) ∧ σ.1 82 h = nI (g.ne h) ∧ g.ne h ≤ 99
def tuL (j : Nat) : Nat := [0, 0, 0, 1, 0, 0].getD j 0
def tuM (j : Nat) : Nat := [3, 20, 20, 20, 9, 99].getD j 0
def ITun (g : Geo) (σ : St) : Prop := ∀ j, j < 6 → σ.1 14 j = nI (g.tu j) ∧ σ.1 85 j = nI (g.tu j) ∧ tuL j ≤ g.tu j ∧ g.tu j ≤ tuM j
def IWin (σ : St) : Prop := ∀ q, q < 4 → ∀ c, c < 10 → σ.1 86 (10 * q + c) = σ.1 (16 + q) c ∧ -9 ≤ (σ.1 (16 + q) c).toInt ∧ (σ.1 (16 + q) c).toInt ≤ 9
/-- a plan: the class's rows from a on, the reference's from m on -/
def IPlan (g : Geo) (a m : Nat) (σ : St) : Prop := ∀ h, h < g.gN → (∀ r, r < 16 → σ.1 95 (m + 16 * h + r) = σ.1 (a + h) r) ∧ σ.1 (a + h) (g.co h) = nI (g.cl h) ∧ ∀ r, g.co h < r → r < g.gH → (σ.1 (a + h) r - σ.1 (a + h) (r - 1) = -1 ∨ σ.1 (a + h) r - σ.1 (a + h) (r - 1) = 0 ∨ σ.1 (a + h) r - σ.1 (a + h) (r - 1) = 1)
/-- marks: the class's object k, the reference's i-th -/
def IMark (g : Geo) (k i : Nat) (σ : St) : Prop := ∃ M, M ≤ 6 ∧ σ.1 k 3 = nI M ∧ σ.1 96 i = nI M ∧ ∀ j, j < M → ∃ r c, r < g.gH ∧ c < g.gW ∧ σ.1 (k + 5) j = nI r ∧ σ.1 97 (6 * i + j) = nI r ∧ σ.1 (k + 6) j = nI c ∧ σ.1 98 (6 * i + j) = nI c
def imK (i : Nat) : Nat := if i = 0 then 28 else 35
def IImg (g : Geo) (σ : St) : Prop := ∀ i, i < 2 → (σ.1 42 i = 0 ∨ σ.1 42 i = 1) ∧ σ.1 99 i = σ.1 42 i ∧ (σ.1 42 i = 1 → IPlan g (imK i + 2) (48 * (i + 1)) σ ∧ IMark g (imK i) (i + 1) σ)
def ITxt (σ : St) : Prop := ∃ T, T ≤ 300 ∧ σ.1 0 1 = nI T ∧ σ.1 75 2 = nI T ∧ ∀ j, j < T → σ.1 1 j = σ.1 76 j
def IRes (σ : St) : Prop := σ.2 0 14 = σ.2 75 0 ∧ σ.1 94 0 = 1 ∧ σ.1 94 1 = 10 ∧ σ.1 94 2 = 100
def Inv (g : Geo) (σ : St) : Prop := IDim g σ ∧ IBar g σ ∧ IHea g σ ∧ ITun g σ ∧ IWin σ ∧ IPlan g 22 0 σ ∧ IMark g 20 0 σ ∧ IImg g σ ∧ ITxt σ ∧ IRes σ
theorem IPlan.cor {g : Geo} {a m : Nat} {σ τ : St} (ha : a = 22 ∨ a = 30 ∨ a = 37) (hN : g.gN ≤ 3) (h : IPlan g a m σ) (hc : Cor σ τ) : IPlan g a m τ := by
  have e : ∀ h, h < 3 → ∀ r, τ.1 (a + h) r = σ.1 (a + h) r := fun h hh r => hc.1 _ _ (by unfold Scr; omega)
  intro x hx
  obtain ⟨h1, h2, h3⟩ := h x hx
  have e' := e x (by omega)
  refine ⟨fun r hr => by rw [hc.1 95 _ (by unfold Scr; omega), e' r]; exact h1 r hr, by rw [e']; exact h2, fun r h4 h5 => by rw [e', e']; exact h3 r h4 h5⟩
theorem IMark.cor {g : Geo} {k i : Nat} {σ τ : St} (hk : k = 20 ∨ k = 28 ∨ k = 35) (h : IMark g k i σ) (hc : Cor σ τ) : IMark g k i τ := by
  obtain ⟨M, h1, h2, h3, h4⟩ := h
  refine ⟨M, h1, by rw [hc.1 k 3 (by unfold Scr; omega)]; exact h2, by rw [hc.1 96 i (by unfold Scr; omega)]; exact h3, fun j hj => ?_⟩
  obtain ⟨r, c, g1, g2, g3, g4, g5, g6⟩ := h4 j hj
  exact ⟨r, c, g1, g2, by rw [hc.1 (k + 5) j (by unfold Scr; omega)]; exact g3, by rw [hc.1 97 _ (by unfold Scr; omega)]; exact g4, by rw [hc.1 (k + 6) j (by unfold Scr; omega)]; exact g5, by rw [hc.1 98 _ (by unfold Scr; omega)]; exact g6⟩
theorem imK_or (i : Nat) : imK i = 28 ∨ imK i = 35 := by
  unfold imK
  by_cases h : i = 0 <;> simp [h]
theorem Inv.cor {g : Geo} {σ τ : St} (h : Inv g σ) (hc : Cor σ τ) : Inv g τ := by
  obtain ⟨⟨hd, d1, d2, d3, d4, d5, d6⟩, ⟨b1, b2, b3, b4⟩, hh, ht, hw, hp, hm, hi, hx, hr⟩ := h
  have c := hc.1
  refine ⟨⟨hd, ?_, ?_, ?_, ?_, ?_, ?_⟩, ⟨fun r hr => ?_, ?_, ?_, b4⟩, fun x hx => ?_, fun j hj => ?_, fun q hq x hx => ?_, hp.cor (Or.inl rfl) hd.2.2.2.2 hc, hm.cor (Or.inl rfl) hc, fun i h2 => ?_, ?_, ?_⟩
  · rw [c 4 0 (by unfold Scr; omega)]; exact d1
  · rw [c 4 1 (by unfold Scr; omega)]; exact d2
  · rw [c 4 3 (by unfold Scr; omega)]; exact d3
  · rw [c 77 0 (by unfold Scr; omega)]; exact d4
  · rw [c 78 0 (by unfold Scr; omega)]; exact d5
  · rw [c 79 0 (by unfold Scr; omega)]; exact d6
  · rw [c 5 r (by unfold Scr; omega), c 83 r (by unfold Scr; omega)]; exact b1 r hr
  · rw [c 4 2 (by unfold Scr; omega)]; exact b2
  · rw [c 84 0 (by unfold Scr; omega)]; exact b3
  · have hx3 : x < 3 := by omega
    rw [c 6 x (by unfold Scr; omega), c 80 x (by unfold Scr; omega), c 7 x (by unfold Scr; omega), c 81 x (by unfold Scr; omega), c 8 x (by unfold Scr; omega), c 82 x (by unfold Scr; omega)]
    exact hh x hx
  · rw [c 14 j (by unfold Scr; omega), c 85 j (by unfold Scr; omega)]; exact ht j hj
  · rw [c 86 _ (by unfold Scr; omega), c (16 + q) x (by unfold Scr; omega)]; exact hw q hq x hx
  · obtain ⟨i1, i2, i3⟩ := hi i h2
    have hk := imK_or i
    rw [c 42 i (by unfold Scr; omega), c 99 i (by unfold Scr; omega)]
    exact ⟨i1, i2, fun h => ⟨(i3 h).1.cor (by omega) hd.2.2.2.2 hc, (i3 h).2.cor (by omega) hc⟩⟩
  · obtain ⟨T, t1, t2, t3, t4⟩ := hx
    exact ⟨T, t1, by rw [c 0 1 (by unfold Scr; omega)]; exact t2, by rw [c 75 2 (by unfold Scr; omega)]; exact t3, fun j hj => by rw [c 1 j (by unfold Scr; omega), c 76 j (by unfold Scr; omega)]; exact t4 j hj⟩
  · obtain ⟨r1, r2, r3, r4⟩ := hr
    exact ⟨by rw [hc.2.1, hc.2.2]; exact r1, by rw [c 94 0 (by unfold Scr; omega)]; exact r2, by rw [c 94 1 (by unfold Scr; omega)]; exact r3, by rw [c 94 2 (by unfold Scr; omega)]; exact r4⟩
/-- numbers -/
theorem pn_le {a b : Nat} (ha : a < 2 ^ 31) (hb : b < 2 ^ 31) : (nI a ≤ nI b) = (a ≤ b) := propext (nI_leI ha hb)
theorem pn_lt {a b : Nat} (ha : a < 2 ^ 31) (hb : b < 2 ^ 31) : (nI a < nI b) = (a < b) := propext (nI_ltI ha hb)
theorem pn_eq {a b : Nat} (ha : a < 2 ^ 31) (hb : b < 2 ^ 31) : (nI a = nI b) = (a = b) := propext (nI_eq ha hb)
theorem pn_in {a n : Nat} (ha : a < 2 ^ 31) (hn : n < 2 ^ 31) : vp_in (nI a) n = (a < n) := by
  apply propext
  constructor
  · intro h
    have := vin_lt h
    rwa [nI_clamp ha] at this
  · intro h; exact vp_in_nI h hn
theorem pn_cl {a : Nat} (ha : a < 2 ^ 31) : (nI a).toNatClampNeg = a := nI_clamp ha
theorem pn_sub {a b : Nat} (h : b ≤ a) : nI a - nI b = nI (a - b) := pk_sub h
theorem brI {c A B : Prop} (a : c → A) (b : ¬ c → B) : (c → A) ∧ (¬ c → B) := ⟨a, b⟩
def bI (c : Prop) [Decidable c] : Int32 := if c then 1 else 0
theorem bI_0 {c : Prop} [Decidable c] : (bI c = 0) = ¬ c := by
  unfold bI
  by_cases h : c <;> simp [h]
theorem bI_t {c : Prop} [Decidable c] (h : c) : bI c = 1 := if_pos h
theorem bI_f {c : Prop} [Decidable c] (h : ¬ c) : bI c = 0 := if_neg h
theorem bI_01 {c : Prop} [Decidable c] : bI c = 0 ∨ bI c = 1 := by
  unfold bI
  by_cases h : c <;> simp [h]
/-- a call's two answers are one -/
def Eqv (K : St → Prop) (F : Prop) : Int32 → Int32 → St → Prop := fun r r2 σ => (r = r2 → K σ) ∧ (¬ r = r2 → F)
theorem eq_k {r r2 : Int32} {K F : Prop} (e : r = r2) (h : K) : (r = r2 → K) ∧ (¬ r = r2 → F) := ⟨fun _ => h, fun n => absurd e n⟩
theorem tI_lt (a b : Int32) : (a < b) = (a.toInt < b.toInt) := propext Int32.lt_iff_toInt_lt
theorem tI_le (a b : Int32) : (a ≤ b) = (a.toInt ≤ b.toInt) := propext Int32.le_iff_toInt_le
theorem tI_eq (a b : Int32) : (a = b) = (a.toInt = b.toInt) := propext Int32.toInt_inj.symm
theorem tI_n {n : Nat} (h : n < 2 ^ 31) : (nI n).toInt = (n : Int) := nI_toInt h
