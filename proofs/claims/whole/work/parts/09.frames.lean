/-! which cells each part of the invariant speaks of -/
def RDim (k i : Nat) : Prop := (k = 4 ∧ (i = 0 ∨ i = 1 ∨ i = 3)) ∨ ((k = 77 ∨ k = 78 ∨ k = 79) ∧ i = 0)
def RBar (k i : Nat) : Prop := ((k = 5 ∨ k = 83) ∧ i < 16) ∨ (k = 4 ∧ i = 2) ∨ (k = 84 ∧ i = 0)
def RHea (k i : Nat) : Prop := ((k = 6 ∨ k = 7 ∨ k = 8) ∧ i < 3) ∨ ((k = 80 ∨ k = 81 ∨ k = 82) ∧ i < 3)
def RTun (k i : Nat) : Prop := (k = 14 ∨ k = 85) ∧ i < 6
def RWin (k i : Nat) : Prop := ((16 ≤ k ∧ k ≤ 19) ∧ i < 10) ∨ (k = 86 ∧ i < 40)
def RPlan (a m k i : Nat) : Prop := (a ≤ k ∧ k < a + 3) ∨ (k = 95 ∧ m ≤ i ∧ i < m + 48)
def RMark (a m k i : Nat) : Prop := (k = a ∧ i = 3) ∨ ((k = a + 5 ∨ k = a + 6) ∧ i < 6) ∨ (k = 96 ∧ i = m) ∨ ((k = 97 ∨ k = 98) ∧ 6 * m ≤ i ∧ i < 6 * m + 6)
def RImg (k i : Nat) : Prop := ((k = 42 ∨ k = 99) ∧ i < 2) ∨ RPlan 30 48 k i ∨ RPlan 37 96 k i ∨ RMark 28 1 k i ∨ RMark 35 2 k i
def RTxt (k i : Nat) : Prop := (k = 0 ∧ i = 1) ∨ k = 1 ∨ (k = 75 ∧ i = 2) ∨ k = 76
def Off (S : Nat → Nat → Prop) (σ τ : St) : Prop := ∀ k i, ¬ S k i → τ.1 k i = σ.1 k i
section FR
variable {g : Geo} {σ τ : St} {S : Nat → Nat → Prop}
theorem IDim.fr (h : IDim g σ) (hS : Off S σ τ) (hn : ∀ k i, RDim k i → ¬ S k i) : IDim g τ := by
  have c : ∀ k i, RDim k i → τ.1 k i = σ.1 k i := fun k i r => hS k i (hn k i r)
  obtain ⟨hd, d1, d2, d3, d4, d5, d6⟩ := h
  exact ⟨hd, by rw [c 4 0 (by unfold RDim; omega)]; exact d1, by rw [c 4 1 (by unfold RDim; omega)]; exact d2, by rw [c 4 3 (by unfold RDim; omega)]; exact d3, by rw [c 77 0 (by unfold RDim; omega)]; exact d4, by rw [c 78 0 (by unfold RDim; omega)]; exact d5, by rw [c 79 0 (by unfold RDim; omega)]; exact d6⟩
theorem IBar.fr (h : IBar g σ) (hS : Off S σ τ) (hn : ∀ k i, RBar k i → ¬ S k i) : IBar g τ := by
  have c : ∀ k i, RBar k i → τ.1 k i = σ.1 k i := fun k i r => hS k i (hn k i r)
  obtain ⟨b1, b2, b3, b4⟩ := h
  exact ⟨fun r hr => by rw [c 5 r (by unfold RBar; omega), c 83 r (by unfold RBar; omega)]; exact b1 r hr, by rw [c 4 2 (by unfold RBar; omega)]; exact b2, by rw [c 84 0 (by unfold RBar; omega)]; exact b3, b4⟩
theorem IHea.fr (hN : g.gN ≤ 3) (h : IHea g σ) (hS : Off S σ τ) (hn : ∀ k i, RHea k i → ¬ S k i) : IHea g τ := by
  have c : ∀ k i, RHea k i → τ.1 k i = σ.1 k i := fun k i r => hS k i (hn k i r)
  intro x hx
  rw [c 6 x (by unfold RHea; omega), c 80 x (by unfold RHea; omega), c 7 x (by unfold RHea; omega), c 81 x (by unfold RHea; omega), c 8 x (by unfold RHea; omega), c 82 x (by unfold RHea; omega)]
  exact h x hx
theorem ITun.fr (h : ITun g σ) (hS : Off S σ τ) (hn : ∀ k i, RTun k i → ¬ S k i) : ITun g τ := by
  intro j hj
  rw [hS 14 j (hn _ _ (by unfold RTun; omega)), hS 85 j (hn _ _ (by unfold RTun; omega))]
  exact h j hj
theorem IWin.fr (h : IWin σ) (hS : Off S σ τ) (hn : ∀ k i, RWin k i → ¬ S k i) : IWin τ := by
  intro q hq c hc
  rw [hS 86 _ (hn _ _ (by unfold RWin; omega)), hS (16 + q) c (hn _ _ (by unfold RWin; omega))]
  exact h q hq c hc
theorem IPlan.fr {a m : Nat} (hd : IDim g σ) (hh : IHea g σ) (h : IPlan g a m σ) (hS : Off S σ τ) (hn : ∀ k i, RPlan a m k i → ¬ S k i) : IPlan g a m τ := by
  have hd' := hd.1
  have e : ∀ h, h < 3 → ∀ r, τ.1 (a + h) r = σ.1 (a + h) r := fun h hh r => hS _ _ (hn _ _ (by unfold RPlan; omega))
  intro x hx
  obtain ⟨h1, h2, h3⟩ := h x hx
  have e' := e x (by omega)
  exact ⟨fun r hr => by rw [hS 95 _ (hn _ _ (by unfold RPlan; omega)), e' r]; exact h1 r hr, by rw [e']; exact h2, fun r h4 h5 => by rw [e', e']; exact h3 r h4 h5⟩
theorem IMark.fr {a m : Nat} (h : IMark g a m σ) (hS : Off S σ τ) (hn : ∀ k i, RMark a m k i → ¬ S k i) : IMark g a m τ := by
  obtain ⟨M, h1, h2, h3, h4⟩ := h
  refine ⟨M, h1, by rw [hS a 3 (hn _ _ (by unfold RMark; omega))]; exact h2, by rw [hS 96 m (hn _ _ (by unfold RMark; omega))]; exact h3, fun j hj => ?_⟩
  obtain ⟨r, c, g1, g2, g3, g4, g5, g6⟩ := h4 j hj
  exact ⟨r, c, g1, g2, by rw [hS (a + 5) j (hn _ _ (by unfold RMark; omega))]; exact g3, by rw [hS 97 _ (hn _ _ (by unfold RMark; omega))]; exact g4, by rw [hS (a + 6) j (hn _ _ (by unfold RMark; omega))]; exact g5, by rw [hS 98 _ (hn _ _ (by unfold RMark; omega))]; exact g6⟩
theorem IImg.fr (hd : IDim g σ) (hh : IHea g σ) (h : IImg g σ) (hS : Off S σ τ) (hn : ∀ k i, RImg k i → ¬ S k i) : IImg g τ := by
  intro i hi
  obtain ⟨i1, i2, i3⟩ := h i hi
  rw [hS 42 i (hn _ _ (by unfold RImg; omega)), hS 99 i (hn _ _ (by unfold RImg; omega))]
  refine ⟨i1, i2, fun e => ?_⟩
  have h3 := i3 e
  have : i = 0 ∨ i = 1 := by omega
  rcases this with rfl | rfl
  · exact ⟨h3.1.fr hd hh hS (fun k j r => hn k j (by unfold RImg; exact Or.inr (Or.inl r))), h3.2.fr hS (fun k j r => hn k j (by unfold RImg; exact Or.inr (Or.inr (Or.inr (Or.inl r)))))⟩
  · exact ⟨h3.1.fr hd hh hS (fun k j r => hn k j (by unfold RImg; exact Or.inr (Or.inr (Or.inl r)))), h3.2.fr hS (fun k j r => hn k j (by unfold RImg; exact Or.inr (Or.inr (Or.inr (Or.inr r)))))⟩
theorem ITxt.fr (h : ITxt σ) (hS : Off S σ τ) (hn : ∀ k i, RTxt k i → ¬ S k i) : ITxt τ := by
  obtain ⟨T, t1, t2, t3, t4⟩ := h
  exact ⟨T, t1, by rw [hS 0 1 (hn _ _ (by unfold RTxt; omega))]; exact t2, by rw [hS 75 2 (hn _ _ (by unfold RTxt; omega))]; exact t3, fun j hj => by rw [hS 1 j (hn _ _ (by unfold RTxt; omega)), hS 76 j (hn _ _ (by unfold RTxt; omega))]; exact t4 j hj⟩
theorem IRes.fr (h : IRes σ) (hS : Off S σ τ) (hJ : τ.2 0 14 = τ.2 75 0) (hn : ∀ i, ¬ S 94 i) : IRes τ := by
  obtain ⟨r1, r2, r3, r4⟩ := h
  exact ⟨hJ, by rw [hS 94 0 (hn 0)]; exact r2, by rw [hS 94 1 (hn 1)]; exact r3, by rw [hS 94 2 (hn 2)]; exact r4⟩
end FR
section SETS
variable {g : Geo} {σ τ : St}
theorem Inv.setTxt (h : Inv g σ) (hS : Off RTxt σ τ) (hJ : τ.2 = σ.2) (hn : ITxt τ) : Inv g τ := by
  obtain ⟨h1, h2, h3, h4, h5, h6, h7, h8, h9, h10⟩ := h
  exact ⟨h1.fr hS (by unfold RDim RTxt; omega), h2.fr hS (by unfold RBar RTxt; omega), h3.fr h1.1.2.2.2.2 hS (by unfold RHea RTxt; omega), h4.fr hS (by unfold RTun RTxt; omega), h5.fr hS (by unfold RWin RTxt; omega), h6.fr h1 h3 hS (by unfold RPlan RTxt; omega), h7.fr hS (by unfold RMark RTxt; omega), h8.fr h1 h3 hS (by unfold RImg RPlan RMark RTxt; omega), hn, h10.fr hS (by rw [hJ]; exact h10.1) (by unfold RTxt; omega)⟩
theorem Inv.setTun (h : Inv g σ) {tu : Nat → Nat} (hS : Off RTun σ τ) (hJ : τ.2 = σ.2) (hn : ITun (g.1, g.2.1, g.2.2.1, g.2.2.2.1, g.2.2.2.2.1, g.2.2.2.2.2.1, tu) τ) : Inv (g.1, g.2.1, g.2.2.1, g.2.2.2.1, g.2.2.2.2.1, g.2.2.2.2.2.1, tu) τ := by
  obtain ⟨h1, h2, h3, h4, h5, h6, h7, h8, h9, h10⟩ := h
  exact ⟨h1.fr hS (by unfold RDim RTun; omega), h2.fr hS (by unfold RBar RTun; omega), h3.fr h1.1.2.2.2.2 hS (by unfold RHea RTun; omega), hn, h5.fr hS (by unfold RWin RTun; omega), h6.fr h1 h3 hS (by unfold RPlan RTun; omega), h7.fr hS (by unfold RMark RTun; omega), h8.fr h1 h3 hS (by unfold RImg RPlan RMark RTun; omega), h9.fr hS (by unfold RTxt RTun; omega), h10.fr hS (by rw [hJ]; exact h10.1) (by unfold RTun; omega)⟩
theorem Inv.setWin (h : Inv g σ) (hS : Off RWin σ τ) (hJ : τ.2 = σ.2) (hn : IWin τ) : Inv g τ := by
  obtain ⟨h1, h2, h3, h4, h5, h6, h7, h8, h9, h10⟩ := h
  exact ⟨h1.fr hS (by unfold RDim RWin; omega), h2.fr hS (by unfold RBar RWin; omega), h3.fr h1.1.2.2.2.2 hS (by unfold RHea RWin; omega), h4.fr hS (by unfold RTun RWin; omega), hn, h6.fr h1 h3 hS (by unfold RPlan RWin; omega), h7.fr hS (by unfold RMark RWin; omega), h8.fr h1 h3 hS (by unfold RImg RPlan RMark RWin; omega), h9.fr hS (by unfold RTxt RWin; omega), h10.fr hS (by rw [hJ]; exact h10.1) (by unfold RWin; omega)⟩
theorem Inv.setPlan (h : Inv g σ) (hS : Off (RPlan 22 0) σ τ) (hJ : τ.2 = σ.2) (hn : IPlan g 22 0 τ) : Inv g τ := by
  obtain ⟨h1, h2, h3, h4, h5, h6, h7, h8, h9, h10⟩ := h
  exact ⟨h1.fr hS (by unfold RDim RPlan; omega), h2.fr hS (by unfold RBar RPlan; omega), h3.fr h1.1.2.2.2.2 hS (by unfold RHea RPlan; omega), h4.fr hS (by unfold RTun RPlan; omega), h5.fr hS (by unfold RWin RPlan; omega), hn, h7.fr hS (by unfold RMark RPlan; omega), h8.fr h1 h3 hS (by unfold RImg RPlan RMark; omega), h9.fr hS (by unfold RTxt RPlan; omega), h10.fr hS (by rw [hJ]; exact h10.1) (by unfold RPlan; omega)⟩
theorem Inv.setMark (h : Inv g σ) (hS : Off (RMark 20 0) σ τ) (hJ : τ.2 = σ.2) (hn : IMark g 20 0 τ) : Inv g τ := by
  obtain ⟨h1, h2, h3, h4, h5, h6, h7, h8, h9, h10⟩ := h
  exact ⟨h1.fr hS (by unfold RDim RMark; omega), h2.fr hS (by unfold RBar RMark; omega), h3.fr h1.1.2.2.2.2 hS (by unfold RHea RMark; omega), h4.fr hS (by unfold RTun RMark; omega), h5.fr hS (by unfold RWin RMark; omega), h6.fr h1 h3 hS (by unfold RPlan RMark; omega), hn, h8.fr h1 h3 hS (by unfold RImg RPlan RMark; omega), h9.fr hS (by unfold RTxt RMark; omega), h10.fr hS (by rw [hJ]; exact h10.1) (by unfold RMark; omega)⟩
theorem Inv.setBoth (h : Inv g σ) (hS : Off (fun k i => RPlan 22 0 k i ∨ RMark 20 0 k i) σ τ) (hJ : τ.2 = σ.2) (hn : IPlan g 22 0 τ) (hn2 : IMark g 20 0 τ) : Inv g τ := by
  obtain ⟨h1, h2, h3, h4, h5, h6, h7, h8, h9, h10⟩ := h
  exact ⟨h1.fr hS (by unfold RDim RPlan RMark; omega), h2.fr hS (by unfold RBar RPlan RMark; omega), h3.fr h1.1.2.2.2.2 hS (by unfold RHea RPlan RMark; omega), h4.fr hS (by unfold RTun RPlan RMark; omega), h5.fr hS (by unfold RWin RPlan RMark; omega), hn, hn2, h8.fr h1 h3 hS (by unfold RImg RPlan RMark; omega), h9.fr hS (by unfold RTxt RPlan RMark; omega), h10.fr hS (by rw [hJ]; exact h10.1) (by unfold RPlan RMark; omega)⟩
theorem Inv.setImg (h : Inv g σ) (hS : Off RImg σ τ) (hJ : τ.2 = σ.2) (hn : IImg g τ) : Inv g τ := by
  obtain ⟨h1, h2, h3, h4, h5, h6, h7, h8, h9, h10⟩ := h
  exact ⟨h1.fr hS (by unfold RDim RImg RPlan RMark; omega), h2.fr hS (by unfold RBar RImg RPlan RMark; omega), h3.fr h1.1.2.2.2.2 hS (by unfold RHea RImg RPlan RMark; omega), h4.fr hS (by unfold RTun RImg RPlan RMark; omega), h5.fr hS (by unfold RWin RImg RPlan RMark; omega), h6.fr h1 h3 hS (by unfold RImg RPlan RMark; omega), h7.fr hS (by unfold RImg RPlan RMark; omega), hn, h9.fr hS (by unfold RTxt RImg RPlan RMark; omega), h10.fr hS (by rw [hJ]; exact h10.1) (by unfold RImg RPlan RMark; omega)⟩
theorem Inv.setRes (h : Inv g σ) (hS : τ.1 = σ.1) (hJ : τ.2 0 14 = τ.2 75 0) : Inv g τ := by
  obtain ⟨h1, h2, h3, h4, h5, h6, h7, h8, h9, h10⟩ := h
  have hO : Off (fun _ _ => False) σ τ := fun k i _ => by rw [hS]
  exact ⟨h1.fr hO (fun _ _ _ h => h), h2.fr hO (fun _ _ _ h => h), h3.fr h1.1.2.2.2.2 hO (fun _ _ _ h => h), h4.fr hO (fun _ _ _ h => h), h5.fr hO (fun _ _ _ h => h), h6.fr h1 h3 hO (fun _ _ _ h => h), h7.fr hO (fun _ _ _ h => h), h8.fr h1 h3 hO (fun _ _ _ h => h), h9.fr hO (fun _ _ _ h => h), h10.fr hO hJ (fun _ h => h)⟩
end SETS
section OP2
variable {g : Geo} {σ : St} {K : St → Prop} {F : Prop}
theorem op_hearth (hI : Inv g σ) (hK : K σ) (x y : Int32) : wp_X6_hearth x y (fun r σ1 => wp_X7_hearth x y (fun r2 σ2 => (r = r2 → K σ2) ∧ (¬ r = r2 → F)) σ1) σ := by
  obtain ⟨hd, -, hh, -⟩ := hI
  have hd' := hd.1
  unfold wp_X6_hearth
  refine hasHearth_ok hd ?_
  rw [bI_0]
  refine ⟨fun a => ?_, fun a => ?_⟩
  · unfold wp_X7_hearth
    refine isHearth_ok hd ?_
    rw [bI_0]
    exact ⟨fun _ => eq_k rfl hK, fun b => absurd a b⟩
  · have a := Classical.not_not.mp a
    obtain ⟨h, hh', rfl⟩ := of_pin a
    obtain ⟨⟨e1, e2, -⟩, ⟨e3, e4, -⟩, e5, e6, -⟩ := hh h hh'
    rw [pn_in (by omega) (by omega), pn_cl (by omega), e1, e3, e5]
    have go : ∀ v : Int32, ((y = 0 → v = nI (g.co h)) ∧ (¬ y = 0 → y = 1 → v = nI (g.cl h)) ∧ (¬ y = 0 → ¬ y = 1 → y = 2 → v = nI (g.ne h)) ∧ (¬ y = 0 → ¬ y = 1 → ¬ y = 2 → v = -1)) → wp_X7_hearth (nI h) y (fun r2 σ2 => (v = r2 → K σ2) ∧ (¬ v = r2 → F)) σ := by
      intro v hv
      unfold wp_X7_hearth
      refine isHearth_ok hd ?_
      rw [bI_0, pn_in (by omega) (by omega), pn_cl (by omega), e2, e4, e6]
      exact ⟨fun b => absurd a b, fun _ => ⟨fun y0 => ⟨by omega, eq_k (hv.1 y0) hK⟩, fun y0 => ⟨fun y1 => ⟨by omega, eq_k (hv.2.1 y0 y1) hK⟩, fun y1 => ⟨fun y2 => ⟨by omega, eq_k (hv.2.2.1 y0 y1 y2) hK⟩, fun y2 => eq_k (hv.2.2.2 y0 y1 y2) hK⟩⟩⟩⟩
    refine ⟨fun y0 => ⟨by omega, go _ ⟨fun _ => rfl, fun n => absurd y0 n, fun n => absurd y0 n, fun n => absurd y0 n⟩⟩, fun y0 => ⟨fun y1 => ⟨by omega, go _ ⟨fun n => absurd n y0, fun _ _ => rfl, fun _ n => absurd y1 n, fun _ n => absurd y1 n⟩⟩, fun y1 => ⟨fun y2 => ⟨by omega, go _ ⟨fun n => absurd n y0, fun _ n => absurd n y1, fun _ _ _ => rfl, fun _ _ n => absurd y2 n⟩⟩, fun y2 => go _ ⟨fun n => absurd n y0, fun _ n => absurd n y1, fun _ _ n => absurd n y2, fun _ _ _ => rfl⟩⟩⟩⟩
theorem op_clear (hI : Inv g σ) (hK : ∀ τ, Inv g τ → K τ) : wp_X6_clear (fun r σ1 => wp_X7_clear (fun r2 σ2 => (r = r2 → K σ2) ∧ (¬ r = r2 → F)) σ1) σ := by
  unfold wp_X6_clear wp_X7_clear
  have ht := hI.2.2.2.2.2.2.2.2.1
  obtain ⟨T, t1, t2, t3, t4⟩ := ht
  refine eq_k ?_ (hK _ (hI.setTxt (fun k i n => ?_) rfl ⟨0, by omega, ?_, ?_, fun j hj => absurd hj (by omega)⟩))
  · simp only [sI_1]
    rw [if_neg (by omega), t2, t3]
  · simp only [sI_1]
    unfold RTxt at n
    rw [if_neg (by omega), if_neg (by omega)]
  · simp [sI_1]; rfl
  · simp [sI_1]; rfl
theorem op_trace (hI : Inv g σ) (hK : K σ) : wp_X6_trace (fun r σ1 => wp_X7_trace (fun r2 σ2 => (r = r2 → K σ2) ∧ (¬ r = r2 → F)) σ1) σ := by
  unfold wp_X6_trace wp_X7_trace
  have hr := hI.2.2.2.2.2.2.2.2.2.1
  exact ⟨fun _ => hK, fun n => absurd hr n⟩
theorem op_tune (hI : Inv g σ) (hK : ∀ g' τ, Inv g' τ → K τ) (x y : Int32) : wp_X6_tune x y (fun r σ1 => wp_X7_tune x y (fun r2 σ2 => (r = r2 → K σ2) ∧ (¬ r = r2 → F)) σ1) σ := by
  have ht := hI.2.2.2.1
  have bad : ¬ (0 ≤ x.toInt ∧ x.toInt < 6 ∧ ((tuL x.toInt.toNat : Nat) : Int) ≤ y.toInt ∧ y.toInt ≤ ((tuM x.toInt.toNat : Nat) : Int)) → wp_X7_tune x y (fun r2 σ2 => ((-1 : Int32) = r2 → K σ2) ∧ (¬ (-1 : Int32) = r2 → F)) σ := by
    intro hn
    have k0 : K σ := hK g σ hI
    have b51 : ∀ (m s0 s1 : Int32), (¬ (s0.toInt ≤ s1.toInt ∧ s1.toInt ≤ m.toInt)) → wp_X7_tune_b51 (fun r2 σ2 => ((-1 : Int32) = r2 → K σ2) ∧ (¬ (-1 : Int32) = r2 → F)) x y m s0 s1 σ := by
      intro m s0 s1 h
      unfold wp_X7_tune_b51
      refine in_ok ?_
      rw [bI_0]
      exact ⟨fun _ => eq_k rfl k0, fun e => absurd (Classical.not_not.mp e) h⟩
    have b30 : ∀ m : Int32, (0 ≤ x.toInt → x.toInt < 6 → ((tuM x.toInt.toNat : Nat) : Int) = m.toInt) → wp_X7_tune_b30 (fun r2 σ2 => ((-1 : Int32) = r2 → K σ2) ∧ (¬ (-1 : Int32) = r2 → F)) x y m σ := by
      intro m hm
      unfold wp_X7_tune_b30
      refine in_ok ?_
      rw [bI_0]
      refine ⟨fun _ => eq_k rfl k0, fun e => ?_⟩
      have e := Classical.not_not.mp e
      have e5 : (5 : Int32).toInt = 5 := by decide
      rw [z0, e5] at e
      have hm := hm e.1 (by omega)
      refine ⟨fun x3 => b51 _ _ _ (fun q => hn ?_), fun x3 => b51 _ _ _ (fun q => hn ?_)⟩
      · subst x3
        exact ⟨by decide, by decide, q.1, by rw [hm]; exact q.2⟩
      · refine ⟨e.1, by omega, ?_, by rw [hm]; exact q.2⟩
        have h0 : tuL x.toInt.toNat = 0 := by
          obtain ⟨j, hj, rfl⟩ := of_pin (x := x) (n := 6) ⟨e.1, by omega⟩
          have hj3 : j ≠ 3 := fun q => x3 (by rw [q]; rfl)
          rw [tI_n (by omega)]
          have : ∀ j, j < 6 → j ≠ 3 → tuL j = 0 := by decide
          exact this j hj hj3
        have q1 := q.1
        rw [z0] at q1
        rw [h0]; exact q1
    unfold wp_X7_tune
    have tm : ∀ j : Nat, j < 6 → ∀ k : Nat, (j = 0 → k = 3) → (j = 4 → k = 9) → (j = 5 → k = 99) → (j ≠ 0 → j ≠ 4 → j ≠ 5 → k = 20) → tuM j = k := by
      intro j hj k h1 h2 h3 h4
      match j, hj with
      | 0, _ => exact (h1 rfl).symm
      | 1, _ => exact (h4 (by omega) (by omega) (by omega)).symm
      | 2, _ => exact (h4 (by omega) (by omega) (by omega)).symm
      | 3, _ => exact (h4 (by omega) (by omega) (by omega)).symm
      | 4, _ => exact (h2 rfl).symm
      | 5, _ => exact (h3 rfl).symm
    have ne : ∀ (k : Int32) (n : Nat), k.toInt = (n : Int) → ¬ x = k → 0 ≤ x.toInt → x.toInt.toNat ≠ n := by
      intro k n hk h h0 e
      rw [tI_eq, hk] at h
      omega
    refine ⟨fun x0 => b30 _ (fun h1 h2 => ?_), fun x0 => ⟨fun x4 => b30 _ (fun h1 h2 => ?_), fun x4 => ⟨fun x5 => b30 _ (fun h1 h2 => ?_), fun x5 => b30 _ (fun h1 h2 => ?_)⟩⟩⟩
    · subst x0; decide
    · subst x4; decide
    · subst x5; decide
    · rw [tm x.toInt.toNat (by omega) 20 (fun e => absurd e (ne 0 0 (by decide) x0 h1)) (fun e => absurd e (ne 4 4 (by decide) x4 h1)) (fun e => absurd e (ne 5 5 (by decide) x5 h1)) (fun _ _ _ => rfl)]
      decide
  have tL : ∀ j, j < 6 → (tab_LEAST_TUNES j).toInt = ((tuL j : Nat) : Int) := by decide
  have tM : ∀ j, j < 6 → (tab_MOST_TUNES j).toInt = ((tuM j : Nat) : Int) := by decide
  have e6 : (6 : Int32).toInt = 6 := by decide
  by_cases hg : (0 ≤ x.toInt ∧ x.toInt < 6 ∧ ((tuL x.toInt.toNat : Nat) : Int) ≤ y.toInt ∧ y.toInt ≤ ((tuM x.toInt.toNat : Nat) : Int))
  · obtain ⟨h1, h2, h3, h4⟩ := hg
    obtain ⟨j, hj, rfl⟩ := of_pin (x := x) (n := 6) ⟨h1, by omega⟩
    rw [tI_n (by omega)] at h3 h4
    have ej : ((j : Int)).toNat = j := by omega
    rw [ej] at h3 h4
    have hM : tuM j ≤ 99 := (by decide : ∀ j, j < 6 → tuM j ≤ 99) j hj
    obtain ⟨v, hv, rfl⟩ : ∃ v, v < 100 ∧ y = nI v := of_pin (x := y) (n := 100) ⟨by omega, by omega⟩
    rw [tI_n (by omega)] at h3 h4
    obtain ⟨t1, t2, -, -⟩ := ht j hj
    unfold wp_X6_tune
    rw [pn_in (by omega) (by omega), pn_cl (by omega)]
    simp only [tI_lt, tI_le, tL j hj, tM j hj, tI_n (show j < 2 ^ 31 by omega), tI_n (show v < 2 ^ 31 by omega), e6, z0]
    refine ⟨fun a => absurd a (by omega), fun _ => ⟨fun a => absurd a (by omega), fun _ => ⟨by omega, fun a => absurd a (by omega), fun _ => ⟨by omega, fun _ => ⟨by omega, by omega, ?_⟩, fun a => absurd (by omega) a⟩⟩⟩⟩
    rw [t1]
    have fin : ∀ τ, τ = sI (sI σ 14 j (nI v)) 85 j (nI v) → K τ := by
      intro τ ht'
      refine hK _ τ (hI.setTun (tu := fun i => if i = j then v else g.tu i) (fun k i n => ?_) (by rw [ht']; rfl) (fun i hi => ?_))
      · unfold RTun at n
        rw [ht']
        simp only [sI_1]
        rw [if_neg (by omega), if_neg (by omega)]
      · obtain ⟨q1, q2, q3, q4⟩ := ht i hi
        rw [ht']
        simp only [sI_1]
        show _ = nI (if i = j then v else g.tu i) ∧ _ = nI (if i = j then v else g.tu i) ∧ tuL i ≤ (if i = j then v else g.tu i) ∧ (if i = j then v else g.tu i) ≤ tuM i
        by_cases hij : i = j
        · subst hij
          simp only [and_self, if_true, true_and]
          exact ⟨by simp, by omega, by omega⟩
        · simp only [hij, and_false, if_false]
          exact ⟨q1, q2, q3, q4⟩
    have b51 : ∀ m s0 : Int32, s0.toInt ≤ (nI v).toInt → (nI v).toInt ≤ m.toInt → wp_X7_tune_b51 (fun r2 σ2 => (nI (g.tu j) = r2 → K σ2) ∧ (¬ nI (g.tu j) = r2 → F)) (nI j) (nI v) m s0 (nI v) (sI σ 14 j (nI v)) := by
      intro m s0 a b
      unfold wp_X7_tune_b51
      refine in_ok ?_
      rw [bI_t ⟨a, b⟩, pn_in (by omega) (by omega), pn_cl (by omega)]
      refine ⟨fun e => absurd e (by decide), fun _ => ⟨by omega, by omega, eq_k ?_ (fin _ rfl)⟩⟩
      rw [sI_1, if_neg (by omega), t2]
    have b30 : ∀ m : Int32, ((tuM j : Nat) : Int) = m.toInt → wp_X7_tune_b30 (fun r2 σ2 => (nI (g.tu j) = r2 → K σ2) ∧ (¬ nI (g.tu j) = r2 → F)) (nI j) (nI v) m (sI σ 14 j (nI v)) := by
      intro m hm
      unfold wp_X7_tune_b30
      refine in_ok ?_
      have e5 : (5 : Int32).toInt = 5 := by decide
      rw [bI_t (by rw [z0, e5, tI_n (by omega)]; omega)]
      refine ⟨fun e => absurd e (by decide), fun _ => ⟨fun x3 => b51 _ _ ?_ ?_, fun x3 => b51 _ _ ?_ ?_⟩⟩
      · rw [tI_n (by omega)]
        have : j = 3 := (nI_eq (by omega) (by omega)).mp x3
        subst this
        have e1 : (1 : Int32).toInt = 1 := by decide
        have e2 : tuL 3 = 1 := by decide
        omega
      · rw [tI_n (by omega)]; omega
      · rw [tI_n (by omega), z0]; omega
      · rw [tI_n (by omega)]; omega
    unfold wp_X7_tune
    refine ⟨fun q => b30 _ ?_, fun q0 => ⟨fun q => b30 _ ?_, fun q4 => ⟨fun q => b30 _ ?_, fun q5 => b30 _ ?_⟩⟩⟩
    · have : j = 0 := (nI_eq (b := 0) (by omega) (by omega)).mp q
      subst this; decide
    · have : j = 4 := (nI_eq (b := 4) (by omega) (by omega)).mp q
      subst this; decide
    · have : j = 5 := (nI_eq (b := 5) (by omega) (by omega)).mp q
      subst this; decide
    · have n0 : j ≠ 0 := fun e => q0 (by rw [e]; rfl)
      have n4 : j ≠ 4 := fun e => q4 (by rw [e]; rfl)
      have n5 : j ≠ 5 := fun e => q5 (by rw [e]; rfl)
      have : ∀ j, j < 6 → j ≠ 0 → j ≠ 4 → j ≠ 5 → ((tuM j : Nat) : Int) = (20 : Int32).toInt := by decide
      exact this j hj n0 n4 n5
  · have B := bad hg
    unfold wp_X6_tune
    refine ⟨fun _ => B, fun a1 => ⟨fun _ => B, fun a2 => ?_⟩⟩
    simp only [tI_lt, tI_le, z0, e6] at a1 a2
    obtain ⟨j, hj, rfl⟩ := of_pin (x := x) (n := 6) ⟨by omega, by omega⟩
    rw [pn_in (by omega) (by omega), pn_cl (by omega)]
    refine ⟨by omega, fun _ => B, fun a3 => ⟨by omega, fun a4 => absurd ?_ hg, fun _ => B⟩⟩
    simp only [tI_lt, tI_le, tL j hj, tM j hj] at a3 a4
    rw [tI_n (by omega)]
    have ej : ((j : Int)).toNat = j := by omega
    rw [ej]
    omega
end OP2
