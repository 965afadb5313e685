/-! judge -/
abbrev PL : Type := Nat → Nat → Int32
def rowsP (σ : St) : PL := fun h r => σ.1 (22 + h) r
def near (g : Geo) (P : PL) (h r o : Nat) : Prop := g.co o ≤ r ∧ (P h r).toInt - (P o r).toInt ≤ g.tu 0 ∧ (P o r).toInt - (P h r).toInt ≤ g.tu 0
def cros (g : Geo) (P : PL) (h r o : Nat) : Prop := g.co o < r ∧ g.co h < r ∧ ¬ ((P h (r - 1)).toInt < (P o (r - 1)).toInt ↔ (P h r).toInt < (P o r).toInt)
def Tr (g : Geo) (P : PL) (h r v : Nat) : Prop :=
  (v = 1 ∧ ¬ pW g (P h r)) ∨ (pW g (P h r) ∧ ((v = 2 ∧ bitP (g.bar r) (P h r).toInt.toNat) ∨ (¬ bitP (g.bar r) (P h r).toInt.toNat ∧
    ((v = 3 ∧ ∃ o, o < h ∧ near g P h r o) ∨ ((∀ o, o < h → ¬ near g P h r o) ∧ ((v = 4 ∧ ∃ o, o < h ∧ cros g P h r o) ∨ (v = 0 ∧ ∀ o, o < h → ¬ cros g P h r o)))))))
theorem Tr.uq {g : Geo} {P : PL} {h r v w : Nat} (a : Tr g P h r v) (b : Tr g P h r w) : v = w := by
  rcases a with ⟨e, a⟩ | ⟨a, ⟨e, a2⟩ | ⟨a2, ⟨e, o, ho, a3⟩ | ⟨a3, ⟨e, o, ho, a4⟩ | ⟨e, a4⟩⟩⟩⟩ <;>
  rcases b with ⟨e', b⟩ | ⟨b, ⟨e', b2⟩ | ⟨b2, ⟨e', o', ho', b3⟩ | ⟨b3, ⟨e', o', ho', b4⟩ | ⟨e', b4⟩⟩⟩⟩ <;>
  first | exact e.trans e'.symm | exact absurd b a | exact absurd a b | exact absurd a2 b2 | exact absurd b2 a2 | exact absurd a3 (b3 _ ho) | exact absurd b3 (a3 _ ho') | exact absurd a4 (b4 _ ho) | exact absurd b4 (a4 _ ho')
def Clr (g : Geo) (P : PL) (r h : Nat) : Prop := ∀ r' h', r' < g.gH → h' < g.gN → g.co h' ≤ r' → (r' < r ∨ (r' = r ∧ h' < h)) → Tr g P h' r' 0
def Fst (g : Geo) (P : PL) (r h v : Nat) : Prop := r < g.gH ∧ h < g.gN ∧ g.co h ≤ r ∧ v ≠ 0 ∧ Tr g P h r v ∧ Clr g P r h
theorem Fst.uq {g : Geo} {P : PL} {r h v r' h' v' : Nat} (a : Fst g P r h v) (b : Fst g P r' h' v') : r = r' ∧ h = h' ∧ v = v' := by
  obtain ⟨a1, a2, a3, a4, a5, a6⟩ := a
  obtain ⟨b1, b2, b3, b4, b5, b6⟩ := b
  have n1 : ¬ (r < r' ∨ (r = r' ∧ h < h')) := fun q => a4 ((b6 r h a1 a2 a3 q).uq a5).symm
  have n2 : ¬ (r' < r ∨ (r' = r ∧ h' < h)) := fun q => b4 ((a6 r' h' b1 b2 b3 q).uq b5).symm
  have e1 : r = r' := by omega
  have e2 : h = h' := by omega
  subst e1; subst e2
  exact ⟨rfl, rfl, a5.uq b5⟩
section JD
variable {g : Geo} {σ : St} {K : St → Prop} {F : Prop} {Q : Int32 → St → Prop} {P : PL}
theorem pB (hd : IDim g σ) (hh : IHea g σ) (hp : IPlan g 22 0 σ) {h : Nat} (hn : h < g.gN) : ∀ k, g.co h + k < g.gH → -(k : Int) ≤ (σ.1 (22 + h) (g.co h + k)).toInt ∧ (σ.1 (22 + h) (g.co h + k)).toInt ≤ 10 + k := by
  have hd' := hd.1
  obtain ⟨p1, p2, p3⟩ := hp h hn
  obtain ⟨-, ⟨-, -, c3⟩, -⟩ := hh h hn
  intro k
  induction k with
  | zero =>
    intro _
    rw [Nat.add_zero, p2, tI_n (by omega)]
    omega
  | succ k ih =>
    intro hk
    have ih := ih (by omega)
    have h3 := p3 (g.co h + (k + 1)) (by omega) hk
    rw [show g.co h + (k + 1) - 1 = g.co h + k by omega] at h3
    have hs : ∀ a b d : Int32, a - b = d → a = b + d := fun a b d e => by rw [← e]; grind
    rcases h3 with e | e | e
    · rw [hs _ _ _ e, add_ti (by omega) (by omega) (by decide) (by decide), t_m1]; omega
    · rw [hs _ _ _ e, add_ti (by omega) (by omega) (by decide) (by decide), z0]; omega
    · rw [hs _ _ _ e, add_ti (by omega) (by omega) (by decide) (by decide), t_1]; omega
theorem pB2 (hI : Inv g σ) {h r : Nat} (hn : h < g.gN) (h1 : g.co h ≤ r) (h2 : r < g.gH) : -50 ≤ (σ.1 (22 + h) r).toInt ∧ (σ.1 (22 + h) r).toInt ≤ 50 := by
  have hd' := hI.1.1
  have := pB hI.1 hI.2.2.1 hI.2.2.2.2.2.1 hn (r - g.co h) (by omega)
  rw [show g.co h + (r - g.co h) = r by omega] at this
  omega
theorem crossX_ok {h r o : Nat} (hI : Inv g σ) (hn : h < g.gN) (ho : o < g.gN) (hr : r < g.gH) (h1 : cros g (rowsP σ) h r o → Q 1 σ) (h0 : ¬ cros g (rowsP σ) h r o → Q 0 σ) : wp_X0_crosses (nI h) (nI o) (nI r) Q σ := by
  have hd' := hI.1.1
  obtain ⟨⟨a1, -, a3⟩, -⟩ := hI.2.2.1 h hn
  obtain ⟨⟨b1, -, b3⟩, -⟩ := hI.2.2.1 o ho
  unfold wp_X0_crosses
  rw [pn_in (by omega) (by omega), pn_in (by omega) (by omega), pn_cl (by omega), pn_cl (by omega), a1, b1, pn_le (by omega) (by omega), pn_lt (by omega) (by omega)]
  refine ⟨by omega, fun q => h0 (fun z => absurd z.2.1 (by omega)), fun q => ⟨by omega, fun q2 => ?_, fun q2 => h0 (fun z => q2 z.1)⟩⟩
  rw [ns1 (by omega), pn_in (by omega) (by omega), pn_cl (show r - 1 < 2 ^ 31 by omega), show 21 + 1 + h = 22 + h by omega, show 21 + 1 + o = 22 + o by omega, tI_le]
  have b62 : ∀ s0 : Int32, ((s0 = 1 ∧ (σ.1 (22 + h) (r - 1)).toInt < (σ.1 (22 + o) (r - 1)).toInt) ∨ (s0 = 0 ∧ ¬ (σ.1 (22 + h) (r - 1)).toInt < (σ.1 (22 + o) (r - 1)).toInt)) → wp_X0_crosses_b62 Q (nI r) (22 + h) (22 + o) s0 σ := by
    intro s0 hs
    unfold wp_X0_crosses_b62 wp_X0_crosses_b80
    rw [pn_in (by omega) (by omega), pn_cl (by omega), tI_le]
    refine ⟨by omega, by omega, fun q3 => ⟨fun q4 => h0 (fun z => z.2.2 ?_), fun q4 => h1 ⟨q2, by omega, fun z => ?_⟩⟩, fun q3 => ⟨fun q4 => h0 (fun z => z.2.2 ?_), fun q4 => h1 ⟨q2, by omega, fun z => ?_⟩⟩⟩
    · rcases hs with ⟨s, s'⟩ | ⟨s, s'⟩
      · rw [s] at q4; exact absurd q4 (by decide)
      · unfold rowsP; omega
    · rcases hs with ⟨s, s'⟩ | ⟨s, s'⟩
      · unfold rowsP at z; omega
      · exact q4 s
    · rcases hs with ⟨s, s'⟩ | ⟨s, s'⟩
      · unfold rowsP; omega
      · rw [s] at q4; exact absurd q4 (by decide)
    · rcases hs with ⟨s, s'⟩ | ⟨s, s'⟩
      · exact q4 s
      · unfold rowsP at z; omega
  exact ⟨by omega, by omega, by omega, by omega, fun q3 => b62 0 (Or.inr ⟨rfl, by omega⟩), fun q3 => b62 1 (Or.inl ⟨rfl, by omega⟩)⟩
theorem absX {d : Int32} {t : Nat} (ht : t ≤ 3) (h1 : -1000 ≤ d.toInt) (h2 : d.toInt ≤ 1000) : (nI t < (if 0 ≤ d then d else 0 - d)) = ¬ (d.toInt ≤ t ∧ -d.toInt ≤ t) := by
  rw [tI_lt, tI_n (by omega)]
  by_cases c : 0 ≤ d
  · rw [if_pos c]
    rw [tI_le, z0] at c
    apply propext; omega
  · rw [if_neg c, sub_ti (by decide) (by decide) (by omega) (by omega), z0]
    rw [tI_le, z0] at c
    apply propext; omega
theorem troubleX_ok {h r : Nat} (hI : Inv g σ) (hn : h < g.gN) (hr : r < g.gH) (hc : g.co h ≤ r) (hq : ∀ v, Tr g (rowsP σ) h r v → Q (nI v) σ) : wp_X0_troubleOf (nI (g.tu 0)) (nI h) (nI r) Q σ := by
  have hd := hI.1
  have hd' := hd.1
  have hh := hI.2.2.1
  have t0 := hI.2.2.2.1 0 (by omega)
  rw [show tuM 0 = 3 from rfl] at t0
  unfold wp_X0_troubleOf
  rw [pn_in (by omega) (by omega), pn_in (by omega) (by omega), pn_cl (by omega), pn_cl (by omega), show 21 + 1 + h = 22 + h by omega]
  refine ⟨by omega, by omega, fun v hv => hasColumn_ok hd ?_⟩
  have ev : rowsP σ h r = v := hv.symm
  refine i2_eq (fun a => ?_) (fun n => hq 1 (Or.inl ⟨rfl, by rw [ev]; exact n⟩))
  refine isFree_ok hd hI.2.1 (fun n => absurd ⟨⟨by rw [tI_n (by omega)]; omega, by rw [tI_n (by omega)]; omega⟩, a⟩ n) (fun r' c hr' hcw er ec => ?_)
  have er : r = r' := (nI_eq (by omega) (by omega)).mp er
  subst er
  have ec2 : v.toInt.toNat = c := by rw [ec, tI_n (by omega)]; omega
  have hvc : (rowsP σ h r).toInt = c := by rw [ev, ec, tI_n (by omega)]
  refine i2_eq (fun b => ?_) (fun b => hq 2 (Or.inr ⟨by rw [ev]; exact a, Or.inl ⟨rfl, by rw [ev, ec2]; exact Classical.not_not.mp b⟩⟩))
  have b' : ¬ bitP (g.bar r) (rowsP σ h r).toInt.toNat := by rw [ev, ec2]; exact b
  have a' : pW g (rowsP σ h r) := by rw [ev]; exact a
  refine pk_loop (fun n i (_ : Unit) => wp_X0_troubleOf_l38 Q n (nI (g.tu 0)) (nI h) (nI r) v (nI i) σ) (fun i _ => i ≤ h ∧ ∀ o, o < i → ¬ near g (rowsP σ) h r o) h 0 () (by omega) ⟨Nat.zero_le _, fun o ho => absurd ho (Nat.not_lt_zero _)⟩ (fun n _ hw => ?_) (fun n i _ hi hw hk => ?_)
  · show wp_X0_troubleOf_b38 _ _ _ _ _ _ _ _
    unfold wp_X0_troubleOf_b38
    refine ⟨fun _ => ?_, fun q => absurd (nI_le (Nat.le_refl _) (by omega)) q⟩
    refine pk_loop (fun n i (_ : Unit) => wp_X0_troubleOf_l87 Q n (nI h) (nI r) (nI i) σ) (fun i _ => i ≤ h ∧ ∀ o, o < i → ¬ cros g (rowsP σ) h r o) h 0 () (by omega) ⟨Nat.zero_le _, fun o ho => absurd ho (Nat.not_lt_zero _)⟩ (fun n _ hw2 => ?_) (fun n i _ hi hw2 hk => ?_)
    · show wp_X0_troubleOf_b87 _ _ _ _ _ _
      unfold wp_X0_troubleOf_b87
      exact ⟨fun _ => hq 0 (Or.inr ⟨a', Or.inr ⟨b', Or.inr ⟨hw.2, Or.inr ⟨rfl, hw2.2⟩⟩⟩⟩), fun q => absurd (nI_le (Nat.le_refl _) (by omega)) q⟩
    · show wp_X0_troubleOf_b87 _ _ _ _ _ _
      unfold wp_X0_troubleOf_b87
      rw [na1]
      refine ⟨fun q => absurd q (nI_ge hi (by omega)), fun _ => crossX_ok hI hn (by omega) hr (fun z => ⟨fun q => absurd q (by decide), fun _ => ?_⟩) (fun z => ⟨fun _ => ?_, fun q => absurd rfl q⟩)⟩
      · exact hq 4 (Or.inr ⟨a', Or.inr ⟨b', Or.inr ⟨hw.2, Or.inl ⟨rfl, i, hi, z⟩⟩⟩⟩)
      · exact hk () ⟨by omega, fun o ho => by
          by_cases e : o = i
          · subst e; exact z
          · exact hw2.2 o (by omega)⟩
  · show wp_X0_troubleOf_b38 _ _ _ _ _ _ _ _
    unfold wp_X0_troubleOf_b38
    rw [na1]
    refine ⟨fun q => absurd q (nI_ge hi (by omega)), fun _ => reaches_ok hd hh (by omega) ?_⟩
    rw [Int32.toInt_toInt64, tI_n (by omega)]
    have nxt : ¬ near g (rowsP σ) h r i → wp_X0_troubleOf_l38 Q n (nI (g.tu 0)) (nI h) (nI r) v (nI (i + 1)) σ := fun z => hk () ⟨by omega, fun o ho => by
          by_cases e : o = i
          · subst e; exact z
          · exact hw.2 o (by omega)⟩
    refine i2_eq (fun c1 => ?_) (fun c1 => nxt (fun z => c1 ⟨by have := z.1; omega, by omega⟩))
    rw [pn_in (by omega) (by omega), pn_in (by omega) (by omega), pn_cl (by omega), pn_cl (by omega), show 21 + 1 + i = 22 + i by omega]
    have bo := pB2 hI (h := i) (r := r) (by omega) (by omega) hr
    have es : (v - σ.1 (22 + i) r).toInt = v.toInt - (σ.1 (22 + i) r).toInt := sub_ti (by rw [← ev]; omega) (by rw [← ev]; omega) (by omega) (by omega)
    have e0 : v.toInt = c := by rw [← ev]; exact hvc
    refine ⟨by omega, by omega, fun u hu => ?_⟩
    subst hu
    rw [absX t0.2.2.2 (by omega) (by omega), es]
    refine ⟨fun q => nxt (fun z => q ?_), fun q => hq 3 (Or.inr ⟨a', Or.inr ⟨b', Or.inl ⟨rfl, i, hi, ?_⟩⟩⟩)⟩
    · obtain ⟨z1, z2, z3⟩ := z
      rw [ev] at z2 z3
      unfold rowsP at z2 z3
      omega
    · have q := Classical.not_not.mp q
      refine ⟨by omega, ?_, ?_⟩
      · rw [ev]; unfold rowsP; omega
      · rw [ev]; unfold rowsP; omega
theorem noneX_ok (hI : Inv g σ) (hq : ∀ τ, Cor σ τ → Clr g (rowsP σ) g.gH 0 → Q 1 τ) (hq0 : ∀ τ r h v, Cor σ τ → Fst g (rowsP σ) r h v → τ.1 27 0 = nI v → τ.1 27 1 = nI h → τ.1 27 2 = nI r → Q 0 τ) : wp_X0_findsNone (nI (g.tu 0)) Q σ := by
  have hd' := hI.1.1
  have s27 : ∀ i, Scr 27 i := fun i => by unfold Scr; omega
  have hP : ∀ τ, Cor σ τ → ∀ h r v, h < g.gN → (Tr g (rowsP τ) h r v → Tr g (rowsP σ) h r v) := by
    intro τ hc h r v hn
    have e : ∀ o, o < 3 → ∀ j, rowsP τ o j = rowsP σ o j := fun o ho j => hc.1 _ _ (by unfold Scr; omega)
    have e1 : ∀ o, o < h → (near g (rowsP τ) h r o ↔ near g (rowsP σ) h r o) := fun o ho => by unfold near; rw [e h (by omega), e o (by omega)]
    have e2 : ∀ o, o < h → (cros g (rowsP τ) h r o ↔ cros g (rowsP σ) h r o) := fun o ho => by unfold cros; rw [e h (by omega), e o (by omega), e h (by omega), e o (by omega)]
    intro z
    unfold Tr at z ⊢
    rw [e h (by omega)] at z
    rcases z with z | ⟨z1, z | ⟨z2, ⟨z3, o, ho, z4⟩ | ⟨z3, ⟨z4, o, ho, z5⟩ | ⟨z4, z5⟩⟩⟩⟩
    · exact Or.inl z
    · exact Or.inr ⟨z1, Or.inl z⟩
    · exact Or.inr ⟨z1, Or.inr ⟨z2, Or.inl ⟨z3, o, ho, (e1 o ho).mp z4⟩⟩⟩
    · exact Or.inr ⟨z1, Or.inr ⟨z2, Or.inr ⟨fun o ho q => z3 o ho ((e1 o ho).mpr q), Or.inl ⟨z4, o, ho, (e2 o ho).mp z5⟩⟩⟩⟩
    · exact Or.inr ⟨z1, Or.inr ⟨z2, Or.inr ⟨fun o ho q => z3 o ho ((e1 o ho).mpr q), Or.inr ⟨z4, fun o ho q => z5 o ho ((e2 o ho).mpr q)⟩⟩⟩⟩
  unfold wp_X0_findsNone
  refine pk_loop (fun n i τ => wp_X0_findsNone_l3 Q n (nI (g.tu 0)) (nI i) τ) (fun i τ => Cor σ τ ∧ Clr g (rowsP σ) i 0) g.gH 0 _ (by omega) ⟨Cor.rf, fun r' h' _ _ _ q => by omega⟩ (fun n τ hτ => ?_) (fun n i τ hi hτ hk => ?_)
  · show wp_X0_findsNone_b3 _ _ _ _ _
    unfold wp_X0_findsNone_b3
    obtain ⟨t1, t3⟩ := hτ
    rw [(hI.cor t1).1.2.2.1]
    exact ⟨fun _ => hq _ t1 t3, fun q => absurd (nI_le (Nat.le_refl _) (by omega)) q⟩
  · show wp_X0_findsNone_b3 _ _ _ _ _
    unfold wp_X0_findsNone_b3
    obtain ⟨t1, t3⟩ := hτ
    rw [(hI.cor t1).1.2.2.1]
    refine ⟨fun q => absurd q (nI_ge hi (by omega)), fun _ => ?_⟩
    refine pk_loop (fun n j τ => wp_X0_findsNone_l15 Q _ n (nI (g.tu 0)) (nI i) (nI j) τ) (fun j τ => Cor σ τ ∧ Clr g (rowsP σ) i j) g.gN 0 _ (by omega) ⟨t1, t3⟩ (fun n υ hυ => ?_) (fun n j υ hj hυ hk2 => ?_)
    · show wp_X0_findsNone_b15 _ _ _ _ _ _ _
      unfold wp_X0_findsNone_b15
      obtain ⟨u1, u4⟩ := hυ
      rw [(hI.cor u1).1.2.2.2.1, na1]
      exact ⟨fun _ => hk _ ⟨u1, fun r' h' a1 a2 a3 a4 => u4 r' h' a1 a2 a3 (by omega)⟩, fun q => absurd (nI_le (Nat.le_refl _) (by omega)) q⟩
    · show wp_X0_findsNone_b15 _ _ _ _ _ _ _
      unfold wp_X0_findsNone_b15
      obtain ⟨u1, u4⟩ := hυ
      have hIu := hI.cor u1
      rw [hIu.1.2.2.2.1]
      refine ⟨fun q => absurd q (nI_ge hj (by omega)), fun _ => reaches_ok hIu.1 hIu.2.2.1 hj ?_⟩
      rw [Int32.toInt_toInt64, tI_n (by omega)]
      have fin : ∀ (K3 : Int32 → Int32 → St → Prop) (K15 : Int32 → Int32 → Int32 → St → Prop) (v : Nat), v < 5 → (v = 0 → Clr g (rowsP σ) i (j + 1)) → (v ≠ 0 → Fst g (rowsP σ) i j v) → (∀ τ, (Cor σ τ ∧ Clr g (rowsP σ) i (j + 1)) → K15 (nI (g.tu 0)) (nI i) (nI (j + 1)) τ) → wp_X0_findsNone_b51 Q K3 K15 (nI (g.tu 0)) (nI i) (nI j) (nI v) υ := by
        intro K3 K15 v hv v0 v1 hk3
        unfold wp_X0_findsNone_b51
        generalize hE : sI (sI (sI υ 27 0 (nI v)) 27 1 (nI j)) 27 2 (nI i) = υ2
        have f0 : υ2.1 27 0 = nI v := by rw [← hE, sI_1, if_neg (by omega), sI_1, if_neg (by omega), sI_1, if_pos ⟨rfl, rfl⟩]
        have f1 : υ2.1 27 1 = nI j := by rw [← hE, sI_1, if_neg (by omega), sI_1, if_pos ⟨rfl, rfl⟩]
        have f2 : υ2.1 27 2 = nI i := by rw [← hE, sI_1, if_pos ⟨rfl, rfl⟩]
        have c2 : Cor σ υ2 := by rw [← hE]; exact ((u1.sI (s27 0) _).sI (s27 1) _).sI (s27 2) _
        rw [f0, na1, show (0 : Int32) = nI 0 from rfl, pn_eq (by omega) (by omega)]
        exact ⟨fun e => hk3 _ ⟨c2, v0 e⟩, fun e => hq0 _ i j v c2 (v1 e) f0 f1 f2⟩
      have ext : Tr g (rowsP σ) j i 0 ∨ ¬ g.co j ≤ i → Clr g (rowsP σ) i (j + 1) := by
        intro z r' h' a1 a2 a3 a4
        by_cases e : r' = i ∧ h' = j
        · obtain ⟨rfl, rfl⟩ := e
          rcases z with z | z
          · exact z
          · exact absurd a3 z
        · exact u4 r' h' a1 a2 a3 (by omega)
      refine i2_eq (fun c => troubleX_ok hIu hj hi (by omega) (fun v hv => ?_)) (fun c => fin _ _ 0 (by omega) (fun _ => ext (Or.inr (by omega))) (fun q => absurd rfl q) (fun τ hτ => hk2 τ hτ))
      have hv := hP υ u1 j i v hj hv
      have v5 : v < 5 := by
        rcases hv with ⟨e, -⟩ | ⟨-, ⟨e, -⟩ | ⟨-, ⟨e, -⟩ | ⟨-, ⟨e, -⟩ | ⟨e, -⟩⟩⟩⟩ <;> omega
      exact fin _ _ v v5 (fun e => ext (Or.inl (by rw [← e]; exact hv))) (fun e => ⟨hi, hj, by omega, e, hv, u4⟩) (fun τ hτ => hk2 τ hτ)
end JD
