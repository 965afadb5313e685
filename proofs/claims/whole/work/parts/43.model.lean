/-! the reference's search; its places are members -/
def mdec (c : Nat) : Nat → Nat := fun i => if i = 0 then c % 10 else if i = 1 then c / 10 % 10 else c / 100 % 10
def mcod (t : Nat → Nat) : Nat := t 0 + 10 * t 1 + 100 * t 2
theorem mdec_lt {c i : Nat} : mdec c i < 10 := by
  unfold mdec
  split
  · omega
  · split <;> omega
theorem mcod_mdec {c : Nat} (hc : c < 1000) : mcod (mdec c) = c := by
  unfold mcod mdec
  rw [if_pos rfl, if_neg (by omega), if_pos rfl, if_neg (by omega), if_neg (by omega)]
  omega
theorem mdec_mcod {t : Nat → Nat} (h : ∀ h, h < 3 → t h < 10) : Eq3 (mdec (mcod t)) t := by
  intro i hi
  have h0 := h 0 (by omega)
  have h1 := h 1 (by omega)
  have h2 := h 2 (by omega)
  unfold mdec mcod
  have : i = 0 ∨ i = 1 ∨ i = 2 := by omega
  rcases this with rfl | rfl | rfl
  · rw [if_pos rfl]; omega
  · rw [if_neg (by omega), if_pos rfl]; omega
  · rw [if_neg (by omega), if_neg (by omega)]; omega
def spot1 (q : Prm) (r i c : Nat) : Prop := (r < q.fs i ∧ c = 0) ∨ (q.fs i ≤ r ∧ c < 10 ∧ bitP (q.op r) c ∧ (q.fs i < r ∨ c = q.st i) ∧ (q.fx i = true → c = q.gv i r))
def spot2 (q : Prm) (r i j : Nat) (s : Nat → Nat) : Prop := q.fs i ≤ r → q.fs j ≤ r → (s j + q.gp < s i ∨ s i + q.gp < s j)
def spotM (q : Prm) (m r : Nat) (s : Nat → Nat) : Prop := ∀ i, i < m → spot1 q r i (s i) ∧ ∀ j, j < i → spot2 q r i j s
/-- the reference's cells: m members -/
def MP (q : Prm) (m low : Nat) (kp : Nat → Nat) (cl : Nat) (g : Geo) (τ : St) : Prop :=
  (m ≤ 3 ∧ τ.1 75 21 = nI m ∧ τ.1 75 26 = nI low ∧ τ.1 75 25 = nI cl ∧ cl < 1024) ∧
  (∀ i, i < m → τ.1 90 i = nI (q.fs i) ∧ q.fs i ≤ q.la ∧ low ≤ q.fs i ∧ τ.1 91 i = nI (q.st i) ∧ q.st i < 10 ∧ τ.1 92 i = (if q.fx i = true then nI (kp i) else -1) ∧
    (q.fx i = true → kp i < 3 ∧ kp i < g.gN ∧ q.gv i (q.fs i) = q.st i ∧ ∀ r, q.fs i ≤ r → r ≤ q.la → rowsP τ (kp i) r = nI (q.gv i r) ∧ q.gv i r < 10 ∧ (q.fs i < r → q.gv i r ≤ q.gv i (r - 1) + 1 ∧ q.gv i (r - 1) ≤ q.gv i r + 1))) ∧
  (∀ i, m ≤ i → i < 3 → q.fs i = 16 ∧ q.fx i = false) ∧
  (q.la = g.gH - 1 ∧ q.gp = g.tu 0 ∧ ∀ r c, r ≤ q.la → c < 10 → (bitP (q.op r) c ↔ (c < g.gW ∧ ¬ bitP (g.bar r) c ∧ ¬ bitP cl c)))
/-- all but its table and its choice stays -/
def FM (τ υ : St) : Prop := (∀ k i, ¬ (k = 93 ∨ (k = 75 ∧ i = 29)) → υ.1 k i = τ.1 k i) ∧ υ.2 = τ.2
theorem FM.rf {τ : St} : FM τ τ := ⟨fun _ _ _ => rfl, rfl⟩
theorem FM.tr {τ υ φ : St} (a : FM τ υ) (b : FM υ φ) : FM τ φ := ⟨fun k i n => (b.1 k i n).trans (a.1 k i n), b.2.trans a.2⟩
theorem FM.cor {τ υ : St} (a : FM τ υ) : Cor τ υ := ⟨fun k i n => a.1 k i (fun z => n (by unfold Scr; omega)), by rw [a.2], by rw [a.2]⟩
theorem MP.fr {q : Prm} {m low cl : Nat} {kp : Nat → Nat} {g : Geo} {τ υ : St} (H : MP q m low kp cl g τ) (f : FM τ υ) : MP q m low kp cl g υ := by
  obtain ⟨⟨h1, h2, h3, h4, h5⟩, h6, h7, h8⟩ := H
  refine ⟨⟨h1, by rw [f.1 _ _ (by omega)]; exact h2, by rw [f.1 _ _ (by omega)]; exact h3, by rw [f.1 _ _ (by omega)]; exact h4, h5⟩, fun i hi => ?_, h7, h8⟩
  obtain ⟨a1, a2, a3, a4, a5, a6, a7⟩ := h6 i hi
  refine ⟨by rw [f.1 _ _ (by omega)]; exact a1, a2, a3, by rw [f.1 _ _ (by omega)]; exact a4, a5, by rw [f.1 _ _ (by omega)]; exact a6, fun z => ?_⟩
  obtain ⟨b0, b1, b2, b3⟩ := a7 z
  refine ⟨b0, b1, b2, fun r c1 c2 => ?_⟩
  have := b3 r c1 c2
  unfold rowsP at this ⊢
  rw [f.1 _ _ (by omega)]; exact this
section MS
variable {g : Geo} {q : Prm} {m low cl : Nat} {kp : Nat → Nat} {τ : St} {Q : Int32 → St → Prop} {r i : Nat}
theorem MP.fs16 (hM : MP q m low kp cl g τ) (hi : i < 3) (hla : q.la ≤ 15) : q.fs i ≤ 16 := by
  by_cases e : i < m
  · have := (hM.2.1 i e).2.1; omega
  · have := (hM.2.2.1 i (by omega) hi).1; omega
theorem placeIn_ok {c : Nat} (hI : Inv g τ) (hi : i < 3) (hc : c < 1000) (hq : Q (nI (mdec c i)) τ) : wp_X7_placeIn (nI c) (nI i) Q τ := by
  obtain ⟨-, r1, r2, r3⟩ := hI.2.2.2.2.2.2.2.2.2
  have e94 : τ.1 94 i = nI (if i = 0 then 1 else if i = 1 then 10 else 100) := by
    have : i = 0 ∨ i = 1 ∨ i = 2 := by omega
    rcases this with rfl | rfl | rfl
    · exact r1
    · exact r2
    · exact r3
  unfold wp_X7_placeIn
  rw [pn_in (by omega) (by omega), pn_cl (by omega), e94]
  have key : ∀ d : Nat, 0 < d → d ≤ 100 → mdec c i = c / d % 10 → (i < 3 ∧ ¬ nI d = 0 ∧ ¬ (10 : Int32) = 0 ∧ Q (nI c / nI d - nI c / nI d / 10 * 10) τ) := by
    intro d h0 h1 h2
    rw [show (0 : Int32) = nI 0 from rfl, pn_eq (by omega) (by omega), pk_div (by omega) (by omega) (by omega), show (10 : Int32) = nI 10 from rfl, pk_rem (Nat.lt_of_le_of_lt (Nat.div_le_self c d) (by omega)) (by omega) (by omega), ← h2]
    exact ⟨hi, by omega, by decide, hq⟩
  unfold mdec at key
  by_cases e0 : i = 0
  · rw [if_pos e0]
    exact key 1 (by omega) (by omega) (by rw [if_pos e0, Nat.div_one])
  · rw [if_neg e0]
    by_cases e1 : i = 1
    · rw [if_pos e1]
      exact key 10 (by omega) (by omega) (by rw [if_neg e0, if_pos e1])
    · rw [if_neg e1]
      exact key 100 (by omega) (by omega) (by rw [if_neg e0, if_neg e1])
theorem mayBe_ok {c : Nat} (hI : Inv g τ) (hM : MP q m low kp cl g τ) (hi : i < m) (hr : r ≤ q.la) (hc : c < 10) (hq : ∀ f, Flg f (spot1 q r i c) → Q f τ) : wp_X7_mayBe (nI i) (nI r) (nI c) Q τ := by
  have hd := hI.1
  have hd' := hd.1
  obtain ⟨⟨h1, h2, h3, h4, h5⟩, h6, h7, h8⟩ := hM
  obtain ⟨a1, a2, a3, a4, a5, a6, a7⟩ := h6 i hi
  obtain ⟨b1, b2, b3⟩ := h8
  have bo := b3 r c hr hc
  unfold wp_X7_mayBe
  rw [pn_in (by omega) (by omega), pn_cl (by omega), a1, pn_le (by omega) (by omega)]
  refine ⟨by omega, fun z => ?_, fun z => ⟨fun e => hq 1 (Or.inr ⟨rfl, Or.inl ⟨by omega, (nI_eq (b := 0) (by omega) (by omega)).mp e⟩⟩), fun e => hq 0 (Or.inl ⟨rfl, fun y => ?_⟩)⟩⟩
  · have b73 : ∀ s0 : Int32, Flg s0 (bitP (q.op r) c ∧ (q.fs i < r ∨ c = q.st i)) → wp_X7_mayBe_b73 Q (nI i) (nI r) (nI c) s0 τ := by
      intro s0 hs
      unfold wp_X7_mayBe_b73
      rw [pn_in (by omega) (by omega), pn_cl (by omega), a6]
      have yes : (bitP (q.op r) c ∧ (q.fs i < r ∨ c = q.st i)) → (q.fx i = true → c = q.gv i r) → Flg 1 (spot1 q r i c) := fun y1 y2 => Or.inr ⟨rfl, Or.inr ⟨z, hc, y1.1, y1.2, y2⟩⟩
      refine ⟨fun e => hq 0 (Or.inl ⟨rfl, fun y => ?_⟩), fun e => ⟨by omega, fun e2 => hq 1 (yes ?_ (fun w => ?_)), fun e2 => ?_⟩⟩
      · rcases y with y | y
        · omega
        · rcases hs with ⟨_, w⟩ | ⟨w, _⟩
          · exact w ⟨y.2.2.1, y.2.2.2.1⟩
          · rw [w] at e; exact absurd e (by decide)
      · rcases hs with ⟨w, _⟩ | ⟨_, w⟩
        · exact absurd w e
        · exact w
      · rw [if_pos w, tI_eq, tI_n (by have := (a7 w).1; omega), t_m1] at e2
        omega
      · have w : q.fx i = true := by
          by_cases w : q.fx i = true
          · exact w
          · rw [if_neg w] at e2; exact absurd rfl e2
        obtain ⟨k0, k1, k2, k3⟩ := a7 w
        obtain ⟨k4, k5, -⟩ := k3 r z hr
        rw [if_pos w, nm16, nI_add, pn_in (by omega) (by omega), pn_cl (by omega), planM hI.2.2.2.2.2.1 k1 (by omega), k4, pn_eq (by omega) (by omega)]
        refine ⟨by omega, by omega, fun e3 => hq 1 (yes ?_ (fun _ => e3.symm)), fun e3 => hq 0 (Or.inl ⟨rfl, fun y => ?_⟩)⟩
        · rcases hs with ⟨y, _⟩ | ⟨_, y⟩
          · exact absurd y e
          · exact y
        · rcases y with y | y
          · omega
          · exact e3 (y.2.2.2.2 w).symm
    have no : ¬ (bitP (q.op r) c ∧ (q.fs i < r ∨ c = q.st i)) → wp_X7_mayBe_b72 Q (nI i) (nI r) (nI c) τ := by
      intro y
      unfold wp_X7_mayBe_b72
      exact b73 0 (Or.inl ⟨rfl, y⟩)
    have yes : (bitP (q.op r) c ∧ (q.fs i < r ∨ c = q.st i)) → wp_X7_mayBe_b68 Q (nI i) (nI r) (nI c) τ := by
      intro y
      unfold wp_X7_mayBe_b68
      exact b73 1 (Or.inr ⟨rfl, y⟩)
    refine isIn_ok hd (i2_eq (fun p1 => ?_) (fun p1 => no (fun y => p1 ⟨by rw [tI_n (by omega)]; omega, by have := (bo.mp y.1).1; rw [tI_n (by omega)]; omega⟩)))
    have p1 := p1.2
    rw [tI_n (by omega)] at p1
    refine isBarred_ok hd hI.2.1 (by omega) hc (i2_eq (fun p2 => no (fun y => (bo.mp y.1).2.1 p2)) (fun p2 => ?_))
    rw [h4, bit_val (by omega) (by omega), show (0 : Int32) = nI 0 from rfl, pn_eq (by omega) (by omega), a4, a1, pn_lt (by omega) (by omega), pn_eq (by omega) (by omega)]
    refine ⟨fun p3 => ⟨by omega, fun p4 => yes ⟨bo.mpr ⟨by omega, p2, by unfold bitP; omega⟩, Or.inl p4⟩, fun p4 => ⟨by omega, fun p5 => yes ⟨bo.mpr ⟨by omega, p2, by unfold bitP; omega⟩, Or.inr p5⟩, fun p5 => no (fun y => ?_)⟩⟩, fun p3 => no (fun y => ?_)⟩
    · have := y.2; omega
    · have := (bo.mp y.1).2.2
      unfold bitP at this
      omega
  · rcases y with y | y
    · rw [y.2] at e; exact e rfl
    · omega
theorem sp_s {q : Prm} {i r : Nat} {s : Nat → Nat} : spotM q (i + 1) r s ↔ (spotM q i r s ∧ spot1 q r i (s i) ∧ ∀ j, j < i → spot2 q r i j s) := by
  constructor
  · intro H
    exact ⟨fun k hk => H k (by omega), H i (by omega)⟩
  · rintro ⟨h1, h2⟩ k hk
    by_cases e : k = i
    · rw [e]; exact h2
    · exact h1 k (by omega)
theorem isSpot_ok {c : Nat} (hI : Inv g τ) (hM : MP q m low kp cl g τ) (hr : r ≤ q.la) (hc : c < 1000) (hq : ∀ f, Flg f (spotM q m r (mdec c)) → Q f τ) : wp_X7_isSpot (nI r) (nI c) Q τ := by
  have hd := hI.1
  have hd' := hd.1
  have hM0 := hM
  have t0 := hI.2.2.2.1 0 (by omega)
  rw [show tuM 0 = 3 from rfl] at t0
  obtain ⟨⟨h1, h2, h3, h4, h5⟩, h6, h7, b1, b2, b3⟩ := hM
  unfold wp_X7_isSpot
  refine pk_loop (fun n i (f : Int32) => wp_X7_isSpot_l5 Q n (nI r) (nI c) f (nI i) τ) (fun i f => Flg f (spotM q i r (mdec c)) ∨ (i < m ∧ f = 0 ∧ ¬ spotM q m r (mdec c))) m 0 1 (by omega) (Or.inl (Or.inr ⟨rfl, fun i hi => by omega⟩)) (fun n f hf => ?_) (fun n i f hi hf hk => ?_)
  · show wp_X7_isSpot_b5 _ _ _ _ _ _ _
    unfold wp_X7_isSpot_b5
    rw [h2]
    have hf : Flg f (spotM q m r (mdec c)) := by
      rcases hf with z | z
      · exact z
      · omega
    refine ⟨fun _ => ⟨?_, hq f hf⟩, fun z => absurd (nI_le (Nat.le_refl _) (by omega)) z⟩
    rcases hf with ⟨z, _⟩ | ⟨z, _⟩
    · exact Or.inl z
    · exact Or.inr z
  · show wp_X7_isSpot_b5 _ _ _ _ _ _ _
    unfold wp_X7_isSpot_b5
    rw [h2]
    refine ⟨fun z => absurd z (nI_ge hi (by omega)), fun _ => ⟨fun z => ?_, fun z => ?_⟩⟩
    · have hn : ¬ spotM q m r (mdec c) := by
        rcases hf with hf | hf
        · rcases hf with ⟨_, y⟩ | ⟨y, _⟩
          · exact fun w => y (fun k hk => w k (by omega))
          · rw [y] at z; exact absurd z (by decide)
        · exact hf.2.2
      exact ⟨Or.inl z, hq f (Or.inl ⟨z, hn⟩)⟩
    · have hs : f = 1 ∧ spotM q i r (mdec c) := by
        rcases hf with hf | hf
        · rcases hf with ⟨y, _⟩ | y
          · exact absurd y z
          · exact y
        · exact absurd hf.2.1 z
      obtain ⟨a1, a2, a3, a4, a5, a6, a7⟩ := h6 i hi
      refine placeIn_ok hI (by omega) hc (mayBe_ok hI hM0 hi hr mdec_lt (fun f hf => ?_))
      refine pk_loop (fun n j (f : Int32) => wp_X7_isSpot_l36 Q _ n (nI r) (nI c) f (nI i) (nI j) τ) (fun j f => Flg f (spot1 q r i (mdec c i) ∧ ∀ j', j' < j → spot2 q r i j' (mdec c))) i 0 f (by omega) (hf.i ⟨fun y => ⟨y, fun j' hj => by omega⟩, fun y => y.1⟩) (fun n f hf => ?_) (fun n j f hj hf hk2 => ?_)
      · show wp_X7_isSpot_b36 _ _ _ _ _ _ _ _ _
        unfold wp_X7_isSpot_b36
        rw [na1]
        refine ⟨fun _ => hk f (Or.inl (hf.i ?_)), fun y => absurd (nI_le (Nat.le_refl _) (by omega)) y⟩
        rw [sp_s]
        exact ⟨fun y => ⟨hs.2, y⟩, fun y => y.2⟩
      · show wp_X7_isSpot_b36 _ _ _ _ _ _ _ _ _
        unfold wp_X7_isSpot_b36
        obtain ⟨c1, -⟩ := h6 j (by omega)
        have c16 := hM0.fs16 (i := j) (by omega) (by omega)
        rw [pn_in (by omega) (by omega), pn_cl (by omega), a1, pn_lt (by omega) (by omega), na1]
        have all : (spot1 q r i (mdec c i) ∧ ∀ j', j' < i → spot2 q r i j' (mdec c)) ↔ spotM q (i + 1) r (mdec c) := by
          rw [sp_s]
          exact ⟨fun y => ⟨hs.2, y⟩, fun y => y.2⟩
        refine ⟨fun y => absurd y (nI_ge hj (by omega)), fun _ => ⟨fun y => hk f (Or.inl (Or.inl ⟨y, fun w => ?_⟩)), fun y => ⟨by omega, fun y2 => hk f (Or.inl (hf.i ?_)), fun y2 => ?_⟩⟩⟩
        · rcases hf with ⟨_, v⟩ | ⟨v, _⟩
          · exact v ⟨(all.mpr w).1, fun j' hj' => (all.mpr w).2 j' (by omega)⟩
          · rw [v] at y; exact absurd y (by decide)
        · rw [← all]
          exact ⟨fun w => ⟨w.1, fun j' hj' z1 _ => by omega⟩, fun w => ⟨w.1, fun j' hj' => w.2 j' (by omega)⟩⟩
        · have hf1 : spot1 q r i (mdec c i) ∧ ∀ j', j' < j → spot2 q r i j' (mdec c) := by
            rcases hf with ⟨v, _⟩ | ⟨_, v⟩
            · exact absurd v y
            · exact v
          have yes : spot2 q r i j (mdec c) → Flg 1 (spot1 q r i (mdec c i) ∧ ∀ j', j' < j + 1 → spot2 q r i j' (mdec c)) := fun w => Or.inr ⟨rfl, hf1.1, fun j' hj' => by
            by_cases e : j' = j
            · rw [e]; exact w
            · exact hf1.2 j' (by omega)⟩
          have no : ¬ spot2 q r i j (mdec c) → Flg 0 (spot1 q r i (mdec c i) ∧ ∀ j', j' < j + 1 → spot2 q r i j' (mdec c)) := fun w => Or.inl ⟨rfl, fun v => w (v.2 j (by omega))⟩
          have di := mdec_lt (c := c) (i := i)
          have dj := mdec_lt (c := c) (i := j)
          refine placeIn_ok hI (by omega) hc (placeIn_ok hI (by omega) hc ?_)
          unfold wp_X7_isSpot_b99 wp_X7_isSpot_b108
          have en : (-(nI (mdec c i) - nI (mdec c j))).toInt = -((mdec c i : Int) - mdec c j) := by
            rw [Int32.toInt_neg, pk_sub_toInt (by omega) (by omega)]
            exact Int.bmod_eq_of_le (by omega) (by omega)
          rw [pn_in (by omega) (by omega), pn_cl (by omega), c1, c0, t0.2.1, pn_lt (by omega) (by omega), na1, tI_le, tI_le, tI_le, en, pk_sub_toInt (by omega) (by omega), z0, tI_n (show g.tu 0 < 2 ^ 31 by omega), ← b2]
          have v6 : vp_in (0 : Int32) 6 := by unfold vp_in; decide
          refine ⟨by omega, fun w => hk2 1 (yes (fun _ w2 => by omega)), fun w => ⟨fun w2 => ⟨v6, fun w3 => hk2 0 (no (fun v => ?_)), fun w3 => hk2 1 (yes (fun _ _ => ?_))⟩, fun w2 => ⟨v6, fun w3 => hk2 0 (no (fun v => ?_)), fun w3 => hk2 1 (yes (fun _ _ => ?_))⟩⟩⟩
          · have := v (by omega) (by omega)
            omega
          · omega
          · have := v (by omega) (by omega)
            omega
          · omega
theorem mbreadth_ok {c : Nat} (hI : Inv g τ) (hM : MP q m low kp cl g τ) (hm : 1 ≤ m) (hc : c < 1000) (hq : Q (nI (brP q (mdec c))) τ) : wp_X7_breadthOf (nI c) Q τ := by
  have hd' := hI.1.1
  obtain ⟨⟨h1, h2, h3, h4, h5⟩, h6, h7, b1, b2, b3⟩ := hM
  have bm : ∀ i, i ≤ m → mnS q (mdec c) i ≤ 10 ∧ mxS q (mdec c) i ≤ 10 ∧ (1 ≤ i → mnS q (mdec c) i + 1 ≤ mxS q (mdec c) i) := by
    intro i
    induction i with
    | zero => intro _; exact ⟨Nat.le_refl _, Nat.zero_le _, fun z => by omega⟩
    | succ i ih =>
      intro hi
      obtain ⟨i1, i2, i3⟩ := ih (by omega)
      obtain ⟨a1, a2, -⟩ := h6 i (by omega)
      have d := mdec_lt (c := c) (i := i)
      show (if q.fs i ≤ q.la then _ else _) ≤ 10 ∧ (if q.fs i ≤ q.la then _ else _) ≤ 10 ∧ (_ → (if q.fs i ≤ q.la then _ else _) + 1 ≤ (if q.fs i ≤ q.la then _ else _))
      simp only [if_pos a2]
      omega
  have up : ∀ d, m + d ≤ 3 → mnS q (mdec c) (m + d) = mnS q (mdec c) m ∧ mxS q (mdec c) (m + d) = mxS q (mdec c) m := by
    intro d
    induction d with
    | zero => intro _; exact ⟨rfl, rfl⟩
    | succ d ih =>
      intro hd
      have ih := ih (by omega)
      have a := (h7 (m + d) (by omega) (by omega)).1
      show (if q.fs (m + d) ≤ q.la then _ else _) = _ ∧ (if q.fs (m + d) ≤ q.la then _ else _) = _
      rw [if_neg (by omega), if_neg (by omega)]
      exact ih
  have up3 := up (3 - m) (by omega)
  rw [show m + (3 - m) = 3 by omega] at up3
  unfold wp_X7_breadthOf
  refine pk_loop (fun n i (s : Int32 × Int32) => wp_X7_breadthOf_l8 Q n (nI c) s.1 s.2 (nI i) τ) (fun i s => s.1 = nI (mnS q (mdec c) i) ∧ s.2 = nI (mxS q (mdec c) i - 1)) m 0 (10, 0) (by omega) ⟨rfl, rfl⟩ (fun n s hs => ?_) (fun n i s hi hs hk => ?_)
  · show wp_X7_breadthOf_b8 _ _ _ _ _ _ _
    unfold wp_X7_breadthOf_b8
    have b := bm m (Nat.le_refl _)
    rw [hs.1, hs.2, h2, pk_sub (by omega), na1]
    refine ⟨fun _ => ?_, fun z => absurd (nI_le (Nat.le_refl _) (by omega)) z⟩
    unfold brP at hq
    rw [up3.1, up3.2] at hq
    rwa [show mxS q (mdec c) m - 1 - mnS q (mdec c) m + 1 = max 1 (mxS q (mdec c) m - mnS q (mdec c) m) by omega]
  · show wp_X7_breadthOf_b8 _ _ _ _ _ _ _
    unfold wp_X7_breadthOf_b8
    obtain ⟨a1, a2, -⟩ := h6 i hi
    have b := bm i (by omega)
    have d := mdec_lt (c := c) (i := i)
    rw [hs.1, hs.2, h2]
    refine ⟨fun z => absurd z (nI_ge hi (by omega)), fun _ => placeIn_ok hI (by omega) hc ?_⟩
    have fin : ∀ w : Nat, w = min (mnS q (mdec c) i) (mdec c i) → wp_X7_breadthOf_b39 Q (fun a b c d σ => wp_X7_breadthOf_l8 Q n a b c d σ) (nI c) (nI (mxS q (mdec c) i - 1)) (nI i) (nI w) τ := by
      intro w hw
      unfold wp_X7_breadthOf_b39
      refine placeIn_ok hI (by omega) hc ?_
      rw [pn_le (by omega) (by omega), na1]
      refine ⟨fun z => hk (nI w, nI (mxS q (mdec c) i - 1)) ⟨?_, ?_⟩, fun z => placeIn_ok hI (by omega) hc (hk (nI w, nI (mdec c i)) ⟨?_, ?_⟩)⟩
      · show nI w = nI (if q.fs i ≤ q.la then _ else _)
        rw [if_pos a2, hw]
      · show nI _ = nI ((if q.fs i ≤ q.la then _ else _) - 1)
        rw [if_pos a2]
        exact congrArg nI (by omega)
      · show nI w = nI (if q.fs i ≤ q.la then _ else _)
        rw [if_pos a2, hw]
      · show nI _ = nI ((if q.fs i ≤ q.la then _ else _) - 1)
        rw [if_pos a2]
        exact congrArg nI (by omega)
    rw [pn_le (by omega) (by omega)]
    exact ⟨fun z => fin _ (by omega), fun z => placeIn_ok hI (by omega) hc (fin _ (by omega))⟩
def good (q : Prm) (m r : Nat) (s t : Nat → Nat) : Prop := ∀ i, i < m → q.fs i ≤ r → (t i ≤ s i + 1 ∧ s i ≤ t i + 1) ∧ ∀ j, j < i → q.fs j ≤ r → (s i < s j ↔ t i < t j)
def lnM (q : Prm) (r : Nat) (s t : Nat → Nat) : Nat → Nat
  | 0 => 0
  | n + 1 => lnM q r s t n + lnH q (r + 1) n s t
theorem lnM_3 (q : Prm) (r : Nat) (s t : Nat → Nat) : lnM q r s t 3 = lnP q (r + 1) s t := by
  unfold lnP lnM lnM lnM lnM
  omega
theorem lnM_le (q : Prm) (r : Nat) (s t : Nat → Nat) (n : Nat) : lnM q r s t n ≤ n := by
  induction n with
  | zero => exact Nat.le_refl _
  | succ n ih =>
    unfold lnM lnH
    split <;> omega
theorem leansTo_ok {c d : Nat} (hI : Inv g τ) (hM : MP q m low kp cl g τ) (hr : r ≤ q.la) (hc : c < 1000) (hd2 : d < 1000) (hy : good q m r (mdec c) (mdec d) → Q (nI (lnP q (r + 1) (mdec c) (mdec d))) τ) (hn : ¬ good q m r (mdec c) (mdec d) → Q (nI 100000) τ) : wp_X7_leansTo (nI r) (nI c) (nI d) Q τ := by
  have hd' := hI.1.1
  have hM0 := hM
  obtain ⟨⟨h1, h2, h3, h4, h5⟩, h6, h7, b1, b2, b3⟩ := hM
  have up : ∀ e, m + e ≤ 3 → lnM q r (mdec c) (mdec d) (m + e) = lnM q r (mdec c) (mdec d) m := by
    intro e
    induction e with
    | zero => intro _; rfl
    | succ e ih =>
      intro he
      have a := (h7 (m + e) (by omega) (by omega)).1
      show lnM q r (mdec c) (mdec d) (m + e) + lnH q (r + 1) (m + e) (mdec c) (mdec d) = _
      rw [ih (by omega)]
      unfold lnH
      rw [if_neg (by omega)]
      omega
  have up3 := up (3 - m) (by omega)
  rw [show m + (3 - m) = 3 by omega, lnM_3] at up3
  unfold wp_X7_leansTo
  refine pk_loop (fun n i (a : Nat) => wp_X7_leansTo_l6 Q n (nI r) (nI c) (nI d) (nI a) (nI i) τ) (fun i a => a = lnM q r (mdec c) (mdec d) i ∧ good q i r (mdec c) (mdec d)) m 0 0 (by omega) ⟨rfl, fun i hi => by omega⟩ (fun n a ha => ?_) (fun n i a hi ha hk => ?_)
  · show wp_X7_leansTo_b6 _ _ _ _ _ _ _ _
    unfold wp_X7_leansTo_b6
    rw [h2, ha.1, ← up3]
    exact ⟨fun _ => hy ha.2, fun z => absurd (nI_le (Nat.le_refl _) (by omega)) z⟩
  · show wp_X7_leansTo_b6 _ _ _ _ _ _ _ _
    unfold wp_X7_leansTo_b6
    obtain ⟨a1, a2, -⟩ := h6 i hi
    have dc := mdec_lt (c := c) (i := i)
    have dd := mdec_lt (c := d) (i := i)
    rw [h2, pn_in (by omega) (by omega), pn_cl (by omega), a1, pn_lt (by omega) (by omega)]
    refine ⟨fun z => absurd z (nI_ge hi (by omega)), fun _ => ⟨by omega, fun z => ?_, fun z => placeIn_ok hI (by omega) hd2 (placeIn_ok hI (by omega) hc (in_ok ?_))⟩⟩
    · rw [na1]
      refine hk a ⟨?_, fun k hk' hf => ?_⟩
      · show a = lnM q r (mdec c) (mdec d) i + lnH q (r + 1) i (mdec c) (mdec d)
        unfold lnH
        rw [if_neg (by omega), ha.1]
        rfl
      · by_cases e : k = i
        · rw [e] at hf; omega
        · exact ha.2 k (by omega) hf
    · rw [t_m1, t_1, pk_sub_toInt (by omega) (by omega)]
      refine i2_eq (fun w => ?_) (fun w => hn (fun y => ?_))
      · have inn : ∀ b : Nat, b = lnM q r (mdec c) (mdec d) (i + 1) → ∃ n_2, wp_X7_leansTo_l74 Q (wp_X7_leansTo_l6 Q n) n_2 (nI r) (nI c) (nI d) (nI b) (nI i) 0 τ := by
          intro b hb
          refine pk_loop (fun n' j (_ : Unit) => wp_X7_leansTo_l74 Q _ n' (nI r) (nI c) (nI d) (nI b) (nI i) (nI j) τ) (fun j _ => ∀ j', j' < j → q.fs j' ≤ r → (mdec c i < mdec c j' ↔ mdec d i < mdec d j')) i 0 () (by omega) (fun j' hj => by omega) (fun n' _ hw => ?_) (fun n' j _ hj hw hk2 => ?_)
          · show wp_X7_leansTo_b74 _ _ _ _ _ _ _ _ _ _
            unfold wp_X7_leansTo_b74
            rw [na1]
            refine ⟨fun _ => hk b ⟨hb, fun k hk' hf => ?_⟩, fun y => absurd (nI_le (Nat.le_refl _) (by omega)) y⟩
            by_cases e : k = i
            · rw [e]; exact ⟨by omega, hw⟩
            · exact ha.2 k (by omega) hf
          · show wp_X7_leansTo_b74 _ _ _ _ _ _ _ _ _ _
            unfold wp_X7_leansTo_b74
            obtain ⟨c1, c2, -⟩ := h6 j (by omega)
            have ec := mdec_lt (c := c) (i := j)
            have ed := mdec_lt (c := d) (i := j)
            rw [pn_in (by omega) (by omega), pn_cl (by omega), c1, pn_lt (by omega) (by omega), na1, na1]
            have nx : (q.fs j ≤ r → (mdec c i < mdec c j ↔ mdec d i < mdec d j)) → wp_X7_leansTo_l74 Q (wp_X7_leansTo_l6 Q n) n' (nI r) (nI c) (nI d) (nI b) (nI i) (nI (j + 1)) τ := fun y => hk2 () (fun j' hj' hf => by
              by_cases e : j' = j
              · rw [e] at hf ⊢; exact y hf
              · exact hw j' (by omega) hf)
            refine ⟨fun y => absurd y (nI_ge hj (by omega)), fun _ => ⟨by omega, fun y => nx (fun y2 => by omega), fun y => placeIn_ok hI (by omega) hc (placeIn_ok hI (by omega) hc ?_)⟩⟩
            have no : ¬ (mdec c i < mdec c j ↔ mdec d i < mdec d j) → Q (nI 100000) τ := fun y2 => hn (fun y3 => y2 ((y3 i hi (by omega)).2 j hj (by omega)))
            unfold wp_X7_leansTo_b114 wp_X7_leansTo_b136
            rw [pn_le (by omega) (by omega)]
            have z10 : ¬ (1 : Int32) = 0 := by decide
            have z01 : ¬ (0 : Int32) = 1 := by decide
            have go : ∀ s0 : Int32, ((s0 = 0 ∧ ¬ mdec c i < mdec c j) ∨ (s0 = 1 ∧ mdec c i < mdec c j)) → wp_X7_placeIn (nI d) (nI i) (fun r118 σ118 => wp_X7_placeIn (nI d) (nI j) (fun r125 σ125 => (r125 ≤ r118 → ((s0 = 0 → wp_X7_leansTo_l74 Q (wp_X7_leansTo_l6 Q n) n' (nI r) (nI c) (nI d) (nI b) (nI i) (nI j + 1) σ125) ∧ (¬ s0 = 0 → Q 100000 σ125))) ∧ (¬ r125 ≤ r118 → ((s0 = 1 → wp_X7_leansTo_l74 Q (wp_X7_leansTo_l6 Q n) n' (nI r) (nI c) (nI d) (nI b) (nI i) (nI j + 1) σ125) ∧ (¬ s0 = 1 → Q 100000 σ125)))) σ118) τ := by
              intro s0 hs
              refine placeIn_ok hI (by omega) hd2 (placeIn_ok hI (by omega) hd2 ?_)
              rw [pn_le (by omega) (by omega), na1]
              refine ⟨fun y2 => ⟨fun y3 => nx (fun _ => ?_), fun y3 => no ?_⟩, fun y2 => ⟨fun y3 => nx (fun _ => ?_), fun y3 => no ?_⟩⟩
              · rcases hs with ⟨s1, s2⟩ | ⟨s1, s2⟩
                · omega
                · rw [s1] at y3; exact absurd y3 z10
              · rcases hs with ⟨s1, s2⟩ | ⟨s1, s2⟩
                · exact absurd s1 y3
                · omega
              · rcases hs with ⟨s1, s2⟩ | ⟨s1, s2⟩
                · rw [s1] at y3; exact absurd y3 z01
                · omega
              · rcases hs with ⟨s1, s2⟩ | ⟨s1, s2⟩
                · omega
                · exact absurd s1 y3
            exact ⟨fun y2 => go 0 (Or.inl ⟨rfl, by omega⟩), fun y2 => go 1 (Or.inr ⟨rfl, by omega⟩)⟩
        have e1 : lnM q r (mdec c) (mdec d) (i + 1) = lnM q r (mdec c) (mdec d) i + lnH q (r + 1) i (mdec c) (mdec d) := rfl
        rw [na0, na1, tI_eq, pk_sub_toInt (by omega) (by omega), z0]
        refine ⟨fun y => inn a ?_, fun y => inn (a + 1) ?_⟩
        · rw [e1, ha.1]; unfold lnH; rw [if_neg (by omega)]; rfl
        · rw [e1, ha.1]; unfold lnH; rw [if_pos (by omega)]
      · have := (y i hi (by omega)).1
        omega
end MS
