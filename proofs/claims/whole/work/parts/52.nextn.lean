/-! the reference's search once more, whatever the plans say, nobody fixed: by program (wip/whole/nextn.py), out of parts 43, 45, 46, 47, 49 -/
def InvN (g : Geo) (σ : St) : Prop := IDim g σ ∧ IBar g σ ∧ IHea g σ ∧ ITun g σ ∧ True ∧ True ∧ True ∧ True ∧ True ∧ IRes σ
theorem Inv.n {g : Geo} {σ : St} (h : Inv g σ) : InvN g σ := ⟨h.1, h.2.1, h.2.2.1, h.2.2.2.1, trivial, trivial, trivial, trivial, trivial, h.2.2.2.2.2.2.2.2.2⟩
theorem InvN.cor {g : Geo} {σ τ : St} (h : InvN g σ) (hc : Cor σ τ) : InvN g τ := by
  obtain ⟨⟨hd, d1, d2, d3, d4, d5, d6⟩, ⟨b1, b2, b3, b4⟩, hh, ht, -, -, -, -, -, r1, r2, r3, r4⟩ := h
  have c := hc.1
  refine ⟨⟨hd, ?_, ?_, ?_, ?_, ?_, ?_⟩, ⟨fun r hr => ?_, ?_, ?_, b4⟩, fun x hx => ?_, fun j hj => ?_, trivial, trivial, trivial, trivial, trivial, by rw [hc.2.1, hc.2.2]; exact r1, by rw [c 94 0 (by unfold Scr; omega)]; exact r2, by rw [c 94 1 (by unfold Scr; omega)]; exact r3, by rw [c 94 2 (by unfold Scr; omega)]; exact r4⟩
  · rw [c 4 0 (by unfold Scr; omega)]; exact d1
  · rw [c 4 1 (by unfold Scr; omega)]; exact d2
  · rw [c 4 3 (by unfold Scr; omega)]; exact d3
  · rw [c 77 0 (by unfold Scr; omega)]; exact d4
  · rw [c 78 0 (by unfold Scr; omega)]; exact d5
  · rw [c 79 0 (by unfold Scr; omega)]; exact d6
  · rw [c 5 r (by unfold Scr; omega), c 83 r (by unfold Scr; omega)]; exact b1 r hr
  · rw [c 4 2 (by unfold Scr; omega)]; exact b2
  · rw [c 84 0 (by unfold Scr; omega)]; exact b3
  · have hx3 : x < 3 := by omega
    rw [c 6 x (by unfold Scr; omega), c 80 x (by unfold Scr; omega), c 7 x (by unfold Scr; omega), c 81 x (by unfold Scr; omega), c 8 x (by unfold Scr; omega), c 82 x (by unfold Scr; omega)]
    exact hh x hx
  · rw [c 14 j (by unfold Scr; omega), c 85 j (by unfold Scr; omega)]; exact ht j hj
section NN
variable {g : Geo} {q : Prm} {m low cl b k r c l : Nat} {kp : Nat → Nat} {σ τ υ : St} {Q : Int32 → St → Prop} {i : Nat} {S : Nat} {op : Nat → Nat}
theorem placeInN_ok {c : Nat} (hI : InvN g τ) (hi : i < 3) (hc : c < 1000) (hq : Q (nI (mdec c i)) τ) : wp_X7_placeIn (nI c) (nI i) Q τ := by
  obtain ⟨-, r1, r2, r3⟩ := hI.2.2.2.2.2.2.2.2.2
  have e94 : τ.1 94 i = nI (if i = 0 then 1 else if i = 1 then 10 else 100) := by
    have : i = 0 ∨ i = 1 ∨ i = 2 := by omega
    rcases this with rfl | rfl | rfl
    · exact r1
    · exact r2
    · exact r3
  unfold wp_X7_placeIn
  rw [pn_in (by omega) (by omega), pn_cl (by omega), e94]
  have key : ∀ d : Nat, 0 < d → d ≤ 100 → mdec c i = c / d % 10 → (i < 3 ∧ ¬ nI d = 0 ∧ ¬ (10 : Int32) = 0 ∧ Q (nI c / nI d - nI c / nI d / 10 * 10) τ) := by
    intro d h0 h1 h2
    rw [show (0 : Int32) = nI 0 from rfl, pn_eq (by omega) (by omega), pk_div (by omega) (by omega) (by omega), show (10 : Int32) = nI 10 from rfl, pk_rem (Nat.lt_of_le_of_lt (Nat.div_le_self c d) (by omega)) (by omega) (by omega), ← h2]
    exact ⟨hi, by omega, by decide, hq⟩
  unfold mdec at key
  by_cases e0 : i = 0
  · rw [if_pos e0]
    exact key 1 (by omega) (by omega) (by rw [if_pos e0, Nat.div_one])
  · rw [if_neg e0]
    by_cases e1 : i = 1
    · rw [if_pos e1]
      exact key 10 (by omega) (by omega) (by rw [if_neg e0, if_pos e1])
    · rw [if_neg e1]
      exact key 100 (by omega) (by omega) (by rw [if_neg e0, if_neg e1])
theorem mayBeN_ok {c : Nat} (hX : ∀ i, q.fx i = false) (hI : InvN g τ) (hM : MP q m low kp cl g τ) (hi : i < m) (hr : r ≤ q.la) (hc : c < 10) (hq : ∀ f, Flg f (spot1 q r i c) → Q f τ) : wp_X7_mayBe (nI i) (nI r) (nI c) Q τ := by
  have hd := hI.1
  have hd' := hd.1
  obtain ⟨⟨h1, h2, h3, h4, h5⟩, h6, h7, h8⟩ := hM
  obtain ⟨a1, a2, a3, a4, a5, a6, a7⟩ := h6 i hi
  obtain ⟨b1, b2, b3⟩ := h8
  have bo := b3 r c hr hc
  unfold wp_X7_mayBe
  rw [pn_in (by omega) (by omega), pn_cl (by omega), a1, pn_le (by omega) (by omega)]
  refine ⟨by omega, fun z => ?_, fun z => ⟨fun e => hq 1 (Or.inr ⟨rfl, Or.inl ⟨by omega, (nI_eq (b := 0) (by omega) (by omega)).mp e⟩⟩), fun e => hq 0 (Or.inl ⟨rfl, fun y => ?_⟩)⟩⟩
  · have b73 : ∀ s0 : Int32, Flg s0 (bitP (q.op r) c ∧ (q.fs i < r ∨ c = q.st i)) → wp_X7_mayBe_b73 Q (nI i) (nI r) (nI c) s0 τ := by
      intro s0 hs
      unfold wp_X7_mayBe_b73
      rw [pn_in (by omega) (by omega), pn_cl (by omega), a6]
      have yes : (bitP (q.op r) c ∧ (q.fs i < r ∨ c = q.st i)) → (q.fx i = true → c = q.gv i r) → Flg 1 (spot1 q r i c) := fun y1 y2 => Or.inr ⟨rfl, Or.inr ⟨z, hc, y1.1, y1.2, y2⟩⟩
      refine ⟨fun e => hq 0 (Or.inl ⟨rfl, fun y => ?_⟩), fun e => ⟨by omega, fun e2 => hq 1 (yes ?_ (fun w => ?_)), fun e2 => ?_⟩⟩
      · rcases y with y | y
        · omega
        · rcases hs with ⟨_, w⟩ | ⟨w, _⟩
          · exact w ⟨y.2.2.1, y.2.2.2.1⟩
          · rw [w] at e; exact absurd e (by decide)
      · rcases hs with ⟨w, _⟩ | ⟨_, w⟩
        · exact absurd w e
        · exact w
      · rw [if_pos w, tI_eq, tI_n (by have := (a7 w).1; omega), t_m1] at e2
        omega
      · have w : q.fx i = true := by
          by_cases w : q.fx i = true
          · exact w
          · rw [if_neg w] at e2; exact absurd rfl e2
        obtain ⟨k0, k1, k2, k3⟩ := a7 w
        exact absurd w (by rw [hX i]; decide)
    have no : ¬ (bitP (q.op r) c ∧ (q.fs i < r ∨ c = q.st i)) → wp_X7_mayBe_b72 Q (nI i) (nI r) (nI c) τ := by
      intro y
      unfold wp_X7_mayBe_b72
      exact b73 0 (Or.inl ⟨rfl, y⟩)
    have yes : (bitP (q.op r) c ∧ (q.fs i < r ∨ c = q.st i)) → wp_X7_mayBe_b68 Q (nI i) (nI r) (nI c) τ := by
      intro y
      unfold wp_X7_mayBe_b68
      exact b73 1 (Or.inr ⟨rfl, y⟩)
    refine isIn_ok hd (i2_eq (fun p1 => ?_) (fun p1 => no (fun y => p1 ⟨by rw [tI_n (by omega)]; omega, by have := (bo.mp y.1).1; rw [tI_n (by omega)]; omega⟩)))
    have p1 := p1.2
    rw [tI_n (by omega)] at p1
    refine isBarred_ok hd hI.2.1 (by omega) hc (i2_eq (fun p2 => no (fun y => (bo.mp y.1).2.1 p2)) (fun p2 => ?_))
    rw [h4, bit_val (by omega) (by omega), show (0 : Int32) = nI 0 from rfl, pn_eq (by omega) (by omega), a4, a1, pn_lt (by omega) (by omega), pn_eq (by omega) (by omega)]
    refine ⟨fun p3 => ⟨by omega, fun p4 => yes ⟨bo.mpr ⟨by omega, p2, by unfold bitP; omega⟩, Or.inl p4⟩, fun p4 => ⟨by omega, fun p5 => yes ⟨bo.mpr ⟨by omega, p2, by unfold bitP; omega⟩, Or.inr p5⟩, fun p5 => no (fun y => ?_)⟩⟩, fun p3 => no (fun y => ?_)⟩
    · have := y.2; omega
    · have := (bo.mp y.1).2.2
      unfold bitP at this
      omega
  · rcases y with y | y
    · rw [y.2] at e; exact e rfl
    · omega
theorem isSpotN_ok {c : Nat} (hX : ∀ i, q.fx i = false) (hI : InvN g τ) (hM : MP q m low kp cl g τ) (hr : r ≤ q.la) (hc : c < 1000) (hq : ∀ f, Flg f (spotM q m r (mdec c)) → Q f τ) : wp_X7_isSpot (nI r) (nI c) Q τ := by
  have hd := hI.1
  have hd' := hd.1
  have hM0 := hM
  have t0 := hI.2.2.2.1 0 (by omega)
  rw [show tuM 0 = 3 from rfl] at t0
  obtain ⟨⟨h1, h2, h3, h4, h5⟩, h6, h7, b1, b2, b3⟩ := hM
  unfold wp_X7_isSpot
  refine pk_loop (fun n i (f : Int32) => wp_X7_isSpot_l5 Q n (nI r) (nI c) f (nI i) τ) (fun i f => Flg f (spotM q i r (mdec c)) ∨ (i < m ∧ f = 0 ∧ ¬ spotM q m r (mdec c))) m 0 1 (by omega) (Or.inl (Or.inr ⟨rfl, fun i hi => by omega⟩)) (fun n f hf => ?_) (fun n i f hi hf hk => ?_)
  · show wp_X7_isSpot_b5 _ _ _ _ _ _ _
    unfold wp_X7_isSpot_b5
    rw [h2]
    have hf : Flg f (spotM q m r (mdec c)) := by
      rcases hf with z | z
      · exact z
      · omega
    refine ⟨fun _ => ⟨?_, hq f hf⟩, fun z => absurd (nI_le (Nat.le_refl _) (by omega)) z⟩
    rcases hf with ⟨z, _⟩ | ⟨z, _⟩
    · exact Or.inl z
    · exact Or.inr z
  · show wp_X7_isSpot_b5 _ _ _ _ _ _ _
    unfold wp_X7_isSpot_b5
    rw [h2]
    refine ⟨fun z => absurd z (nI_ge hi (by omega)), fun _ => ⟨fun z => ?_, fun z => ?_⟩⟩
    · have hn : ¬ spotM q m r (mdec c) := by
        rcases hf with hf | hf
        · rcases hf with ⟨_, y⟩ | ⟨y, _⟩
          · exact fun w => y (fun k hk => w k (by omega))
          · rw [y] at z; exact absurd z (by decide)
        · exact hf.2.2
      exact ⟨Or.inl z, hq f (Or.inl ⟨z, hn⟩)⟩
    · have hs : f = 1 ∧ spotM q i r (mdec c) := by
        rcases hf with hf | hf
        · rcases hf with ⟨y, _⟩ | y
          · exact absurd y z
          · exact y
        · exact absurd hf.2.1 z
      obtain ⟨a1, a2, a3, a4, a5, a6, a7⟩ := h6 i hi
      refine placeInN_ok hI (by omega) hc (mayBeN_ok hX hI hM0 hi hr mdec_lt (fun f hf => ?_))
      refine pk_loop (fun n j (f : Int32) => wp_X7_isSpot_l36 Q _ n (nI r) (nI c) f (nI i) (nI j) τ) (fun j f => Flg f (spot1 q r i (mdec c i) ∧ ∀ j', j' < j → spot2 q r i j' (mdec c))) i 0 f (by omega) (hf.i ⟨fun y => ⟨y, fun j' hj => by omega⟩, fun y => y.1⟩) (fun n f hf => ?_) (fun n j f hj hf hk2 => ?_)
      · show wp_X7_isSpot_b36 _ _ _ _ _ _ _ _ _
        unfold wp_X7_isSpot_b36
        rw [na1]
        refine ⟨fun _ => hk f (Or.inl (hf.i ?_)), fun y => absurd (nI_le (Nat.le_refl _) (by omega)) y⟩
        rw [sp_s]
        exact ⟨fun y => ⟨hs.2, y⟩, fun y => y.2⟩
      · show wp_X7_isSpot_b36 _ _ _ _ _ _ _ _ _
        unfold wp_X7_isSpot_b36
        obtain ⟨c1, -⟩ := h6 j (by omega)
        have c16 := hM0.fs16 (i := j) (by omega) (by omega)
        rw [pn_in (by omega) (by omega), pn_cl (by omega), a1, pn_lt (by omega) (by omega), na1]
        have all : (spot1 q r i (mdec c i) ∧ ∀ j', j' < i → spot2 q r i j' (mdec c)) ↔ spotM q (i + 1) r (mdec c) := by
          rw [sp_s]
          exact ⟨fun y => ⟨hs.2, y⟩, fun y => y.2⟩
        refine ⟨fun y => absurd y (nI_ge hj (by omega)), fun _ => ⟨fun y => hk f (Or.inl (Or.inl ⟨y, fun w => ?_⟩)), fun y => ⟨by omega, fun y2 => hk f (Or.inl (hf.i ?_)), fun y2 => ?_⟩⟩⟩
        · rcases hf with ⟨_, v⟩ | ⟨v, _⟩
          · exact v ⟨(all.mpr w).1, fun j' hj' => (all.mpr w).2 j' (by omega)⟩
          · rw [v] at y; exact absurd y (by decide)
        · rw [← all]
          exact ⟨fun w => ⟨w.1, fun j' hj' z1 _ => by omega⟩, fun w => ⟨w.1, fun j' hj' => w.2 j' (by omega)⟩⟩
        · have hf1 : spot1 q r i (mdec c i) ∧ ∀ j', j' < j → spot2 q r i j' (mdec c) := by
            rcases hf with ⟨v, _⟩ | ⟨_, v⟩
            · exact absurd v y
            · exact v
          have yes : spot2 q r i j (mdec c) → Flg 1 (spot1 q r i (mdec c i) ∧ ∀ j', j' < j + 1 → spot2 q r i j' (mdec c)) := fun w => Or.inr ⟨rfl, hf1.1, fun j' hj' => by
            by_cases e : j' = j
            · rw [e]; exact w
            · exact hf1.2 j' (by omega)⟩
          have no : ¬ spot2 q r i j (mdec c) → Flg 0 (spot1 q r i (mdec c i) ∧ ∀ j', j' < j + 1 → spot2 q r i j' (mdec c)) := fun w => Or.inl ⟨rfl, fun v => w (v.2 j (by omega))⟩
          have di := mdec_lt (c := c) (i := i)
          have dj := mdec_lt (c := c) (i := j)
          refine placeInN_ok hI (by omega) hc (placeInN_ok hI (by omega) hc ?_)
          unfold wp_X7_isSpot_b99 wp_X7_isSpot_b108
          have en : (-(nI (mdec c i) - nI (mdec c j))).toInt = -((mdec c i : Int) - mdec c j) := by
            rw [Int32.toInt_neg, pk_sub_toInt (by omega) (by omega)]
            exact Int.bmod_eq_of_le (by omega) (by omega)
          rw [pn_in (by omega) (by omega), pn_cl (by omega), c1, c0, t0.2.1, pn_lt (by omega) (by omega), na1, tI_le, tI_le, tI_le, en, pk_sub_toInt (by omega) (by omega), z0, tI_n (show g.tu 0 < 2 ^ 31 by omega), ← b2]
          have v6 : vp_in (0 : Int32) 6 := by unfold vp_in; decide
          refine ⟨by omega, fun w => hk2 1 (yes (fun _ w2 => by omega)), fun w => ⟨fun w2 => ⟨v6, fun w3 => hk2 0 (no (fun v => ?_)), fun w3 => hk2 1 (yes (fun _ _ => ?_))⟩, fun w2 => ⟨v6, fun w3 => hk2 0 (no (fun v => ?_)), fun w3 => hk2 1 (yes (fun _ _ => ?_))⟩⟩⟩
          · have := v (by omega) (by omega)
            omega
          · omega
          · have := v (by omega) (by omega)
            omega
          · omega
theorem mbreadthN_ok {c : Nat} (hI : InvN g τ) (hM : MP q m low kp cl g τ) (hm : 1 ≤ m) (hc : c < 1000) (hq : Q (nI (brP q (mdec c))) τ) : wp_X7_breadthOf (nI c) Q τ := by
  have hd' := hI.1.1
  obtain ⟨⟨h1, h2, h3, h4, h5⟩, h6, h7, b1, b2, b3⟩ := hM
  have bm : ∀ i, i ≤ m → mnS q (mdec c) i ≤ 10 ∧ mxS q (mdec c) i ≤ 10 ∧ (1 ≤ i → mnS q (mdec c) i + 1 ≤ mxS q (mdec c) i) := by
    intro i
    induction i with
    | zero => intro _; exact ⟨Nat.le_refl _, Nat.zero_le _, fun z => by omega⟩
    | succ i ih =>
      intro hi
      obtain ⟨i1, i2, i3⟩ := ih (by omega)
      obtain ⟨a1, a2, -⟩ := h6 i (by omega)
      have d := mdec_lt (c := c) (i := i)
      show (if q.fs i ≤ q.la then _ else _) ≤ 10 ∧ (if q.fs i ≤ q.la then _ else _) ≤ 10 ∧ (_ → (if q.fs i ≤ q.la then _ else _) + 1 ≤ (if q.fs i ≤ q.la then _ else _))
      simp only [if_pos a2]
      omega
  have up : ∀ d, m + d ≤ 3 → mnS q (mdec c) (m + d) = mnS q (mdec c) m ∧ mxS q (mdec c) (m + d) = mxS q (mdec c) m := by
    intro d
    induction d with
    | zero => intro _; exact ⟨rfl, rfl⟩
    | succ d ih =>
      intro hd
      have ih := ih (by omega)
      have a := (h7 (m + d) (by omega) (by omega)).1
      show (if q.fs (m + d) ≤ q.la then _ else _) = _ ∧ (if q.fs (m + d) ≤ q.la then _ else _) = _
      rw [if_neg (by omega), if_neg (by omega)]
      exact ih
  have up3 := up (3 - m) (by omega)
  rw [show m + (3 - m) = 3 by omega] at up3
  unfold wp_X7_breadthOf
  refine pk_loop (fun n i (s : Int32 × Int32) => wp_X7_breadthOf_l8 Q n (nI c) s.1 s.2 (nI i) τ) (fun i s => s.1 = nI (mnS q (mdec c) i) ∧ s.2 = nI (mxS q (mdec c) i - 1)) m 0 (10, 0) (by omega) ⟨rfl, rfl⟩ (fun n s hs => ?_) (fun n i s hi hs hk => ?_)
  · show wp_X7_breadthOf_b8 _ _ _ _ _ _ _
    unfold wp_X7_breadthOf_b8
    have b := bm m (Nat.le_refl _)
    rw [hs.1, hs.2, h2, pk_sub (by omega), na1]
    refine ⟨fun _ => ?_, fun z => absurd (nI_le (Nat.le_refl _) (by omega)) z⟩
    unfold brP at hq
    rw [up3.1, up3.2] at hq
    rwa [show mxS q (mdec c) m - 1 - mnS q (mdec c) m + 1 = max 1 (mxS q (mdec c) m - mnS q (mdec c) m) by omega]
  · show wp_X7_breadthOf_b8 _ _ _ _ _ _ _
    unfold wp_X7_breadthOf_b8
    obtain ⟨a1, a2, -⟩ := h6 i hi
    have b := bm i (by omega)
    have d := mdec_lt (c := c) (i := i)
    rw [hs.1, hs.2, h2]
    refine ⟨fun z => absurd z (nI_ge hi (by omega)), fun _ => placeInN_ok hI (by omega) hc ?_⟩
    have fin : ∀ w : Nat, w = min (mnS q (mdec c) i) (mdec c i) → wp_X7_breadthOf_b39 Q (fun a b c d σ => wp_X7_breadthOf_l8 Q n a b c d σ) (nI c) (nI (mxS q (mdec c) i - 1)) (nI i) (nI w) τ := by
      intro w hw
      unfold wp_X7_breadthOf_b39
      refine placeInN_ok hI (by omega) hc ?_
      rw [pn_le (by omega) (by omega), na1]
      refine ⟨fun z => hk (nI w, nI (mxS q (mdec c) i - 1)) ⟨?_, ?_⟩, fun z => placeInN_ok hI (by omega) hc (hk (nI w, nI (mdec c i)) ⟨?_, ?_⟩)⟩
      · show nI w = nI (if q.fs i ≤ q.la then _ else _)
        rw [if_pos a2, hw]
      · show nI _ = nI ((if q.fs i ≤ q.la then _ else _) - 1)
        rw [if_pos a2]
        exact congrArg nI (by omega)
      · show nI w = nI (if q.fs i ≤ q.la then _ else _)
        rw [if_pos a2, hw]
      · show nI _ = nI ((if q.fs i ≤ q.la then _ else _) - 1)
        rw [if_pos a2]
        exact congrArg nI (by omega)
    rw [pn_le (by omega) (by omega)]
    exact ⟨fun z => fin _ (by omega), fun z => placeInN_ok hI (by omega) hc (fin _ (by omega))⟩
theorem leansToN_ok {c d : Nat} (hI : InvN g τ) (hM : MP q m low kp cl g τ) (hr : r ≤ q.la) (hc : c < 1000) (hd2 : d < 1000) (hy : good q m r (mdec c) (mdec d) → Q (nI (lnP q (r + 1) (mdec c) (mdec d))) τ) (hn : ¬ good q m r (mdec c) (mdec d) → Q (nI 100000) τ) : wp_X7_leansTo (nI r) (nI c) (nI d) Q τ := by
  have hd' := hI.1.1
  have hM0 := hM
  obtain ⟨⟨h1, h2, h3, h4, h5⟩, h6, h7, b1, b2, b3⟩ := hM
  have up : ∀ e, m + e ≤ 3 → lnM q r (mdec c) (mdec d) (m + e) = lnM q r (mdec c) (mdec d) m := by
    intro e
    induction e with
    | zero => intro _; rfl
    | succ e ih =>
      intro he
      have a := (h7 (m + e) (by omega) (by omega)).1
      show lnM q r (mdec c) (mdec d) (m + e) + lnH q (r + 1) (m + e) (mdec c) (mdec d) = _
      rw [ih (by omega)]
      unfold lnH
      rw [if_neg (by omega)]
      omega
  have up3 := up (3 - m) (by omega)
  rw [show m + (3 - m) = 3 by omega, lnM_3] at up3
  unfold wp_X7_leansTo
  refine pk_loop (fun n i (a : Nat) => wp_X7_leansTo_l6 Q n (nI r) (nI c) (nI d) (nI a) (nI i) τ) (fun i a => a = lnM q r (mdec c) (mdec d) i ∧ good q i r (mdec c) (mdec d)) m 0 0 (by omega) ⟨rfl, fun i hi => by omega⟩ (fun n a ha => ?_) (fun n i a hi ha hk => ?_)
  · show wp_X7_leansTo_b6 _ _ _ _ _ _ _ _
    unfold wp_X7_leansTo_b6
    rw [h2, ha.1, ← up3]
    exact ⟨fun _ => hy ha.2, fun z => absurd (nI_le (Nat.le_refl _) (by omega)) z⟩
  · show wp_X7_leansTo_b6 _ _ _ _ _ _ _ _
    unfold wp_X7_leansTo_b6
    obtain ⟨a1, a2, -⟩ := h6 i hi
    have dc := mdec_lt (c := c) (i := i)
    have dd := mdec_lt (c := d) (i := i)
    rw [h2, pn_in (by omega) (by omega), pn_cl (by omega), a1, pn_lt (by omega) (by omega)]
    refine ⟨fun z => absurd z (nI_ge hi (by omega)), fun _ => ⟨by omega, fun z => ?_, fun z => placeInN_ok hI (by omega) hd2 (placeInN_ok hI (by omega) hc (in_ok ?_))⟩⟩
    · rw [na1]
      refine hk a ⟨?_, fun k hk' hf => ?_⟩
      · show a = lnM q r (mdec c) (mdec d) i + lnH q (r + 1) i (mdec c) (mdec d)
        unfold lnH
        rw [if_neg (by omega), ha.1]
        rfl
      · by_cases e : k = i
        · rw [e] at hf; omega
        · exact ha.2 k (by omega) hf
    · rw [t_m1, t_1, pk_sub_toInt (by omega) (by omega)]
      refine i2_eq (fun w => ?_) (fun w => hn (fun y => ?_))
      · have inn : ∀ b : Nat, b = lnM q r (mdec c) (mdec d) (i + 1) → ∃ n_2, wp_X7_leansTo_l74 Q (wp_X7_leansTo_l6 Q n) n_2 (nI r) (nI c) (nI d) (nI b) (nI i) 0 τ := by
          intro b hb
          refine pk_loop (fun n' j (_ : Unit) => wp_X7_leansTo_l74 Q _ n' (nI r) (nI c) (nI d) (nI b) (nI i) (nI j) τ) (fun j _ => ∀ j', j' < j → q.fs j' ≤ r → (mdec c i < mdec c j' ↔ mdec d i < mdec d j')) i 0 () (by omega) (fun j' hj => by omega) (fun n' _ hw => ?_) (fun n' j _ hj hw hk2 => ?_)
          · show wp_X7_leansTo_b74 _ _ _ _ _ _ _ _ _ _
            unfold wp_X7_leansTo_b74
            rw [na1]
            refine ⟨fun _ => hk b ⟨hb, fun k hk' hf => ?_⟩, fun y => absurd (nI_le (Nat.le_refl _) (by omega)) y⟩
            by_cases e : k = i
            · rw [e]; exact ⟨by omega, hw⟩
            · exact ha.2 k (by omega) hf
          · show wp_X7_leansTo_b74 _ _ _ _ _ _ _ _ _ _
            unfold wp_X7_leansTo_b74
            obtain ⟨c1, c2, -⟩ := h6 j (by omega)
            have ec := mdec_lt (c := c) (i := j)
            have ed := mdec_lt (c := d) (i := j)
            rw [pn_in (by omega) (by omega), pn_cl (by omega), c1, pn_lt (by omega) (by omega), na1, na1]
            have nx : (q.fs j ≤ r → (mdec c i < mdec c j ↔ mdec d i < mdec d j)) → wp_X7_leansTo_l74 Q (wp_X7_leansTo_l6 Q n) n' (nI r) (nI c) (nI d) (nI b) (nI i) (nI (j + 1)) τ := fun y => hk2 () (fun j' hj' hf => by
              by_cases e : j' = j
              · rw [e] at hf ⊢; exact y hf
              · exact hw j' (by omega) hf)
            refine ⟨fun y => absurd y (nI_ge hj (by omega)), fun _ => ⟨by omega, fun y => nx (fun y2 => by omega), fun y => placeInN_ok hI (by omega) hc (placeInN_ok hI (by omega) hc ?_)⟩⟩
            have no : ¬ (mdec c i < mdec c j ↔ mdec d i < mdec d j) → Q (nI 100000) τ := fun y2 => hn (fun y3 => y2 ((y3 i hi (by omega)).2 j hj (by omega)))
            unfold wp_X7_leansTo_b114 wp_X7_leansTo_b136
            rw [pn_le (by omega) (by omega)]
            have z10 : ¬ (1 : Int32) = 0 := by decide
            have z01 : ¬ (0 : Int32) = 1 := by decide
            have go : ∀ s0 : Int32, ((s0 = 0 ∧ ¬ mdec c i < mdec c j) ∨ (s0 = 1 ∧ mdec c i < mdec c j)) → wp_X7_placeIn (nI d) (nI i) (fun r118 σ118 => wp_X7_placeIn (nI d) (nI j) (fun r125 σ125 => (r125 ≤ r118 → ((s0 = 0 → wp_X7_leansTo_l74 Q (wp_X7_leansTo_l6 Q n) n' (nI r) (nI c) (nI d) (nI b) (nI i) (nI j + 1) σ125) ∧ (¬ s0 = 0 → Q 100000 σ125))) ∧ (¬ r125 ≤ r118 → ((s0 = 1 → wp_X7_leansTo_l74 Q (wp_X7_leansTo_l6 Q n) n' (nI r) (nI c) (nI d) (nI b) (nI i) (nI j + 1) σ125) ∧ (¬ s0 = 1 → Q 100000 σ125)))) σ118) τ := by
              intro s0 hs
              refine placeInN_ok hI (by omega) hd2 (placeInN_ok hI (by omega) hd2 ?_)
              rw [pn_le (by omega) (by omega), na1]
              refine ⟨fun y2 => ⟨fun y3 => nx (fun _ => ?_), fun y3 => no ?_⟩, fun y2 => ⟨fun y3 => nx (fun _ => ?_), fun y3 => no ?_⟩⟩
              · rcases hs with ⟨s1, s2⟩ | ⟨s1, s2⟩
                · omega
                · rw [s1] at y3; exact absurd y3 z10
              · rcases hs with ⟨s1, s2⟩ | ⟨s1, s2⟩
                · exact absurd s1 y3
                · omega
              · rcases hs with ⟨s1, s2⟩ | ⟨s1, s2⟩
                · rw [s1] at y3; exact absurd y3 z01
                · omega
              · rcases hs with ⟨s1, s2⟩ | ⟨s1, s2⟩
                · omega
                · exact absurd s1 y3
            exact ⟨fun y2 => go 0 (Or.inl ⟨rfl, by omega⟩), fun y2 => go 1 (Or.inr ⟨rfl, by omega⟩)⟩
        have e1 : lnM q r (mdec c) (mdec d) (i + 1) = lnM q r (mdec c) (mdec d) i + lnH q (r + 1) i (mdec c) (mdec d) := rfl
        rw [na0, na1, tI_eq, pk_sub_toInt (by omega) (by omega), z0]
        refine ⟨fun y => inn a ?_, fun y => inn (a + 1) ?_⟩
        · rw [e1, ha.1]; unfold lnH; rw [if_neg (by omega)]; rfl
        · rw [e1, ha.1]; unfold lnH; rw [if_pos (by omega)]
      · have := (y i hi (by omega)).1
        omega
theorem firstOfN_ok (hI : InvN g τ) (hM : MP q m low kp cl g τ) (hi : i < 3) (hr : r ≤ 15) (hc : c < 1000) (hq : Q (nI (fO q m r (mdec c) i)) τ) : wp_X7_firstOf (nI i) (nI r) (nI c) Q τ := by
  have hd' := hI.1.1
  obtain ⟨⟨h1, h2, h3, h4, h5⟩, h6, h7, b1, b2, b3⟩ := hM
  unfold wp_X7_firstOf
  unfold fO at hq
  have dc := mdec_lt (c := c) (i := i)
  rw [h2, pn_le (by omega) (by omega), pn_in (by omega) (by omega), pn_cl (by omega), na1]
  refine ⟨fun z => ?_, fun z => ⟨by omega, ?_⟩⟩
  · rw [if_pos (Or.inl z)] at hq; exact hq
  · obtain ⟨a1, a2, a3, a4, a5, -⟩ := h6 i (by omega)
    rw [a1, a4, pn_le (by omega) (by omega), pn_eq (by omega) (by omega)]
    refine ⟨fun z2 => ⟨by omega, fun z3 => ⟨by omega, ?_⟩, fun z3 => placeInN_ok hI hi hc ?_⟩, fun z2 => ?_⟩
    · rw [if_neg (by omega), if_pos z3] at hq; exact hq
    · rw [if_neg (by omega), if_neg z3] at hq
      rw [show (0 : Int32) = nI 0 from rfl, pn_le (by omega) (by omega)]
      refine ⟨fun z4 => ?_, fun z4 => placeInN_ok hI hi hc ?_⟩
      · rwa [show mdec c i - 1 = 0 by omega] at hq
      · rw [ns1 (by omega)]; exact hq
    · rw [if_pos (Or.inr (by omega))] at hq; exact hq
theorem lastOfN_ok (hI : InvN g τ) (hM : MP q m low kp cl g τ) (hi : i < 3) (hr : r ≤ 15) (hc : c < 1000) (hq : Q (nI (lO q m r (mdec c) i)) τ) : wp_X7_lastOf (nI i) (nI r) (nI c) Q τ := by
  have hd' := hI.1.1
  obtain ⟨⟨h1, h2, h3, h4, h5⟩, h6, h7, b1, b2, b3⟩ := hM
  unfold wp_X7_lastOf
  unfold lO at hq
  have dc := mdec_lt (c := c) (i := i)
  rw [h2, pn_le (by omega) (by omega), pn_in (by omega) (by omega), pn_cl (by omega), na1]
  refine ⟨fun z => ?_, fun z => ⟨by omega, ?_⟩⟩
  · rw [if_pos (Or.inl z)] at hq; exact hq
  · obtain ⟨a1, a2, a3, a4, a5, -⟩ := h6 i (by omega)
    rw [a1, a4, pn_le (by omega) (by omega), pn_eq (by omega) (by omega)]
    refine ⟨fun z2 => ⟨by omega, fun z3 => ⟨by omega, ?_⟩, fun z3 => placeInN_ok hI hi hc ?_⟩, fun z2 => ?_⟩
    · rw [if_neg (by omega), if_pos z3] at hq; exact hq
    · rw [if_neg (by omega), if_neg z3] at hq
      rw [show (9 : Int32) = nI 9 from rfl, pn_le (by omega) (by omega)]
      refine ⟨fun z4 => ?_, fun z4 => placeInN_ok hI hi hc ?_⟩
      · rwa [show min 9 (mdec c i + 1) = 9 by omega] at hq
      · rw [na1]
        rwa [show min 9 (mdec c i + 1) = mdec c i + 1 by omega] at hq
    · rw [if_pos (Or.inr (by omega))] at hq; exact hq
theorem l60N_ok {K18 : Int32 → Int32 → Int32 → Int32 → St → Prop} {K39 : Int32 → Int32 → Int32 → Int32 → Int32 → St → Prop} {x y v : Nat} (hI : InvN g τ) (hM : MP q m low kp cl g τ) (hr : r + 1 + k = q.la) (hc : c < p10 m) (hs : spotM q 3 r (mdec c)) (hR : Row q b k m (r + 1) τ)
    (hx : x ≤ 9 ∧ (m ≤ 0 → x = 0)) (hy : y ≤ 9 ∧ (m ≤ 1 → y = 0)) (hf : FN τ υ) (hv : LsM q b k r (mdec c) (PB x y) v (υ.1 75 29))
    (hk2 : ∀ v' υ', FN τ υ' → LsM q b k r (mdec c) (PB x (y + 1)) v' (υ'.1 75 29) → K39 (nI r) (nI c) (nI v') (nI x) (nI (y + 1)) υ') :
    ∃ n, wp_X7_leastNext_l60 Q K18 K39 n (nI r) (nI c) (nI v) (nI x) (nI y) (nI (fO q m r (mdec c) 2)) υ := by
  have hd' := hI.1.1
  have la15 : q.la ≤ 15 := by have := hM.2.2.2.1; omega
  have c1000 : c < 1000 := by have := p10_le m; omega
  have fb := fO_b (r := r) (c := c) (i := 2) hM
  have z0 : ∀ i, m ≤ i → i < 3 → mdec c i = 0 := fun i h1 h2 => mdec_0 hc h1 h2
  have inn := fun t hn => nxt_in (t := t) hM (by omega) la15 hs (fun i _ => mdec_lt) hn
  refine pk_loop (fun n z (p : Nat × St) => wp_X7_leastNext_l60 Q K18 K39 n (nI r) (nI c) (nI p.1) (nI x) (nI y) (nI z) p.2) (fun z p => fO q m r (mdec c) 2 ≤ z ∧ FN τ p.2 ∧ LsM q b k r (mdec c) (PC x y z) p.1 (p.2.1 75 29)) (lO q m r (mdec c) 2 + 1) (fO q m r (mdec c) 2) (v, υ) (by omega) ⟨Nat.le_refl _, hf, hv.i (fun t ht => ?_)⟩ (fun n p hp => ?_) (fun n z p hz hp hk3 => ?_)
  · have := (inn t ht 2 (by omega)).1
    unfold PB PC
    omega
  · show wp_X7_leastNext_b60 _ _ _ _ _ _ _ _ _ _ _
    unfold wp_X7_leastNext_b60
    obtain ⟨-, p1, p2⟩ := hp
    refine lastOfN_ok (i := 2) (hI.cor p1.fm.cor) (hM.fr p1.fm) (by omega) (by omega) c1000 ?_
    rw [pn_lt (by omega) (by omega), na1]
    refine ⟨fun _ => hk2 _ _ p1 (p2.i (fun t ht => ?_)), fun w => absurd (by omega) w⟩
    have := (inn t ht 2 (by omega)).2.1
    unfold PB PC
    omega
  · show wp_X7_leastNext_b60 _ _ _ _ _ _ _ _ _ _ _
    unfold wp_X7_leastNext_b60
    obtain ⟨p0, p1, p2⟩ := hp
    obtain ⟨v, υ⟩ := p
    have hIu := hI.cor p1.fm.cor
    have hMu := hM.fr p1.fm
    have v5 : v ≤ 100000 := p2.1
    refine lastOfN_ok (i := 2) hIu hMu (by omega) (by omega) c1000 ?_
    have et : nI x + 10 * nI y + 100 * nI z = nI (mcod (tri x y z)) := by
      rw [nm10, show (100 : Int32) * nI z = nI (100 * z) from pk_mul 100 z, nI_add, nI_add]
      rfl
    have t10 : ∀ i, i < 3 → tri x y z i < 10 := by
      intro i hi
      have : i = 0 ∨ i = 1 ∨ i = 2 := by omega
      rcases this with rfl | rfl | rfl
      · rw [tri_0]; omega
      · rw [tri_1]; omega
      · rw [tri_2]; omega
    have t0 : ∀ i, m ≤ i → i < 3 → tri x y z i = 0 := by
      intro i hm hi
      have : i = 0 ∨ i = 1 ∨ i = 2 := by omega
      rcases this with rfl | rfl | rfl
      · exact hx.2 hm
      · exact hy.2 hm
      · have := fb.2.2 hm
        rw [tri_2]; omega
    have hd2 := mcod_lt t10 t0
    have d1000 : mcod (tri x y z) < 1000 := by have := p10_le m; omega
    obtain ⟨w, w1, w2⟩ := hR _ hd2
    have e93 : υ.1 93 (1000 * (r + 1) + mcod (tri x y z)) = nI w := by rw [p1.1 _ _ (by omega), w1]
    rw [et, na1, na1, show (1000 : Int32) * nI (r + 1) = nI (1000 * (r + 1)) from pk_mul 1000 (r + 1), nI_add, pn_lt (by omega) (by omega), pn_in (by omega) (by omega), pn_cl (by omega), e93]
    refine ⟨fun w => absurd w (by omega), fun _ => ⟨by omega, fun u hu => ?_⟩⟩
    subst hu
    have w2 := MV_ext (mdec_mcod t10) w2
    have wb : w ≤ 100000 := by rcases w2 with h | h <;> omega
    have fin : ∀ u : Nat, u ≤ 300000 → ((100000 ≤ u ∧ ∀ l, ¬ (nxt q (r + 1) (mdec c) (tri x y z) ∧ Can q k (tri x y z) b l)) ∨ (nxt q (r + 1) (mdec c) (tri x y z) ∧ ∃ l, Can q k (tri x y z) b l ∧ u = l + lnP q (r + 1) (mdec c) (tri x y z) ∧ ∀ l', Can q k (tri x y z) b l' → l ≤ l')) → ∀ K60 : Int32 → Int32 → Int32 → Int32 → Int32 → Int32 → St → Prop, (∀ v' υ', FN τ υ' → LsM q b k r (mdec c) (PC x y (z + 1)) v' (υ'.1 75 29) → K60 (nI r) (nI c) (nI v') (nI x) (nI y) (nI (z + 1)) υ') → wp_X7_leastNext_b128 Q K18 K39 K60 (nI r) (nI c) (nI v) (nI x) (nI y) (nI z) (nI (mcod (tri x y z))) (nI u) υ := by
      intro u hu H K60 hK
      have st := p2.step (P' := PC x y (z + 1)) (by omega) t10 H (fun t' ht' => ?_) (fun t' ht' hl => ?_)
      · unfold wp_X7_leastNext_b128 wp_X7_leastNext_b146
        rw [pn_le (by omega) (by omega), na1]
        refine ⟨fun e => ⟨fun _ => ?_, fun e2 => absurd e e2⟩, fun e => ⟨fun e2 => absurd e2 e, fun _ => ?_⟩⟩
        · rw [if_neg (by omega), if_neg (by omega)] at st
          exact hK v _ p1.s (by rw [sI_1, if_pos ⟨rfl, rfl⟩]; exact st)
        · rw [if_pos (by omega), if_pos (by omega)] at st
          exact hK u _ p1.s (by rw [sI_1, if_pos ⟨rfl, rfl⟩]; exact st)
      · unfold PC
        constructor
        · intro w
          by_cases y2 : t' 0 = x ∧ t' 1 = y ∧ t' 2 = z
          · exact Or.inr (eq_tri y2.1 y2.2.1 y2.2.2)
          · exact Or.inl (by omega)
        · rintro (w | w)
          · omega
          · have w0 := w 0 (by omega)
            have w1 := w 1 (by omega)
            have w2 := w 2 (by omega)
            rw [tri_0] at w0
            rw [tri_1] at w1
            rw [tri_2] at w2
            omega
      · have l0 := hl 0 (by omega)
        have l1 := hl 1 (by omega)
        have l2 := hl 2 (by omega)
        unfold PC at ht'
        unfold cod3
        rw [tri_0, tri_1, tri_2]
        omega
    have nI2 := nxt_iff (t := tri x y z) (kfx hM) (show r + 1 ≤ q.la by omega) hs
    rw [show (100000 : Int32) = nI 100000 from rfl, pn_lt (by omega) (by omega)]
    refine ⟨fun e => ?_, fun e => fin 100000 (by omega) (Or.inl ⟨Nat.le_refl _, fun l hl => ?_⟩) _ (fun v' υ' h1 h2 => hk3 (v', υ') ⟨by omega, h1, h2⟩)⟩
    · rcases w2 with ⟨w3, _⟩ | ⟨w3, w4, w5, w6⟩
      · omega
      · refine leansToN_ok hIu hMu (by omega) c1000 d1000 (fun gd => ?_) (fun gd => ?_)
        · have gd3 := (good_m hM (by omega)).mp gd
          have e3 := mdec_mcod t10
          have gd4 : good q 3 r (mdec c) (tri x y z) := by
            intro i hi hf
            have := gd3 i hi hf
            rw [e3 i hi] at this
            refine ⟨this.1, fun j hj hg => ?_⟩
            have h2 := this.2 j hj hg
            rw [e3 j (by omega)] at h2
            exact h2
          rw [nI_add, ln_ext Eq3.rf e3]
          have l3 := ln_3 q (r + 1) (mdec c) (tri x y z)
          exact fin _ (by omega) (Or.inr ⟨nI2.mpr ⟨w4, gd4⟩, w, w5, rfl, w6⟩) _ (fun v' υ' h1 h2 => hk3 (v', υ') ⟨by omega, h1, h2⟩)
        · rw [nI_add]
          refine fin _ (by omega) (Or.inl ⟨by omega, fun l hl => ?_⟩) _ (fun v' υ' h1 h2 => hk3 (v', υ') ⟨by omega, h1, h2⟩)
          have gd2 := (nI2.mp hl.1).2
          refine gd ((good_m hM (by omega)).mpr (fun i hi hf => ?_))
          have e3 := mdec_mcod t10
          have := gd2 i hi hf
          rw [e3 i hi]
          exact ⟨this.1, fun j hj hg => by rw [e3 j (by omega)]; exact this.2 j hj hg⟩
    · rcases w2 with ⟨_, w3⟩ | ⟨w3, _⟩
      · exact w3 ⟨(nI2.mp hl.1).1, l, hl.2⟩
      · omega
theorem leastNextN_ok (hI : InvN g τ) (hM : MP q m low kp cl g τ) (hr : r + 1 + k = q.la) (hc : c < p10 m) (hs : spotM q 3 r (mdec c)) (hR : Row q b k m (r + 1) τ)
    (hq : ∀ v υ, FN τ υ → LsM q b k r (mdec c) (fun _ => True) v (υ.1 75 29) → Q (nI v) υ) : wp_X7_leastNext (nI r) (nI c) Q τ := by
  have hd' := hI.1.1
  have la15 : q.la ≤ 15 := by have := hM.2.2.2.1; omega
  have c1000 : c < 1000 := by have := p10_le m; omega
  have inn := fun t hn => nxt_in (t := t) hM (by omega) la15 hs (fun i _ => mdec_lt) hn
  have fb0 := fO_b (r := r) (c := c) (i := 0) hM
  have fb1 := fO_b (r := r) (c := c) (i := 1) hM
  have f1 : FN τ (sI τ 75 29 (-9)) := FN.rf.s
  unfold wp_X7_leastNext
  refine firstOfN_ok (i := 0) (hI.cor f1.fm.cor) (hM.fr f1.fm) (by omega) (by omega) c1000 ?_
  refine pk_loop (fun n x (p : Nat × St) => wp_X7_leastNext_l18 Q n (nI r) (nI c) (nI p.1) (nI x) p.2) (fun x p => fO q m r (mdec c) 0 ≤ x ∧ FN τ p.2 ∧ LsM q b k r (mdec c) (fun t => t 0 < x) p.1 (p.2.1 75 29)) (lO q m r (mdec c) 0 + 1) (fO q m r (mdec c) 0) (100000, sI τ 75 29 (-9)) (by omega) ⟨Nat.le_refl _, f1, ⟨Nat.le_refl _, fun t l a1 a2 => ?_, Or.inl ⟨rfl, by rw [sI_1, if_pos ⟨rfl, rfl⟩]⟩⟩⟩ (fun n p hp => ?_) (fun n x p hx hp hk3 => ?_)
  · have := (inn t a1 0 (by omega)).1
    omega
  · show wp_X7_leastNext_b18 _ _ _ _ _ _ _
    unfold wp_X7_leastNext_b18
    obtain ⟨-, p1, p2⟩ := hp
    refine lastOfN_ok (i := 0) (hI.cor p1.fm.cor) (hM.fr p1.fm) (by omega) (by omega) c1000 ?_
    rw [pn_lt (by omega) (by omega)]
    refine ⟨fun _ => hq _ _ p1 (p2.i (fun t ht => ?_)), fun w => absurd (by omega) w⟩
    have := (inn t ht 0 (by omega)).2.1
    exact ⟨fun _ => trivial, fun _ => by omega⟩
  · show wp_X7_leastNext_b18 _ _ _ _ _ _ _
    unfold wp_X7_leastNext_b18
    obtain ⟨p0, p1, p2⟩ := hp
    obtain ⟨v, υ⟩ := p
    refine lastOfN_ok (i := 0) (hI.cor p1.fm.cor) (hM.fr p1.fm) (by omega) (by omega) c1000 ?_
    rw [pn_lt (by omega) (by omega)]
    refine ⟨fun w => absurd w (by omega), fun _ => firstOfN_ok (i := 1) (hI.cor p1.fm.cor) (hM.fr p1.fm) (by omega) (by omega) c1000 ?_⟩
    refine pk_loop (fun n y (p : Nat × St) => wp_X7_leastNext_l39 Q _ n (nI r) (nI c) (nI p.1) (nI x) (nI y) p.2) (fun y p => fO q m r (mdec c) 1 ≤ y ∧ FN τ p.2 ∧ LsM q b k r (mdec c) (PB x y) p.1 (p.2.1 75 29)) (lO q m r (mdec c) 1 + 1) (fO q m r (mdec c) 1) (v, υ) (by omega) ⟨Nat.le_refl _, p1, p2.i (fun t ht => ?_)⟩ (fun n p hp => ?_) (fun n y p hy hp hk4 => ?_)
    · have := (inn t ht 1 (by omega)).1
      show t 0 < x ↔ PB x _ t
      unfold PB
      omega
    · show wp_X7_leastNext_b39 _ _ _ _ _ _ _ _ _
      unfold wp_X7_leastNext_b39
      obtain ⟨-, p1, p2⟩ := hp
      refine lastOfN_ok (i := 1) (hI.cor p1.fm.cor) (hM.fr p1.fm) (by omega) (by omega) c1000 ?_
      rw [pn_lt (by omega) (by omega), na1]
      refine ⟨fun _ => hk3 (_, _) ⟨by omega, p1, p2.i (fun t ht => ?_)⟩, fun w => absurd (by omega) w⟩
      have := (inn t ht 1 (by omega)).2.1
      show PB x _ t ↔ t 0 < x + 1
      unfold PB
      omega
    · show wp_X7_leastNext_b39 _ _ _ _ _ _ _ _ _
      unfold wp_X7_leastNext_b39
      obtain ⟨p0', p1', p2'⟩ := hp
      obtain ⟨v', υ'⟩ := p
      refine lastOfN_ok (i := 1) (hI.cor p1'.fm.cor) (hM.fr p1'.fm) (by omega) (by omega) c1000 ?_
      rw [pn_lt (by omega) (by omega)]
      refine ⟨fun w => absurd w (by omega), fun _ => firstOfN_ok (i := 2) (hI.cor p1'.fm.cor) (hM.fr p1'.fm) (by omega) (by omega) c1000 ?_⟩
      exact l60N_ok hI hM hr hc hs hR ⟨by omega, fun w => by have := fb0.2.2 w; omega⟩ ⟨by omega, fun w => by have := fb1.2.2 w; omega⟩ p1' p2' (fun v2 υ2 h1 h2 => hk4 (v2, υ2) ⟨by omega, h1, h2⟩)
theorem firstSpotN_ok (hI : InvN g τ) (hM : MP q m low kp cl g τ) (hq : Q (nI (mcod (fsp q m low))) τ) : wp_X7_firstSpot Q τ := by
  have hd' := hI.1.1
  obtain ⟨-, r1, r2, r3⟩ := hI.2.2.2.2.2.2.2.2.2
  have hM0 := hM
  obtain ⟨⟨h1, h2, h3, h4, h5⟩, h6, h7, b1, b2, b3⟩ := hM
  unfold wp_X7_firstSpot
  let sh : Nat → Nat := fun i => if i = 0 then 1 else if i = 1 then 10 else 100
  let ac : Nat → Nat := fun i => (if 0 < i then fsp q m low 0 else 0) + 10 * (if 1 < i then fsp q m low 1 else 0) + 100 * (if 2 < i then fsp q m low 2 else 0)
  have acs : ∀ i, i < 3 → ac (i + 1) = ac i + fsp q m low i * sh i := by
    intro i hi
    have : i = 0 ∨ i = 1 ∨ i = 2 := by omega
    rcases this with rfl | rfl | rfl
    · show (if 0 < 0 + 1 then fsp q m low 0 else 0) + 10 * (if 1 < 0 + 1 then fsp q m low 1 else 0) + 100 * (if 2 < 0 + 1 then fsp q m low 2 else 0) = (if 0 < 0 then fsp q m low 0 else 0) + 10 * (if 1 < 0 then fsp q m low 1 else 0) + 100 * (if 2 < 0 then fsp q m low 2 else 0) + fsp q m low 0 * 1
      simp
    · show (if 0 < 1 + 1 then fsp q m low 0 else 0) + 10 * (if 1 < 1 + 1 then fsp q m low 1 else 0) + 100 * (if 2 < 1 + 1 then fsp q m low 2 else 0) = (if 0 < 1 then fsp q m low 0 else 0) + 10 * (if 1 < 1 then fsp q m low 1 else 0) + 100 * (if 2 < 1 then fsp q m low 2 else 0) + fsp q m low 1 * 10
      simp
      omega
    · show (if 0 < 2 + 1 then fsp q m low 0 else 0) + 10 * (if 1 < 2 + 1 then fsp q m low 1 else 0) + 100 * (if 2 < 2 + 1 then fsp q m low 2 else 0) = (if 0 < 2 then fsp q m low 0 else 0) + 10 * (if 1 < 2 then fsp q m low 1 else 0) + 100 * (if 2 < 2 then fsp q m low 2 else 0) + fsp q m low 2 * 100
      simp
      omega
  have ac3 : ac m = mcod (fsp q m low) := by
    show (if 0 < m then fsp q m low 0 else 0) + 10 * (if 1 < m then fsp q m low 1 else 0) + 100 * (if 2 < m then fsp q m low 2 else 0) = fsp q m low 0 + 10 * fsp q m low 1 + 100 * fsp q m low 2
    have z0 := (fsp_lt hM0 0).2
    have z1 := (fsp_lt hM0 1).2
    have z2 := (fsp_lt hM0 2).2
    split <;> split <;> split <;> omega
  have e94 : ∀ i, i < 3 → τ.1 94 i = nI (sh i) := by
    intro i hi
    have : i = 0 ∨ i = 1 ∨ i = 2 := by omega
    rcases this with rfl | rfl | rfl
    · exact r1
    · exact r2
    · exact r3
  refine pk_loop (fun n i (a : Nat) => wp_X7_firstSpot_l4 Q n (nI a) (nI i) τ) (fun i a => a = ac i) m 0 0 (by omega) rfl (fun n a ha => ?_) (fun n i a hi ha hk => ?_)
  · show wp_X7_firstSpot_b4 _ _ _ _ _
    unfold wp_X7_firstSpot_b4
    rw [h2, ha, ac3]
    exact ⟨fun _ => hq, fun z => absurd (nI_le (Nat.le_refl _) (by omega)) z⟩
  · show wp_X7_firstSpot_b4 _ _ _ _ _
    unfold wp_X7_firstSpot_b4
    obtain ⟨a1, a2, a3, a4, a5, -⟩ := h6 i hi
    rw [h2, pn_in (by omega) (by omega), pn_cl (by omega), a1, h3, pn_eq (by omega) (by omega), a4, e94 i (by omega), na1, pk_mul, nI_add, na0]
    refine ⟨fun z => absurd z (nI_ge hi (by omega)), fun _ => ⟨by omega, fun z => ⟨by omega, by omega, fun v hv => ?_⟩, fun z => hk a ?_⟩⟩
    · rw [hv]
      refine hk _ ?_
      rw [acs i (by omega), ha]
      unfold fsp
      rw [if_pos ⟨hi, z⟩]
    · rw [acs i (by omega), ha]
      have : fsp q m low i = 0 := by unfold fsp; rw [if_neg (fun y => z y.2)]
      rw [this]
      omega
theorem goBroadN_ok (hX : ∀ i, q.fx i = false) (hI : InvN g τ) (hM : MP q m low kp cl g τ) (hm : 1 ≤ m) (hb : b ≤ 20)
    (hq : ∀ v υ, FM τ υ → (∀ r, low ≤ r → r ≤ q.la → Row q b (q.la - r) m r υ) → MV q b (q.la - low) low (fsp q m low) v → υ.1 93 (1000 * low + mcod (fsp q m low)) = nI v → Q (nI v) υ) : wp_X7_goBroad (nI b) Q τ := by
  have hd' := hI.1.1
  have e78 := hI.1.2.2.2.2.2.1
  obtain ⟨b1, b2, b3⟩ := hM.2.2.2
  have la15 : q.la ≤ 15 := by omega
  have h1 := hM.1.1
  have hlow : low ≤ q.la := by
    have := hM.2.1 0 (by omega)
    omega
  have p1000 := p10_le m
  unfold wp_X7_goBroad
  rw [c0, e78, ns1 (by omega)]
  refine ⟨vin0_2, fun v hv => ?_⟩
  have e0 : v = nI (low + (q.la + 1 - low)) - 1 := by rw [hv, show low + (q.la + 1 - low) = q.la + 1 by omega, ns1 (by omega), Nat.add_sub_cancel, b1]
  rw [e0]
  refine ⟨(q.la + 1 - low) + 1, ?_⟩
  refine pk_loopD (fun n j υ => wp_X7_goBroad_l9 Q n (nI b) (nI (low + j) - 1) υ) (fun j υ => j ≤ q.la + 1 - low ∧ FM τ υ ∧ ∀ r, low + j ≤ r → r ≤ q.la → Row q b (q.la - r) m r υ) (fun n υ hυ => ?_) (fun n j υ hυ hk => ?_) (q.la + 1 - low) τ ⟨Nat.le_refl _, FM.rf, fun r h1 h2 => by omega⟩
  · show wp_X7_goBroad_b9 _ _ _ _ _
    unfold wp_X7_goBroad_b9
    obtain ⟨-, u1, u2⟩ := hυ
    have hMu := hM.fr u1
    rw [hMu.1.2.2.1, tI_lt, Nat.add_zero, nI_m1 _ (by omega), tI_n (by omega)]
    refine ⟨fun _ => firstSpotN_ok (hI.cor u1.cor) hMu ?_, fun z => absurd (by omega) z⟩
    have hl := mcod_lt (m := m) (fun i _ => (fsp_lt hM i).1) (fun i h _ => (fsp_lt hM i).2 h)
    obtain ⟨w, w1, w2⟩ := u2 low (by omega) hlow _ hl
    rw [show (1000 : Int32) * nI low = nI (1000 * low) from pk_mul 1000 low, nI_add, pn_in (by omega) (by omega), pn_cl (by omega), w1]
    exact ⟨by omega, hq w υ u1 (fun r h1 h2 => u2 r (by omega) h2) (MV_ext (mdec_mcod (fun i _ => (fsp_lt hM i).1)) w2) w1⟩
  · show wp_X7_goBroad_b9 _ _ _ _ _
    unfold wp_X7_goBroad_b9
    obtain ⟨u0, u1, u2⟩ := hυ
    have hMu := hM.fr u1
    rw [hMu.1.2.2.1, tI_lt, nI_m1 _ (by omega), tI_n (by omega)]
    refine ⟨fun z => absurd z (by omega), fun _ => ?_⟩
    have er : nI (low + (j + 1)) - 1 = nI (low + j) := by rw [ns1 (by omega)]; rfl
    rw [er]
    refine pk_loop (fun n c υ => wp_X7_goBroad_l19 Q _ n (nI b) (nI (low + j)) (nI c) υ) (fun c υ => FM τ υ ∧ (∀ r, low + j + 1 ≤ r → r ≤ q.la → Row q b (q.la - r) m r υ) ∧ ∀ c', c' < c → ∃ w, υ.1 93 (1000 * (low + j) + c') = nI w ∧ MV q b (q.la - (low + j)) (low + j) (mdec c') w) (p10 m) 0 υ (Nat.zero_le _) ⟨u1, fun r h1 h2 => u2 r (by omega) h2, fun c' hc' => by omega⟩ (fun n φ hφ => ?_) (fun n c φ hc hφ hk2 => ?_)
    · show wp_X7_goBroad_b19 _ _ _ _ _ _ _
      unfold wp_X7_goBroad_b19
      obtain ⟨w1, w2, w3⟩ := hφ
      refine spots_ok (hM.fr w1) ?_
      rw [pm1]
      refine ⟨fun _ => hk _ ⟨by omega, w1, fun r h1 h2 => ?_⟩, fun z => absurd (nI_le (Nat.le_refl _) (by omega)) z⟩
      by_cases e : r = low + j
      · subst e; exact w3
      · exact w2 r (by omega) h2
    · show wp_X7_goBroad_b19 _ _ _ _ _ _ _
      unfold wp_X7_goBroad_b19
      obtain ⟨w1, w2, w3⟩ := hφ
      have hMw := hM.fr w1
      have hIw := hI.cor w1.cor
      refine spots_ok hMw ⟨fun z => absurd z (nI_ge hc (by omega)), fun _ => isSpotN_ok hX hIw hMw (by omega) (by omega) (fun f hf => ?_)⟩
      have hsm : spotM q m (low + j) (mdec c) ↔ spotM q 3 (low + j) (mdec c) := spot_m hM (by omega) (fun i a b => mdec_0 hc a b)
      have fin : ∀ (v : Nat) (ψ : St), FM τ ψ → ψ.1 93 = φ.1 93 → MV q b (q.la - (low + j)) (low + j) (mdec c) v → ∀ K19 : Int32 → Int32 → Int32 → St → Prop, ((∀ υ', (FM τ υ' ∧ (∀ r, low + j + 1 ≤ r → r ≤ q.la → Row q b (q.la - r) m r υ') ∧ ∀ c', c' < c + 1 → ∃ w, υ'.1 93 (1000 * (low + j) + c') = nI w ∧ MV q b (q.la - (low + j)) (low + j) (mdec c') w) → K19 (nI b) (nI (low + j)) (nI (c + 1)) υ')) → ∀ K9 : Int32 → Int32 → St → Prop, wp_X7_goBroad_b82 Q K9 K19 (nI b) (nI (low + j)) (nI c) (nI v) ψ := by
        intro v ψ fψ e93 hv K19 hK K9
        unfold wp_X7_goBroad_b82
        rw [show (1000 : Int32) * nI (low + j) = nI (1000 * (low + j)) from pk_mul 1000 (low + j), nI_add, pn_in (by omega) (by omega), pn_cl (by omega), na1]
        refine ⟨by omega, hK _ ⟨⟨fun a i n => ?_, fψ.2⟩, fun r h1 h2 c' hc' => ?_, fun c' hc' => ?_⟩⟩
        · rw [sI_1, if_neg (fun z => n (Or.inl z.1))]
          exact fψ.1 a i n
        · obtain ⟨w, x1, x2⟩ := w2 r h1 h2 c' hc'
          exact ⟨w, by rw [sI_1, if_neg (by omega), e93]; exact x1, x2⟩
        · by_cases e : c' = c
          · subst e
            exact ⟨v, by rw [sI_1, if_pos ⟨rfl, rfl⟩], hv⟩
          · obtain ⟨w, x1, x2⟩ := w3 c' (by omega)
            exact ⟨w, by rw [sI_1, if_neg (by omega), e93]; exact x1, x2⟩
      refine ⟨fun e => fin 100000 φ w1 rfl (Or.inl ⟨rfl, fun y => ?_⟩) _ (fun υ' h => hk2 υ' h) _, fun e => ⟨vin0_2, ?_⟩⟩
      · rcases hf with ⟨_, z⟩ | ⟨z, _⟩
        · exact z (hsm.mpr y.1)
        · rw [z] at e; exact absurd e (by decide)
      · have hs : spotM q 3 (low + j) (mdec c) := by
          rcases hf with ⟨z, _⟩ | ⟨_, z⟩
          · exact absurd z e
          · exact hsm.mp z
        rw [c0, hIw.1.2.2.2.2.2.1, show nI g.gH - 1 = nI (g.gH - 1) from ns1 (by omega), ← b1, pn_le (by omega) (by omega)]
        unfold wp_X7_goBroad_b80
        refine ⟨fun z => mbreadthN_ok hIw hMw hm (by omega) ?_, fun z => leastNextN_ok (b := b) (k := q.la - (low + j) - 1) hIw hMw (by omega) hc hs (fun c' hc' => ?_) (fun v ψ fψ hl => ?_)⟩
        · have el : low + j = q.la := by omega
          have bb : brP q (mdec c) ≤ 10 := by
            have := mx_le (p := q) (s := mdec c) (fun i _ => mdec_lt)
            unfold brP; omega
          have mv := mv_leaf (b := b) (q := q) (c := c) (by rw [← el]; exact hs)
          rw [pn_eq (by omega) (by omega)]
          have ek : q.la - (low + j) = 0 := by omega
          refine ⟨fun y => fin 0 φ w1 rfl ?_ _ (fun υ' h => hk2 υ' h) _, fun y => fin 100000 φ w1 rfl ?_ _ (fun υ' h => hk2 υ' h) _⟩
          · rw [if_pos y] at mv
            rw [ek, el]; exact mv
          · rw [if_neg y] at mv
            rw [ek, el]; exact mv
        · have := w2 (low + j + 1) (by omega) (by omega) c' hc'
          rwa [show q.la - (low + j + 1) = q.la - (low + j) - 1 by omega] at this
        · have mv := mv_next (show low + j + 1 + (q.la - (low + j) - 1) = q.la by omega) la15 hs hl
          rw [show q.la - (low + j) - 1 + 1 = q.la - (low + j) by omega] at mv
          exact fin v ψ (w1.tr fψ.fm) (funext fun i => fψ.1 93 i (by omega)) mv _ (fun υ' h => hk2 υ' h) _
theorem goTogetherN_ok (hX : ∀ i, q.fx i = false) (hI : InvN g τ) (hM : MP q m low kp cl g τ) (hm : 1 ≤ m)
    (hno : ∀ υ, FM τ υ → (∀ b l, ¬ Can q (q.la + 1) zz b l) → Q (-9) υ)
    (hyes : ∀ b v υ, FM τ υ → 1 ≤ b → b ≤ g.gW → Can q (q.la + 1) zz b v → (∀ l, Can q (q.la + 1) zz b l → v ≤ l) → (∀ b' l, Can q (q.la + 1) zz b' l → b ≤ b') → (∀ r, low ≤ r → r ≤ q.la → Row q b (q.la - r) m r υ) → υ.1 93 (1000 * low + mcod (fsp q m low)) = nI v → v < 100000 → Q (nI b) υ) : wp_X7_goTogether Q τ := by
  have hd' := hI.1.1
  obtain ⟨b1, b2, b3⟩ := hM.2.2.2
  have la15 : q.la ≤ 15 := by omega
  have hlow : low ≤ q.la := by
    have := hM.2.1 0 (by omega)
    omega
  have h3 := hM.1.1
  have cW : ∀ b l, Can q (q.la + 1) zz b l → 1 ≤ b ∧ b ≤ g.gW := by
    intro b l H
    exact ⟨(Can_b (fun _ _ => by show 0 < 10; omega) H).1, Can_W (by omega) (fun r c hr hc z => ((b3 r c hr hc).mp z).1) H⟩
  unfold wp_X7_goTogether
  refine pk_loop (fun n i υ => wp_X7_goTogether_l2 Q n (nI i) υ) (fun i υ => FM τ υ ∧ ∀ b' l, b' < i → ¬ Can q (q.la + 1) zz b' l) (g.gW + 1) 1 τ (by omega) ⟨FM.rf, fun b' l hb H => by have := (cW b' l H).1; omega⟩ (fun n υ hυ => ?_) (fun n i υ hi hυ hk => ?_)
  · show wp_X7_goTogether_b2 _ _ _ _
    unfold wp_X7_goTogether_b2
    obtain ⟨u1, u2⟩ := hυ
    rw [c0, (hI.cor u1.cor).1.2.2.2.2.1, pn_lt (by omega) (by omega)]
    refine ⟨vin0_2, fun _ => hno υ u1 (fun b l H => ?_), fun z => absurd (by omega) z⟩
    have := (cW b l H).2
    exact u2 b l (by omega) H
  · show wp_X7_goTogether_b2 _ _ _ _
    unfold wp_X7_goTogether_b2
    obtain ⟨u1, u2⟩ := hυ
    have hMu := hM.fr u1
    rw [c0, (hI.cor u1.cor).1.2.2.2.2.1, pn_lt (by omega) (by omega), hMu.1.2.1, show (0 : Int32) = nI 0 from rfl, pn_le (by omega) (by omega)]
    refine ⟨vin0_2, fun z => absurd z (by omega), fun _ => ⟨fun z => absurd z (by omega), fun _ => goBroadN_ok hX (hI.cor u1.cor) hMu hm (by omega) (fun v υ2 f2 rows mv e93 => ?_)⟩⟩
    have vb : v ≤ 100000 := by rcases mv with z | z <;> omega
    rw [show (100000 : Int32) = nI 100000 from rfl, pn_le (by omega) (by omega), na1]
    refine ⟨fun z => hk υ2 ⟨u1.tr f2, fun b' l hb H => ?_⟩, fun z => ?_⟩
    · by_cases e : b' = i
      · rcases mv with ⟨_, y⟩ | ⟨y, _⟩
        · rw [e] at H
          have := (can_low hM hlow la15).mp H
          exact y ⟨this.1, l, this.2⟩
        · omega
      · exact u2 b' l (by omega) H
    · rcases mv with ⟨y, _⟩ | ⟨y1, y2, y3, y4⟩
      · omega
      · have H : Can q (q.la + 1) zz i v := (can_low hM hlow la15).mpr ⟨y2, y3⟩
        refine hyes i v υ2 (u1.tr f2) (cW i v H).1 (by omega) H (fun l hl => y4 l ((can_low hM hlow la15).mp hl).2) (fun b' l hc => ?_) rows e93 y1
        by_cases e : b' < i
        · exact absurd hc (u2 b' l e)
        · omega
theorem gatherN_ok {Q : St → Prop} (hI : InvN g σ) (hS : S < 2 ^ g.gN) (hq : ∀ τ low, Cor σ τ → ML (cB S 3) (fun i => g.co (memS S i)) (fun i => g.cl (memS S i)) (fun _ => -1) low τ → τ.1 75 25 = 0 → Q τ) : wp_X7_gather (nI S) Q σ := by
  have hd' := hI.1.1
  obtain ⟨S8, Sn⟩ := bits_lt g.gN (by omega) S hS
  have s75 : ∀ i, i ≠ 2 → Scr 75 i := fun i h => by unfold Scr; omega
  unfold wp_X7_gather
  generalize h3 : sI (sI (sI σ 75 21 (0 : Int32)) 75 26 (16 : Int32)) 75 25 (0 : Int32) = σ3
  have c3 : Cor σ σ3 := by rw [← h3]; exact ((Cor.rf.sI (s75 _ (by omega)) _).sI (s75 _ (by omega)) _).sI (s75 _ (by omega)) _
  have f21 : σ3.1 75 21 = nI 0 := by rw [← h3, sI_1, if_neg (by omega), sI_1, if_neg (by omega), sI_1, if_pos ⟨rfl, rfl⟩]; rfl
  have f26 : σ3.1 75 26 = nI 16 := by rw [← h3, sI_1, if_neg (by omega), sI_1, if_pos ⟨rfl, rfl⟩]; rfl
  have f25 : σ3.1 75 25 = 0 := by rw [← h3, sI_1, if_pos ⟨rfl, rfl⟩]
  refine pk_loop (fun n i τ => wp_X7_gather_l18 Q n (nI S) (nI i) τ) (fun i τ => Cor σ τ ∧ τ.1 75 25 = 0 ∧ ∃ low, ML (cB S i) (fun i => g.co (memS S i)) (fun i => g.cl (memS S i)) (fun _ => -1) low τ) 3 0 σ3 (by omega) ⟨c3, f25, 16, f21, f26, Nat.le_refl _, fun i hi => absurd hi (by have : cB S 0 = 0 := rfl; omega)⟩ (fun n τ hτ => ?_) (fun n i τ hi hτ hk => ?_)
  · show wp_X7_gather_b18 _ _ _ _ _
    unfold wp_X7_gather_b18
    obtain ⟨t1, t2, low, t3⟩ := hτ
    exact ⟨fun _ => hq τ low t1 t3 t2, fun z => absurd (by decide) z⟩
  · show wp_X7_gather_b18 _ _ _ _ _
    unfold wp_X7_gather_b18
    obtain ⟨t1, t2, low, t3⟩ := hτ
    have hIt := hI.cor t1
    have bv : (nI S >>> (nI i &&& 31)) &&& 1 = nI (S / 2 ^ i % 2) := bit_val (by omega) (by omega)
    have cs := cB_s S S8 i hi
    have cl3 := cB_le S S8 (i + 1) (by omega)
    have e1 : (nI (S / 2 ^ i % 2) = (1 : Int32)) = (S / 2 ^ i % 2 = 1) := pn_eq (b := 1) (by omega) (by omega)
    rw [bv, e1, na1, pn_in (by omega) (by omega), pn_cl (by omega)]
    refine ⟨fun z => absurd z (nI_ge (b := 3) hi (by omega)), fun _ => ⟨fun z => ⟨by omega, by omega, ?_⟩, fun z => hk τ ⟨t1, t2, low, ?_⟩⟩⟩
    · have hn : i < g.gN := by
        by_cases y : i < g.gN
        · exact y
        · exact absurd z (Sn i hi (by omega))
      obtain ⟨⟨-, a2, a3⟩, ⟨-, b2, b3⟩, -⟩ := hIt.2.2.1 i hn
      rw [a2, b2]
      refine add_ok (m := cB S i) (low := low) (by omega) t3.1 t3.2.1 t3.2.2.1 (by omega) (fun υ hA => hk υ ⟨t1.tr hA.cor, ?_, min (g.co i) low, ?_⟩)
      · rw [hA.2.2.2.2.2.1 _ _ (by omega) (by omega)]; exact t2
      · rw [cs, z]
        have em := mem_c S S8 i hi z
        have := t3.add (υ := υ) (by
          show AddR (cB S i) (g.co (memS S (cB S i))) low (nI (g.cl (memS S (cB S i)))) (-1) τ υ
          rw [em]; exact hA)
        rw [em] at this
        exact this
    · rw [cs, show S / 2 ^ i % 2 = 0 by omega, Nat.add_zero]
      exact t3
theorem qs_FN (hI : InvN g σ) (hS : S < 2 ^ g.gN) : (∀ i, i < cB S 3 → g.co (memS S i) ≤ g.gH - 1) ∧ ∀ i, i < cB S 3 → g.cl (memS S i) < 10 := by
  have hd' := hI.1.1
  obtain ⟨S8, Sn⟩ := bits_lt g.gN (by omega) S hS
  have hn : ∀ i, i < cB S 3 → memS S i < g.gN := by
    intro i hi
    obtain ⟨m1, m2, -⟩ := mem_in S S8 i hi
    by_cases y : memS S i < g.gN
    · exact y
    · exact absurd m2 (Sn _ m1 (by omega))
  refine ⟨fun i hi => ?_, fun i hi => ?_⟩
  · obtain ⟨⟨-, -, a3⟩, -⟩ := hI.2.2.1 _ (hn i hi)
    omega
  · obtain ⟨-, ⟨-, -, b3⟩, -⟩ := hI.2.2.1 _ (hn i hi)
    omega
theorem togMN_ok {Q : Int32 → St → Prop} (hI : InvN g σ) (hS : S < 2 ^ g.gN) (h1 : 1 ≤ S) (hop : OpOK g 0 op)
    (hno : ∀ υ, Cor σ υ → (∀ b l, ¬ Can (qS g S op) (g.gH - 1 + 1) zz b l) → Q (-9) υ)
    (hyes : ∀ b v υ low, Cor σ υ → MP (qS g S op) (cB S 3) low (fun _ => 0) 0 g υ → 1 ≤ b → b ≤ g.gW → Can (qS g S op) (g.gH - 1 + 1) zz b v → (∀ l, Can (qS g S op) (g.gH - 1 + 1) zz b l → v ≤ l) → (∀ b' l, Can (qS g S op) (g.gH - 1 + 1) zz b' l → b ≤ b') → (∀ r, low ≤ r → r ≤ g.gH - 1 → Row (qS g S op) b (g.gH - 1 - r) (cB S 3) r υ) → υ.1 93 (1000 * low + mcod (fsp (qS g S op) (cB S 3) low)) = nI v → v < 100000 → Q (nI b) υ) :
    wp_X7_gather (nI S) (fun σ21 => wp_X7_goTogether Q σ21) σ := by
  have hd' := hI.1.1
  obtain ⟨S8, Sn⟩ := bits_lt g.gN (by omega) S hS
  have hF := qs_FN hI hS
  refine gatherN_ok hI hS (fun τ low hc hML h25 => ?_)
  have hM : MP (qS g S op) (cB S 3) low (fun _ => 0) 0 g τ := mp_of _ (cB_le S S8 3 (by omega)) (by omega) hML h25 hF.1 hF.2 hop
  exact goTogetherN_ok (fun _ => rfl) (hI.cor hc) hM (cB_pos S S8 h1) (fun υ f h => hno υ (hc.tr f.cor) h) (fun b v υ f a1 a2 a3 a4 a5 a6 a7 a8 => hyes b v υ low (hc.tr f.cor) (hM.fr f) a1 a2 a3 a4 a5 a6 a7 a8)
end NN
