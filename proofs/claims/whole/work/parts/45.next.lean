def FN (τ υ : St) : Prop := (∀ k i, ¬ (k = 75 ∧ i = 29) → υ.1 k i = τ.1 k i) ∧ υ.2 = τ.2
theorem FN.rf {τ : St} : FN τ τ := ⟨fun _ _ _ => rfl, rfl⟩
theorem FN.tr {τ υ φ : St} (a : FN τ υ) (b : FN υ φ) : FN τ φ := ⟨fun k i n => (b.1 k i n).trans (a.1 k i n), b.2.trans a.2⟩
theorem FN.fm {τ υ : St} (a : FN τ υ) : FM τ υ := ⟨fun k i n => a.1 k i (fun z => n (Or.inr z)), a.2⟩
theorem FN.s {τ υ : St} (a : FN τ υ) {v : Int32} : FN τ (sI υ 75 29 v) := ⟨fun k i n => by rw [sI_1, if_neg n]; exact a.1 k i n, a.2⟩
section NX
variable {g : Geo} {q : Prm} {m low cl b k r c : Nat} {kp : Nat → Nat} {τ υ : St} {Q : Int32 → St → Prop} {i : Nat}
theorem firstOf_ok (hI : Inv g τ) (hM : MP q m low kp cl g τ) (hi : i < 3) (hr : r ≤ 15) (hc : c < 1000) (hq : Q (nI (fO q m r (mdec c) i)) τ) : wp_X7_firstOf (nI i) (nI r) (nI c) Q τ := by
  have hd' := hI.1.1
  obtain ⟨⟨h1, h2, h3, h4, h5⟩, h6, h7, b1, b2, b3⟩ := hM
  unfold wp_X7_firstOf
  unfold fO at hq
  have dc := mdec_lt (c := c) (i := i)
  rw [h2, pn_le (by omega) (by omega), pn_in (by omega) (by omega), pn_cl (by omega), na1]
  refine ⟨fun z => ?_, fun z => ⟨by omega, ?_⟩⟩
  · rw [if_pos (Or.inl z)] at hq; exact hq
  · obtain ⟨a1, a2, a3, a4, a5, -⟩ := h6 i (by omega)
    rw [a1, a4, pn_le (by omega) (by omega), pn_eq (by omega) (by omega)]
    refine ⟨fun z2 => ⟨by omega, fun z3 => ⟨by omega, ?_⟩, fun z3 => placeIn_ok hI hi hc ?_⟩, fun z2 => ?_⟩
    · rw [if_neg (by omega), if_pos z3] at hq; exact hq
    · rw [if_neg (by omega), if_neg z3] at hq
      rw [show (0 : Int32) = nI 0 from rfl, pn_le (by omega) (by omega)]
      refine ⟨fun z4 => ?_, fun z4 => placeIn_ok hI hi hc ?_⟩
      · rwa [show mdec c i - 1 = 0 by omega] at hq
      · rw [ns1 (by omega)]; exact hq
    · rw [if_pos (Or.inr (by omega))] at hq; exact hq
theorem lastOf_ok (hI : Inv g τ) (hM : MP q m low kp cl g τ) (hi : i < 3) (hr : r ≤ 15) (hc : c < 1000) (hq : Q (nI (lO q m r (mdec c) i)) τ) : wp_X7_lastOf (nI i) (nI r) (nI c) Q τ := by
  have hd' := hI.1.1
  obtain ⟨⟨h1, h2, h3, h4, h5⟩, h6, h7, b1, b2, b3⟩ := hM
  unfold wp_X7_lastOf
  unfold lO at hq
  have dc := mdec_lt (c := c) (i := i)
  rw [h2, pn_le (by omega) (by omega), pn_in (by omega) (by omega), pn_cl (by omega), na1]
  refine ⟨fun z => ?_, fun z => ⟨by omega, ?_⟩⟩
  · rw [if_pos (Or.inl z)] at hq; exact hq
  · obtain ⟨a1, a2, a3, a4, a5, -⟩ := h6 i (by omega)
    rw [a1, a4, pn_le (by omega) (by omega), pn_eq (by omega) (by omega)]
    refine ⟨fun z2 => ⟨by omega, fun z3 => ⟨by omega, ?_⟩, fun z3 => placeIn_ok hI hi hc ?_⟩, fun z2 => ?_⟩
    · rw [if_neg (by omega), if_pos z3] at hq; exact hq
    · rw [if_neg (by omega), if_neg z3] at hq
      rw [show (9 : Int32) = nI 9 from rfl, pn_le (by omega) (by omega)]
      refine ⟨fun z4 => ?_, fun z4 => placeIn_ok hI hi hc ?_⟩
      · rwa [show min 9 (mdec c i + 1) = 9 by omega] at hq
      · rw [na1]
        rwa [show min 9 (mdec c i + 1) = mdec c i + 1 by omega] at hq
    · rw [if_pos (Or.inr (by omega))] at hq; exact hq
theorem fO_b (hM : MP q m low kp cl g τ) : fO q m r (mdec c) i ≤ lO q m r (mdec c) i ∧ lO q m r (mdec c) i ≤ 9 ∧ (m ≤ i → lO q m r (mdec c) i = 0) := by
  have dc := mdec_lt (c := c) (i := i)
  unfold fO lO
  by_cases z : m ≤ i ∨ r + 1 < q.fs i
  · rw [if_pos z, if_pos z]; exact ⟨by omega, by omega, fun _ => rfl⟩
  · rw [if_neg z, if_neg z]
    by_cases z2 : r + 1 = q.fs i
    · have := (hM.2.1 i (by omega)).2.2.2.2.1
      rw [if_pos z2, if_pos z2]; exact ⟨by omega, by omega, fun _ => by omega⟩
    · rw [if_neg z2, if_neg z2]; exact ⟨by omega, by omega, fun _ => by omega⟩
theorem kfx (hM : MP q m low kp cl g τ) : Kfx q := by
  intro i hi f
  have him : i < m := by
    by_cases e : i < m
    · exact e
    · have := (hM.2.2.1 i (by omega) hi).2
      rw [this] at f
      exact absurd f (by decide)
  obtain ⟨-, -, b2, b3⟩ := (hM.2.1 i him).2.2.2.2.2.2 f
  exact ⟨b2, fun r h1 h2 => (b3 r (by omega) h2).2.2 h1⟩
theorem spot_m {s : Nat → Nat} (hM : MP q m low kp cl g τ) (h15 : r ≤ 15) (h0 : ∀ i, m ≤ i → i < 3 → s i = 0) : spotM q m r s ↔ spotM q 3 r s := by
  have h3 := hM.1.1
  constructor
  · intro H i hi
    by_cases e : i < m
    · exact H i e
    · have a := (hM.2.2.1 i (by omega) hi).1
      exact ⟨Or.inl ⟨by omega, h0 i (by omega) hi⟩, fun j hj z => by omega⟩
  · intro H i hi
    exact H i (by omega)
theorem good_m {s t : Nat → Nat} (hM : MP q m low kp cl g τ) (h15 : r ≤ 15) : good q m r s t ↔ good q 3 r s t := by
  have h3 := hM.1.1
  constructor
  · intro H i hi hf
    by_cases e : i < m
    · exact H i e hf
    · have a := (hM.2.2.1 i (by omega) hi).1
      omega
  · intro H i hi
    exact H i (by omega)
theorem nxt_in {s t : Nat → Nat} (hM : MP q m low kp cl g τ) (hr : r + 1 ≤ q.la) (h15 : q.la ≤ 15) (hc : spotM q 3 r s) (hs : ∀ i, i < 3 → s i < 10) (hn : nxt q (r + 1) s t) : ∀ i, i < 3 → fO q m r s i ≤ t i ∧ t i ≤ lO q m r s i ∧ (m ≤ i → t i = 0) := by
  have H := (nxt_iff (kfx hM) hr hc).mp hn
  intro i hi
  have h1 := (H.1 i hi).1
  have hl := nxt_lt hn i hi
  unfold fO lO
  by_cases e : m ≤ i
  · have a := (hM.2.2.1 i e hi).1
    rw [if_pos (Or.inl e), if_pos (Or.inl e)]
    rcases h1 with z | z
    · exact ⟨by omega, by omega, fun _ => z.2⟩
    · omega
  · by_cases d : r + 1 < q.fs i
    · rw [if_pos (Or.inr d), if_pos (Or.inr d)]
      rcases h1 with z | z
      · exact ⟨by omega, by omega, fun y => absurd y e⟩
      · omega
    · have nd : ¬ (m ≤ i ∨ r + 1 < q.fs i) := fun z => z.elim e d
      rw [if_neg nd, if_neg nd]
      by_cases f : r + 1 = q.fs i
      · rw [if_pos f, if_pos f]
        rcases h1 with z | z
        · omega
        · have := z.2.2.2.1
          exact ⟨by omega, by omega, fun y => absurd y e⟩
      · rw [if_neg f, if_neg f]
        have := (H.2 i hi (by omega)).1
        exact ⟨by omega, by omega, fun y => absurd y e⟩
def Row (q : Prm) (b k m r : Nat) (τ : St) : Prop := ∀ c, c < p10 m → ∃ w, τ.1 93 (1000 * r + c) = nI w ∧ MV q b k r (mdec c) w
def PB (x y : Nat) (t : Nat → Nat) : Prop := t 0 < x ∨ (t 0 = x ∧ t 1 < y)
def PC (x y z : Nat) (t : Nat → Nat) : Prop := t 0 < x ∨ (t 0 = x ∧ (t 1 < y ∨ (t 1 = y ∧ t 2 < z)))
theorem l60_ok {K18 : Int32 → Int32 → Int32 → Int32 → St → Prop} {K39 : Int32 → Int32 → Int32 → Int32 → Int32 → St → Prop} {x y v : Nat} (hI : Inv g τ) (hM : MP q m low kp cl g τ) (hr : r + 1 + k = q.la) (hc : c < p10 m) (hs : spotM q 3 r (mdec c)) (hR : Row q b k m (r + 1) τ)
    (hx : x ≤ 9 ∧ (m ≤ 0 → x = 0)) (hy : y ≤ 9 ∧ (m ≤ 1 → y = 0)) (hf : FN τ υ) (hv : LsM q b k r (mdec c) (PB x y) v (υ.1 75 29))
    (hk2 : ∀ v' υ', FN τ υ' → LsM q b k r (mdec c) (PB x (y + 1)) v' (υ'.1 75 29) → K39 (nI r) (nI c) (nI v') (nI x) (nI (y + 1)) υ') :
    ∃ n, wp_X7_leastNext_l60 Q K18 K39 n (nI r) (nI c) (nI v) (nI x) (nI y) (nI (fO q m r (mdec c) 2)) υ := by
  have hd' := hI.1.1
  have la15 : q.la ≤ 15 := by have := hM.2.2.2.1; omega
  have c1000 : c < 1000 := by have := p10_le m; omega
  have fb := fO_b (r := r) (c := c) (i := 2) hM
  have z0 : ∀ i, m ≤ i → i < 3 → mdec c i = 0 := fun i h1 h2 => mdec_0 hc h1 h2
  have inn := fun t hn => nxt_in (t := t) hM (by omega) la15 hs (fun i _ => mdec_lt) hn
  refine pk_loop (fun n z (p : Nat × St) => wp_X7_leastNext_l60 Q K18 K39 n (nI r) (nI c) (nI p.1) (nI x) (nI y) (nI z) p.2) (fun z p => fO q m r (mdec c) 2 ≤ z ∧ FN τ p.2 ∧ LsM q b k r (mdec c) (PC x y z) p.1 (p.2.1 75 29)) (lO q m r (mdec c) 2 + 1) (fO q m r (mdec c) 2) (v, υ) (by omega) ⟨Nat.le_refl _, hf, hv.i (fun t ht => ?_)⟩ (fun n p hp => ?_) (fun n z p hz hp hk3 => ?_)
  · have := (inn t ht 2 (by omega)).1
    unfold PB PC
    omega
  · show wp_X7_leastNext_b60 _ _ _ _ _ _ _ _ _ _ _
    unfold wp_X7_leastNext_b60
    obtain ⟨-, p1, p2⟩ := hp
    refine lastOf_ok (i := 2) (hI.cor p1.fm.cor) (hM.fr p1.fm) (by omega) (by omega) c1000 ?_
    rw [pn_lt (by omega) (by omega), na1]
    refine ⟨fun _ => hk2 _ _ p1 (p2.i (fun t ht => ?_)), fun w => absurd (by omega) w⟩
    have := (inn t ht 2 (by omega)).2.1
    unfold PB PC
    omega
  · show wp_X7_leastNext_b60 _ _ _ _ _ _ _ _ _ _ _
    unfold wp_X7_leastNext_b60
    obtain ⟨p0, p1, p2⟩ := hp
    obtain ⟨v, υ⟩ := p
    have hIu := hI.cor p1.fm.cor
    have hMu := hM.fr p1.fm
    have v5 : v ≤ 100000 := p2.1
    refine lastOf_ok (i := 2) hIu hMu (by omega) (by omega) c1000 ?_
    have et : nI x + 10 * nI y + 100 * nI z = nI (mcod (tri x y z)) := by
      rw [nm10, show (100 : Int32) * nI z = nI (100 * z) from pk_mul 100 z, nI_add, nI_add]
      rfl
    have t10 : ∀ i, i < 3 → tri x y z i < 10 := by
      intro i hi
      have : i = 0 ∨ i = 1 ∨ i = 2 := by omega
      rcases this with rfl | rfl | rfl
      · rw [tri_0]; omega
      · rw [tri_1]; omega
      · rw [tri_2]; omega
    have t0 : ∀ i, m ≤ i → i < 3 → tri x y z i = 0 := by
      intro i hm hi
      have : i = 0 ∨ i = 1 ∨ i = 2 := by omega
      rcases this with rfl | rfl | rfl
      · exact hx.2 hm
      · exact hy.2 hm
      · have := fb.2.2 hm
        rw [tri_2]; omega
    have hd2 := mcod_lt t10 t0
    have d1000 : mcod (tri x y z) < 1000 := by have := p10_le m; omega
    obtain ⟨w, w1, w2⟩ := hR _ hd2
    have e93 : υ.1 93 (1000 * (r + 1) + mcod (tri x y z)) = nI w := by rw [p1.1 _ _ (by omega), w1]
    rw [et, na1, na1, show (1000 : Int32) * nI (r + 1) = nI (1000 * (r + 1)) from pk_mul 1000 (r + 1), nI_add, pn_lt (by omega) (by omega), pn_in (by omega) (by omega), pn_cl (by omega), e93]
    refine ⟨fun w => absurd w (by omega), fun _ => ⟨by omega, fun u hu => ?_⟩⟩
    subst hu
    have w2 := MV_ext (mdec_mcod t10) w2
    have wb : w ≤ 100000 := by rcases w2 with h | h <;> omega
    have fin : ∀ u : Nat, u ≤ 300000 → ((100000 ≤ u ∧ ∀ l, ¬ (nxt q (r + 1) (mdec c) (tri x y z) ∧ Can q k (tri x y z) b l)) ∨ (nxt q (r + 1) (mdec c) (tri x y z) ∧ ∃ l, Can q k (tri x y z) b l ∧ u = l + lnP q (r + 1) (mdec c) (tri x y z) ∧ ∀ l', Can q k (tri x y z) b l' → l ≤ l')) → ∀ K60 : Int32 → Int32 → Int32 → Int32 → Int32 → Int32 → St → Prop, (∀ v' υ', FN τ υ' → LsM q b k r (mdec c) (PC x y (z + 1)) v' (υ'.1 75 29) → K60 (nI r) (nI c) (nI v') (nI x) (nI y) (nI (z + 1)) υ') → wp_X7_leastNext_b128 Q K18 K39 K60 (nI r) (nI c) (nI v) (nI x) (nI y) (nI z) (nI (mcod (tri x y z))) (nI u) υ := by
      intro u hu H K60 hK
      have st := p2.step (P' := PC x y (z + 1)) (by omega) t10 H (fun t' ht' => ?_) (fun t' ht' hl => ?_)
      · unfold wp_X7_leastNext_b128 wp_X7_leastNext_b146
        rw [pn_le (by omega) (by omega), na1]
        refine ⟨fun e => ⟨fun _ => ?_, fun e2 => absurd e e2⟩, fun e => ⟨fun e2 => absurd e2 e, fun _ => ?_⟩⟩
        · rw [if_neg (by omega), if_neg (by omega)] at st
          exact hK v _ p1.s (by rw [sI_1, if_pos ⟨rfl, rfl⟩]; exact st)
        · rw [if_pos (by omega), if_pos (by omega)] at st
          exact hK u _ p1.s (by rw [sI_1, if_pos ⟨rfl, rfl⟩]; exact st)
      · unfold PC
        constructor
        · intro w
          by_cases y2 : t' 0 = x ∧ t' 1 = y ∧ t' 2 = z
          · exact Or.inr (eq_tri y2.1 y2.2.1 y2.2.2)
          · exact Or.inl (by omega)
        · rintro (w | w)
          · omega
          · have w0 := w 0 (by omega)
            have w1 := w 1 (by omega)
            have w2 := w 2 (by omega)
            rw [tri_0] at w0
            rw [tri_1] at w1
            rw [tri_2] at w2
            omega
      · have l0 := hl 0 (by omega)
        have l1 := hl 1 (by omega)
        have l2 := hl 2 (by omega)
        unfold PC at ht'
        unfold cod3
        rw [tri_0, tri_1, tri_2]
        omega
    have nI2 := nxt_iff (t := tri x y z) (kfx hM) (show r + 1 ≤ q.la by omega) hs
    rw [show (100000 : Int32) = nI 100000 from rfl, pn_lt (by omega) (by omega)]
    refine ⟨fun e => ?_, fun e => fin 100000 (by omega) (Or.inl ⟨Nat.le_refl _, fun l hl => ?_⟩) _ (fun v' υ' h1 h2 => hk3 (v', υ') ⟨by omega, h1, h2⟩)⟩
    · rcases w2 with ⟨w3, _⟩ | ⟨w3, w4, w5, w6⟩
      · omega
      · refine leansTo_ok hIu hMu (by omega) c1000 d1000 (fun gd => ?_) (fun gd => ?_)
        · have gd3 := (good_m hM (by omega)).mp gd
          have e3 := mdec_mcod t10
          have gd4 : good q 3 r (mdec c) (tri x y z) := by
            intro i hi hf
            have := gd3 i hi hf
            rw [e3 i hi] at this
            refine ⟨this.1, fun j hj hg => ?_⟩
            have h2 := this.2 j hj hg
            rw [e3 j (by omega)] at h2
            exact h2
          rw [nI_add, ln_ext Eq3.rf e3]
          have l3 := ln_3 q (r + 1) (mdec c) (tri x y z)
          exact fin _ (by omega) (Or.inr ⟨nI2.mpr ⟨w4, gd4⟩, w, w5, rfl, w6⟩) _ (fun v' υ' h1 h2 => hk3 (v', υ') ⟨by omega, h1, h2⟩)
        · rw [nI_add]
          refine fin _ (by omega) (Or.inl ⟨by omega, fun l hl => ?_⟩) _ (fun v' υ' h1 h2 => hk3 (v', υ') ⟨by omega, h1, h2⟩)
          have gd2 := (nI2.mp hl.1).2
          refine gd ((good_m hM (by omega)).mpr (fun i hi hf => ?_))
          have e3 := mdec_mcod t10
          have := gd2 i hi hf
          rw [e3 i hi]
          exact ⟨this.1, fun j hj hg => by rw [e3 j (by omega)]; exact this.2 j hj hg⟩
    · rcases w2 with ⟨_, w3⟩ | ⟨w3, _⟩
      · exact w3 ⟨(nI2.mp hl.1).1, l, hl.2⟩
      · omega
theorem leastNext_ok (hI : Inv g τ) (hM : MP q m low kp cl g τ) (hr : r + 1 + k = q.la) (hc : c < p10 m) (hs : spotM q 3 r (mdec c)) (hR : Row q b k m (r + 1) τ)
    (hq : ∀ v υ, FN τ υ → LsM q b k r (mdec c) (fun _ => True) v (υ.1 75 29) → Q (nI v) υ) : wp_X7_leastNext (nI r) (nI c) Q τ := by
  have hd' := hI.1.1
  have la15 : q.la ≤ 15 := by have := hM.2.2.2.1; omega
  have c1000 : c < 1000 := by have := p10_le m; omega
  have inn := fun t hn => nxt_in (t := t) hM (by omega) la15 hs (fun i _ => mdec_lt) hn
  have fb0 := fO_b (r := r) (c := c) (i := 0) hM
  have fb1 := fO_b (r := r) (c := c) (i := 1) hM
  have f1 : FN τ (sI τ 75 29 (-9)) := FN.rf.s
  unfold wp_X7_leastNext
  refine firstOf_ok (i := 0) (hI.cor f1.fm.cor) (hM.fr f1.fm) (by omega) (by omega) c1000 ?_
  refine pk_loop (fun n x (p : Nat × St) => wp_X7_leastNext_l18 Q n (nI r) (nI c) (nI p.1) (nI x) p.2) (fun x p => fO q m r (mdec c) 0 ≤ x ∧ FN τ p.2 ∧ LsM q b k r (mdec c) (fun t => t 0 < x) p.1 (p.2.1 75 29)) (lO q m r (mdec c) 0 + 1) (fO q m r (mdec c) 0) (100000, sI τ 75 29 (-9)) (by omega) ⟨Nat.le_refl _, f1, ⟨Nat.le_refl _, fun t l a1 a2 => ?_, Or.inl ⟨rfl, by rw [sI_1, if_pos ⟨rfl, rfl⟩]⟩⟩⟩ (fun n p hp => ?_) (fun n x p hx hp hk3 => ?_)
  · have := (inn t a1 0 (by omega)).1
    omega
  · show wp_X7_leastNext_b18 _ _ _ _ _ _ _
    unfold wp_X7_leastNext_b18
    obtain ⟨-, p1, p2⟩ := hp
    refine lastOf_ok (i := 0) (hI.cor p1.fm.cor) (hM.fr p1.fm) (by omega) (by omega) c1000 ?_
    rw [pn_lt (by omega) (by omega)]
    refine ⟨fun _ => hq _ _ p1 (p2.i (fun t ht => ?_)), fun w => absurd (by omega) w⟩
    have := (inn t ht 0 (by omega)).2.1
    exact ⟨fun _ => trivial, fun _ => by omega⟩
  · show wp_X7_leastNext_b18 _ _ _ _ _ _ _
    unfold wp_X7_leastNext_b18
    obtain ⟨p0, p1, p2⟩ := hp
    obtain ⟨v, υ⟩ := p
    refine lastOf_ok (i := 0) (hI.cor p1.fm.cor) (hM.fr p1.fm) (by omega) (by omega) c1000 ?_
    rw [pn_lt (by omega) (by omega)]
    refine ⟨fun w => absurd w (by omega), fun _ => firstOf_ok (i := 1) (hI.cor p1.fm.cor) (hM.fr p1.fm) (by omega) (by omega) c1000 ?_⟩
    refine pk_loop (fun n y (p : Nat × St) => wp_X7_leastNext_l39 Q _ n (nI r) (nI c) (nI p.1) (nI x) (nI y) p.2) (fun y p => fO q m r (mdec c) 1 ≤ y ∧ FN τ p.2 ∧ LsM q b k r (mdec c) (PB x y) p.1 (p.2.1 75 29)) (lO q m r (mdec c) 1 + 1) (fO q m r (mdec c) 1) (v, υ) (by omega) ⟨Nat.le_refl _, p1, p2.i (fun t ht => ?_)⟩ (fun n p hp => ?_) (fun n y p hy hp hk4 => ?_)
    · have := (inn t ht 1 (by omega)).1
      show t 0 < x ↔ PB x _ t
      unfold PB
      omega
    · show wp_X7_leastNext_b39 _ _ _ _ _ _ _ _ _
      unfold wp_X7_leastNext_b39
      obtain ⟨-, p1, p2⟩ := hp
      refine lastOf_ok (i := 1) (hI.cor p1.fm.cor) (hM.fr p1.fm) (by omega) (by omega) c1000 ?_
      rw [pn_lt (by omega) (by omega), na1]
      refine ⟨fun _ => hk3 (_, _) ⟨by omega, p1, p2.i (fun t ht => ?_)⟩, fun w => absurd (by omega) w⟩
      have := (inn t ht 1 (by omega)).2.1
      show PB x _ t ↔ t 0 < x + 1
      unfold PB
      omega
    · show wp_X7_leastNext_b39 _ _ _ _ _ _ _ _ _
      unfold wp_X7_leastNext_b39
      obtain ⟨p0', p1', p2'⟩ := hp
      obtain ⟨v', υ'⟩ := p
      refine lastOf_ok (i := 1) (hI.cor p1'.fm.cor) (hM.fr p1'.fm) (by omega) (by omega) c1000 ?_
      rw [pn_lt (by omega) (by omega)]
      refine ⟨fun w => absurd w (by omega), fun _ => firstOf_ok (i := 2) (hI.cor p1'.fm.cor) (hM.fr p1'.fm) (by omega) (by omega) c1000 ?_⟩
      exact l60_ok hI hM hr hc hs hR ⟨by omega, fun w => by have := fb0.2.2 w; omega⟩ ⟨by omega, fun w => by have := fb1.2.2 w; omega⟩ p1' p2' (fun v2 υ2 h1 h2 => hk4 (v2, υ2) ⟨by omega, h1, h2⟩)
end NX
