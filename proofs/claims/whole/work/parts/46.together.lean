def fsp (q : Prm) (m low : Nat) : Nat → Nat := fun i => if i < m ∧ q.fs i = low then q.st i else 0
def zz : Nat → Nat := fun _ => 0
section TG
variable {g : Geo} {q : Prm} {m low cl b k r c : Nat} {kp : Nat → Nat} {τ υ : St} {Q : Int32 → St → Prop} {i : Nat}
theorem fsp_lt (hM : MP q m low kp cl g τ) (i : Nat) : fsp q m low i < 10 ∧ (m ≤ i → fsp q m low i = 0) := by
  unfold fsp
  by_cases e : i < m ∧ q.fs i = low
  · rw [if_pos e]
    exact ⟨(hM.2.1 i e.1).2.2.2.2.1, fun z => by omega⟩
  · rw [if_neg e]
    exact ⟨by omega, fun _ => rfl⟩
theorem firstSpot_ok (hI : Inv g τ) (hM : MP q m low kp cl g τ) (hq : Q (nI (mcod (fsp q m low))) τ) : wp_X7_firstSpot Q τ := by
  have hd' := hI.1.1
  obtain ⟨-, r1, r2, r3⟩ := hI.2.2.2.2.2.2.2.2.2
  have hM0 := hM
  obtain ⟨⟨h1, h2, h3, h4, h5⟩, h6, h7, b1, b2, b3⟩ := hM
  unfold wp_X7_firstSpot
  let sh : Nat → Nat := fun i => if i = 0 then 1 else if i = 1 then 10 else 100
  let ac : Nat → Nat := fun i => (if 0 < i then fsp q m low 0 else 0) + 10 * (if 1 < i then fsp q m low 1 else 0) + 100 * (if 2 < i then fsp q m low 2 else 0)
  have acs : ∀ i, i < 3 → ac (i + 1) = ac i + fsp q m low i * sh i := by
    intro i hi
    have : i = 0 ∨ i = 1 ∨ i = 2 := by omega
    rcases this with rfl | rfl | rfl
    · show (if 0 < 0 + 1 then fsp q m low 0 else 0) + 10 * (if 1 < 0 + 1 then fsp q m low 1 else 0) + 100 * (if 2 < 0 + 1 then fsp q m low 2 else 0) = (if 0 < 0 then fsp q m low 0 else 0) + 10 * (if 1 < 0 then fsp q m low 1 else 0) + 100 * (if 2 < 0 then fsp q m low 2 else 0) + fsp q m low 0 * 1
      simp
    · show (if 0 < 1 + 1 then fsp q m low 0 else 0) + 10 * (if 1 < 1 + 1 then fsp q m low 1 else 0) + 100 * (if 2 < 1 + 1 then fsp q m low 2 else 0) = (if 0 < 1 then fsp q m low 0 else 0) + 10 * (if 1 < 1 then fsp q m low 1 else 0) + 100 * (if 2 < 1 then fsp q m low 2 else 0) + fsp q m low 1 * 10
      simp
      omega
    · show (if 0 < 2 + 1 then fsp q m low 0 else 0) + 10 * (if 1 < 2 + 1 then fsp q m low 1 else 0) + 100 * (if 2 < 2 + 1 then fsp q m low 2 else 0) = (if 0 < 2 then fsp q m low 0 else 0) + 10 * (if 1 < 2 then fsp q m low 1 else 0) + 100 * (if 2 < 2 then fsp q m low 2 else 0) + fsp q m low 2 * 100
      simp
      omega
  have ac3 : ac m = mcod (fsp q m low) := by
    show (if 0 < m then fsp q m low 0 else 0) + 10 * (if 1 < m then fsp q m low 1 else 0) + 100 * (if 2 < m then fsp q m low 2 else 0) = fsp q m low 0 + 10 * fsp q m low 1 + 100 * fsp q m low 2
    have z0 := (fsp_lt hM0 0).2
    have z1 := (fsp_lt hM0 1).2
    have z2 := (fsp_lt hM0 2).2
    split <;> split <;> split <;> omega
  have e94 : ∀ i, i < 3 → τ.1 94 i = nI (sh i) := by
    intro i hi
    have : i = 0 ∨ i = 1 ∨ i = 2 := by omega
    rcases this with rfl | rfl | rfl
    · exact r1
    · exact r2
    · exact r3
  refine pk_loop (fun n i (a : Nat) => wp_X7_firstSpot_l4 Q n (nI a) (nI i) τ) (fun i a => a = ac i) m 0 0 (by omega) rfl (fun n a ha => ?_) (fun n i a hi ha hk => ?_)
  · show wp_X7_firstSpot_b4 _ _ _ _ _
    unfold wp_X7_firstSpot_b4
    rw [h2, ha, ac3]
    exact ⟨fun _ => hq, fun z => absurd (nI_le (Nat.le_refl _) (by omega)) z⟩
  · show wp_X7_firstSpot_b4 _ _ _ _ _
    unfold wp_X7_firstSpot_b4
    obtain ⟨a1, a2, a3, a4, a5, -⟩ := h6 i hi
    rw [h2, pn_in (by omega) (by omega), pn_cl (by omega), a1, h3, pn_eq (by omega) (by omega), a4, e94 i (by omega), na1, pk_mul, nI_add, na0]
    refine ⟨fun z => absurd z (nI_ge hi (by omega)), fun _ => ⟨by omega, fun z => ⟨by omega, by omega, fun v hv => ?_⟩, fun z => hk a ?_⟩⟩
    · rw [hv]
      refine hk _ ?_
      rw [acs i (by omega), ha]
      unfold fsp
      rw [if_pos ⟨hi, z⟩]
    · rw [acs i (by omega), ha]
      have : fsp q m low i = 0 := by unfold fsp; rw [if_neg (fun y => z y.2)]
      rw [this]
      omega
theorem mv_leaf (hs : spotM q 3 q.la (mdec c)) : MV q b 0 q.la (mdec c) (if brP q (mdec c) = b then 0 else 100000) := by
  by_cases e : brP q (mdec c) = b
  · rw [if_pos e]
    exact Or.inr ⟨by omega, hs, ⟨e.symm, rfl⟩, fun l _ => Nat.zero_le _⟩
  · rw [if_neg e]
    exact Or.inl ⟨rfl, fun ⟨_, l, h⟩ => e h.1.symm⟩
theorem mv_next {v : Nat} {be : Int32} (hr : r + 1 + k = q.la) (h15 : q.la ≤ 15) (hs : spotM q 3 r (mdec c)) (H : LsM q b k r (mdec c) (fun _ => True) v be) : MV q b (k + 1) r (mdec c) v := by
  obtain ⟨h0, h1, h2⟩ := H
  have er : q.la - k = r + 1 := by omega
  rcases h2 with ⟨h2, _⟩ | ⟨t, l, a1, _, a2, a3, _⟩
  · refine Or.inl ⟨h2, fun ⟨_, l, t, c1, l', c2, c3⟩ => ?_⟩
    rw [er] at c1
    have := h1 t l' c1 trivial c2
    have := (Can_b (nxt_lt c1) c2).2.2
    have := ln_3 q (r + 1) (mdec c) t
    omega
  · have := (Can_b (nxt_lt a1) a2).2.2
    have := ln_3 q (r + 1) (mdec c) t
    refine Or.inr ⟨by omega, hs, ⟨t, by rw [er]; exact a1, l, a2, by rw [er]; exact a3⟩, fun l2 ⟨t', c1, l', c2, c3⟩ => ?_⟩
    rw [er] at c1 c3
    have := h1 t' l' c1 trivial c2
    omega
theorem spots_ok (hM : MP q m low kp cl g τ) (hq : Q (nI (p10 m)) τ) : wp_X7_spots Q τ := by
  obtain ⟨⟨h1, h2, h3, h4, h5⟩, -⟩ := hM
  unfold wp_X7_spots
  rw [h2, show (0 : Int32) = nI 0 from rfl, show (1 : Int32) = nI 1 from rfl, show (2 : Int32) = nI 2 from rfl, pn_eq (by omega) (by omega), pn_eq (by omega) (by omega), pn_eq (by omega) (by omega)]
  unfold p10 at hq
  refine ⟨fun z => ?_, fun z => ⟨fun z2 => ?_, fun z2 => ⟨fun z3 => ?_, fun z3 => ?_⟩⟩⟩
  · rw [if_pos z] at hq; exact hq
  · rw [if_neg z, if_pos z2] at hq; exact hq
  · rw [if_neg z, if_neg z2, if_pos z3] at hq; exact hq
  · rw [if_neg z, if_neg z2, if_neg z3] at hq; exact hq
theorem goBroad_ok (hI : Inv g τ) (hM : MP q m low kp cl g τ) (hm : 1 ≤ m) (hb : b ≤ 20)
    (hq : ∀ v υ, FM τ υ → (∀ r, low ≤ r → r ≤ q.la → Row q b (q.la - r) m r υ) → MV q b (q.la - low) low (fsp q m low) v → υ.1 93 (1000 * low + mcod (fsp q m low)) = nI v → Q (nI v) υ) : wp_X7_goBroad (nI b) Q τ := by
  have hd' := hI.1.1
  have e78 := hI.1.2.2.2.2.2.1
  obtain ⟨b1, b2, b3⟩ := hM.2.2.2
  have la15 : q.la ≤ 15 := by omega
  have h1 := hM.1.1
  have hlow : low ≤ q.la := by
    have := hM.2.1 0 (by omega)
    omega
  have p1000 := p10_le m
  unfold wp_X7_goBroad
  rw [c0, e78, ns1 (by omega)]
  refine ⟨vin0_2, fun v hv => ?_⟩
  have e0 : v = nI (low + (q.la + 1 - low)) - 1 := by rw [hv, show low + (q.la + 1 - low) = q.la + 1 by omega, ns1 (by omega), Nat.add_sub_cancel, b1]
  rw [e0]
  refine ⟨(q.la + 1 - low) + 1, ?_⟩
  refine pk_loopD (fun n j υ => wp_X7_goBroad_l9 Q n (nI b) (nI (low + j) - 1) υ) (fun j υ => j ≤ q.la + 1 - low ∧ FM τ υ ∧ ∀ r, low + j ≤ r → r ≤ q.la → Row q b (q.la - r) m r υ) (fun n υ hυ => ?_) (fun n j υ hυ hk => ?_) (q.la + 1 - low) τ ⟨Nat.le_refl _, FM.rf, fun r h1 h2 => by omega⟩
  · show wp_X7_goBroad_b9 _ _ _ _ _
    unfold wp_X7_goBroad_b9
    obtain ⟨-, u1, u2⟩ := hυ
    have hMu := hM.fr u1
    rw [hMu.1.2.2.1, tI_lt, Nat.add_zero, nI_m1 _ (by omega), tI_n (by omega)]
    refine ⟨fun _ => firstSpot_ok (hI.cor u1.cor) hMu ?_, fun z => absurd (by omega) z⟩
    have hl := mcod_lt (m := m) (fun i _ => (fsp_lt hM i).1) (fun i h _ => (fsp_lt hM i).2 h)
    obtain ⟨w, w1, w2⟩ := u2 low (by omega) hlow _ hl
    rw [show (1000 : Int32) * nI low = nI (1000 * low) from pk_mul 1000 low, nI_add, pn_in (by omega) (by omega), pn_cl (by omega), w1]
    exact ⟨by omega, hq w υ u1 (fun r h1 h2 => u2 r (by omega) h2) (MV_ext (mdec_mcod (fun i _ => (fsp_lt hM i).1)) w2) w1⟩
  · show wp_X7_goBroad_b9 _ _ _ _ _
    unfold wp_X7_goBroad_b9
    obtain ⟨u0, u1, u2⟩ := hυ
    have hMu := hM.fr u1
    rw [hMu.1.2.2.1, tI_lt, nI_m1 _ (by omega), tI_n (by omega)]
    refine ⟨fun z => absurd z (by omega), fun _ => ?_⟩
    have er : nI (low + (j + 1)) - 1 = nI (low + j) := by rw [ns1 (by omega)]; rfl
    rw [er]
    refine pk_loop (fun n c υ => wp_X7_goBroad_l19 Q _ n (nI b) (nI (low + j)) (nI c) υ) (fun c υ => FM τ υ ∧ (∀ r, low + j + 1 ≤ r → r ≤ q.la → Row q b (q.la - r) m r υ) ∧ ∀ c', c' < c → ∃ w, υ.1 93 (1000 * (low + j) + c') = nI w ∧ MV q b (q.la - (low + j)) (low + j) (mdec c') w) (p10 m) 0 υ (Nat.zero_le _) ⟨u1, fun r h1 h2 => u2 r (by omega) h2, fun c' hc' => by omega⟩ (fun n φ hφ => ?_) (fun n c φ hc hφ hk2 => ?_)
    · show wp_X7_goBroad_b19 _ _ _ _ _ _ _
      unfold wp_X7_goBroad_b19
      obtain ⟨w1, w2, w3⟩ := hφ
      refine spots_ok (hM.fr w1) ?_
      rw [pm1]
      refine ⟨fun _ => hk _ ⟨by omega, w1, fun r h1 h2 => ?_⟩, fun z => absurd (nI_le (Nat.le_refl _) (by omega)) z⟩
      by_cases e : r = low + j
      · subst e; exact w3
      · exact w2 r (by omega) h2
    · show wp_X7_goBroad_b19 _ _ _ _ _ _ _
      unfold wp_X7_goBroad_b19
      obtain ⟨w1, w2, w3⟩ := hφ
      have hMw := hM.fr w1
      have hIw := hI.cor w1.cor
      refine spots_ok hMw ⟨fun z => absurd z (nI_ge hc (by omega)), fun _ => isSpot_ok hIw hMw (by omega) (by omega) (fun f hf => ?_)⟩
      have hsm : spotM q m (low + j) (mdec c) ↔ spotM q 3 (low + j) (mdec c) := spot_m hM (by omega) (fun i a b => mdec_0 hc a b)
      have fin : ∀ (v : Nat) (ψ : St), FM τ ψ → ψ.1 93 = φ.1 93 → MV q b (q.la - (low + j)) (low + j) (mdec c) v → ∀ K19 : Int32 → Int32 → Int32 → St → Prop, ((∀ υ', (FM τ υ' ∧ (∀ r, low + j + 1 ≤ r → r ≤ q.la → Row q b (q.la - r) m r υ') ∧ ∀ c', c' < c + 1 → ∃ w, υ'.1 93 (1000 * (low + j) + c') = nI w ∧ MV q b (q.la - (low + j)) (low + j) (mdec c') w) → K19 (nI b) (nI (low + j)) (nI (c + 1)) υ')) → ∀ K9 : Int32 → Int32 → St → Prop, wp_X7_goBroad_b82 Q K9 K19 (nI b) (nI (low + j)) (nI c) (nI v) ψ := by
        intro v ψ fψ e93 hv K19 hK K9
        unfold wp_X7_goBroad_b82
        rw [show (1000 : Int32) * nI (low + j) = nI (1000 * (low + j)) from pk_mul 1000 (low + j), nI_add, pn_in (by omega) (by omega), pn_cl (by omega), na1]
        refine ⟨by omega, hK _ ⟨⟨fun a i n => ?_, fψ.2⟩, fun r h1 h2 c' hc' => ?_, fun c' hc' => ?_⟩⟩
        · rw [sI_1, if_neg (fun z => n (Or.inl z.1))]
          exact fψ.1 a i n
        · obtain ⟨w, x1, x2⟩ := w2 r h1 h2 c' hc'
          exact ⟨w, by rw [sI_1, if_neg (by omega), e93]; exact x1, x2⟩
        · by_cases e : c' = c
          · subst e
            exact ⟨v, by rw [sI_1, if_pos ⟨rfl, rfl⟩], hv⟩
          · obtain ⟨w, x1, x2⟩ := w3 c' (by omega)
            exact ⟨w, by rw [sI_1, if_neg (by omega), e93]; exact x1, x2⟩
      refine ⟨fun e => fin 100000 φ w1 rfl (Or.inl ⟨rfl, fun y => ?_⟩) _ (fun υ' h => hk2 υ' h) _, fun e => ⟨vin0_2, ?_⟩⟩
      · rcases hf with ⟨_, z⟩ | ⟨z, _⟩
        · exact z (hsm.mpr y.1)
        · rw [z] at e; exact absurd e (by decide)
      · have hs : spotM q 3 (low + j) (mdec c) := by
          rcases hf with ⟨z, _⟩ | ⟨_, z⟩
          · exact absurd z e
          · exact hsm.mp z
        rw [c0, hIw.1.2.2.2.2.2.1, show nI g.gH - 1 = nI (g.gH - 1) from ns1 (by omega), ← b1, pn_le (by omega) (by omega)]
        unfold wp_X7_goBroad_b80
        refine ⟨fun z => mbreadth_ok hIw hMw hm (by omega) ?_, fun z => leastNext_ok (b := b) (k := q.la - (low + j) - 1) hIw hMw (by omega) hc hs (fun c' hc' => ?_) (fun v ψ fψ hl => ?_)⟩
        · have el : low + j = q.la := by omega
          have bb : brP q (mdec c) ≤ 10 := by
            have := mx_le (p := q) (s := mdec c) (fun i _ => mdec_lt)
            unfold brP; omega
          have mv := mv_leaf (b := b) (q := q) (c := c) (by rw [← el]; exact hs)
          rw [pn_eq (by omega) (by omega)]
          have ek : q.la - (low + j) = 0 := by omega
          refine ⟨fun y => fin 0 φ w1 rfl ?_ _ (fun υ' h => hk2 υ' h) _, fun y => fin 100000 φ w1 rfl ?_ _ (fun υ' h => hk2 υ' h) _⟩
          · rw [if_pos y] at mv
            rw [ek, el]; exact mv
          · rw [if_neg y] at mv
            rw [ek, el]; exact mv
        · have := w2 (low + j + 1) (by omega) (by omega) c' hc'
          rwa [show q.la - (low + j + 1) = q.la - (low + j) - 1 by omega] at this
        · have mv := mv_next (show low + j + 1 + (q.la - (low + j) - 1) = q.la by omega) la15 hs hl
          rw [show q.la - (low + j) - 1 + 1 = q.la - (low + j) by omega] at mv
          exact fin v ψ (w1.tr fψ.fm) (funext fun i => fψ.1 93 i (by omega)) mv _ (fun υ' h => hk2 υ' h) _
end TG
