/-! take -/
def RTk (k i : Nat) : Prop := (22 ≤ k ∧ k < 25) ∨ (51 ≤ k ∧ k ≤ 67) ∨ (k = 49 ∧ i = 6) ∨ k = 95 ∨ (k = 75 ∧ i = 29)
def RSP (k i : Nat) : Prop := Scr k i ∨ RPlan 22 0 k i
def PutR (S : Nat) (g : Geo) (P : Nat → Nat → Nat) (n : Nat) (φ ψ : St) : Prop := ψ.2 = φ.2 ∧ (∀ h r, h < 3 → S / 2 ^ h % 2 = 1 → g.co h ≤ r → r < n → ψ.1 95 (16 * h + r) = nI (P (r + 1) (cB S h))) ∧ ∀ k i, ¬ (k = 75 ∧ i = 29) → ¬ (k = 95 ∧ i < 48 ∧ S / 2 ^ (i / 16) % 2 = 1 ∧ g.co (i / 16) ≤ i % 16 ∧ i % 16 < n) → ψ.1 k i = φ.1 k i
section TK
variable {g : Geo} {q : Prm} {m low cl b k r c l : Nat} {kp : Nat → Nat} {σ τ υ φ : St} {K : St → Prop} {F : Prop} {S : Nat} {op : Nat → Nat} {P : Nat → Nat → Nat}
theorem InvN.off (h : InvN g σ) (hO : Off RTk σ τ) (hJ : τ.2 = σ.2) : InvN g τ := by
  obtain ⟨h1, h2, h3, h4, -, -, -, -, -, h10⟩ := h
  exact ⟨h1.fr hO (by unfold RDim RTk; omega), h2.fr hO (by unfold RBar RTk; omega), h3.fr h1.1.2.2.2.2 hO (by unfold RHea RTk; omega), h4.fr hO (by unfold RTun RTk; omega), trivial, trivial, trivial, trivial, trivial, h10.fr hO (by rw [hJ]; exact h10.1) (by unfold RTk; omega)⟩
theorem Inv.setPlanC (h : Inv g σ) (hO : Off RSP σ τ) (hJ : τ.2 0 14 = σ.2 0 14) (hJ2 : τ.2 75 0 = σ.2 75 0) (hn : IPlan g 22 0 τ) : Inv g τ := by
  obtain ⟨h1, h2, h3, h4, h5, h6, h7, h8, h9, h10⟩ := h
  exact ⟨h1.fr hO (by unfold RDim RSP Scr RPlan; omega), h2.fr hO (by unfold RBar RSP Scr RPlan; omega), h3.fr h1.1.2.2.2.2 hO (by unfold RHea RSP Scr RPlan; omega), h4.fr hO (by unfold RTun RSP Scr RPlan; omega), h5.fr hO (by unfold RWin RSP Scr RPlan; omega), hn, h7.fr hO (by unfold RMark RSP Scr RPlan; omega), h8.fr h1 h3 hO (by unfold RImg RPlan RMark RSP Scr RPlan; omega), h9.fr hO (by unfold RTxt RSP Scr RPlan; omega), h10.fr hO (by rw [hJ, hJ2]; exact h10.1) (by unfold RSP Scr RPlan; omega)⟩
theorem MP.wr (H : MP q m low kp cl g τ) (hX : ∀ i, q.fx i = false) (f : ∀ k i, ((k = 75 ∧ i ≠ 29) ∨ (90 ≤ k ∧ k ≤ 92)) → υ.1 k i = τ.1 k i) : MP q m low kp cl g υ := by
  obtain ⟨⟨h1, h2, h3, h4, h5⟩, h6, h7, h8⟩ := H
  refine ⟨⟨h1, by rw [f _ _ (by omega)]; exact h2, by rw [f _ _ (by omega)]; exact h3, by rw [f _ _ (by omega)]; exact h4, h5⟩, fun i hi => ?_, h7, h8⟩
  obtain ⟨a1, a2, a3, a4, a5, a6, a7⟩ := h6 i hi
  exact ⟨by rw [f _ _ (by omega)]; exact a1, a2, a3, by rw [f _ _ (by omega)]; exact a4, a5, by rw [f _ _ (by omega)]; exact a6, fun z => absurd z (by rw [hX i]; decide)⟩
theorem nxt_z {i : Nat} {s t : Nat → Nat} (hr : r ≤ q.la) (h15 : q.la ≤ 15) (hi : q.fs i = 16) (hi3 : i < 3) (h : nxt q r s t) : t i = 0 := by
  have o := (h.1 i hi3).2.1
  unfold hiE onlyC at o
  rw [if_pos (Or.inr (by omega)), if_pos (by omega)] at o
  omega
theorem path_low (hM : MP q m low kp cl g τ) (hl : low ≤ q.la) (h15 : q.la ≤ 15) (h0 : P 0 = zz) (hp : ∀ j, j ≤ q.la → nxt q j (P j) (P (j + 1))) : ∀ r, r ≤ low → Eq3 (P r) zz := by
  intro r
  induction r with
  | zero => intro _; rw [h0]; exact Eq3.rf
  | succ r ih =>
    intro hr
    exact (nxt_below hM hl h15 (by omega)).mp (nxt_ext (ih (by omega)) Eq3.rf (hp r (by omega)))
theorem path_first (hM : MP q m low kp cl g τ) (hl : low ≤ q.la) (h15 : q.la ≤ 15) (h0 : P 0 = zz) (hp : ∀ j, j ≤ q.la → nxt q j (P j) (P (j + 1))) : Eq3 (P (low + 1)) (fsp q m low) := by
  have fl := fun i hi => hM.fsl (i := i) hl h15 hi
  have kf := kfx hM
  have h1 : nxt q low zz (P (low + 1)) := nxt_ext (path_low hM hl h15 h0 hp low (Nat.le_refl _)) Eq3.rf (hp low hl)
  intro i hi
  obtain ⟨o1, o2, o3⟩ := h1.1 i hi
  have f := fl i hi
  unfold loE at o1
  unfold hiE at o2
  rw [if_pos (Or.inr f)] at o1 o2
  unfold onlyC at o1 o2
  by_cases e : q.fs i = low
  · have him : i < m := by
      by_cases z : i < m
      · exact z
      · have := (hM.2.2.1 i (by omega) hi).1; omega
    rw [if_neg (by omega)] at o1 o2
    have et : P (low + 1) i = q.st i := by
      by_cases fx : q.fx i = true
      · rw [if_pos fx] at o1 o2
        have := (kf i hi fx).1
        rw [e] at this
        omega
      · rw [if_neg fx] at o1 o2
        omega
    unfold fsp
    rw [if_pos ⟨him, e⟩, et]
  · rw [if_pos (by omega)] at o1 o2
    unfold fsp
    rw [if_neg (fun z => e z.2)]
    omega
theorem path_spot (hM : MP q m low kp cl g τ) (hl : low ≤ q.la) (h15 : q.la ≤ 15) (h0 : P 0 = zz) (hp : ∀ j, j ≤ q.la → nxt q j (P j) (P (j + 1))) (hc : Can q (q.la + 1) zz b l) : ∀ d, low + d ≤ q.la → spotM q 3 (low + d) (P (low + d + 1)) := by
  intro d
  induction d with
  | zero => intro _; exact spotM_ext (path_first hM hl h15 h0 hp).sy ((can_low hM hl h15).mp hc).1
  | succ d ih =>
    intro hd
    exact ((nxt_iff (kfx hM) (by omega) (ih (by omega))).mp (hp (low + d + 1) (by omega))).1
theorem takeM_ok {Q : Int32 → St → Prop} (hI : InvN g φ) (hS : S < 2 ^ g.gN) (hM : MP (qS g S op) (cB S 3) low (fun _ => 0) 0 g φ) (hlow : low ≤ g.gH - 1) (hR : ∀ r, low ≤ r → r ≤ g.gH - 1 → Row (qS g S op) b (g.gH - 1 - r) (cB S 3) r φ) (hst : ∀ j, j ≤ g.gH - 1 → ∃ l, StepC (qS g S op) (g.gH - 1 - j) (P j) (P (j + 1)) b l) (hsp : ∀ r, low ≤ r → r ≤ g.gH - 1 → spotM (qS g S op) 3 r (P (r + 1))) (hq : ∀ ψ, PutR S g P g.gH φ ψ → Q 1 ψ) : ∃ n, wp_X7_take_l37 Q n (nI S) (nI (mcod (P (low + 1)))) (nI low) φ := by
  have hd' := hI.1.1
  obtain ⟨S8, Sn⟩ := bits_lt g.gN (by omega) S hS
  have hX : ∀ i, (qS g S op).fx i = false := fun _ => rfl
  have c3 := cB_le S S8 3 (by omega)
  have hn : ∀ j, j ≤ g.gH - 1 → nxt (qS g S op) j (P j) (P (j + 1)) := by
    intro j hj
    obtain ⟨l, st⟩ := hst j hj
    have := st.1
    have e : (qS g S op).la - (g.gH - 1 - j) = j := by show g.gH - 1 - (g.gH - 1 - j) = j; omega
    rwa [e] at this
  have hlt : ∀ j, j ≤ g.gH - 1 → ∀ i, i < 3 → P (j + 1) i < 10 := fun j hj => nxt_lt (hn j hj)
  have hz : ∀ j, j ≤ g.gH - 1 → ∀ i, cB S 3 ≤ i → i < 3 → P (j + 1) i = 0 := fun j hj i h1 h2 => nxt_z (q := qS g S op) hj (by show g.gH - 1 ≤ 15; omega) (by show (if i < cB S 3 then _ else 16) = 16; rw [if_neg (by omega)]) h2 (hn j hj)
  have stay : ∀ ψ n, PutR S g P n φ ψ → InvN g ψ ∧ MP (qS g S op) (cB S 3) low (fun _ => 0) 0 g ψ ∧ ∀ r, low ≤ r → r ≤ g.gH - 1 → Row (qS g S op) b (g.gH - 1 - r) (cB S 3) r ψ := by
    rintro ψ n ⟨p1, p2, p3⟩
    refine ⟨hI.off (fun k i z => p3 k i (fun w => z (by unfold RTk; omega)) (fun w => z (by unfold RTk; omega))) p1, hM.wr hX (fun k i z => p3 k i (by omega) (by omega)), fun r h1 h2 c hc => ?_⟩
    obtain ⟨w, w1, w2⟩ := hR r h1 h2 c hc
    exact ⟨w, by rw [p3 _ _ (by omega) (by omega)]; exact w1, w2⟩
  refine pk_loop (fun n r (s : Int32 × St) => wp_X7_take_l37 Q n (nI S) s.1 (nI r) s.2) (fun r s => low ≤ r ∧ (r < g.gH → s.1 = nI (mcod (P (r + 1)))) ∧ PutR S g P r φ s.2) g.gH low (nI (mcod (P (low + 1))), φ) (by omega) ⟨Nat.le_refl _, fun _ => rfl, rfl, fun h r h1 h2 h3 h4 => ?_, fun _ _ _ _ => rfl⟩ (fun n s hs => ?_) (fun n r s hr hs hk => ?_)
  · have pi := (pi_in S S8 h h1).1 h2
    have hc : cB S h < cB S 3 := by
      have : piS S h = cB S h := if_pos h2
      omega
    have := (hM.2.1 (cB S h) hc).2.2.1
    have e : (qS g S op).fs (cB S h) = g.co h := by
      show (if cB S h < cB S 3 then g.co (memS S (cB S h)) else 16) = g.co h
      rw [if_pos hc, mem_c S S8 h h1 h2]
    omega
  · show wp_X7_take_b37 _ _ _ _ _ _
    unfold wp_X7_take_b37
    obtain ⟨s1, s2, s3⟩ := hs
    have hIs := (stay _ _ s3).1
    rw [c0, hIs.1.2.2.2.2.2.1]
    exact ⟨vin0_2, fun _ => hq _ s3, fun z => absurd (nI_le (Nat.le_refl _) (by omega)) z⟩
  · show wp_X7_take_b37 _ _ _ _ _ _
    unfold wp_X7_take_b37
    obtain ⟨sp, ψ⟩ := s
    obtain ⟨s1, s2, s3⟩ := hs
    have s2 : sp = nI (mcod (P (r + 1))) := s2 hr
    have s3 : PutR S g P r φ ψ := s3
    subst s2
    have hIs := (stay _ _ s3).1
    rw [c0, hIs.1.2.2.2.2.2.1]
    have hl := hlt r (by omega)
    have c1 := mcod_lt hl (hz r (by omega))
    have p1000 := p10_le (cB S 3)
    have e3 := mdec_mcod hl
    refine ⟨vin0_2, fun z => absurd z (nI_ge hr (by omega)), fun _ => ?_⟩
    have H : ∃ n', wp_X7_take_l53 Q (wp_X7_take_l37 Q n) n' (nI S) (nI (mcod (P (r + 1)))) (nI r) (nI (cB S 0)) (nI 0) ψ := by
      refine pk_loop (fun n' h χ => wp_X7_take_l53 Q (wp_X7_take_l37 Q n) n' (nI S) (nI (mcod (P (r + 1)))) (nI r) (nI (cB S h)) (nI h) χ) (fun h χ => χ.2 = ψ.2 ∧ (∀ h', h' < h → S / 2 ^ h' % 2 = 1 → g.co h' ≤ r → χ.1 95 (16 * h' + r) = nI (P (r + 1) (cB S h'))) ∧ ∀ k i, ¬ (k = 95 ∧ i < 48 ∧ i % 16 = r ∧ i / 16 < h ∧ S / 2 ^ (i / 16) % 2 = 1 ∧ g.co (i / 16) ≤ r) → χ.1 k i = ψ.1 k i) 3 0 ψ (by omega) ⟨rfl, fun h' hh => by omega, fun _ _ _ => rfl⟩ (fun n' χ hχ => ?_) (fun n' h χ hh hχ hk2 => ?_)
      · show wp_X7_take_b53 _ _ _ _ _ _ _ _ _
        unfold wp_X7_take_b53
        obtain ⟨w1, w2, w3⟩ := hχ
        have s4 : PutR S g P (r + 1) φ χ := by
          obtain ⟨p1, p2, p3⟩ := s3
          refine ⟨w1.trans p1, fun h r' h1 h2 h3 h4 => ?_, fun k i n1 n2 => ?_⟩
          · by_cases e : r' = r
            · rw [e] at h3 ⊢
              exact w2 h h1 h2 h3
            · rw [w3 _ _ (by omega)]
              exact p2 h r' h1 h2 h3 (by omega)
          · rw [w3 k i (fun z => n2 ⟨z.1, z.2.1, z.2.2.2.2.1, by rw [z.2.2.1]; exact z.2.2.2.2.2, by omega⟩)]
            exact p3 k i n1 (fun z => n2 ⟨z.1, z.2.1, z.2.2.1, z.2.2.2.1, by omega⟩)
        obtain ⟨hIc, hMc, hRc⟩ := stay _ _ s4
        rw [c0, hIc.1.2.2.2.2.2.1, ns1 (by omega), pn_le (by omega) (by omega), na1]
        refine ⟨fun _ => ⟨vin0_2, fun z => hk (_, χ) ⟨by omega, fun y => by omega, s4⟩, fun z => ?_⟩, fun z => absurd (by decide) z⟩
        refine leastNextN_ok (b := b) (k := g.gH - 1 - (r + 1)) hIc hMc (by show r + 1 + (g.gH - 1 - (r + 1)) = g.gH - 1; omega) c1 (spotM_ext e3.sy (hsp r s1 (by omega))) (hRc (r + 1) (by omega) (by omega)) (fun v ω fω ls => ?_)
        obtain ⟨l, st⟩ := hst (r + 1) (by omega)
        have be := ls_step (r := r) (by show g.gH - 1 - (g.gH - 1 - (r + 1)) = r + 1; omega) (by omega) (step_ext e3.sy st) ls
        rw [be]
        refine hk (_, ω) ⟨by omega, fun _ => rfl, ?_⟩
        obtain ⟨p1, p2, p3⟩ := s4
        exact ⟨fω.2.trans p1, fun h r' h1 h2 h3 h4 => by rw [fω.1 _ _ (by omega)]; exact p2 h r' h1 h2 h3 h4, fun k i n1 n2 => by rw [fω.1 k i n1]; exact p3 k i n1 n2⟩
      · show wp_X7_take_b53 _ _ _ _ _ _ _ _ _
        unfold wp_X7_take_b53
        obtain ⟨w1, w2, w3⟩ := hχ
        have bv : (nI S >>> (nI h &&& 31)) &&& 1 = nI (S / 2 ^ h % 2) := bit_val (by omega) (by omega)
        have cs := cB_s S S8 h hh
        have e1 : (nI (S / 2 ^ h % 2) = (1 : Int32)) = (S / 2 ^ h % 2 = 1) := pn_eq (b := 1) (by omega) (by omega)
        rw [bv, e1]
        refine ⟨fun z => absurd z (nI_ge (b := 3) hh (by omega)), fun _ => ⟨fun z => ?_, fun z => ?_⟩⟩
        · have pi := (pi_in S S8 h hh).1 z
          have hc : cB S h < cB S 3 := by
            have : piS S h = cB S h := if_pos z
            omega
          have e : (qS g S op).fs (cB S h) = g.co h := by
            show (if cB S h < cB S 3 then g.co (memS S (cB S h)) else 16) = g.co h
            rw [if_pos hc, mem_c S S8 h hh z]
          have a1 : χ.1 90 (cB S h) = nI (g.co h) := by
            rw [w3 _ _ (by omega), ← e]
            exact ((stay _ _ s3).2.1.2.1 (cB S h) hc).1
          have co16 : g.co h ≤ 15 := by
            have := (hM.2.1 (cB S h) hc).2.1
            have : (qS g S op).la = g.gH - 1 := rfl
            omega
          have nx : nI (cB S h) + 1 = nI (cB S (h + 1)) := by rw [na1, cs, z]
          unfold wp_X7_take_b99
          rw [pn_in (by omega) (by omega), pn_cl (by omega), a1, pn_lt (by omega) (by omega), nx, na1 h]
          refine ⟨by omega, fun y => hk2 χ ⟨w1, fun h' hh' hb hf' => ?_, fun k i n1 => w3 k i (by omega)⟩, fun y => ?_⟩
          · by_cases e5 : h' = h
            · rw [e5] at hf'; omega
            · exact w2 h' (by omega) hb hf'
          · have hIc : InvN g χ := (stay _ _ s3).1.off (fun k i n => w3 k i (fun w => n (by unfold RTk; omega))) w1
            refine placeInN_ok hIc (by omega) (by omega) ?_
            rw [e3 (cB S h) (by omega), nm16, nI_add, pn_in (by omega) (by omega), pn_cl (by omega)]
            refine ⟨by omega, hk2 _ ⟨w1, fun h' hh' hb hf' => ?_, fun k i n1 => ?_⟩⟩
            · rw [sI_1]
              by_cases e5 : h' = h
              · rw [if_pos ⟨rfl, by omega⟩, e5]
              · rw [if_neg (by omega)]
                exact w2 h' (by omega) hb hf'
            · rw [sI_1, if_neg (fun w => n1 ?_)]
              · exact w3 k i (by omega)
              · obtain ⟨v1, v2⟩ := w
                have q1 : i / 16 = h := by omega
                exact ⟨v1, by omega, by omega, by omega, by rw [q1]; exact z, by rw [q1]; omega⟩
        · have nx : nI (cB S h) = nI (cB S (h + 1)) := by rw [cs, show S / 2 ^ h % 2 = 0 by omega, Nat.add_zero]
          rw [nx, na1 h]
          refine hk2 χ ⟨w1, fun h' hh' hb hf' => ?_, fun k i n1 => w3 k i (by omega)⟩
          by_cases e5 : h' = h
          · rw [e5] at hb; exact absurd hb z
          · exact w2 h' (by omega) hb hf'
    exact H
theorem diff1 {a b : Nat} (h1 : a ≤ b + 1) (h2 : b ≤ a + 1) : nI a - nI b = -1 ∨ nI a - nI b = 0 ∨ nI a - nI b = 1 := by
  have : b = a + 1 ∨ a = b ∨ a = b + 1 := by omega
  rcases this with rfl | rfl | rfl
  · left; rw [← nI_1 a]; grind
  · right; left; simp
  · right; right; rw [← nI_1 b]; grind
theorem op_take (hI : Inv g σ) (hK : ∀ τ, Inv g τ → K τ) (x : Int32) : wp_X6_take x (fun r σ1 => wp_X7_take x (fun r2 σ2 => (r = r2 → K σ2) ∧ (¬ r = r2 → F)) σ1) σ := by
  have hd := hI.1
  have hd' := hd.1
  unfold wp_X6_take
  refine isSetX_ok hd (i2_eq (fun a => ?_) (fun n => ?_))
  · obtain ⟨S, s1, s2, rfl⟩ := of_set a
    obtain ⟨op, hop⟩ := op_ex (cl := 0) hI (by omega)
    obtain ⟨S8, Sn⟩ := bits_lt g.gN (by omega) S s2
    have bij := pi_bij S S8
    refine togX_ok hI s2 hop (fun τ b l hc hP hT c1 c2 => ?_) (fun τ hc hP hT c1 => ?_)
    · refine ⟨fun z => absurd z (by decide), fun _ => ?_⟩
      obtain ⟨P, p0, ps⟩ := path_ex (q := qS g S op) (g.gH - 1 + 1) ⟨c1, c2⟩
      have hst : ∀ j, j ≤ g.gH - 1 → ∃ l, StepC (qS g S op) (g.gH - 1 - j) (P j) (P (j + 1)) b l := fun j hj => by
        obtain ⟨l', h⟩ := ps j (by omega)
        exact ⟨l', by rwa [show g.gH - 1 + 1 - 1 - j = g.gH - 1 - j by omega] at h⟩
      have hn : ∀ j, j ≤ g.gH - 1 → nxt (qS g S op) j (P j) (P (j + 1)) := by
        intro j hj
        obtain ⟨l, st⟩ := hst j hj
        have := st.1
        have e : (qS g S op).la - (g.gH - 1 - j) = j := by show g.gH - 1 - (g.gH - 1 - j) = j; omega
        rwa [e] at this
      have hz : ∀ j s t, j ≤ g.gH - 1 → nxt (qS g S op) j s t → ∀ i, cB S 3 ≤ i → i < 3 → t i = 0 := fun j s t hj h i h1 h2 => nxt_z (q := qS g S op) hj (by show g.gH - 1 ≤ 15; omega) (by show (if i < cB S 3 then _ else 16) = 16; rw [if_neg (by omega)]) h2 h
      have vd : ∀ j, j ≤ g.gH - 1 → Vd (qS g S op) j (P j) := by
        intro j hj
        by_cases e : j = 0
        · rw [e]; exact fun i j _ _ _ a _ => by omega
        · obtain ⟨i, rfl⟩ : ∃ i, j = i + 1 := ⟨j - 1, by omega⟩
          exact nxt_vd (hn i (by omega))
      refine tell_ok (p := permP (piS S) (qS g S op)) (P := fun j h => P j (piS S h)) (b := b) (fun _ => rfl) hP hT (funext fun i => by show P 0 (piS S i) = 0; rw [p0]; rfl) (fun j hj => ?_) (fun υ hυ => ?_)
      · have hj : j ≤ g.gH - 1 := hj
        obtain ⟨l', st⟩ := hst j hj
        have ej : (qS g S op).la - ((permP (piS S) (qS g S op)).la - j) = j := by show g.gH - 1 - (g.gH - 1 - j) = j; omega
        refine ⟨l', step_perm bij (by show g.gH - 1 - j ≤ g.gH - 1; omega) (by rw [ej]; exact vd j hj) (fun t t' n1 n2 hc3 => ?_) st⟩
        rw [ej] at n1 n2
        exact mono_pi S S8 t t' (nxt_lt n1) (nxt_lt n2) (hz j _ _ hj n1) (hz j _ _ hj n2) hc3
      · obtain ⟨t1, t2, t3⟩ := hυ
        have la1 : (permP (piS S) (qS g S op)).la + 1 = g.gH := by show g.gH - 1 + 1 = g.gH; omega
        rw [la1] at t2 t3
        have hNu : InvN g υ := (hI.cor hc).n.off (fun k i n => t3 k i (fun z => n (by unfold RTk; omega)) (fun z => n (by unfold RTk; omega))) t1
        have pfs : ∀ h, h < 3 → (permP (piS S) (qS g S op)).fs h = if S / 2 ^ h % 2 = 1 then g.co h else 16 := by
          intro h hh
          show (if piS S h < cB S 3 then g.co (memS S (piS S h)) else 16) = _
          by_cases z : S / 2 ^ h % 2 = 1
          · have := (pi_in S S8 h hh).1 z
            rw [if_pos this.1, this.2, if_pos z]
          · have := (pi_in S S8 h hh).2 z
            rw [if_neg (by omega), if_neg z]
        unfold wp_X7_take
        refine isSetM_ok hNu.1 (g_t a (togMN_ok hNu s2 s1 hop (fun φ hφ hno => absurd c1 (hno b l)) (fun b' v' φ low hφ hM a1 a2 a3 a4 a5 a6 a7 a8 => ?_)))
        obtain ⟨rfl, rfl⟩ := bl_uq (p := qS g S op) (by show g.gH - 1 ≤ 15; omega) c1 c2 a3 (least_of (show g.gH - 1 + 1 ≤ 16 by omega) a3 a4 a5)
        have hNf : InvN g φ := hNu.cor hφ
        have hlow : low ≤ g.gH - 1 := by
          have := cB_pos S S8 s1
          have := hM.2.1 0 (by omega)
          have : (qS g S op).la = g.gH - 1 := rfl
          omega
        refine ⟨fun z => ?_, fun _ => firstSpotN_ok hNf hM ?_⟩
        · rw [tI_eq, t_m9, tI_n (by omega)] at z; omega
        · have ef := path_first hM hlow (by show g.gH - 1 ≤ 15; omega) p0 hn
          have em : mcod (fsp (qS g S op) (cB S 3) low) = mcod (P (low + 1)) := by
            unfold mcod
            rw [ef 0 (by omega), ef 1 (by omega), ef 2 (by omega)]
          rw [hM.1.2.2.1, em]
          refine takeM_ok hNf s2 hM hlow a6 hst (fun r h1 h2 => ?_) (fun ψ hψ => eq_k rfl (hK _ ?_))
          · have := path_spot hM hlow (by show g.gH - 1 ≤ 15; omega) p0 hn c1 (r - low) (by show low + (r - low) ≤ g.gH - 1; omega)
            rwa [show low + (r - low) = r by omega] at this
          · obtain ⟨q1, q2, q3⟩ := hψ
            have row : ∀ h r, h < 3 → ψ.1 (22 + h) r = υ.1 (22 + h) r := fun h r hh => by rw [q3 _ _ (by omega) (by omega), hφ.1 _ _ (by unfold Scr; omega)]
            have rowN : ∀ h r, h < 3 → ¬ (S / 2 ^ h % 2 = 1 ∧ g.co h ≤ r ∧ r < g.gH) → r < 16 → ψ.1 (22 + h) r = σ.1 (22 + h) r ∧ ψ.1 95 (16 * h + r) = σ.1 95 (16 * h + r) := by
              intro h r hh hno hr
              constructor
              · rw [row h r hh, t3 _ _ (by omega) (fun z => ?_), hc.1 _ _ (by unfold Scr; omega)]
                rw [show 22 + h - 22 = h by omega, pfs h hh] at z
                by_cases y : S / 2 ^ h % 2 = 1
                · rw [if_pos y] at z; exact hno ⟨y, z.2.2.1, z.2.2.2⟩
                · rw [if_neg y] at z; omega
              · rw [q3 _ _ (by omega) (fun z => ?_), hφ.1 _ _ (by unfold Scr; omega), t3 _ _ (by omega) (by omega), hc.1 _ _ (by unfold Scr; omega)]
                rw [show (16 * h + r) / 16 = h by omega, show (16 * h + r) % 16 = r by omega] at z
                exact hno ⟨z.2.2.1, z.2.2.2⟩
            have rowY : ∀ h r, h < 3 → S / 2 ^ h % 2 = 1 → g.co h ≤ r → r < g.gH → ψ.1 (22 + h) r = nI (P (r + 1) (cB S h)) ∧ ψ.1 95 (16 * h + r) = nI (P (r + 1) (cB S h)) := by
              intro h r hh y h1 h2
              refine ⟨?_, q2 h r hh y h1 h2⟩
              rw [row h r hh, t2 h r hh (by rw [pfs h hh, if_pos y]; exact h1) h2]
              show nI (P (r + 1) (piS S h)) = _
              rw [show piS S h = cB S h from if_pos y]
            refine hI.setPlanC (fun k i n => ?_) (by rw [q1, hφ.2.1, t1, hc.2.1]) (by rw [q1, hφ.2.2, t1, hc.2.2]) (fun h hh => ?_)
            · have ns : ¬ Scr k i := fun z => n (Or.inl z)
              have np : ¬ RPlan 22 0 k i := fun z => n (Or.inr z)
              rw [q3 k i (fun z => ns (by unfold Scr; omega)) (fun z => np (by unfold RPlan; omega)), hφ.1 k i ns, t3 k i (fun z => ns (by unfold Scr; omega)) (fun z => np (by unfold RPlan; omega)), hc.1 k i ns]
            · have h3 : h < 3 := by omega
              obtain ⟨i1, i2, i3⟩ := hI.2.2.2.2.2.1 h hh
              obtain ⟨⟨-, -, coH⟩, ⟨-, -, clW⟩, -⟩ := hI.2.2.1 h hh
              by_cases y : S / 2 ^ h % 2 = 1
              · have hc3 : cB S h < cB S 3 := by
                  have := (pi_in S S8 h h3).1 y
                  have : piS S h = cB S h := if_pos y
                  omega
                have ef : (qS g S op).fs (cB S h) = g.co h := by
                  show (if cB S h < cB S 3 then g.co (memS S (cB S h)) else 16) = g.co h
                  rw [if_pos hc3, mem_c S S8 h h3 y]
                have es : (qS g S op).st (cB S h) = g.cl h := by
                  show g.cl (memS S (cB S h)) = g.cl h
                  rw [mem_c S S8 h h3 y]
                have cb3 := cB_le S S8 3 (by omega)
                refine ⟨fun r hr => ?_, ?_, fun r h1 h2 => ?_⟩
                · rw [Nat.zero_add]
                  by_cases w : g.co h ≤ r ∧ r < g.gH
                  · rw [(rowY h r h3 y w.1 w.2).1, (rowY h r h3 y w.1 w.2).2]
                  · have := rowN h r h3 (fun z => w z.2) hr
                    rw [this.1, this.2]
                    have := i1 r hr
                    rwa [Nat.zero_add] at this
                · rw [(rowY h (g.co h) h3 y (Nat.le_refl _) (by omega)).1]
                  obtain ⟨o1, o2, o3⟩ := (hn (g.co h) (by omega)).1 (cB S h) (by omega)
                  unfold loE onlyC at o1
                  unfold hiE onlyC at o2
                  rw [if_pos (Or.inr (by omega)), if_neg (by omega), if_neg (show ¬ (qS g S op).fx (cB S h) = true from fun z => absurd (show false = true from z) (by decide)), es] at o1 o2
                  exact congrArg nI (by omega)
                · rw [(rowY h r h3 y (by omega) h2).1, (rowY h (r - 1) h3 y (by omega) (by omega)).1, show r - 1 + 1 = r by omega]
                  obtain ⟨o1, o2, o3⟩ := (hn r (by omega)).1 (cB S h) (by omega)
                  unfold loE at o1
                  unfold hiE at o2
                  have nf : ¬ ((qS g S op).fx (cB S h) = true ∨ r ≤ (qS g S op).fs (cB S h)) := by
                    rintro (z | z)
                    · exact absurd (show false = true from z) (by decide)
                    · omega
                  rw [if_neg nf] at o1 o2
                  exact diff1 (by omega) (by omega)
              · have rn := fun r hr => rowN h r h3 (fun z => y z.1) hr
                refine ⟨fun r hr => ?_, ?_, fun r h1 h2 => ?_⟩
                · rw [Nat.zero_add, (rn r hr).1, (rn r hr).2]
                  have := i1 r hr
                  rwa [Nat.zero_add] at this
                · rw [(rn _ (by omega)).1]; exact i2
                · rw [(rn r (by omega)).1, (rn (r - 1) (by omega)).1]; exact i3 r h1 h2
    · refine ⟨fun _ => ?_, fun z => absurd rfl z⟩
      have hIt := hI.cor hc
      unfold wp_X7_take
      exact isSetM_ok hIt.1 (g_t a (togM_ok hIt s2 s1 hop (fun φ hφ _ => ⟨fun _ => eq_k rfl (hK _ (hIt.cor hφ)), fun z => absurd rfl z⟩) (fun b' v' φ low hφ hM a1 a2 a3 a4 a5 a6 a7 a8 => absurd a3 (c1 _ _))))
  · unfold wp_X7_take
    exact isSetM_ok hd (g_f n (eq_k rfl (hK _ hI)))
end TK
