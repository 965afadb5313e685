section CL
variable {g : Geo} {q : Prm} {m low cl b k r c l : Nat} {kp : Nat → Nat} {τ υ : St} {Q : Int32 → St → Prop} {i : Nat}
theorem MP.fsl (hM : MP q m low kp cl g τ) (hl : low ≤ q.la) (h15 : q.la ≤ 15) (hi : i < 3) : low ≤ q.fs i := by
  by_cases e : i < m
  · exact (hM.2.1 i e).2.2.1
  · have := (hM.2.2.1 i (by omega) hi).1
    omega
theorem nxt_below (hM : MP q m low kp cl g τ) (hl : low ≤ q.la) (h15 : q.la ≤ 15) (hr : r < low) {t : Nat → Nat} : nxt q r zz t ↔ Eq3 t zz := by
  have fl := fun i hi => hM.fsl (i := i) hl h15 hi
  constructor
  · intro H h hh
    have o := (H.1 h hh).2.1
    have := fl h hh
    unfold hiE onlyC at o
    rw [if_pos (Or.inr (by omega)), if_pos (by omega)] at o
    show t h = 0
    omega
  · intro e
    refine ⟨fun h hh => ?_, fun a => ?_, fun a => ?_, fun a => ?_⟩
    · have := fl h hh
      have e0 : t h = 0 := e h hh
      unfold oneOK loE hiE onlyC
      rw [if_pos (Or.inr (by omega)), if_pos (by omega), if_pos (Or.inr (by omega)), e0]
      exact ⟨Nat.le_refl _, Nat.le_refl _, Or.inl (by omega)⟩
    · have := fl 0 (by omega); omega
    · have := fl 0 (by omega); omega
    · have := fl 1 (by omega); omega
theorem ln_below (hM : MP q m low kp cl g τ) (hl : low ≤ q.la) (h15 : q.la ≤ 15) (hr : r ≤ low) {s t : Nat → Nat} : lnP q r s t = 0 := by
  have f0 := hM.fsl (i := 0) hl h15 (by omega)
  have f1 := hM.fsl (i := 1) hl h15 (by omega)
  have f2 := hM.fsl (i := 2) hl h15 (by omega)
  unfold lnP lnH
  rw [if_neg (by omega), if_neg (by omega), if_neg (by omega)]
theorem can_dn (hM : MP q m low kp cl g τ) (hl : low ≤ q.la) (h15 : q.la ≤ 15) : ∀ d, d ≤ low → (Can q (q.la + 1) zz b l ↔ Can q (q.la + 1 - d) zz b l) := by
  intro d
  induction d with
  | zero => intro _; exact Iff.rfl
  | succ d ih =>
    intro hd
    rw [ih (by omega)]
    obtain ⟨n, hn⟩ : ∃ n, q.la + 1 - d = n + 1 := ⟨q.la - d, by omega⟩
    rw [hn, show q.la + 1 - (d + 1) = n by omega]
    have er : q.la - n = d := by omega
    constructor
    · rintro ⟨t, h1, l', h2, h3⟩
      rw [er] at h1 h3
      rw [ln_below hM hl h15 (by omega)] at h3
      have e := (nxt_below hM hl h15 (by omega)).mp h1
      rw [h3]
      exact Can_ext e h2
    · intro h
      refine ⟨zz, ?_, l, h, ?_⟩
      · rw [er]; exact (nxt_below hM hl h15 (by omega)).mpr Eq3.rf
      · rw [er, ln_below hM hl h15 (by omega)]; rfl
theorem can_low (hM : MP q m low kp cl g τ) (hl : low ≤ q.la) (h15 : q.la ≤ 15) : Can q (q.la + 1) zz b l ↔ (spotM q 3 low (fsp q m low) ∧ Can q (q.la - low) (fsp q m low) b l) := by
  rw [can_dn hM hl h15 low (Nat.le_refl _)]
  obtain ⟨n, hn⟩ : ∃ n, q.la + 1 - low = n + 1 := ⟨q.la - low, by omega⟩
  rw [hn, show q.la - low = n by omega]
  have er : q.la - n = low := by omega
  have fl := fun i hi => hM.fsl (i := i) hl h15 hi
  have kf := kfx hM
  have am : ∀ i, i < 3 → q.fs i = low → i < m := fun i hi e => by
    by_cases z : i < m
    · exact z
    · have := (hM.2.2.1 i (by omega) hi).1; omega
  constructor
  · rintro ⟨t, h1, l', h2, h3⟩
    rw [er] at h1 h3
    rw [ln_below hM hl h15 (by omega)] at h3
    have key : ∀ i, i < 3 → (t i = fsp q m low i) ∧ spot1 q low i (t i) := by
      intro i hi
      obtain ⟨o1, o2, o3⟩ := h1.1 i hi
      have f := fl i hi
      unfold loE at o1
      unfold hiE at o2
      rw [if_pos (Or.inr f)] at o1 o2
      unfold onlyC at o1 o2
      by_cases e : q.fs i = low
      · rw [if_neg (by omega)] at o1 o2
        have et : t i = q.st i := by
          by_cases fx : q.fx i = true
          · rw [if_pos fx] at o1 o2
            have := (kf i hi fx).1
            rw [e] at this
            omega
          · rw [if_neg fx] at o1 o2
            omega
        refine ⟨by unfold fsp; rw [if_pos ⟨am i hi e, e⟩, et], ?_⟩
        rcases o3 with o3 | o3
        · omega
        · refine Or.inr ⟨by omega, o3.1, o3.2, Or.inr et, fun fx => ?_⟩
          have := (kf i hi fx).1
          rw [e] at this
          omega
      · rw [if_pos (by omega)] at o1 o2
        have et : t i = 0 := by omega
        refine ⟨by unfold fsp; rw [if_neg (fun z => e z.2), et], Or.inl ⟨by omega, et⟩⟩
    have e3 : Eq3 t (fsp q m low) := fun i hi => (key i hi).1
    refine ⟨spotM_ext e3 (fun i hi => ⟨(key i hi).2, fun j hj a c => ?_⟩), by rw [h3]; exact Can_ext e3 h2⟩
    have : (i = 1 ∧ j = 0) ∨ (i = 2 ∧ j = 0) ∨ (i = 2 ∧ j = 1) := by omega
    rcases this with ⟨rfl, rfl⟩ | ⟨rfl, rfl⟩ | ⟨rfl, rfl⟩
    · have := (h1.2.1 c a).1; omega
    · have := (h1.2.2.1 c a).1; omega
    · have := (h1.2.2.2 c a).1; omega
  · rintro ⟨h1, h2⟩
    refine ⟨fsp q m low, ?_, l, h2, ?_⟩
    · rw [er]
      have two : ∀ i, i < 3 → ∀ j, j < i → twoOK q low j i zz (fsp q m low) := by
        intro i hi j hj a c
        have := (h1 i hi).2 j hj c a
        have := fl i hi
        exact ⟨by omega, fun x y => by omega⟩
      refine ⟨fun i hi => ?_, two 1 (by omega) 0 (by omega), two 2 (by omega) 0 (by omega), two 2 (by omega) 1 (by omega)⟩
      have f := fl i hi
      unfold oneOK loE hiE
      rw [if_pos (Or.inr f), if_pos (Or.inr f)]
      unfold onlyC standP
      rcases (h1 i hi).1 with z | ⟨z1, z2, z3, z4, z5⟩
      · rw [if_pos z.1]
        exact ⟨by omega, by omega, Or.inl z.1⟩
      · rw [if_neg (by omega)]
        have e4 : fsp q m low i = q.st i := by
          rcases z4 with z4 | z4
          · omega
          · exact z4
        by_cases fx : q.fx i = true
        · rw [if_pos fx]
          have := z5 fx
          exact ⟨by omega, by omega, Or.inr ⟨z2, z3⟩⟩
        · rw [if_neg fx]
          exact ⟨by omega, by omega, Or.inr ⟨z2, z3⟩⟩
    · rw [er, ln_below hM hl h15 (by omega)]; rfl
theorem Can_W {p : Prm} {W : Nat} (hW : 1 ≤ W) (hop : ∀ r c, r ≤ p.la → c < 10 → bitP (p.op r) c → c < W) : ∀ {k : Nat} {s : Nat → Nat} {b l : Nat}, Can p (k + 1) s b l → b ≤ W := by
  intro k
  induction k with
  | zero =>
    intro s b l H
    obtain ⟨t, h1, l', h2, h3⟩ := H
    have h1 : nxt p p.la s t := h1
    have eb : b = brP p t := h2.1
    have st : ∀ i, i < 3 → p.fs i ≤ p.la → t i < W := by
      intro i hi hf
      rcases (h1.1 i hi).2.2 with z | z
      · omega
      · exact hop _ _ (by omega) z.1 z.2
    have s0 := st 0 (by omega)
    have s1 := st 1 (by omega)
    have s2 := st 2 (by omega)
    have : mxS p t 3 ≤ W := by
      unfold mxS mxS mxS mxS
      split <;> split <;> split <;> omega
    unfold brP at eb
    omega
  | succ k ih =>
    intro s b l H
    obtain ⟨t, h1, l', h2, h3⟩ := H
    exact ih h2
theorem goTogether_ok (hI : Inv g τ) (hM : MP q m low kp cl g τ) (hm : 1 ≤ m)
    (hno : ∀ υ, FM τ υ → (∀ b l, ¬ Can q (q.la + 1) zz b l) → Q (-9) υ)
    (hyes : ∀ b v υ, FM τ υ → 1 ≤ b → b ≤ g.gW → Can q (q.la + 1) zz b v → (∀ l, Can q (q.la + 1) zz b l → v ≤ l) → (∀ b' l, Can q (q.la + 1) zz b' l → b ≤ b') → (∀ r, low ≤ r → r ≤ q.la → Row q b (q.la - r) m r υ) → υ.1 93 (1000 * low + mcod (fsp q m low)) = nI v → v < 100000 → Q (nI b) υ) : wp_X7_goTogether Q τ := by
  have hd' := hI.1.1
  obtain ⟨b1, b2, b3⟩ := hM.2.2.2
  have la15 : q.la ≤ 15 := by omega
  have hlow : low ≤ q.la := by
    have := hM.2.1 0 (by omega)
    omega
  have h3 := hM.1.1
  have cW : ∀ b l, Can q (q.la + 1) zz b l → 1 ≤ b ∧ b ≤ g.gW := by
    intro b l H
    exact ⟨(Can_b (fun _ _ => by show 0 < 10; omega) H).1, Can_W (by omega) (fun r c hr hc z => ((b3 r c hr hc).mp z).1) H⟩
  unfold wp_X7_goTogether
  refine pk_loop (fun n i υ => wp_X7_goTogether_l2 Q n (nI i) υ) (fun i υ => FM τ υ ∧ ∀ b' l, b' < i → ¬ Can q (q.la + 1) zz b' l) (g.gW + 1) 1 τ (by omega) ⟨FM.rf, fun b' l hb H => by have := (cW b' l H).1; omega⟩ (fun n υ hυ => ?_) (fun n i υ hi hυ hk => ?_)
  · show wp_X7_goTogether_b2 _ _ _ _
    unfold wp_X7_goTogether_b2
    obtain ⟨u1, u2⟩ := hυ
    rw [c0, (hI.cor u1.cor).1.2.2.2.2.1, pn_lt (by omega) (by omega)]
    refine ⟨vin0_2, fun _ => hno υ u1 (fun b l H => ?_), fun z => absurd (by omega) z⟩
    have := (cW b l H).2
    exact u2 b l (by omega) H
  · show wp_X7_goTogether_b2 _ _ _ _
    unfold wp_X7_goTogether_b2
    obtain ⟨u1, u2⟩ := hυ
    have hMu := hM.fr u1
    rw [c0, (hI.cor u1.cor).1.2.2.2.2.1, pn_lt (by omega) (by omega), hMu.1.2.1, show (0 : Int32) = nI 0 from rfl, pn_le (by omega) (by omega)]
    refine ⟨vin0_2, fun z => absurd z (by omega), fun _ => ⟨fun z => absurd z (by omega), fun _ => goBroad_ok (hI.cor u1.cor) hMu hm (by omega) (fun v υ2 f2 rows mv e93 => ?_)⟩⟩
    have vb : v ≤ 100000 := by rcases mv with z | z <;> omega
    rw [show (100000 : Int32) = nI 100000 from rfl, pn_le (by omega) (by omega), na1]
    refine ⟨fun z => hk υ2 ⟨u1.tr f2, fun b' l hb H => ?_⟩, fun z => ?_⟩
    · by_cases e : b' = i
      · rcases mv with ⟨_, y⟩ | ⟨y, _⟩
        · rw [e] at H
          have := (can_low hM hlow la15).mp H
          exact y ⟨this.1, l, this.2⟩
        · omega
      · exact u2 b' l (by omega) H
    · rcases mv with ⟨y, _⟩ | ⟨y1, y2, y3, y4⟩
      · omega
      · have H : Can q (q.la + 1) zz i v := (can_low hM hlow la15).mpr ⟨y2, y3⟩
        refine hyes i v υ2 (u1.tr f2) (cW i v H).1 (by omega) H (fun l hl => y4 l ((can_low hM hlow la15).mp hl).2) (fun b' l hc => ?_) rows e93 y1
        by_cases e : b' < i
        · exact absurd hc (u2 b' l e)
        · omega
end CL
/-! the same search, its places told in another order -/
def permP (π : Nat → Nat) (q : Prm) : Prm := (fun h => q.fs (π h), fun h => q.st (π h), fun h => q.fx (π h), fun h => q.gv (π h), q.op, q.gp, q.la)
def Bij (π : Nat → Nat) : Prop := (π 0 = 0 ∧ π 1 = 1 ∧ π 2 = 2) ∨ (π 0 = 0 ∧ π 1 = 2 ∧ π 2 = 1) ∨ (π 0 = 1 ∧ π 1 = 0 ∧ π 2 = 2) ∨ (π 0 = 1 ∧ π 1 = 2 ∧ π 2 = 0) ∨ (π 0 = 2 ∧ π 1 = 0 ∧ π 2 = 1) ∨ (π 0 = 2 ∧ π 1 = 1 ∧ π 2 = 0)
def Vd (q : Prm) (r : Nat) (s : Nat → Nat) : Prop := ∀ i j, i < 3 → j < 3 → i ≠ j → q.fs i < r → q.fs j < r → s i ≠ s j
def nxA (q : Prm) (r : Nat) (s t : Nat → Nat) : Prop := (∀ i, i < 3 → oneOK q r i s t) ∧ ∀ i j, i < 3 → j < 3 → i ≠ j → twoOK q r i j s t
section PM
variable {q : Prm} {r : Nat} {s t : Nat → Nat} {π : Nat → Nat}
theorem two_sy (hv : Vd q r s) {i j : Nat} (hi : i < 3) (hj : j < 3) (hne : i ≠ j) (H : twoOK q r i j s t) : twoOK q r j i s t := by
  intro a b
  obtain ⟨h1, h2⟩ := H b a
  refine ⟨by omega, fun x y => ?_⟩
  have h2 := h2 y x
  have := hv i j hi hj hne y x
  omega
theorem nxA_iff (hv : Vd q r s) : nxt q r s t ↔ nxA q r s t := by
  constructor
  · rintro ⟨h, h01, h02, h12⟩
    refine ⟨h, fun i j hi hj hne => ?_⟩
    have : (i = 0 ∧ j = 1) ∨ (i = 0 ∧ j = 2) ∨ (i = 1 ∧ j = 2) ∨ (i = 1 ∧ j = 0) ∨ (i = 2 ∧ j = 0) ∨ (i = 2 ∧ j = 1) := by omega
    rcases this with ⟨rfl, rfl⟩ | ⟨rfl, rfl⟩ | ⟨rfl, rfl⟩ | ⟨rfl, rfl⟩ | ⟨rfl, rfl⟩ | ⟨rfl, rfl⟩
    · exact h01
    · exact h02
    · exact h12
    · exact two_sy hv (by omega) (by omega) (by omega) h01
    · exact two_sy hv (by omega) (by omega) (by omega) h02
    · exact two_sy hv (by omega) (by omega) (by omega) h12
  · rintro ⟨h, h2⟩
    exact ⟨h, h2 0 1 (by omega) (by omega) (by omega), h2 0 2 (by omega) (by omega) (by omega), h2 1 2 (by omega) (by omega) (by omega)⟩
theorem nxt_vd (H : nxt q r s t) : Vd q (r + 1) t := by
  intro i j hi hj hne a b
  obtain ⟨h, h01, h02, h12⟩ := H
  have : (i = 0 ∧ j = 1) ∨ (i = 0 ∧ j = 2) ∨ (i = 1 ∧ j = 2) ∨ (i = 1 ∧ j = 0) ∨ (i = 2 ∧ j = 0) ∨ (i = 2 ∧ j = 1) := by omega
  rcases this with ⟨rfl, rfl⟩ | ⟨rfl, rfl⟩ | ⟨rfl, rfl⟩ | ⟨rfl, rfl⟩ | ⟨rfl, rfl⟩ | ⟨rfl, rfl⟩
  · have := (h01 (by omega) (by omega)).1; omega
  · have := (h02 (by omega) (by omega)).1; omega
  · have := (h12 (by omega) (by omega)).1; omega
  · have := (h01 (by omega) (by omega)).1; omega
  · have := (h02 (by omega) (by omega)).1; omega
  · have := (h12 (by omega) (by omega)).1; omega
theorem Bij.lt (h : Bij π) {i : Nat} (hi : i < 3) : π i < 3 := by
  have : i = 0 ∨ i = 1 ∨ i = 2 := by omega
  unfold Bij at h
  rcases this with rfl | rfl | rfl <;> omega
theorem Bij.inj (h : Bij π) {i j : Nat} (hi : i < 3) (hj : j < 3) (hne : i ≠ j) : π i ≠ π j := by
  have a1 : i = 0 ∨ i = 1 ∨ i = 2 := by omega
  have a2 : j = 0 ∨ j = 1 ∨ j = 2 := by omega
  unfold Bij at h
  rcases a1 with rfl | rfl | rfl <;> rcases a2 with rfl | rfl | rfl <;> omega
theorem Bij.inv (h : Bij π) : ∃ ρ : Nat → Nat, (∀ i, i < 3 → ρ i < 3 ∧ π (ρ i) = i) ∧ ∀ i, i < 3 → ρ (π i) = i := by
  refine ⟨fun i => if π 0 = i then 0 else if π 1 = i then 1 else 2, fun i hi => ?_, fun i hi => ?_⟩
  · have : i = 0 ∨ i = 1 ∨ i = 2 := by omega
    unfold Bij at h
    dsimp only
    split
    · next z => exact ⟨by omega, z⟩
    · split
      · next z => exact ⟨by omega, z⟩
      · exact ⟨by omega, by omega⟩
  · have : i = 0 ∨ i = 1 ∨ i = 2 := by omega
    unfold Bij at h
    dsimp only
    rcases this with rfl | rfl | rfl
    · rw [if_pos rfl]
    · rw [if_neg (by omega), if_pos rfl]
    · rw [if_neg (by omega), if_neg (by omega)]
theorem nxA_perm (h : Bij π) : nxA (permP π q) r (fun i => s (π i)) (fun i => t (π i)) ↔ nxA q r s t := by
  obtain ⟨ρ, r1, r2⟩ := h.inv
  constructor
  · rintro ⟨h1, h2⟩
    refine ⟨fun i hi => ?_, fun i j hi hj hne => ?_⟩
    · have := h1 (ρ i) (r1 i hi).1
      unfold oneOK at this
      have e : ∀ x, x = ρ i → π x = i := fun x hx => by rw [hx, (r1 i hi).2]
      have e2 := e _ rfl
      unfold oneOK
      unfold loE hiE onlyC standP at this ⊢
      simp only [permP, Prm.fs, Prm.st, Prm.fx, Prm.gv, Prm.op, e2] at this ⊢
      exact this
    · have ne : ρ i ≠ ρ j := fun z => hne (by rw [← (r1 i hi).2, ← (r1 j hj).2, z])
      have := h2 (ρ i) (ρ j) (r1 i hi).1 (r1 j hj).1 ne
      unfold twoOK at this ⊢
      simp only [permP, Prm.fs, Prm.gp, (r1 i hi).2, (r1 j hj).2] at this ⊢
      exact this
  · rintro ⟨h1, h2⟩
    refine ⟨fun i hi => ?_, fun i j hi hj hne => ?_⟩
    · have := h1 (π i) (h.lt hi)
      unfold oneOK at this ⊢
      unfold loE hiE onlyC standP at this ⊢
      simp only [permP, Prm.fs, Prm.st, Prm.fx, Prm.gv, Prm.op] at this ⊢
      exact this
    · have := h2 (π i) (π j) (h.lt hi) (h.lt hj) (h.inj hi hj hne)
      unfold twoOK at this ⊢
      simp only [permP, Prm.fs, Prm.gp] at this ⊢
      exact this
theorem ln_perm (h : Bij π) : lnP (permP π q) r (fun i => s (π i)) (fun i => t (π i)) = lnP q r s t := by
  have e : ∀ i, lnH (permP π q) r i (fun i => s (π i)) (fun i => t (π i)) = lnH q r (π i) s t := fun i => rfl
  unfold lnP
  rw [e, e, e]
  rcases h with ⟨a, b, c⟩ | ⟨a, b, c⟩ | ⟨a, b, c⟩ | ⟨a, b, c⟩ | ⟨a, b, c⟩ | ⟨a, b, c⟩ <;> rw [a, b, c] <;> omega
theorem br_perm (h : Bij π) : brP (permP π q) (fun i => s (π i)) = brP q s := by
  unfold brP mxS mxS mxS mxS mnS mnS mnS mnS
  simp only [permP, Prm.fs, Prm.la]
  rcases h with ⟨a, b, c⟩ | ⟨a, b, c⟩ | ⟨a, b, c⟩ | ⟨a, b, c⟩ | ⟨a, b, c⟩ | ⟨a, b, c⟩ <;> simp only [a, b, c] <;>
  by_cases z0 : q.1 0 ≤ q.2.2.2.2.2.2 <;> by_cases z1 : q.1 1 ≤ q.2.2.2.2.2.2 <;> by_cases z2 : q.1 2 ≤ q.2.2.2.2.2.2 <;> simp only [z0, z1, z2, if_true, if_false] <;> omega
theorem can_perm (h : Bij π) : ∀ {k : Nat} {s : Nat → Nat} {b l : Nat}, k ≤ q.la + 1 → Vd q (q.la + 1 - k) s → (Can (permP π q) k (fun i => s (π i)) b l ↔ Can q k s b l) := by
  obtain ⟨ρ, r1, r2⟩ := h.inv
  intro k
  induction k with
  | zero =>
    intro s b l _ _
    show (b = brP (permP π q) (fun i => s (π i)) ∧ l = 0) ↔ (b = brP q s ∧ l = 0)
    rw [br_perm h]
  | succ k ih =>
    intro s b l hk hv
    have er : q.la + 1 - (k + 1) = q.la - k := by omega
    have er2 : q.la + 1 - k = q.la - k + 1 := by omega
    rw [er] at hv
    have hv2 : Vd (permP π q) (q.la - k) (fun i => s (π i)) := fun i j hi hj hne a b => hv (π i) (π j) (h.lt hi) (h.lt hj) (h.inj hi hj hne) a b
    constructor
    · rintro ⟨t, h1, l', h2, h3⟩
      have h1 : nxt (permP π q) (q.la - k) (fun i => s (π i)) t := h1
      have h3 : l = l' + lnP (permP π q) (q.la - k) (fun i => s (π i)) t := h3
      have e3 : Eq3 t (fun i => t (ρ (π i))) := fun i hi => by show t i = t (ρ (π i)); rw [r2 i hi]
      have h1 := nxt_ext Eq3.rf e3 h1
      have h2 := Can_ext e3 h2
      rw [ln_ext Eq3.rf e3, ln_perm (t := fun i => t (ρ i)) h] at h3
      have n2 : nxt q (q.la - k) s (fun i => t (ρ i)) := (nxA_iff hv).mpr ((nxA_perm (t := fun i => t (ρ i)) h).mp ((nxA_iff hv2).mp h1))
      exact ⟨fun i => t (ρ i), n2, l', (ih (s := fun i => t (ρ i)) (by omega) (by rw [er2]; exact nxt_vd n2)).mp h2, h3⟩
    · rintro ⟨t, h1, l', h2, h3⟩
      have n2 : nxt (permP π q) (q.la - k) (fun i => s (π i)) (fun i => t (π i)) := (nxA_iff hv2).mpr ((nxA_perm h).mpr ((nxA_iff hv).mp h1))
      exact ⟨fun i => t (π i), n2, l', (ih (by omega) (by rw [er2]; exact nxt_vd h1)).mpr h2, by show l = l' + lnP (permP π q) (q.la - k) _ _; rw [ln_perm h]; exact h3⟩
theorem can0_perm (h : Bij π) {b l : Nat} : Can (permP π q) (q.la + 1) zz b l ↔ Can q (q.la + 1) zz b l :=
  can_perm (s := zz) h (Nat.le_refl _) (fun i j _ _ _ a _ => by omega)
end PM
