/-! how many ways -/
def nW (o : Nat → Nat) (W co cl : Nat) : Nat → Nat → Int64
  | 0, c => if c = cl ∧ c < W ∧ bitP (o co) c then 1 else 0
  | k + 1, c => if c < W ∧ bitP (o (co + k + 1)) c then ((if 0 < c then nW o W co cl k (c - 1) else 0) + nW o W co cl k c) + (if c + 1 < W then nW o W co cl k (c + 1) else 0) else 0
theorem nW_0 {o : Nat → Nat} {W co cl k c : Nat} (h : W ≤ c) : nW o W co cl k c = 0 := by
  cases k with
  | zero => unfold nW; rw [if_neg (by omega)]
  | succ k => unfold nW; rw [if_neg (by omega)]
def sm (f : Nat → Int64) : Nat → Int64
  | 0 => 0
  | n + 1 => sm f n + f n
theorem sm_ge {f : Nat → Int64} {W : Nat} (h : ∀ j, W ≤ j → f j = 0) : ∀ d, sm f (W + d) = sm f W := by
  intro d
  induction d with
  | zero => rfl
  | succ d ih =>
    show sm f (W + d) + f (W + d) = _
    rw [ih, h _ (by omega), Int64.add_zero]
section NU
variable {g : Geo} {σ τ : St} {K : St → Prop} {F : Prop} {h : Nat} {o : Nat → Nat}
theorem nbX_ok {Q : Int64 → St → Prop} {c : Nat} {f : Nat → Int64} (hd : IDim g σ) (hP : Prep g h o τ) (hc : c < g.gW) (row : ∀ j, j < 10 → τ.2 45 j = f j) (hq : Q (((if 0 < c then f (c - 1) else 0) + f c) + (if c + 1 < g.gW then f (c + 1) else 0)) τ) : wp_X5_numberBelow (nI c) Q τ := by
  have hd' := hd.1
  have b16 : ∀ s0 : Int64, s0 = (if 0 < c then f (c - 1) else 0) → wp_X5_numberBelow_b16 Q (nI c) s0 τ := by
    intro s0 hs
    unfold wp_X5_numberBelow_b16 wp_X5_numberBelow_b39
    rw [hP.1, na1, pn_le (by omega) (by omega), pn_in (by omega) (by omega), pn_cl (show c < 2 ^ 31 by omega), row c (by omega), hs]
    refine ⟨fun q => ⟨by omega, ?_⟩, fun q => ?_⟩
    · rwa [if_neg (c := c + 1 < g.gW) (by omega)] at hq
    · rw [pn_in (by omega) (by omega), pn_cl (by omega), row (c + 1) (by omega)]
      rw [if_pos (c := c + 1 < g.gW) (by omega)] at hq
      exact ⟨by omega, by omega, hq⟩
  unfold wp_X5_numberBelow
  rw [show (0 : Int32) = nI 0 from rfl, pn_le (by omega) (by omega)]
  refine ⟨fun q => b16 0 (by rw [if_neg (by omega)]), fun q => ?_⟩
  rw [ns1 (by omega), pn_in (by omega) (by omega), pn_cl (by omega), row (c - 1) (by omega)]
  exact ⟨by omega, b16 _ (by rw [if_pos (by omega)])⟩
theorem numX_ok {Q : Int64 → St → Prop} (hI : Inv g σ) (hn : h < g.gN) (hc : Cor σ τ) (hP : Prep g h o τ) (hq : ∀ υ, Cor σ υ → Q (sm (nW o g.gW (g.co h) (g.cl h) (g.gH - 1 - g.co h)) g.gW) υ) : wp_X5_number Q τ := by
  have hd := hI.1
  have hd' := hd.1
  obtain ⟨⟨a1, -, a3⟩, ⟨b1, -, b3⟩, -⟩ := hI.2.2.1 h hn
  unfold wp_X5_number wp_fillJ
  have s45 : (45 : Nat) ≠ 0 ∧ (45 : Nat) ≠ 75 := by decide
  have s46 : (46 : Nat) ≠ 0 ∧ (46 : Nat) ≠ 75 := by decide
  generalize hτ1 : sL τ 45 (fun j => if j < 10 then 0 else τ.2 45 j) = τ1
  have e1 : τ1.1 = τ.1 := by rw [← hτ1]; rfl
  have c1 : Cor σ τ1 := by rw [← hτ1]; exact hc.sL s45 _
  have f1 : ∀ j, j < 10 → τ1.2 45 j = 0 := fun j hj => by rw [← hτ1, sL_2, if_pos rfl, if_pos hj]
  have hP1 := hP.e e1
  show wp_X5_isOpen (τ1.1 43 5) (τ1.1 43 7) (fun r25 σ25 => (r25 = 0 → wp_X5_number_b36 Q 0 (τ1.1 43 7) σ25) ∧ (¬ r25 = 0 → wp_X5_number_b36 Q 1 (τ1.1 43 7) σ25)) τ1
  rw [hP1.2.1, hP1.2.2.2.1]
  have b36 : ∀ s0 : Int64, s0 = (if bitP (o (g.co h)) (g.cl h) then 1 else 0) → wp_X5_number_b36 Q s0 (nI (g.cl h)) τ1 := by
    intro s0 hs
    unfold wp_X5_number_b36
    rw [pn_in (by omega) (by omega), pn_cl (by omega)]
    refine ⟨by omega, fun v hv => ?_⟩
    have hv : v = nI (g.co h + 1) := by rw [hv, sJ_1, hP1.2.1, na1]
    subst hv
    refine pk_loop (fun n i υ => wp_X5_number_l44 Q n (nI i) υ) (fun i υ => g.co h + 1 ≤ i ∧ υ.1 = τ.1 ∧ Cor σ υ ∧ ∀ j, j < 10 → υ.2 45 j = nW o g.gW (g.co h) (g.cl h) (i - 1 - g.co h) j) g.gH (g.co h + 1) _ (by omega) ⟨Nat.le_refl _, by rw [sJ_1]; exact e1, c1.sJ s45 _, fun j hj => ?_⟩ (fun n υ hυ => ?_) (fun n i υ hi hυ hk => ?_)
    · rw [sJ_2, show g.co h + 1 - 1 - g.co h = 0 by omega]
      unfold nW
      by_cases e : j = g.cl h
      · rw [if_pos ⟨rfl, e⟩, hs, e]
        by_cases eb : bitP (o (g.co h)) (g.cl h)
        · rw [if_pos eb, if_pos ⟨rfl, b3, eb⟩]
        · rw [if_neg eb, if_neg (fun z => eb z.2.2)]
      · rw [if_neg (fun z => e z.2), f1 j hj, if_neg (fun z => e z.1)]
    · show wp_X5_number_b44 _ _ _ _
      unfold wp_X5_number_b44
      obtain ⟨-, u1, u2, u3⟩ := hυ
      have hPu := hP.e u1
      rw [hPu.2.2.1]
      refine ⟨fun _ => ?_, fun q => absurd (nI_lt (by omega) (by omega)) q⟩
      rw [show g.gH - 1 - g.co h = g.gH - 1 - g.co h from rfl] at u3
      refine pk_loop (fun n i (a : Int64) => wp_X5_number_l119 Q n a (nI i) υ) (fun i a => a = sm (nW o g.gW (g.co h) (g.cl h) (g.gH - 1 - g.co h)) i) g.gW 0 0 (by omega) rfl (fun n a ha => ?_) (fun n i a hi ha hk => ?_)
      · show wp_X5_number_b119 _ _ _ _ _
        unfold wp_X5_number_b119
        rw [hPu.1, ha]
        exact ⟨fun _ => hq υ u2, fun q => absurd (nI_le (Nat.le_refl _) (by omega)) q⟩
      · show wp_X5_number_b119 _ _ _ _ _
        unfold wp_X5_number_b119
        rw [hPu.1, pn_in (by omega) (by omega), pn_cl (by omega), u3 i (by omega), na1]
        exact ⟨fun q => absurd q (nI_ge hi (by omega)), fun _ => ⟨by omega, hk _ (by rw [ha]; rfl)⟩⟩
    · show wp_X5_number_b44 _ _ _ _
      unfold wp_X5_number_b44
      obtain ⟨u0, u1, u2, u3⟩ := hυ
      have hPu := hP.e u1
      rw [hPu.2.2.1]
      obtain ⟨k, rfl⟩ : ∃ k, i = g.co h + k + 1 := ⟨i - 1 - g.co h, by omega⟩
      rw [show g.co h + k + 1 - 1 - g.co h = k by omega] at u3
      refine ⟨fun q => absurd q (nI_nlt (by omega) (by omega)), fun _ => ?_⟩
      refine pk_loop (fun n c υ => wp_X5_number_l54 Q _ n (nI (g.co h + k + 1)) (nI c) υ) (fun c υ => υ.1 = τ.1 ∧ Cor σ υ ∧ (∀ j, j < 10 → υ.2 45 j = nW o g.gW (g.co h) (g.cl h) k j) ∧ ∀ j, j < c → υ.2 46 j = nW o g.gW (g.co h) (g.cl h) (k + 1) j) g.gW 0 υ (by omega) ⟨u1, u2, u3, fun j hj => by omega⟩ (fun n υ hυ => ?_) (fun n c υ hc hυ hk2 => ?_)
      · show wp_X5_number_b54 _ _ _ _ _ _
        unfold wp_X5_number_b54
        obtain ⟨w1, w2, w3, w4⟩ := hυ
        have hPw := hP.e w1
        rw [hPw.1, c0, pn_cl (by omega), na1]
        refine ⟨fun _ => ⟨⟨by decide, by decide, nI_pos (by omega), by omega, by omega⟩, hk _ ⟨by omega, by rw [sL_1]; exact w1, w2.sL s45 _, fun j hj => ?_⟩⟩, fun q => absurd (nI_le (Nat.le_refl _) (by omega)) q⟩
        rw [sL_2, if_pos rfl, show g.co h + k + 1 + 1 - 1 - g.co h = k + 1 by omega]
        by_cases e : j < g.gW
        · rw [pk_cpy_in (Nat.zero_le _) (by omega), Nat.sub_zero, Nat.zero_add, w4 j e]
        · rw [pk_cpy_out (by omega), w3 j hj, nW_0 (by omega), nW_0 (by omega)]
      · show wp_X5_number_b54 _ _ _ _ _ _
        unfold wp_X5_number_b54
        obtain ⟨w1, w2, w3, w4⟩ := hυ
        have hPw := hP.e w1
        rw [hPw.1, na1, na1]
        refine ⟨fun q => absurd q (nI_ge hc (by omega)), fun _ => openX_ok hd hPw hi ?_⟩
        have ec : (nI c).toInt.toNat = c := by rw [tI_n (by omega)]; omega
        have pc : pW g (nI c) := ⟨by rw [tI_n (by omega)]; omega, by rw [tI_n (by omega)]; omega⟩
        rw [ec]
        have inv : ∀ v : Int64, v = nW o g.gW (g.co h) (g.cl h) (k + 1) c → ((sJ υ 46 c v).1 = τ.1 ∧ Cor σ (sJ υ 46 c v) ∧ (∀ j, j < 10 → (sJ υ 46 c v).2 45 j = nW o g.gW (g.co h) (g.cl h) k j) ∧ ∀ j, j < c + 1 → (sJ υ 46 c v).2 46 j = nW o g.gW (g.co h) (g.cl h) (k + 1) j) := by
          intro v hv
          refine ⟨by rw [sJ_1]; exact w1, w2.sJ s46 _, fun j hj => by rw [sJ_2, if_neg (by omega)]; exact w3 j hj, fun j hj => ?_⟩
          rw [sJ_2]
          by_cases e : j = c
          · rw [if_pos ⟨rfl, e⟩, hv, e]
          · rw [if_neg (by omega)]
            exact w4 j (by omega)
        rw [pn_in (by omega) (by omega), pn_cl (by omega)]
        refine i2_eq (fun z => ?_) (fun z => ⟨by omega, hk2 _ (inv 0 (by unfold nW; rw [if_neg (fun y => z ⟨pc, y.2⟩)]))⟩)
        have eN : nW o g.gW (g.co h) (g.cl h) (k + 1) c = ((if 0 < c then nW o g.gW (g.co h) (g.cl h) k (c - 1) else 0) + nW o g.gW (g.co h) (g.cl h) k c) + (if c + 1 < g.gW then nW o g.gW (g.co h) (g.cl h) k (c + 1) else 0) := by
          show (if c < g.gW ∧ bitP (o (g.co h + k + 1)) c then _ else _) = _
          rw [if_pos ⟨hc, z.2⟩]
        exact nbX_ok hd hPw hc w3 ⟨by omega, hk2 _ (inv _ eN.symm)⟩
  refine openX_ok hd hP1 (by omega) ?_
  have ec : (nI (g.cl h)).toInt.toNat = g.cl h := by rw [tI_n (by omega)]; omega
  rw [ec]
  refine i2_eq (fun z => b36 1 (by rw [if_pos z.2])) (fun z => b36 0 (by rw [if_neg (fun y => z ⟨⟨by rw [tI_n (by omega)]; omega, by rw [tI_n (by omega)]; omega⟩, y⟩)]))
theorem opn_cor (hc : Cor σ τ) {b : Bool} {r c : Nat} : opn g τ b r c ↔ opn g σ b r c := by
  unfold opn mkd
  have e1 : τ.1 96 0 = σ.1 96 0 := hc.1 _ _ (by unfold Scr; omega)
  have e2 : ∀ k, τ.1 97 k = σ.1 97 k := fun k => hc.1 _ _ (by unfold Scr; omega)
  have e3 : ∀ k, τ.1 98 k = σ.1 98 k := fun k => hc.1 _ _ (by unfold Scr; omega)
  rw [e1]
  simp only [e2, e3]
theorem marked_ok {Q : Int32 → St → Prop} {b : Bool} {r c : Nat} (hI : Inv g σ) (hq : ∀ f, Flg f (b = true → mkd σ r c) → Q f σ) (hr : r < 16) (hc : c < 10) : wp_X7_isMarked (nI r) (nI c) (if b = true then 1 else 0) Q σ := by
  have hd' := hI.1.1
  obtain ⟨M, hM, m1, m2, m3⟩ := hI.2.2.2.2.2.2.1
  unfold wp_X7_isMarked
  cases b with
  | false =>
    refine ⟨1, ?_⟩
    show wp_X7_isMarked_b6 _ _ _ _ _ _ _ _
    unfold wp_X7_isMarked_b6
    have := hq 1 (Or.inr ⟨rfl, fun e => by cases e⟩)
    exact ⟨vin0_3, fun _ => ⟨Or.inr rfl, this⟩, fun _ => ⟨fun _ => ⟨Or.inr rfl, this⟩, fun q => absurd rfl q⟩⟩
  | true =>
    have hm : mkd σ r c ↔ ∀ k, k < M → σ.1 97 k = nI r → σ.1 98 k = nI c := by
      unfold mkd
      constructor
      · intro z; exact z M hM m2
      · intro z M' hM' e
        rw [m2] at e
        have : M' = M := ((nI_eq (by omega) (by omega)).mp e).symm
        rw [this]; exact z
    refine pk_loop (fun n i (a : Int32) => wp_X7_isMarked_l6 Q n (nI r) (nI c) 1 a (nI i) σ) (fun i a => Flg a (∀ k, k < i → σ.1 97 k = nI r → σ.1 98 k = nI c)) M 0 1 (by omega) (Or.inr ⟨rfl, fun k hk => by omega⟩) (fun n a ha => ?_) (fun n i a hi ha hk => ?_)
    · show wp_X7_isMarked_b6 _ _ _ _ _ _ _ _
      unfold wp_X7_isMarked_b6
      rw [c0, m2]
      refine ⟨vin0_3, fun _ => ⟨?_, hq a (ha.i ⟨fun z _ => hm.mpr z, fun z => hm.mp (z rfl)⟩)⟩, fun q => absurd (nI_le (Nat.le_refl _) (by omega)) q⟩
      rcases ha with ⟨z, _⟩ | ⟨z, _⟩
      · exact Or.inl z
      · exact Or.inr z
    · show wp_X7_isMarked_b6 _ _ _ _ _ _ _ _
      unfold wp_X7_isMarked_b6 wp_X7_isMarked_b52 wp_X7_isMarked_b48
      rw [c0, m2, pn_in (by omega) (by omega), pn_cl (by omega), na1]
      have no : (¬ ∀ k, k < i + 1 → σ.1 97 k = nI r → σ.1 98 k = nI c) → wp_X7_isMarked_l6 Q n (nI r) (nI c) 1 0 (nI (i + 1)) σ := fun z => hk 0 (Or.inl ⟨rfl, z⟩)
      have yes : (∀ k, k < i + 1 → σ.1 97 k = nI r → σ.1 98 k = nI c) → wp_X7_isMarked_l6 Q n (nI r) (nI c) 1 1 (nI (i + 1)) σ := fun z => hk 1 (Or.inr ⟨rfl, z⟩)
      refine ⟨vin0_3, fun q => absurd q (nI_ge hi (by omega)), fun _ => ⟨fun q => absurd q (by decide), fun _ => ⟨fun q => no (fun z => ?_), fun q => ⟨by omega, fun e1 => ⟨by omega, fun e2 => yes (fun k hk3 e3 => ?_), fun e2 => no (fun z => e2 (z i (by omega) e1))⟩, fun e1 => yes (fun k hk3 e3 => ?_)⟩⟩⟩⟩
      · rcases ha with ⟨_, y⟩ | ⟨y, _⟩
        · exact y (fun k hk3 => z k (by omega))
        · rw [y] at q; exact absurd q (by decide)
      · by_cases e : k = i
        · rw [e]; exact e2
        · rcases ha with ⟨y, _⟩ | ⟨_, y⟩
          · exact absurd y q
          · exact y k (by omega) e3
      · by_cases e : k = i
        · rw [e] at e3; exact absurd e3 e1
        · rcases ha with ⟨y, _⟩ | ⟨_, y⟩
          · exact absurd y q
          · exact y k (by omega) e3
theorem cw133 {Q : Int64 → St → Prop} {K7 : Int32 → Int32 → Int32 → St → Prop} {K50 : Int32 → Int32 → Int32 → Int32 → St → Prop} {b : Bool} {r c : Nat} {x : Int32} {s0 : Int64} (hI : Inv g τ) (hr : r < g.gH) (hc : c < 10) (ho : c < g.gW → (bitP (o r) c ↔ opn g τ b r c)) (hk : K50 x (if b = true then 1 else 0) (nI r) (nI (c + 1)) (sJ τ 87 c (if c < g.gW ∧ bitP (o r) c then s0 else 0))) : wp_X7_countWays_b133 Q K7 K50 x (if b = true then 1 else 0) (nI r) (nI c) s0 τ := by
  have hd := hI.1
  have hd' := hd.1
  have b176 : ¬ (c < g.gW ∧ bitP (o r) c) → wp_X7_countWays_b176 Q K7 K50 x (if b = true then 1 else 0) (nI r) (nI c) (nI c) τ := by
    intro z
    unfold wp_X7_countWays_b176
    rw [pn_in (by omega) (by omega), pn_cl (by omega), na1]
    rw [if_neg z] at hk
    exact ⟨by omega, hk⟩
  unfold wp_X7_countWays_b133
  refine isIn_ok hd (i2_eq (fun p => ?_) (fun p => b176 (fun y => p ⟨by rw [tI_n (by omega)]; omega, by rw [tI_n (by omega)]; omega⟩)))
  have hcW : c < g.gW := by
    have := p.2
    rw [tI_n (by omega)] at this
    omega
  refine isBarred_ok hd hI.2.1 (by omega) hc (i2_eq (fun p2 => b176 (fun y => ?_)) (fun p2 => marked_ok hI (fun f hf => ?_) (by omega) hc))
  · exact ((ho hcW).mp y.2).1 p2
  · rw [pn_in (by omega) (by omega), pn_cl (by omega), na1]
    refine ⟨fun e => b176 (fun y => ?_), fun e => ⟨by omega, ?_⟩⟩
    · rcases hf with ⟨_, z⟩ | ⟨z, _⟩
      · exact z ((ho hcW).mp y.2).2
      · rw [z] at e; exact absurd e (by decide)
    · rw [if_pos (c := c < g.gW ∧ bitP (o r) c) ⟨hcW, (ho hcW).mpr ⟨p2, by
        rcases hf with ⟨z, _⟩ | ⟨_, z⟩
        · exact absurd z e
        · exact z⟩⟩] at hk
      exact hk
theorem cw111 {Q : Int64 → St → Prop} {K7 : Int32 → Int32 → Int32 → St → Prop} {K50 : Int32 → Int32 → Int32 → Int32 → St → Prop} {c W : Nat} {x b r : Int32} {f : Nat → Int64} (hW : W ≤ 10) (hc : c < 10) (row : ∀ j, j < 10 → τ.2 88 j = f j) (f0 : ∀ j, W ≤ j → f j = 0) (hk : wp_X7_countWays_b133 Q K7 K50 x b r (nI c) (((if 0 < c then f (c - 1) else 0) + f c) + (if c + 1 < W then f (c + 1) else 0)) τ) : (nI c ≤ 0 → wp_X7_countWays_b111 Q K7 K50 x b r (nI c) 0 (τ.2 88 c) τ) ∧ (¬ nI c ≤ 0 → (vp_in (nI c - 1) 10 ∧ wp_X7_countWays_b111 Q K7 K50 x b r (nI c) (τ.2 88 (nI c - 1).toNatClampNeg) (τ.2 88 c) τ)) := by
  have b111 : ∀ s0 : Int64, s0 = (if 0 < c then f (c - 1) else 0) → wp_X7_countWays_b111 Q K7 K50 x b r (nI c) s0 (τ.2 88 c) τ := by
    intro s0 hs
    unfold wp_X7_countWays_b111 wp_X7_countWays_b132
    rw [← hs] at hk
    rw [row c hc, Int64.add_comm (f c) s0, show (9 : Int32) = nI 9 from rfl, pn_le (by omega) (by omega), na1]
    refine ⟨fun q => ?_, fun q => ?_⟩
    · rwa [if_neg (c := c + 1 < W) (by omega)] at hk
    · rw [pn_in (by omega) (by omega), pn_cl (by omega), row (c + 1) (by omega)]
      refine ⟨by omega, ?_⟩
      by_cases z : c + 1 < W
      · rwa [if_pos z] at hk
      · rw [f0 (c + 1) (by omega)]
        rwa [if_neg z] at hk
  rw [show (0 : Int32) = nI 0 from rfl, pn_le (by omega) (by omega)]
  refine ⟨fun q => b111 0 (by rw [if_neg (by omega)]), fun q => ?_⟩
  rw [ns1 (by omega), pn_in (by omega) (by omega), pn_cl (by omega), row (c - 1) (by omega)]
  exact ⟨by omega, b111 _ (by rw [if_pos (by omega)])⟩
theorem countM_ok {Q : Int64 → St → Prop} {b : Bool} (hI : Inv g σ) (hn : h < g.gN) (ho : ∀ r c, r < g.gH → c < g.gW → (bitP (o r) c ↔ opn g σ b r c)) (hq : ∀ υ, Cor σ υ → Q (sm (nW o g.gW (g.co h) (g.cl h) (g.gH - 1 - g.co h)) g.gW) υ) : wp_X7_countWays (nI h) (if b = true then 1 else 0) Q σ := by
  have hd := hI.1
  have hd' := hd.1
  have e78 := hd.2.2.2.2.2.1
  have s87 : (87 : Nat) ≠ 0 ∧ (87 : Nat) ≠ 75 := by decide
  have s88 : (88 : Nat) ≠ 0 ∧ (88 : Nat) ≠ 75 := by decide
  obtain ⟨⟨-, a1, a3⟩, ⟨-, b1, b3⟩, -⟩ := hI.2.2.1 h hn
  unfold wp_X7_countWays
  rw [pn_in (by omega) (by omega), pn_cl (by omega), a1]
  refine ⟨by omega, ?_⟩
  refine pk_loop (fun n i υ => wp_X7_countWays_l7 Q n (nI h) (if b = true then 1 else 0) (nI i) υ) (fun i υ => g.co h ≤ i ∧ υ.1 = σ.1 ∧ Cor σ υ ∧ (g.co h < i → ∀ j, j < 10 → υ.2 87 j = nW o g.gW (g.co h) (g.cl h) (i - 1 - g.co h) j)) g.gH (g.co h) σ (by omega) ⟨Nat.le_refl _, rfl, Cor.rf, fun q => by omega⟩ (fun n υ hυ => ?_) (fun n i υ hi hυ hk => ?_)
  · show wp_X7_countWays_b7 _ _ _ _ _ _
    unfold wp_X7_countWays_b7
    obtain ⟨-, u1, u2, u3⟩ := hυ
    have u3 := u3 (by omega)
    rw [c0, u1, e78]
    refine ⟨vin0_2, fun _ => ?_, fun q => absurd (nI_le (Nat.le_refl _) (by omega)) q⟩
    refine pk_loop (fun n i (a : Int64) => wp_X7_countWays_l195 Q n a (nI i) υ) (fun i a => a = sm (nW o g.gW (g.co h) (g.cl h) (g.gH - 1 - g.co h)) i) 10 0 0 (by omega) rfl (fun n a ha => ?_) (fun n i a hi ha hk => ?_)
    · show wp_X7_countWays_b195 _ _ _ _ _
      unfold wp_X7_countWays_b195
      have e : sm (nW o g.gW (g.co h) (g.cl h) (g.gH - 1 - g.co h)) 10 = sm (nW o g.gW (g.co h) (g.cl h) (g.gH - 1 - g.co h)) g.gW := by
        have := sm_ge (f := nW o g.gW (g.co h) (g.cl h) (g.gH - 1 - g.co h)) (W := g.gW) (fun j hj => nW_0 hj) (10 - g.gW)
        rwa [show g.gW + (10 - g.gW) = 10 by omega] at this
      rw [ha, e]
      exact ⟨fun _ => hq υ u2, fun q => absurd (by decide) q⟩
    · show wp_X7_countWays_b195 _ _ _ _ _
      unfold wp_X7_countWays_b195
      rw [pn_in (by omega) (by omega), pn_cl (by omega), u3 i (by omega), na1]
      exact ⟨fun q => absurd q (nI_ge (b := 10) hi (by omega)), fun _ => ⟨by omega, hk _ (by rw [ha]; rfl)⟩⟩
  · show wp_X7_countWays_b7 _ _ _ _ _ _
    unfold wp_X7_countWays_b7
    obtain ⟨u0, u1, u2, u3⟩ := hυ
    rw [c0, u1, e78]
    refine ⟨vin0_2, fun q => absurd q (nI_ge hi (by omega)), fun _ => ?_⟩
    refine pk_loop (fun n c υ => wp_X7_countWays_l20 Q _ n (nI h) (if b = true then 1 else 0) (nI i) (nI c) υ) (fun c υ' => υ'.1 = σ.1 ∧ Cor σ υ' ∧ (∀ j, j < 10 → υ'.2 87 j = υ.2 87 j) ∧ ∀ j, j < c → υ'.2 88 j = υ.2 87 j) 10 0 υ (by omega) ⟨u1, u2, fun _ _ => rfl, fun j hj => by omega⟩ (fun n φ hφ => ?_) (fun n c φ hc hφ hk2 => ?_)
    · show wp_X7_countWays_b20 _ _ _ _ _ _ _ _
      unfold wp_X7_countWays_b20
      obtain ⟨w1, w2, w3, w4⟩ := hφ
      refine ⟨fun _ => ?_, fun q => absurd (by decide) q⟩
      refine pk_loop (fun n c φ => wp_X7_countWays_l50 Q _ n (nI h) (if b = true then 1 else 0) (nI i) (nI c) φ) (fun c ψ => ψ.1 = σ.1 ∧ Cor σ ψ ∧ (∀ j, j < 10 → ψ.2 88 j = υ.2 87 j) ∧ ∀ j, j < c → ψ.2 87 j = nW o g.gW (g.co h) (g.cl h) (i - g.co h) j) 10 0 φ (by omega) ⟨w1, w2, fun j hj => w4 j hj, fun j hj => by omega⟩ (fun n ψ hψ => ?_) (fun n c ψ hc hψ hk3 => ?_)
      · show wp_X7_countWays_b50 _ _ _ _ _ _ _ _
        unfold wp_X7_countWays_b50
        obtain ⟨x1, x2, x3, x4⟩ := hψ
        rw [na1]
        exact ⟨fun _ => hk _ ⟨by omega, x1, x2, fun _ j hj => by rw [x4 j hj, show i + 1 - 1 - g.co h = i - g.co h by omega]⟩, fun q => absurd (by decide) q⟩
      · show wp_X7_countWays_b50 _ _ _ _ _ _ _ _
        obtain ⟨x1, x2, x3, x4⟩ := hψ
        have hIp := hI.cor x2
        have fin : ∀ s0 : Int64, (if c < g.gW ∧ bitP (o i) c then s0 else 0) = nW o g.gW (g.co h) (g.cl h) (i - g.co h) c → ((sJ ψ 87 c (if c < g.gW ∧ bitP (o i) c then s0 else 0)).1 = σ.1 ∧ Cor σ (sJ ψ 87 c (if c < g.gW ∧ bitP (o i) c then s0 else 0)) ∧ (∀ j, j < 10 → (sJ ψ 87 c (if c < g.gW ∧ bitP (o i) c then s0 else 0)).2 88 j = υ.2 87 j) ∧ ∀ j, j < c + 1 → (sJ ψ 87 c (if c < g.gW ∧ bitP (o i) c then s0 else 0)).2 87 j = nW o g.gW (g.co h) (g.cl h) (i - g.co h) j) := by
          intro s0 hs
          refine ⟨by rw [sJ_1]; exact x1, x2.sJ s87 _, fun j hj => by rw [sJ_2, if_neg (by omega)]; exact x3 j hj, fun j hj => ?_⟩
          rw [sJ_2]
          by_cases e : j = c
          · rw [if_pos ⟨rfl, e⟩, hs, e]
          · rw [if_neg (by omega)]
            exact x4 j (by omega)
        have hoi : c < g.gW → (bitP (o i) c ↔ opn g ψ b i c) := fun hcW => (ho i c hi hcW).trans (opn_cor x2).symm
        unfold wp_X7_countWays_b50
        rw [pn_in (by omega) (by omega), pn_cl (show h < 2 ^ 31 by omega), x1, a1, b1, pn_eq (by omega) (by omega), pn_eq (by omega) (by omega), pn_in (by omega) (by omega), pn_cl (show c < 2 ^ 31 by omega)]
        refine ⟨fun q => absurd q (nI_ge (b := 10) hc (by omega)), fun _ => ⟨by omega, fun e => ⟨by omega, fun e2 => cw133 hIp hi hc hoi (hk3 _ (fin 1 ?_)), fun e2 => cw133 hIp hi hc hoi (hk3 _ (fin 0 ?_))⟩, fun e => ⟨by omega, ?_⟩⟩⟩
        · rw [show i - g.co h = 0 by omega, e]
          unfold nW
          by_cases z : c < g.gW ∧ bitP (o (g.co h)) c
          · rw [if_pos z, if_pos ⟨e2, z⟩]
          · rw [if_neg z, if_neg (fun y => z y.2)]
        · rw [show i - g.co h = 0 by omega]
          unfold nW
          rw [if_neg (c := c = g.cl h ∧ _) (fun y => e2 y.1)]
          split <;> rfl
        · obtain ⟨k, rfl⟩ : ∃ k, i = g.co h + k + 1 := ⟨i - 1 - g.co h, by omega⟩
          have u3 := u3 (by omega)
          rw [show g.co h + k + 1 - 1 - g.co h = k by omega] at u3
          have row : ∀ j, j < 10 → ψ.2 88 j = nW o g.gW (g.co h) (g.cl h) k j := fun j hj => by rw [x3 j hj, u3 j hj]
          rw [show g.co h + k + 1 - g.co h = k + 1 by omega] at fin hk3
          refine cw111 hd'.2.1 hc row (fun j hj => nW_0 hj) (cw133 hIp hi hc hoi (hk3 _ (fin _ ?_)))
          rfl
    · show wp_X7_countWays_b20 _ _ _ _ _ _ _ _
      unfold wp_X7_countWays_b20
      obtain ⟨w1, w2, w3, w4⟩ := hφ
      rw [pn_in (by omega) (by omega), pn_cl (by omega), na1]
      refine ⟨fun q => absurd q (nI_ge (b := 10) hc (by omega)), fun _ => ⟨by omega, by omega, hk2 _ ⟨by rw [sJ_1]; exact w1, w2.sJ s88 _, fun j hj => by rw [sJ_2, if_neg (by omega)]; exact w3 j hj, fun j hj => ?_⟩⟩⟩
      rw [sJ_2]
      by_cases e : j = c
      · rw [if_pos ⟨rfl, e⟩, w3 c hc, e]
      · rw [if_neg (by omega)]
        exact w4 j (by omega)
theorem eqL_k {r r2 : Int64} {K F : Prop} (e : r = r2) (h : K) : (r = r2 → K) ∧ (¬ r = r2 → F) := ⟨fun _ => h, fun n => absurd e n⟩
theorem op_many (hI : Inv g σ) (hK : ∀ τ, Inv g τ → K τ) (x : Int32) : wp_X6_many x (fun r σ1 => wp_X7_many x (fun r2 σ2 => (r = r2 → K σ2) ∧ (¬ r = r2 → F)) σ1) σ := by
  have hd := hI.1
  unfold wp_X6_many
  refine hasHearth_ok hd (i2_eq (fun a => ?_) (fun n => ?_))
  · obtain ⟨h, hn, rfl⟩ := of_pin a
    refine prep_ok hI hn (fun τ hc ⟨o, hP, ho⟩ => numX_ok hI hn hc hP (fun υ hu => ?_))
    have hIu := hI.cor hu
    unfold wp_X7_many
    refine isHearth_ok hIu.1 (g_t a (countM_ok (b := false) hIu hn (fun r c hr hc => (ho r c hr hc).trans (opn_cor hu).symm) (fun φ hφ => eqL_k rfl (hK _ (hIu.cor hφ)))))
  · unfold wp_X7_many
    exact isHearth_ok hd (g_f n (eqL_k rfl (hK _ hI)))
theorem op_guess (hI : Inv g σ) (hK : ∀ τ, Inv g τ → K τ) (x : Int32) : wp_X6_guess x (fun r σ1 => wp_X7_guess x (fun r2 σ2 => (r = r2 → K σ2) ∧ (¬ r = r2 → F)) σ1) σ := by
  have hd := hI.1
  unfold wp_X6_guess
  refine hasHearth_ok hd (i2_eq (fun a => ?_) (fun n => ?_))
  · obtain ⟨h, hn, rfl⟩ := of_pin a
    refine prep_ok hI hn (fun τ hc ⟨o, hP, ho⟩ => hear_ok hI hc hP ho (fun τ hc ⟨o, hP, ho⟩ => numX_ok hI hn hc hP (fun υ hu => ?_)))
    have hIu := hI.cor hu
    unfold wp_X7_guess
    refine isHearth_ok hIu.1 (g_t a (countM_ok (b := true) hIu hn (fun r c hr hc => (ho r c hr hc).trans (opn_cor hu).symm) (fun φ hφ => eqL_k rfl (hK _ (hIu.cor hφ)))))
  · unfold wp_X7_guess
    exact isHearth_ok hd (g_f n (eqL_k rfl (hK _ hI)))
end NU
