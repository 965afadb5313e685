/-! moved -/
def qM (g : Geo) (V : Nat → Nat → Nat) (S : Nat) (op : Nat → Nat) : Prm := (fun i => if i < g.gN then g.co i else 16, g.cl, fun i => decide (i < g.gN ∧ ¬ S / 2 ^ i % 2 = 1), V, op, g.tu 0, g.gH - 1)
def RowV (g : Geo) (V : Nat → Nat → Nat) (σ : St) : Prop := ∀ h r, h < g.gN → g.co h ≤ r → r < g.gH → rowsP σ h r = nI (V h r) ∧ V h r < 10
def WelP (g : Geo) (V : Nat → Nat → Nat) (op : Nat → Nat) (S : Nat) : Prop := ∃ b l, Can (qM g V S op) (g.gH - 1 + 1) zz b l
def MvR (g : Geo) (W : Nat → Prop) (v : Int32) : Prop := (v = -9 ∧ ∀ S, S < 2 ^ g.gN → ¬ W S) ∨ ∃ S, v = nI S ∧ S < 2 ^ g.gN ∧ W S ∧ ∀ S', S' < 2 ^ g.gN → W S' → cB S 3 ≤ cB S' 3 ∧ (cB S' 3 = cB S 3 → S ≤ S')
theorem MvR.uq {g : Geo} {W : Nat → Prop} {v v' : Int32} (a : MvR g W v) (b : MvR g W v') : v = v' := by
  rcases a with ⟨a1, a2⟩ | ⟨S, a1, a2, a3, a4⟩
  · rcases b with ⟨b1, b2⟩ | ⟨S', b1, b2, b3, b4⟩
    · rw [a1, b1]
    · exact absurd b3 (a2 _ b2)
  · rcases b with ⟨b1, b2⟩ | ⟨S', b1, b2, b3, b4⟩
    · exact absurd a3 (b2 _ a2)
    · have x := a4 _ b2 b3
      have y := b4 _ a2 a3
      have : S = S' := by
        have := x.2 (by omega)
        have := y.2 (by omega)
        omega
      rw [a1, b1, this]
section MO
variable {g : Geo} {σ τ : St} {K : St → Prop} {F : Prop} {S cl : Nat} {op : Nat → Nat} {V : Nat → Nat → Nat}
theorem RowV.cor (hd : IDim g σ) (h : RowV g V σ) (hc : Cor σ τ) : RowV g V τ := by
  have hd' := hd.1
  intro x r h1 h2 h3
  have := h x r h1 h2 h3
  unfold rowsP at this ⊢
  rw [hc.1 _ _ (by unfold Scr; omega)]
  exact this
theorem fx_iff {i : Nat} : (qM g V S op).fx i = true ↔ (i < g.gN ∧ ¬ S / 2 ^ i % 2 = 1) := by
  show decide (i < g.gN ∧ ¬ S / 2 ^ i % 2 = 1) = true ↔ _
  exact decide_eq_true_iff
theorem near1 {a b : Nat} (ha : a < 10) (hb : b < 10) (h : nI a - nI b = -1 ∨ nI a - nI b = 0 ∨ nI a - nI b = 1) : a ≤ b + 1 ∧ b ≤ a + 1 := by
  have e := pk_sub_toInt (a := a) (b := b) (by omega) (by omega)
  rcases h with h | h | h <;> rw [h] at e
  · rw [t_m1] at e; omega
  · rw [z0] at e; omega
  · rw [t_1] at e; omega
/-- the class's search: of some hearths that are put, those that are not of the set are fixed -/
def FixX (g : Geo) (q : Prm) (i : Nat) (τ : St) : Prop := τ.1 49 4 = nI (g.gH - 1) ∧ τ.1 49 5 = nI (g.tu 0) ∧ (∀ r, r ≤ g.gH - 1 → τ.1 69 r = nI (q.op r) ∧ q.op r < 1024) ∧ (∀ r, r ≤ g.gH → ∀ c, c < 1000 → τ.1 (51 + r) c = 0) ∧ ∀ h, h < 3 → (h < i → τ.1 68 h = nI (g.co h) ∧ ∀ r, r ≤ g.gH - 1 → Mk τ h r (oneC q r h)) ∧ (i ≤ h → τ.1 68 h = nI 16 ∧ ∀ r, r ≤ g.gH - 1 → Mk τ h r (fun c => c = 0))
theorem fix_ok {Q : St → Prop} {h f : Nat} {C : Nat → Nat → Prop} {V : Nat → Nat} (hH : 1 ≤ g.gH ∧ g.gH ≤ 16) (hh : h < 3) (hf : f ≤ g.gH - 1) (h4 : τ.1 49 4 = nI (g.gH - 1)) (h68 : τ.1 68 h = nI f) (hm : ∀ r, r ≤ g.gH - 1 → Mk τ h r (C r)) (hv : ∀ r, f ≤ r → r ≤ g.gH - 1 → τ.1 (22 + h) r = nI (V r) ∧ V r < 10) (hq : ∀ υ, (∀ k j, ¬ k = 71 + h → υ.1 k j = τ.1 k j) → υ.2 = τ.2 → (∀ r, r ≤ g.gH - 1 → Mk υ h r (fun c => C r c ∧ (f ≤ r → c = V r))) → Q υ) : wp_X3_fix (nI h) Q τ := by
  unfold wp_X3_fix
  rw [pn_in (by omega) (by omega), pn_cl (by omega), h68]
  refine ⟨by omega, ?_⟩
  refine pk_loop (fun n i υ => wp_X3_fix_l7 Q n (nI h) (nI i) υ) (fun i υ => f ≤ i ∧ (∀ k j, ¬ k = 71 + h → υ.1 k j = τ.1 k j) ∧ υ.2 = τ.2 ∧ ∀ r, r ≤ g.gH - 1 → Mk υ h r (fun c => C r c ∧ (f ≤ r → r < i → c = V r))) g.gH f τ (by omega) ⟨Nat.le_refl _, fun _ _ _ => rfl, rfl, fun r hr => (hm r hr).i (fun c _ => ⟨fun z => ⟨z, fun _ _ => by omega⟩, fun z => z.1⟩)⟩ (fun n υ hυ => ?_) (fun n i υ hi hυ hk => ?_)
  · show wp_X3_fix_b7 _ _ _ _ _
    unfold wp_X3_fix_b7
    obtain ⟨u1, u2, u3, u4⟩ := hυ
    have e4 : υ.1 49 4 = nI (g.gH - 1) := (u2 _ _ (by omega)).trans h4
    rw [e4, pn_lt (by omega) (by omega)]
    exact ⟨fun _ => hq υ u2 u3 (fun r hr => (u4 r hr).i (fun c _ => ⟨fun z => ⟨z.1, fun y => z.2 y (by omega)⟩, fun z => ⟨z.1, fun y _ => z.2 y⟩⟩)), fun z => absurd (by omega) z⟩
  · show wp_X3_fix_b7 _ _ _ _ _
    unfold wp_X3_fix_b7
    obtain ⟨u1, u2, u3, u4⟩ := hυ
    have e4 : υ.1 49 4 = nI (g.gH - 1) := (u2 _ _ (by omega)).trans h4
    obtain ⟨v1, v2⟩ := hv i u1 (by omega)
    have ev : υ.1 (21 + 1 + h) i = nI (V i) := (u2 _ _ (by omega)).trans (by rw [show 21 + 1 + h = 22 + h by omega]; exact v1)
    obtain ⟨m, m1, m2, m3⟩ := u4 i (by omega)
    have em : υ.1 (70 + 1 + h) i = nI m := by rw [show 70 + 1 + h = 71 + h by omega]; exact m1
    have p2 : 2 ^ V i ≤ 2 ^ 9 := Nat.pow_le_pow_right (by omega) (by omega)
    obtain ⟨o, o1, o2, o3⟩ := andI (b := 2 ^ V i) m2 (by omega)
    rw [e4, pn_lt (by omega) (by omega), pn_in (by omega) (by omega), pn_in (by omega) (by omega), pn_cl (by omega), pn_cl (by omega), em, ev, shl1 _ v2, o2, na1]
    refine ⟨fun z => absurd z (by omega), fun _ => ⟨by omega, by omega, by omega, by omega, by omega, hk _ ⟨by omega, fun k j n => ?_, u3, fun r hr => ?_⟩⟩⟩
    · rw [sI_1, if_neg (by omega)]
      exact u2 k j n
    · by_cases e : r = i
      · refine ⟨o, by rw [sI_1, if_pos ⟨by omega, e⟩], o1, fun c hc => ?_⟩
        have b2 : bitP (2 ^ V i) c ↔ c = V i := pw_bit _ v2 c hc
        rw [o3 c, m3 c hc, b2, e]
        exact ⟨fun z => ⟨z.1.1, fun _ _ => z.2⟩, fun z => ⟨⟨z.1, fun _ y => by omega⟩, z.2 u1 (by omega)⟩⟩
      · refine ((u4 r hr).of (by rw [sI_1, if_neg (by omega)])).i (fun c hc => ?_)
        exact ⟨fun z => ⟨z.1, fun y1 y2 => z.2 y1 (by omega)⟩, fun z => ⟨z.1, fun y1 y2 => z.2 y1 (by omega)⟩⟩
/-- the plan's ways begin at their own columns and go step by step -/
theorem qM_fx (hI : Inv g σ) (hV : RowV g V σ) {h : Nat} (hn : h < g.gN) : FxOK (qM g V S op) h := by
  have hd' := hI.1.1
  obtain ⟨⟨-, -, coH⟩, ⟨-, -, clW⟩, -⟩ := hI.2.2.1 h hn
  have ef : (qM g V S op).fs h = g.co h := if_pos hn
  refine ⟨fun _ => by show g.cl h < 10; omega, fun _ r h1 h2 => ?_⟩
  rw [ef] at h1 ⊢
  have h2 : r ≤ g.gH - 1 := h2
  have v1 := hV h r hn h1 (by omega)
  refine ⟨v1.2, fun e => ?_, fun h3 => ?_⟩
  · have v2 := (hI.2.2.2.2.2.1 h hn).2.1
    have v3 : nI (V h r) = nI (g.cl h) := by rw [← v1.1, e]; exact v2
    show V h r = g.cl h
    exact (nI_eq (by omega) (by omega)).mp v3
  · have v2 := hV h (r - 1) hn (by omega) (by omega)
    have v3 := (hI.2.2.2.2.2.1 h hn).2.2 r h3 (by omega)
    have w1 : σ.1 (22 + h) r = nI (V h r) := v1.1
    have w2 : σ.1 (22 + h) (r - 1) = nI (V h (r - 1)) := v2.1
    rw [w1, w2] at v3
    exact near1 v1.2 v2.2 v3
theorem canX_ok {Q : Int32 → St → Prop} (hI : Inv g σ) (hV : RowV g V σ) (hS : S < 2 ^ g.gN) (hcl : cl < 1024) (hop : OpOK g cl op) (h1 : ∀ τ, Cor σ τ → WelP g V op S → Q 1 τ) (h0 : ∀ τ, Cor σ τ → ¬ WelP g V op S → Q 0 τ) : wp_X6_putAllMoving (nI S) (nI cl) (fun σ39 => wp_X3_findsAny Q σ39) σ := by
  have hd := hI.1
  have hd' := hd.1
  have t0 := hI.2.2.2.1 0 (by omega)
  rw [show tuM 0 = 3 from rfl] at t0
  obtain ⟨S8, Sn⟩ := bits_lt g.gN (by omega) S hS
  have qop : (qM g V S op).op = op := rfl
  unfold wp_X6_putAllMoving
  rw [c0, t0.1]
  refine ⟨by unfold vp_in; decide, prepX_ok (cl := cl) hI hcl (fun τ op' hc hop' hp => ?_)⟩
  obtain ⟨⟨p1, p2, p3, p4⟩, p5⟩ := hp.op hop' hop
  refine pk_loop (fun n i υ => wp_X6_putAllMoving_l20 (fun σ39 => wp_X3_findsAny Q σ39) n (nI S) (nI i) υ) (fun i υ => Cor σ υ ∧ FixX g (qM g V S op) i υ) g.gN 0 τ (by omega) ⟨hc, p1, p2, p3, p5, fun h hh => ⟨fun z => by omega, fun _ => ⟨(p4 h hh).1, fun r hr => ((p4 h hh).2.2 r hr).i (fun c _ => by
    show oneF op 16 0 r c ↔ c = 0
    unfold oneF
    exact ⟨fun z => by omega, fun z => Or.inl ⟨by omega, z⟩⟩)⟩⟩⟩ (fun n υ hυ => ?_) (fun n i υ hi hυ hk => ?_)
  · show wp_X6_putAllMoving_b20 _ _ _ _ _
    unfold wp_X6_putAllMoving_b20
    obtain ⟨u1, u2, u3, u4, u5, u6⟩ := hυ
    rw [(hI.cor u1).1.2.2.2.1]
    have sp : SP (qM g V S op) υ := by
      refine ⟨by show g.gH - 1 ≤ 15; omega, t0.2.2.2, u2, u3, fun h hh => ?_⟩
      by_cases e : h < g.gN
      · obtain ⟨a1, a2⟩ := (u6 h hh).1 e
        obtain ⟨⟨-, -, coH⟩, -⟩ := hI.2.2.1 h e
        have ef : (qM g V S op).fs h = g.co h := if_pos e
        rw [ef]
        exact ⟨a1, by omega, qM_fx hI hV e, a2⟩
      · obtain ⟨a1, a2⟩ := (u6 h hh).2 (by omega)
        have ef : (qM g V S op).fs h = 16 := if_neg e
        have nf : ¬ (qM g V S op).fx h = true := fun z => e (fx_iff.mp z).1
        have la : (qM g V S op).la = g.gH - 1 := rfl
        rw [ef]
        refine ⟨a1, Nat.le_refl _, ⟨fun z => ?_, fun z => absurd z nf⟩, fun r hr => (a2 r hr).i (fun c _ => ?_)⟩
        · rw [ef, la] at z
          omega
        · rw [la] at hr
          unfold oneC
          rw [ef]
          exact ⟨fun z => Or.inl ⟨by omega, z⟩, fun z => by omega⟩
    have tb : Tab true (qM g V S op) υ := fun k hk c hc => Or.inl (u5 _ (by show g.gH - 1 + 1 - k ≤ g.gH; omega) c hc)
    refine ⟨fun _ => any_ok sp tb (fun φ b l f _ _ c1 => h1 φ (u1.tr f.cor) ⟨b, l, c1⟩) (fun φ f _ _ c1 => h0 φ (u1.tr f.cor) (fun ⟨b, l, z⟩ => c1 b l z)), fun z => absurd (nI_le (Nat.le_refl _) (by omega)) z⟩
  · show wp_X6_putAllMoving_b20 _ _ _ _ _
    unfold wp_X6_putAllMoving_b20
    obtain ⟨u1, u2, u3, u4, u5, u6⟩ := hυ
    have hIu := hI.cor u1
    obtain ⟨⟨a1, -, a3⟩, ⟨b1, -, b3⟩, -⟩ := hIu.2.2.1 i hi
    have bv : (nI S >>> (nI i &&& 31)) &&& 1 = nI (S / 2 ^ i % 2) := bit_val (by omega) (by omega)
    have ef : (qM g V S op).fs i = g.co i := if_pos hi
    have hGH : 1 ≤ g.gH ∧ g.gH ≤ 16 := ⟨by omega, hd'.2.2.2.1⟩
    rw [hIu.1.2.2.2.1, bv, show (0 : Int32) = nI 0 from rfl, pn_eq (by omega) (by omega), na1, pn_in (by omega) (by omega), pn_cl (by omega), a1, b1]
    refine ⟨fun z => absurd z (nI_ge hi (by omega)), fun _ => ⟨by omega, by omega, put_ok (op := op) hGH (by omega) (by omega) (by omega) u4 (fun r hr => ((u6 i (by omega)).2 (Nat.le_refl _)).2 r (by omega)) (fun υ2 hυ2 r68 rm => ?_)⟩⟩
    have cυ2 : Cor σ υ2 := u1.tr (hυ2.cor (by omega))
    have fin : ∀ υ3, (∀ k j, ¬ k = 71 + i → υ3.1 k j = υ2.1 k j) → υ3.2 = υ2.2 → (∀ r, r ≤ g.gH - 1 → Mk υ3 i r (oneC (qM g V S op) r i)) → wp_X6_putAllMoving_l20 (fun σ39 => wp_X3_findsAny Q σ39) n (nI S) (nI (i + 1)) υ3 := by
      intro υ3 rd e2 hm
      have rd3 : ∀ k j, ¬ (k = 68 ∧ j = i) → ¬ k = 71 + i → υ3.1 k j = υ.1 k j := fun k j n1 n2 => (rd k j n2).trans (hυ2.1 k j n1 n2)
      refine hk υ3 ⟨cυ2.tr ⟨fun k j n => rd k j (fun z => n (by unfold Scr; omega)), by rw [e2], by rw [e2]⟩, ?_, ?_, fun r hr => ?_, fun r hr c hc => ?_, fun h hh => ⟨fun y => ?_, fun y => ?_⟩⟩
      · rw [rd3 _ _ (by omega) (by omega)]; exact u2
      · rw [rd3 _ _ (by omega) (by omega)]; exact u3
      · rw [rd3 _ _ (by omega) (by omega)]; exact u4 r hr
      · rw [rd3 _ _ (by omega) (by omega)]; exact u5 r hr c hc
      · by_cases e : h = i
        · rw [e]
          exact ⟨(rd _ _ (by omega)).trans r68, hm⟩
        · obtain ⟨x1, x2⟩ := (u6 h hh).1 (by omega)
          exact ⟨by rw [rd3 _ _ (by omega) (by omega)]; exact x1, fun r hr => (x2 r hr).of (rd3 _ _ (by omega) (by omega))⟩
      · obtain ⟨x1, x2⟩ := (u6 h hh).2 (by omega)
        exact ⟨by rw [rd3 _ _ (by omega) (by omega)]; exact x1, fun r hr => (x2 r hr).of (rd3 _ _ (by omega) (by omega))⟩
    refine ⟨fun z => ?_, fun z => fin υ2 (fun _ _ _ => rfl) rfl (fun r hr => (rm r hr).i (fun c _ => ?_))⟩
    · have fx : (qM g V S op).fx i = true := fx_iff.mpr ⟨hi, by omega⟩
      refine fix_ok (f := g.co i) (V := V i) hGH (by omega) (by omega) ((hυ2.1 _ _ (by omega) (by omega)).trans u2) r68 rm (fun r b1 b2 => ?_) (fun υ3 rd e2 hm => fin υ3 rd e2 (fun r hr => (hm r hr).i (fun c _ => ?_)))
      · have := hV i r hi b1 (by omega)
        exact ⟨(cυ2.1 _ _ (by unfold Scr; omega)).trans this.1, this.2⟩
      · unfold oneC oneF
        rw [ef, qop]
        show _ ↔ ((r < g.co i ∧ c = 0) ∨ (g.co i ≤ r ∧ bitP (op r) c ∧ (r = g.co i → c = g.cl i) ∧ ((qM g V S op).fx i = true → c = V i r)))
        constructor
        · rintro ⟨z1 | z1, z2⟩
          · exact Or.inl z1
          · exact Or.inr ⟨z1.1, z1.2.1, z1.2.2, fun _ => z2 z1.1⟩
        · rintro (z1 | z1)
          · exact ⟨Or.inl z1, fun w => by omega⟩
          · exact ⟨Or.inr ⟨z1.1, z1.2.1, z1.2.2.1⟩, fun _ => z1.2.2.2 fx⟩
    · have nf : ¬ (qM g V S op).fx i = true := fun w => (fx_iff.mp w).2 (by omega)
      unfold oneC oneF
      rw [ef, qop]
      show _ ↔ ((r < g.co i ∧ c = 0) ∨ (g.co i ≤ r ∧ bitP (op r) c ∧ (r = g.co i → c = g.cl i) ∧ ((qM g V S op).fx i = true → c = V i r)))
      exact ⟨fun z => z.imp id (fun z => ⟨z.1, z.2.1, z.2.2, fun w => absurd w nf⟩), fun z => z.imp id (fun z => ⟨z.1, z.2.1, z.2.2.1⟩)⟩
theorem can_none (h15 : g.gH - 1 ≤ 15) (h0 : g.gN = 0) : ∀ k, k ≤ g.gH - 1 + 1 → ∃ b l, Can (qM g V S op) k zz b l := by
  intro k
  have fs : ∀ i, (qM g V S op).fs i = 16 := fun i => if_neg (by omega)
  induction k with
  | zero => intro _; exact ⟨_, 0, rfl, rfl⟩
  | succ k ih =>
    intro hk
    obtain ⟨b, l, c⟩ := ih (by omega)
    refine ⟨b, _, zz, ⟨fun h hh => ?_, fun a => ?_, fun a => ?_, fun a => ?_⟩, l, c, rfl⟩
    · have f := fs h
      have e : (qM g V S op).la - k ≤ 15 := by show g.gH - 1 - k ≤ 15; omega
      unfold oneOK loE hiE onlyC
      rw [if_pos (Or.inr (by omega)), if_pos (by omega), if_pos (Or.inr (by omega))]
      exact ⟨Nat.le_refl _, Nat.le_refl _, Or.inl (by omega)⟩
    · rw [fs] at a
      have e : (qM g V S op).la - k ≤ 15 := by show g.gH - 1 - k ≤ 15; omega
      omega
    · rw [fs] at a
      have e : (qM g V S op).la - k ≤ 15 := by show g.gH - 1 - k ≤ 15; omega
      omega
    · rw [fs] at a
      have e : (qM g V S op).la - k ≤ 15 := by show g.gH - 1 - k ≤ 15; omega
      omega
theorem wellM_ok {Q : Int32 → St → Prop} (hI : Inv g σ) (hV : RowV g V σ) (hS : S < 2 ^ g.gN) (hcl : cl < 1024) (hop : OpOK g cl op) (h1 : ∀ τ, Cor σ τ → WelP g V op S → Q 1 τ) (h0 : ∀ τ, Cor σ τ → ¬ WelP g V op S → Q 0 τ) : wp_X7_isWellWith (nI S) (nI cl) Q σ := by
  have hd := hI.1
  have hd' := hd.1
  obtain ⟨S8, Sn⟩ := bits_lt g.gN (by omega) S hS
  have s75 : ∀ i, i ≠ 2 → Scr 75 i := fun i h => by unfold Scr; omega
  unfold wp_X7_isWellWith
  generalize h3 : sI (sI σ 75 21 (0 : Int32)) 75 26 (16 : Int32) = σ3
  have c3 : Cor σ σ3 := by rw [← h3]; exact (Cor.rf.sI (s75 _ (by omega)) _).sI (s75 _ (by omega)) _
  have f21 : σ3.1 75 21 = nI 0 := by rw [← h3, sI_1, if_neg (by omega), sI_1, if_pos ⟨rfl, rfl⟩]; rfl
  have f26 : σ3.1 75 26 = nI 16 := by rw [← h3, sI_1, if_pos ⟨rfl, rfl⟩]; rfl
  refine pk_loop (fun n i τ => wp_X7_isWellWith_l13 Q n (nI S) (nI cl) (nI i) τ) (fun i τ => Cor σ τ ∧ ∃ low, ML i g.co g.cl (fun i => if S / 2 ^ i % 2 = 1 then -1 else nI i) low τ) g.gN 0 σ3 (by omega) ⟨c3, 16, f21, f26, Nat.le_refl _, fun i hi => by omega⟩ (fun n τ hτ => ?_) (fun n i τ hi hτ hk => ?_)
  · show wp_X7_isWellWith_b13 _ _ _ _ _ _
    unfold wp_X7_isWellWith_b13
    obtain ⟨t1, low, m1, m2, m3, m4⟩ := hτ
    have hIt := hI.cor t1
    have cτ2 : Cor σ (sI τ 75 25 (nI cl)) := t1.sI (s75 _ (by omega)) _
    have e21 : (sI τ 75 25 (nI cl)).1 75 21 = nI g.gN := by rw [sI_1, if_neg (by omega)]; exact m1
    rw [c0, hIt.1.2.2.2.2.2.2, e21, show (0 : Int32) = nI 0 from rfl, pn_eq (by omega) (by omega)]
    refine ⟨vin0_2, fun _ => ⟨fun z => h1 _ cτ2 (can_none (by omega) z _ (Nat.le_refl _)), fun z => ?_⟩, fun z => absurd (nI_le (Nat.le_refl _) (by omega)) z⟩
    have hIu := hI.cor cτ2
    have hVu := hV.cor hd cτ2
    have hM : MP (qM g V S op) g.gN low (fun i => i) cl g (sI τ 75 25 (nI cl)) := by
      refine ⟨⟨by omega, e21, by rw [sI_1, if_neg (by omega)]; exact m2, by rw [sI_1, if_pos ⟨rfl, rfl⟩], hcl⟩, fun i hi => ?_, fun i hi hi3 => ⟨if_neg (by omega), ?_⟩, rfl, rfl, fun r c hr hc => (hop r hr).2 c hc⟩
      · obtain ⟨x1, x2, x3, x4⟩ := m4 i hi
        obtain ⟨⟨-, -, coH⟩, ⟨-, -, clW⟩, -⟩ := hI.2.2.1 i hi
        have ef : (qM g V S op).fs i = g.co i := if_pos hi
        rw [ef, sI_1, if_neg (by omega), sI_1, if_neg (by omega), sI_1, if_neg (by omega)]
        refine ⟨x1, by show g.co i ≤ g.gH - 1; omega, x2, x3, by show g.cl i < 10; omega, ?_, fun z2 => ⟨by show i < 3; omega, hi, ?_, fun r b1 b2 => ?_⟩⟩
        · rw [x4]
          show (if S / 2 ^ i % 2 = 1 then -1 else nI i) = if (qM g V S op).fx i = true then nI i else -1
          by_cases y : S / 2 ^ i % 2 = 1
          · rw [if_pos y, if_neg (fun w => (fx_iff.mp w).2 y)]
          · rw [if_neg y, if_pos (fx_iff.mpr ⟨hi, y⟩)]
        · have v1 := hV i (g.co i) hi (Nat.le_refl _) (by omega)
          have v2 := (hI.2.2.2.2.2.1 i hi).2.1
          have v3 : nI (V i (g.co i)) = nI (g.cl i) := by rw [← v1.1]; exact v2
          show V i (g.co i) = g.cl i
          exact (nI_eq (by omega) (by omega)).mp v3
        · have b2 : r ≤ g.gH - 1 := b2
          have v1 := hVu i r hi b1 (by omega)
          refine ⟨v1.1, v1.2, fun b3 => ?_⟩
          have v2 := hVu i (r - 1) hi (by omega) (by omega)
          have v3 := (hIu.2.2.2.2.2.1 i hi).2.2 r b3 (by omega)
          have w1 : (sI τ 75 25 (nI cl)).1 (22 + i) r = nI (V i r) := v1.1
          have w2 : (sI τ 75 25 (nI cl)).1 (22 + i) (r - 1) = nI (V i (r - 1)) := v2.1
          rw [w1, w2] at v3
          exact near1 v1.2 v2.2 v3
      · have nf : ¬ (qM g V S op).fx i = true := fun w => by have := (fx_iff.mp w).1; omega
        exact Bool.eq_false_iff.mpr nf
    refine goTogether_ok hIu hM (by omega) (fun υ f hno => ⟨fun _ => h0 υ (cτ2.tr f.cor) (fun ⟨b, l, w⟩ => hno b l w), fun w => absurd rfl w⟩) (fun b v υ f a1 a2 a3 a4 a5 a6 a7 a8 => ⟨fun w => ?_, fun _ => h1 υ (cτ2.tr f.cor) ⟨b, v, a3⟩⟩)
    rw [tI_eq, t_m9, tI_n (by omega)] at w
    omega
  · show wp_X7_isWellWith_b13 _ _ _ _ _ _
    unfold wp_X7_isWellWith_b13
    obtain ⟨t1, low, hML⟩ := hτ
    have hIt := hI.cor t1
    obtain ⟨⟨-, a2, a3⟩, ⟨-, b2, b3⟩, -⟩ := hIt.2.2.1 i hi
    have bv : (nI S >>> (nI i &&& 31)) &&& 1 = nI (S / 2 ^ i % 2) := bit_val (by omega) (by omega)
    have e1 : (nI (S / 2 ^ i % 2) = (1 : Int32)) = (S / 2 ^ i % 2 = 1) := pn_eq (b := 1) (by omega) (by omega)
    unfold wp_X7_isWellWith_b50
    rw [c0, hIt.1.2.2.2.2.2.2, bv, e1, na1, pn_in (by omega) (by omega), pn_cl (by omega), a2, b2]
    have go : ∀ kv : Int32, kv = (if S / 2 ^ i % 2 = 1 then -1 else nI i) → wp_X7_add (nI (g.co i)) (nI (g.cl i)) kv (fun σ50 => wp_X7_isWellWith_l13 Q n (nI S) (nI cl) (nI (i + 1)) σ50) τ := by
      intro kv hkv
      refine add_ok (m := i) (low := low) (by omega) hML.1 hML.2.1 hML.2.2.1 (by omega) (fun υ hA => hk υ ⟨t1.tr hA.cor, min (g.co i) low, ?_⟩)
      exact hML.add (υ := υ) (by show AddR i (g.co i) low (nI (g.cl i)) (if S / 2 ^ i % 2 = 1 then -1 else nI i) τ υ; rw [← hkv]; exact hA)
    exact ⟨vin0_2, fun z => absurd z (nI_ge hi (by omega)), fun _ => ⟨by omega, by omega, fun z => go (-1) (by rw [if_pos z]), fun z => go (nI i) (by rw [if_neg z])⟩⟩
theorem cB_n : ∀ n, n < 4 → ∀ S, S < 2 ^ n → cB S 3 ≤ n := by decide
theorem fewX_ok {Q : Int32 → St → Prop} (hI : Inv g σ) (hV : RowV g V σ) (hcl : cl < 1024) (hop : OpOK g cl op) (hq : ∀ τ v, Cor σ τ → MvR g (WelP g V op) v → Q v τ) : wp_X6_fewestMoved (nI cl) Q σ := by
  have hd := hI.1
  have hd' := hd.1
  obtain ⟨p1, p2, p3⟩ := p2N hd
  unfold wp_X6_fewestMoved
  refine pk_loop (fun n j υ => wp_X6_fewestMoved_l2 Q n (nI cl) (nI j) υ) (fun j υ => Cor σ υ ∧ ∀ S, S < 2 ^ g.gN → WelP g V op S → j ≤ cB S 3) (g.gN + 1) 0 σ (by omega) ⟨Cor.rf, fun S _ _ => Nat.zero_le _⟩ (fun n υ hυ => ?_) (fun n j υ hj hυ hk => ?_)
  · show wp_X6_fewestMoved_b2 _ _ _ _ _
    unfold wp_X6_fewestMoved_b2
    obtain ⟨u1, u2⟩ := hυ
    rw [(hI.cor u1).1.2.2.2.1, pn_lt (by omega) (by omega)]
    refine ⟨fun _ => hq υ _ u1 (Or.inl ⟨rfl, fun S h1 h2 => ?_⟩), fun z => absurd (by omega) z⟩
    have := u2 S h1 h2
    have := cB_n g.gN (by omega) S h1
    omega
  · show wp_X6_fewestMoved_b2 _ _ _ _ _
    unfold wp_X6_fewestMoved_b2
    obtain ⟨u1, u2⟩ := hυ
    rw [(hI.cor u1).1.2.2.2.1, pn_lt (by omega) (by omega)]
    refine ⟨fun z => absurd z (by omega), fun _ => ?_⟩
    refine pk_loop (fun n S υ => wp_X6_fewestMoved_l15 Q _ n (nI cl) (nI j) (nI S) υ) (fun S υ => Cor σ υ ∧ ∀ S', S' < S → WelP g V op S' → j + 1 ≤ cB S' 3) (2 ^ g.gN) 0 υ (Nat.zero_le _) ⟨u1, fun S' h => by omega⟩ (fun n φ hφ => ?_) (fun n S φ hS hφ hk2 => ?_)
    · show wp_X6_fewestMoved_b15 _ _ _ _ _ _ _
      unfold wp_X6_fewestMoved_b15
      obtain ⟨w1, w2⟩ := hφ
      rw [(hI.cor w1).1.2.2.2.1, p3, na1 j]
      exact ⟨fun _ => hk φ ⟨w1, w2⟩, fun z => absurd (nI_le (Nat.le_refl _) (by omega)) z⟩
    · show wp_X6_fewestMoved_b15 _ _ _ _ _ _ _
      unfold wp_X6_fewestMoved_b15
      obtain ⟨w1, w2⟩ := hφ
      have hIw := hI.cor w1
      have c3 := cB_le S (by omega) 3 (by omega)
      rw [hIw.1.2.2.2.1, p3]
      refine ⟨fun z => absurd z (nI_ge hS (by omega)), fun _ => bcS_ok (by omega) ?_⟩
      rw [pn_eq (by omega) (by omega), na1 S]
      refine ⟨fun z => canX_ok hIw (hV.cor hd w1) hS hcl hop (fun ψ hc hw => ⟨fun y => absurd y (by decide), fun _ => hq ψ _ (w1.tr hc) (Or.inr ⟨S, rfl, hS, hw, fun S' h1 h2 => ⟨?_, fun h3 => ?_⟩⟩)⟩) (fun ψ hc hw => ⟨fun _ => hk2 ψ ⟨w1.tr hc, fun S' h1 h2 => ?_⟩, fun y => absurd rfl y⟩), fun z => hk2 φ ⟨w1, fun S' h1 h2 => ?_⟩⟩
      · have := u2 S' h1 h2
        omega
      · by_cases e : S' < S
        · have := w2 S' e h2
          omega
        · omega
      · by_cases e : S' = S
        · rw [e] at h2; exact absurd h2 hw
        · exact w2 S' (by omega) h2
      · by_cases e : S' = S
        · rw [e] at h2 ⊢
          have := u2 S hS h2
          omega
        · exact w2 S' (by omega) h2
theorem movM_ok {Q : Int32 → St → Prop} {y : Nat} (hy : y < 2) (hI : Inv g σ) (hV : RowV g V σ) (hcl : cl < 1024) (hop : OpOK g cl op) (hq : ∀ τ v, Cor σ τ → MvR g (WelP g V op) v → (v = -9 → Q (-9) τ) ∧ ∀ S, S < 8 → v = nI S → Q (if y = 0 then nI (cB S 3) else nI S) τ) : ∃ n, wp_X7_moved_l37 Q n (nI cl) (nI y) 0 σ := by
  have hd := hI.1
  have hd' := hd.1
  obtain ⟨p1, p2, p3⟩ := p2N hd
  refine pk_loop (fun n j υ => wp_X7_moved_l37 Q n (nI cl) (nI y) (nI j) υ) (fun j υ => Cor σ υ ∧ ∀ S, S < 2 ^ g.gN → WelP g V op S → j ≤ cB S 3) (g.gN + 1) 0 σ (by omega) ⟨Cor.rf, fun S _ _ => Nat.zero_le _⟩ (fun n υ hυ => ?_) (fun n j υ hj hυ hk => ?_)
  · show wp_X7_moved_b37 _ _ _ _ _ _
    unfold wp_X7_moved_b37
    obtain ⟨u1, u2⟩ := hυ
    rw [c0, (hI.cor u1).1.2.2.2.2.2.2, pn_lt (by omega) (by omega)]
    refine ⟨vin0_2, fun _ => (hq υ _ u1 (Or.inl ⟨rfl, fun S h1 h2 => ?_⟩)).1 rfl, fun z => absurd (by omega) z⟩
    have := u2 S h1 h2
    have := cB_n g.gN (by omega) S h1
    omega
  · show wp_X7_moved_b37 _ _ _ _ _ _
    unfold wp_X7_moved_b37
    obtain ⟨u1, u2⟩ := hυ
    rw [c0, (hI.cor u1).1.2.2.2.2.2.2, pn_lt (by omega) (by omega)]
    refine ⟨vin0_2, fun z => absurd z (by omega), fun _ => ?_⟩
    refine pk_loop (fun n S υ => wp_X7_moved_l50 Q _ n (nI cl) (nI y) (nI j) (nI S) υ) (fun S υ => Cor σ υ ∧ ∀ S', S' < S → WelP g V op S' → j + 1 ≤ cB S' 3) (2 ^ g.gN) 0 υ (Nat.zero_le _) ⟨u1, fun S' h => by omega⟩ (fun n φ hφ => ?_) (fun n S φ hS hφ hk2 => ?_)
    · show wp_X7_moved_b50 _ _ _ _ _ _ _ _
      unfold wp_X7_moved_b50
      obtain ⟨w1, w2⟩ := hφ
      rw [c0, (hI.cor w1).1.2.2.2.2.2.2, p3, na1 j]
      exact ⟨vin0_2, fun _ => hk φ ⟨w1, w2⟩, fun z => absurd (nI_le (Nat.le_refl _) (by omega)) z⟩
    · show wp_X7_moved_b50 _ _ _ _ _ _ _ _
      unfold wp_X7_moved_b50
      obtain ⟨w1, w2⟩ := hφ
      have hIw := hI.cor w1
      have c3 := cB_le S (by omega) 3 (by omega)
      rw [c0, hIw.1.2.2.2.2.2.2, p3]
      refine ⟨vin0_2, fun z => absurd z (nI_ge hS (by omega)), fun _ => bitsIn_ok (S := S) (by omega) ?_⟩
      rw [pn_eq (by omega) (by omega), na1 S]
      refine ⟨fun z => wellM_ok hIw (hV.cor hd w1) hS hcl hop (fun ψ hc hw => ⟨fun y => absurd y (by decide), fun _ => ?_⟩) (fun ψ hc hw => ⟨fun _ => hk2 ψ ⟨w1.tr hc, fun S' h1 h2 => ?_⟩, fun y => absurd rfl y⟩), fun z => hk2 φ ⟨w1, fun S' h1 h2 => ?_⟩⟩
      · have Z := (hq ψ _ (w1.tr hc) (Or.inr ⟨S, rfl, hS, hw, fun S' h1 h2 => ⟨by have := u2 S' h1 h2; omega, fun h3 => by
          by_cases e : S' < S
          · have := w2 S' e h2
            omega
          · omega⟩⟩)).2 S (by omega) rfl
        refine ⟨fun y0 => ?_, fun y0 => ?_⟩
        · have : y = 0 := (nI_eq (b := 0) (by omega) (by omega)).mp y0
          rw [if_pos this, z] at Z; exact Z
        · rw [if_neg (fun w => y0 (by rw [w]; rfl))] at Z; exact Z
      · by_cases e : S' = S
        · rw [e] at h2; exact absurd h2 hw
        · exact w2 S' (by omega) h2
      · by_cases e : S' = S
        · rw [e] at h2 ⊢
          have := u2 S hS h2
          omega
        · exact w2 S' (by omega) h2
theorem row_of (hd : IDim g σ) (hcl : Clr g (rowsP σ) g.gH 0) : RowV g (fun h r => (rowsP σ h r).toInt.toNat) σ := by
  have hd' := hd.1
  intro h r h1 h2 h3
  have T := hcl r h h3 h1 h2 (Or.inl h3)
  have pw : pW g (rowsP σ h r) := by
    rcases T with ⟨e, _⟩ | ⟨a, _⟩
    · omega
    · exact a
  obtain ⟨c, hc, e⟩ := of_pin pw
  dsimp only
  rw [e, tI_n (by omega)]
  exact ⟨congrArg nI (by omega), by omega⟩
theorem op_moved (hI : Inv g σ) (hK : ∀ τ, Inv g τ → K τ) (x y : Int32) : wp_X6_moved x y (fun r σ1 => wp_X7_moved x y (fun r2 σ2 => (r = r2 → K σ2) ∧ (¬ r = r2 → F)) σ1) σ := by
  have hd := hI.1
  have hd' := hd.1
  have t0 := hI.2.2.2.1 0 (by omega)
  have t1023 : (1023 : Int32).toInt = 1023 := by decide
  have t1024 : (1024 : Int32).toInt = 1024 := by decide
  have bad : ¬ ((0 ≤ x.toInt ∧ x.toInt ≤ 1023) ∧ 0 ≤ y.toInt ∧ y.toInt ≤ 1) → wp_X7_moved x y (fun r2 σ2 => ((-1 : Int32) = r2 → K σ2) ∧ (¬ (-1 : Int32) = r2 → F)) σ := by
    intro n
    unfold wp_X7_moved
    refine in_ok ?_
    rw [z0, t1023]
    refine i2_eq (fun a => in_ok ?_) (fun _ => eq_k rfl (hK _ hI))
    rw [z0, t_1]
    exact g_f (fun z => n ⟨a, z⟩) (eq_k rfl (hK _ hI))
  unfold wp_X6_moved
  rw [tI_lt, tI_le, tI_lt, tI_le, z0, t_1, t1024]
  refine ⟨fun z => bad (by omega), fun z1 => ⟨fun z => bad (by omega), fun z2 => ⟨fun z => bad (by omega), fun z3 => ⟨fun z4 => ?_, fun z => bad (by omega)⟩⟩⟩⟩
  obtain ⟨cl, hcl, rfl⟩ := of_pin (x := x) (n := 1024) ⟨by omega, by omega⟩
  obtain ⟨w, hw, rfl⟩ := of_pin (x := y) (n := 2) ⟨by omega, by omega⟩
  obtain ⟨op, hop⟩ := op_ex (cl := cl) hI hcl
  have enter : ∀ (υ : St) (R : Int32 → St → Prop), wp_X7_judge (0 : Int32) (fun r24 σ24 => (r24 = ((-9) : Int32) → (∃ n : Nat, wp_X7_moved_l37 R n (nI cl) (nI w) (0) (σ24))) ∧ (¬ r24 = ((-9) : Int32) → R (-2) σ24)) υ → wp_X7_moved (nI cl) (nI w) R υ := by
    intro υ R H
    unfold wp_X7_moved
    refine in_ok ?_
    rw [z0, t1023, tI_n (by omega)]
    refine g_t (by omega) (in_ok ?_)
    rw [z0, t_1, tI_n (by omega)]
    exact g_t (by omega) H
  rw [c0, t0.1]
  refine ⟨by unfold vp_in; decide, noneX_ok hI (fun τ hc hcl2 => ⟨fun q => absurd q (by decide), fun _ => ?_⟩) (fun τ r h v hc hf f0 f1 f2 => ⟨fun _ => ?_, fun q => absurd rfl q⟩)⟩
  · have hIt := hI.cor hc
    have hV : RowV g _ σ := row_of hd hcl2
    refine fewX_ok hIt (hV.cor hd hc) hcl hop (fun υ v hcu hv => ?_)
    have hIu := hIt.cor hcu
    have cu := hc.tr hcu
    have M : ∀ r : Int32, (v = -9 → r = -9) → (∀ S, S < 8 → v = nI S → r = (if w = 0 then nI (cB S 3) else nI S)) → wp_X7_moved (nI cl) (nI w) (fun r2 σ2 => (r = r2 → K σ2) ∧ (¬ r = r2 → F)) υ := by
      intro r r1 r2
      refine enter υ _ (judgeM_ok (x := 0) hIu (by omega) (fun _ => ⟨fun _ => ?_, fun q => absurd rfl q⟩) (fun r' h' v' hf' => ((clr_cor hd cu hcl2).no hf').elim))
      refine movM_ok hw hIu (hV.cor hd cu) hcl hop (fun φ v2 hφ hv2 => ?_)
      have ev := hv.uq hv2
      refine ⟨fun e => eq_k (r1 (by rw [ev]; exact e)) (hK _ (hIu.cor hφ)), fun S hS e => eq_k (r2 S hS (by rw [ev]; exact e)) (hK _ (hIu.cor hφ))⟩
    have e8 : 2 ^ g.gN ≤ 8 := (p2N hd).1
    rcases hv with ⟨v1, v2⟩ | ⟨S, v1, v2, v3, v4⟩
    · rw [v1] at M ⊢
      refine ⟨fun _ => M _ (fun _ => rfl) (fun S hS e => ?_), fun q => absurd rfl q⟩
      rw [tI_eq, t_m9, tI_n (by omega)] at e
      omega
    · have nv : ¬ v = -9 := fun e => by
        rw [v1, tI_eq, t_m9, tI_n (by omega)] at e
        omega
      refine ⟨fun e => absurd e nv, fun _ => ?_⟩
      have uqS : ∀ S', S' < 8 → v = nI S' → S' = S := fun S' h e => by
        rw [v1] at e
        exact ((nI_eq (by omega) (by omega)).mp e).symm
      rw [show (0 : Int32) = nI 0 from rfl, pn_eq (by omega) (by omega)]
      refine ⟨fun e => ?_, fun e => M _ (fun z => absurd z nv) (fun S' h z => by rw [if_neg e]; exact z)⟩
      rw [v1]
      refine bcS_ok (by omega) ?_
      rw [v1] at M
      refine M _ (fun z => absurd (v1.trans z) nv) (fun S' h z => ?_)
      rw [if_pos e, uqS S' h (v1.trans z)]
  · have hIt := hI.cor hc
    have hf := rows_cor hd hc hf
    refine enter τ _ (judgeM_ok (x := 0) hIt (by omega) (fun hcl3 => (hcl3.no hf).elim) (fun r' h' v' hf' => ⟨fun e => ?_, fun _ => eq_k rfl (hK _ hIt)⟩))
    have v5 : v' ≤ 4 := by
      rcases hf'.2.2.2.2.1 with ⟨e, _⟩ | ⟨_, ⟨e, _⟩ | ⟨_, ⟨e, _⟩ | ⟨_, ⟨e, _⟩ | ⟨e, _⟩⟩⟩⟩ <;> omega
    rw [if_pos rfl, tI_eq, t_m9, tI_n (by omega)] at e
    omega
end MO
