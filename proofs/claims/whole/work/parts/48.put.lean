/-! the class's search made ready -/
def cB (S h : Nat) : Nat := (if 0 < h then S % 2 else 0) + (if 1 < h then S / 2 % 2 else 0) + (if 2 < h then S / 4 % 2 else 0)
def memS (S i : Nat) : Nat := if cB S 1 = i + 1 then 0 else if cB S 2 = i + 1 then 1 else 2
def piS (S h : Nat) : Nat := if S / 2 ^ h % 2 = 1 then cB S h else cB S 3 + (h - cB S h)
theorem pi_bij : ∀ S, S < 8 → Bij (piS S) := by unfold Bij; decide
theorem pi_in : ∀ S, S < 8 → ∀ h, h < 3 → (S / 2 ^ h % 2 = 1 → piS S h < cB S 3 ∧ memS S (piS S h) = h) ∧ (¬ S / 2 ^ h % 2 = 1 → cB S 3 ≤ piS S h) := by decide
theorem mem_in : ∀ S, S < 8 → ∀ i, i < cB S 3 → memS S i < 3 ∧ S / 2 ^ memS S i % 2 = 1 ∧ piS S (memS S i) = i := by decide
theorem cB_s : ∀ S, S < 8 → ∀ h, h < 3 → cB S (h + 1) = cB S h + S / 2 ^ h % 2 := by decide
theorem mem_c : ∀ S, S < 8 → ∀ h, h < 3 → S / 2 ^ h % 2 = 1 → memS S (cB S h) = h := by decide
theorem cB_le : ∀ S, S < 8 → ∀ h, h < 4 → cB S h ≤ 3 := by decide
theorem cB_pos : ∀ S, S < 8 → 1 ≤ S → 1 ≤ cB S 3 := by decide
theorem bits_lt : ∀ n, n < 4 → ∀ S, S < 2 ^ n → S < 8 ∧ ∀ h, h < 3 → n ≤ h → ¬ S / 2 ^ h % 2 = 1 := by decide
theorem andn (a b : Nat) (ha : a < 1024) (hb : b < 1024) : ∃ o, o < 1024 ∧ nI a &&& (nI b ^^^ (-1)) = nI o ∧ ∀ c, c < 10 → (bitP o c ↔ (bitP a c ∧ ¬ bitP b c)) := by
  have ta : (nI a).toBitVec.toNat = a := pk_tn (by omega)
  have tb' : (nI b).toBitVec.toNat = b := pk_tn (by omega)
  have ones : (-1 : Int32).toBitVec = BitVec.allOnes 32 := by decide
  refine ⟨(nI a &&& (nI b ^^^ (-1))).toBitVec.toNat, ?_, ?_, fun c hc => ?_⟩
  · rw [Int32.toBitVec_and, BitVec.toNat_and, ta]
    exact Nat.lt_of_le_of_lt Nat.and_le_left ha
  · apply Int32.toBitVec_inj.mp
    apply BitVec.eq_of_toNat_eq
    have lt : (nI a &&& (nI b ^^^ (-1))).toBitVec.toNat < 2 ^ 32 := BitVec.isLt _
    exact (pk_tn lt).symm
  · have h : (nI a &&& (nI b ^^^ (-1))).toBitVec.toNat.testBit c = (a.testBit c && !b.testBit c) := by
      rw [BitVec.testBit_toNat, Int32.toBitVec_and, BitVec.getLsbD_and, Int32.toBitVec_xor, BitVec.getLsbD_xor, ones, BitVec.getLsbD_allOnes, ← BitVec.testBit_toNat, ← BitVec.testBit_toNat, ta, tb']
      simp [show c < 32 by omega]
    rw [tb, tb, tb] at h
    have h2 := congrArg (· = true) h
    simp only [decide_eq_true_eq, Bool.and_eq_true, Bool.not_eq_true', decide_eq_false_iff_not, eq_iff_iff] at h2
    exact h2
theorem fr_bit2 {w b c : Nat} (hb : b < 2 ^ w) : bitP (2 ^ w - (b + 1)) c ↔ (c < w ∧ ¬ bitP b c) := by
  have h := Nat.testBit_two_pow_sub_succ hb c
  rw [tb, tb] at h
  have h2 := congrArg (· = true) h
  simp only [decide_eq_true_eq, Bool.and_eq_true, Bool.not_eq_true', decide_eq_false_iff_not, eq_iff_iff] at h2
  exact h2
def OpOK (g : Geo) (cl : Nat) (op : Nat → Nat) : Prop := ∀ r, r ≤ g.gH - 1 → op r < 1024 ∧ ∀ c, c < 10 → (bitP (op r) c ↔ (c < g.gW ∧ ¬ bitP (g.bar r) c ∧ ¬ bitP cl c))
/-- which places are put, where; nothing is known yet -/
def PutX (g : Geo) (op : Nat → Nat) (fs st : Nat → Nat) (τ : St) : Prop := τ.1 49 6 = nI (g.gH - 1) ∧ τ.1 49 7 = nI (g.tu 0) ∧ (∀ r, r ≤ g.gH - 1 → τ.1 67 r = nI (op r)) ∧ (∀ h, h < 3 → τ.1 68 h = nI (fs h) ∧ fs h ≤ 16 ∧ (fs h < 16 → τ.1 69 h = nI (st h)) ∧ τ.1 74 h = 0) ∧ ∀ r, r ≤ g.gH - 1 → ∀ c, c < 1000 → τ.1 (51 + r) c = 0
section PX
variable {g : Geo} {σ τ : St} {K : St → Prop} {F : Prop} {h : Nat} {op : Nat → Nat}
theorem forget_ok {Q : St → Prop} {top : Nat} (ht : top ≤ 15) (hq : ∀ υ, (∀ k i, ¬ (51 ≤ k ∧ k ≤ 51 + top) → υ.1 k i = τ.1 k i) → υ.2 = τ.2 → (∀ r, r ≤ top → ∀ c, c < 1000 → υ.1 (51 + r) c = 0) → Q υ) : wp_X3_forgetUpTo (nI top) Q τ := by
  unfold wp_X3_forgetUpTo
  refine pk_loop (fun n i υ => wp_X3_forgetUpTo_l2 Q n (nI top) (nI i) υ) (fun i υ => (∀ k j, ¬ (51 ≤ k ∧ k < 51 + i) → υ.1 k j = τ.1 k j) ∧ υ.2 = τ.2 ∧ ∀ r, r < i → ∀ c, c < 1000 → υ.1 (51 + r) c = 0) (top + 1) 0 τ (by omega) ⟨fun _ _ _ => rfl, rfl, fun r hr => by omega⟩ (fun n υ hυ => ?_) (fun n i υ hi hυ hk => ?_)
  · show wp_X3_forgetUpTo_b2 _ _ _ _ _
    unfold wp_X3_forgetUpTo_b2
    obtain ⟨u1, u2, u3⟩ := hυ
    have fin := hq υ (fun k i n => u1 k i (by omega)) u2 (fun r hr => u3 r (by omega))
    rw [pn_lt (by omega) (by omega)]
    exact ⟨fun _ => fin, fun z => absurd (by omega) z⟩
  · show wp_X3_forgetUpTo_b2 _ _ _ _ _
    unfold wp_X3_forgetUpTo_b2 wp_fillI
    obtain ⟨u1, u2, u3⟩ := hυ
    rw [pn_lt (by omega) (by omega), show (16 : Int32) = nI 16 from rfl, pn_le (by omega) (by omega), pn_in (by omega) (by omega), pn_cl (by omega), na1]
    refine ⟨fun z => absurd z (by omega), fun _ => ⟨fun z => absurd z (by omega), fun _ => ⟨by omega, hk _ ⟨fun k j n => ?_, u2, fun r hr c hc => ?_⟩⟩⟩⟩
    · rw [sR_1, if_neg (by omega)]
      exact u1 k j (by omega)
    · rw [sR_1]
      by_cases e : r = i
      · rw [if_pos (by omega), if_pos hc]
      · rw [if_neg (by omega)]
        exact u3 r (by omega) c hc
theorem prepX_ok {Q : St → Prop} {cl : Nat} (hI : Inv g σ) (hcl : cl < 1024) (hq : ∀ τ op, Cor σ τ → OpOK g cl op → PutX g op (fun _ => 16) (fun _ => 0) τ → Q τ) : wp_X3_prepare (nI (g.tu 0)) (nI cl) Q σ := by
  have hd := hI.1
  have hd' := hd.1
  have hb := hI.2.1
  have pw := pow_le hd'.2.1
  have s49 : ∀ i, Scr 49 i := fun i => by unfold Scr; omega
  have s67 : ∀ i, Scr 67 i := fun i => by unfold Scr; omega
  have s68 : ∀ i, Scr 68 i := fun i => by unfold Scr; omega
  have s74 : ∀ i, Scr 74 i := fun i => by unfold Scr; omega
  unfold wp_X3_prepare
  rw [hd.2.2.1, ns1 (by omega)]
  generalize h1 : sI σ 49 6 (nI (g.gH - 1)) = σ1
  generalize h2 : sI σ1 49 7 (nI (g.tu 0)) = σ2
  have c2 : Cor σ σ2 := by rw [← h2, ← h1]; exact (Cor.rf.sI (s49 _) _).sI (s49 _) _
  have f6 : σ2.1 49 6 = nI (g.gH - 1) := by rw [← h2, sI_1, if_neg (by omega), ← h1, sI_1, if_pos ⟨rfl, rfl⟩]
  have f7 : σ2.1 49 7 = nI (g.tu 0) := by rw [← h2, sI_1, if_pos ⟨rfl, rfl⟩]
  refine pk_loop (fun n i τ => wp_X3_prepare_l18 Q n (nI cl) (nI i) τ) (fun i τ => Cor σ τ ∧ τ.1 49 6 = nI (g.gH - 1) ∧ τ.1 49 7 = nI (g.tu 0) ∧ ∃ op, (∀ r, r < i → τ.1 67 r = nI (op r) ∧ op r < 1024 ∧ ∀ c, c < 10 → (bitP (op r) c ↔ (c < g.gW ∧ ¬ bitP (g.bar r) c ∧ ¬ bitP cl c)))) g.gH 0 σ2 (by omega) ⟨c2, f6, f7, fun _ => 0, fun r hr => by omega⟩ (fun n τ hτ => ?_) (fun n i τ hi hτ hk => ?_)
  · show wp_X3_prepare_b18 _ _ _ _ _
    unfold wp_X3_prepare_b18
    obtain ⟨t1, t2, t3, op, t4⟩ := hτ
    rw [t2, pn_lt (by omega) (by omega)]
    refine ⟨fun _ => ?_, fun z => absurd (by omega) z⟩
    refine pk_loop (fun n i υ => wp_X3_prepare_l53 Q n (nI i) υ) (fun i υ => Cor σ υ ∧ υ.1 49 6 = nI (g.gH - 1) ∧ υ.1 49 7 = nI (g.tu 0) ∧ (∀ r, υ.1 67 r = τ.1 67 r) ∧ ∀ h, h < i → υ.1 68 h = 16 ∧ υ.1 74 h = 0) 3 0 τ (by omega) ⟨t1, t2, t3, fun _ => rfl, fun h hh => by omega⟩ (fun n υ hυ => ?_) (fun n i υ hi hυ hk => ?_)
    · show wp_X3_prepare_b53 _ _ _ _
      unfold wp_X3_prepare_b53
      obtain ⟨u1, u2, u3, u4, u5⟩ := hυ
      rw [u2]
      refine ⟨fun _ => forget_ok (by omega) (fun φ w1 w2 w3 => ?_), fun z => absurd (by decide) z⟩
      have cφ : Cor σ φ := by
        refine u1.tr ⟨fun k i n => w1 k i (fun z => n (by unfold Scr; omega)), by rw [w2], by rw [w2]⟩
      refine hq φ op cφ (fun r hr => (t4 r (by omega)).2) ⟨?_, ?_, fun r hr => ?_, fun h hh => ⟨?_, Nat.le_refl _, fun z => absurd (show 16 < 16 from z) (by omega), ?_⟩, w3⟩
      · rw [w1 _ _ (by omega)]; exact u2
      · rw [w1 _ _ (by omega)]; exact u3
      · rw [w1 _ _ (by omega), u4]; exact (t4 r (by omega)).1
      · rw [w1 _ _ (by omega)]; exact (u5 h hh).1
      · rw [w1 _ _ (by omega)]; exact (u5 h hh).2
    · show wp_X3_prepare_b53 _ _ _ _
      unfold wp_X3_prepare_b53
      obtain ⟨u1, u2, u3, u4, u5⟩ := hυ
      have nb : vp_nar .boolean (0 : Int32) = 0 := by decide
      rw [pn_in (by omega) (by omega), pn_cl (by omega), na1, nb]
      refine ⟨fun z => absurd z (nI_ge (b := 3) hi (by omega)), fun _ => ⟨by omega, by omega, hk _ ⟨(u1.sI (s68 _) _).sI (s74 _) _, ?_, ?_, fun r => ?_, fun h hh => ⟨?_, ?_⟩⟩⟩⟩
      · rw [sI_1, if_neg (by omega), sI_1, if_neg (by omega)]; exact u2
      · rw [sI_1, if_neg (by omega), sI_1, if_neg (by omega)]; exact u3
      · rw [sI_1, if_neg (by omega), sI_1, if_neg (by omega)]; exact u4 r
      · rw [sI_1, if_neg (by omega), sI_1]
        by_cases e : h = i
        · rw [if_pos ⟨rfl, e⟩]
        · rw [if_neg (by omega)]; exact (u5 h (by omega)).1
      · rw [sI_1]
        by_cases e : h = i
        · rw [if_pos ⟨rfl, e⟩]
        · rw [if_neg (by omega), sI_1, if_neg (by omega)]; exact (u5 h (by omega)).2
  · show wp_X3_prepare_b18 _ _ _ _ _
    unfold wp_X3_prepare_b18
    obtain ⟨t1, t2, t3, op, t4⟩ := hτ
    have hIt := hI.cor t1
    have bi := (hb.1 i (by omega)).2.2
    rw [t2, pn_lt (by omega) (by omega)]
    refine ⟨fun z => absurd z (by omega), fun _ => free_ok hIt.1 hIt.2.1 (by omega) ?_⟩
    obtain ⟨v, v1, v2, v3⟩ := andn (2 ^ g.gW - (g.bar i + 1)) cl (by omega) hcl
    rw [pn_in (by omega) (by omega), pn_cl (by omega), na1, fr_num g.gW (by omega) _ bi, v2]
    refine ⟨by omega, hk _ ⟨t1.sI (s67 _) _, ?_, ?_, fun r => if r = i then v else op r, fun r hr => ?_⟩⟩
    · rw [sI_1, if_neg (by omega)]; exact t2
    · rw [sI_1, if_neg (by omega)]; exact t3
    · rw [sI_1]
      dsimp only
      by_cases e : r = i
      · rw [if_pos ⟨rfl, e⟩, if_pos e]
        refine ⟨rfl, v1, fun c hc => ?_⟩
        rw [v3 c hc, fr_bit2 bi, e]
        exact ⟨fun z => ⟨z.1.1, z.1.2, z.2⟩, fun z => ⟨⟨z.1, z.2.1⟩, z.2.2⟩⟩
      · rw [if_neg (by omega), if_neg e]
        exact t4 r (by omega)
theorem PutX.put {fs st : Nat → Nat} (hH : g.gH ≤ 16) (H : PutX g op fs st τ) {h f s : Nat} (hh : h < 3) (hf : f ≤ 16) : PutX g op (fun i => if i = h then f else fs i) (fun i => if i = h then s else st i) (sI (sI τ 68 h (nI f)) 69 h (nI s)) := by
  obtain ⟨h1, h2, h3, h4, h5⟩ := H
  refine ⟨by rw [sI_1, if_neg (by omega), sI_1, if_neg (by omega)]; exact h1, by rw [sI_1, if_neg (by omega), sI_1, if_neg (by omega)]; exact h2, fun r hr => by rw [sI_1, if_neg (by omega), sI_1, if_neg (by omega)]; exact h3 r hr, fun i hi => ?_, ?_⟩
  · obtain ⟨a1, a2, a3, a4⟩ := h4 i hi
    dsimp only
    by_cases e : i = h
    · rw [if_pos e, if_pos e]
      refine ⟨by rw [sI_1, if_neg (by omega), sI_1, if_pos ⟨rfl, e⟩], hf, fun _ => by rw [sI_1, if_pos ⟨rfl, e⟩], by rw [sI_1, if_neg (by omega), sI_1, if_neg (by omega)]; exact a4⟩
    · rw [if_neg e, if_neg e]
      exact ⟨by rw [sI_1, if_neg (by omega), sI_1, if_neg (by omega)]; exact a1, a2, fun z => by rw [sI_1, if_neg (by omega), sI_1, if_neg (by omega)]; exact a3 z, by rw [sI_1, if_neg (by omega), sI_1, if_neg (by omega)]; exact a4⟩
  · intro r hr c hc
    rw [sI_1, if_neg (by omega), sI_1, if_neg (by omega)]
    exact h5 r hr c hc
/-- the members as the reference has them -/
def qL (m : Nat) (F G : Nat → Nat) (op : Nat → Nat) (gp la : Nat) : Prm := (fun i => if i < m then F i else 16, G, fun _ => false, fun _ _ => 0, op, gp, la)
theorem sp_of {m : Nat} {F G fs st π : Nat → Nat} (hd : IDim g σ) (htu : g.tu 0 ≤ 3) (hop : OpOK g 0 op) (hp : PutX g op fs st τ) (hF : ∀ h, h < 3 → fs h = (if π h < m then F (π h) else 16)) (hG : ∀ h, h < 3 → π h < m → st h = G (π h) ∧ st h < 10) : SP (permP π (qL m F G op (g.tu 0) (g.gH - 1))) τ ∧ Tab (permP π (qL m F G op (g.tu 0) (g.gH - 1))) τ := by
  have hd' := hd.1
  obtain ⟨h1, h2, h3, h4, h5⟩ := hp
  refine ⟨⟨by show g.gH - 1 ≤ 15; omega, htu, h1, h2, fun h hh => ?_, fun r hr => ⟨h3 r hr, (hop r hr).1⟩⟩, fun k hk c hc => Or.inl (h5 _ (by show g.gH - 1 - k ≤ g.gH - 1; omega) c hc)⟩
  obtain ⟨a1, a2, a3, a4⟩ := h4 h hh
  have e := hF h hh
  refine ⟨by show τ.1 68 h = nI (if π h < m then F (π h) else 16); rw [← e]; exact a1, by show (if π h < m then F (π h) else 16) ≤ 16; rw [← e]; exact a2, fun z => ?_, a4, fun z => absurd (show false = true from z) (by decide)⟩
  have z : (if π h < m then F (π h) else 16) ≤ g.gH - 1 := z
  by_cases y : π h < m
  · obtain ⟨b1, b2⟩ := hG h hh y
    refine ⟨?_, by show G (π h) < 10; omega⟩
    show τ.1 69 h = nI (G (π h))
    rw [← b1]
    exact a3 (by rw [e]; omega)
  · rw [if_neg y] at z
    omega
theorem putSet_ok {Q : St → Prop} {S : Nat} (hI : Inv g σ) (hS : S < 2 ^ g.gN) (hq : ∀ τ op, Cor σ τ → OpOK g 0 op → PutX g op (fun h => if S / 2 ^ h % 2 = 1 then g.co h else 16) g.cl τ → Q τ) : wp_X6_putSet (nI S) Q σ := by
  have hd := hI.1
  have hd' := hd.1
  have t0 := hI.2.2.2.1 0 (by omega)
  have s68 : ∀ i, Scr 68 i := fun i => by unfold Scr; omega
  have s69 : ∀ i, Scr 69 i := fun i => by unfold Scr; omega
  obtain ⟨S8, Sn⟩ := bits_lt g.gN (by omega) S hS
  unfold wp_X6_putSet
  rw [c0, t0.1]
  refine ⟨by unfold vp_in; decide, prepX_ok (cl := 0) hI (by omega) (fun τ op hc hop hp => ?_)⟩
  refine pk_loop (fun n i τ => wp_X6_putSet_l20 Q n (nI S) (nI i) τ) (fun i τ => Cor σ τ ∧ ∃ st, PutX g op (fun h => if h < i ∧ S / 2 ^ h % 2 = 1 then g.co h else 16) st τ ∧ ∀ h, h < i → S / 2 ^ h % 2 = 1 → st h = g.cl h) g.gN 0 τ (by omega) ⟨hc, fun _ => 0, ?_, fun h hh => by omega⟩ (fun n υ hυ => ?_) (fun n i υ hi hυ hk => ?_)
  · obtain ⟨h1, h2, h3, h4, h5⟩ := hp
    refine ⟨h1, h2, h3, fun h hh => ?_, h5⟩
    obtain ⟨a1, a2, a3, a4⟩ := h4 h hh
    dsimp only
    rw [if_neg (by omega)]
    exact ⟨a1, a2, fun z => by omega, a4⟩
  · show wp_X6_putSet_b20 _ _ _ _ _
    unfold wp_X6_putSet_b20
    obtain ⟨u1, st, u2, u3⟩ := hυ
    have hIu := hI.cor u1
    rw [hIu.1.2.2.2.1]
    refine ⟨fun _ => hq υ op u1 hop ?_, fun z => absurd (nI_le (Nat.le_refl _) (by omega)) z⟩
    obtain ⟨h1, h2, h3, h4, h5⟩ := u2
    refine ⟨h1, h2, h3, fun h hh => ?_, h5⟩
    obtain ⟨a1, a2, a3, a4⟩ := h4 h hh
    dsimp only at a1 a2 a3 ⊢
    by_cases e : S / 2 ^ h % 2 = 1
    · have hn : h < g.gN := by
        by_cases z : h < g.gN
        · exact z
        · exact absurd e (Sn h hh (by omega))
      rw [if_pos ⟨hn, e⟩] at a1 a2 a3
      rw [if_pos e]
      exact ⟨a1, a2, fun z => by rw [a3 z, u3 h hn e], a4⟩
    · rw [if_neg (fun z => e z.2)] at a1 a2 a3
      rw [if_neg e]
      exact ⟨a1, a2, fun z => by omega, a4⟩
  · show wp_X6_putSet_b20 _ _ _ _ _
    unfold wp_X6_putSet_b20
    obtain ⟨u1, st, u2, u3⟩ := hυ
    have hIu := hI.cor u1
    obtain ⟨⟨a1, -, a3⟩, ⟨b1, -, b3⟩, -⟩ := hIu.2.2.1 i hi
    have bv : (nI S >>> (nI i &&& 31)) &&& 1 = nI (S / 2 ^ i % 2) := bit_val (by omega) (by omega)
    rw [hIu.1.2.2.2.1, bv, show (0 : Int32) = nI 0 from rfl, pn_eq (by omega) (by omega), na1, pn_in (by omega) (by omega), pn_cl (by omega), a1, b1]
    have nxt : ∀ υ' st', Cor σ υ' → PutX g op (fun h => if h < i + 1 ∧ S / 2 ^ h % 2 = 1 then g.co h else 16) st' υ' → (∀ h, h < i + 1 → S / 2 ^ h % 2 = 1 → st' h = g.cl h) → wp_X6_putSet_l20 Q n (nI S) (nI (i + 1)) υ' := fun υ' st' h1 h2 h3 => hk υ' ⟨h1, st', h2, h3⟩
    refine ⟨fun z => absurd z (nI_ge hi (by omega)), fun _ => ⟨fun z => nxt υ st u1 ?_ (fun h hh e => ?_), fun z => ⟨by omega, by omega, ?_⟩⟩⟩
    · have : (fun h => if h < i + 1 ∧ S / 2 ^ h % 2 = 1 then g.co h else 16) = (fun h => if h < i ∧ S / 2 ^ h % 2 = 1 then g.co h else 16) := by
        funext h
        by_cases e : h = i
        · rw [if_neg (by rw [e]; omega), if_neg (by omega)]
        · by_cases y : h < i ∧ S / 2 ^ h % 2 = 1
          · rw [if_pos y, if_pos ⟨by omega, y.2⟩]
          · rw [if_neg y, if_neg (fun x => y ⟨by omega, x.2⟩)]
      rw [this]
      exact u2
    · by_cases y : h = i
      · rw [y] at e; omega
      · exact u3 h (by omega) e
    · unfold wp_X3_put
      rw [pn_in (by omega) (by omega), pn_cl (by omega)]
      have H := u2.put hd'.2.2.2.1 (h := i) (f := g.co i) (s := g.cl i) (by omega) (by omega)
      refine ⟨by omega, by omega, nxt _ (fun h => if h = i then g.cl i else st h) ((u1.sI (s68 _) _).sI (s69 _) _) ?_ (fun h hh e => ?_)⟩
      · have : (fun h => if h < i + 1 ∧ S / 2 ^ h % 2 = 1 then g.co h else 16) = (fun i_1 => if i_1 = i then g.co i else (if i_1 < i ∧ S / 2 ^ i_1 % 2 = 1 then g.co i_1 else 16)) := by
          funext h
          by_cases e : h = i
          · rw [if_pos e, if_pos ⟨by omega, by rw [e]; omega⟩, e]
          · rw [if_neg e]
            by_cases y : h < i ∧ S / 2 ^ h % 2 = 1
            · rw [if_pos y, if_pos ⟨by omega, y.2⟩]
            · rw [if_neg y, if_neg (fun x => y ⟨by omega, x.2⟩)]
        rw [this]
        exact H
      · show (if h = i then g.cl i else st h) = g.cl h
        by_cases y : h = i
        · rw [if_pos y, y]
        · rw [if_neg y]; exact u3 h (by omega) e
/-! the reference's members -/
def AddR (m r0 low : Nat) (c kv : Int32) (τ υ : St) : Prop := υ.1 90 m = nI r0 ∧ υ.1 91 m = c ∧ υ.1 92 m = kv ∧ υ.1 75 21 = nI (m + 1) ∧ υ.1 75 26 = nI (min r0 low) ∧ (∀ k i, ¬ ((k = 90 ∨ k = 91 ∨ k = 92) ∧ i = m) → ¬ (k = 75 ∧ (i = 21 ∨ i = 26)) → υ.1 k i = τ.1 k i) ∧ υ.2 = τ.2
theorem AddR.cor {m r0 low : Nat} {c kv : Int32} {υ : St} (H : AddR m r0 low c kv τ υ) : Cor τ υ := by
  obtain ⟨-, -, -, -, -, h, h2⟩ := H
  exact ⟨fun k i n => h k i (fun z => n (by unfold Scr; omega)) (fun z => n (by unfold Scr; omega)), by rw [h2], by rw [h2]⟩
theorem add_ok {Q : St → Prop} {m r0 low : Nat} {c kv : Int32} (hm : m < 3) (h21 : τ.1 75 21 = nI m) (h26 : τ.1 75 26 = nI low) (hl : low ≤ 16) (hr : r0 ≤ 16) (hq : ∀ υ, AddR m r0 low c kv τ υ → Q υ) : wp_X7_add (nI r0) c kv Q τ := by
  unfold wp_X7_add
  rw [h21, pn_in (by omega) (by omega), pn_cl (by omega)]
  generalize h1 : sI τ 90 m (nI r0) = τ1
  have e1 : τ1.1 75 21 = nI m := by rw [← h1, sI_1, if_neg (by omega), h21]
  rw [e1, pn_in (by omega) (by omega), pn_cl (by omega)]
  generalize h2 : sI τ1 91 m c = τ2
  have e2 : τ2.1 75 21 = nI m := by rw [← h2, sI_1, if_neg (by omega), e1]
  rw [e2, pn_in (by omega) (by omega), pn_cl (by omega)]
  generalize h3 : sI τ2 92 m kv = τ3
  have e3 : τ3.1 75 21 = nI m := by rw [← h3, sI_1, if_neg (by omega), e2]
  rw [e3, na1]
  generalize h4 : sI τ3 75 21 (nI (m + 1)) = τ4
  have rd : ∀ k i, ¬ ((k = 90 ∨ k = 91 ∨ k = 92) ∧ i = m) → ¬ (k = 75 ∧ i = 21) → τ4.1 k i = τ.1 k i := by
    intro k i n1 n2
    rw [← h4, sI_1, if_neg n2, ← h3, sI_1, if_neg (by omega), ← h2, sI_1, if_neg (by omega), ← h1, sI_1, if_neg (by omega)]
  have j2 : τ4.2 = τ.2 := by rw [← h4, sI_2, ← h3, sI_2, ← h2, sI_2, ← h1, sI_2]
  have e4 : τ4.1 75 26 = nI low := by rw [rd _ _ (by omega) (by omega), h26]
  have f90 : τ4.1 90 m = nI r0 := by rw [← h4, sI_1, if_neg (by omega), ← h3, sI_1, if_neg (by omega), ← h2, sI_1, if_neg (by omega), ← h1, sI_1, if_pos ⟨rfl, rfl⟩]
  have f91 : τ4.1 91 m = c := by rw [← h4, sI_1, if_neg (by omega), ← h3, sI_1, if_neg (by omega), ← h2, sI_1, if_pos ⟨rfl, rfl⟩]
  have f92 : τ4.1 92 m = kv := by rw [← h4, sI_1, if_neg (by omega), ← h3, sI_1, if_pos ⟨rfl, rfl⟩]
  have f21 : τ4.1 75 21 = nI (m + 1) := by rw [← h4, sI_1, if_pos ⟨rfl, rfl⟩]
  rw [e4, pn_le (by omega) (by omega)]
  refine ⟨by omega, by omega, by omega, fun z => hq _ ?_, fun z => hq _ ?_⟩
  · refine ⟨?_, ?_, ?_, ?_, ?_, fun k i n1 n2 => ?_, j2⟩
    · rw [sI_1, if_neg (by omega)]; exact f90
    · rw [sI_1, if_neg (by omega)]; exact f91
    · rw [sI_1, if_neg (by omega)]; exact f92
    · rw [sI_1, if_neg (by omega)]; exact f21
    · rw [sI_1, if_pos ⟨rfl, rfl⟩]
      first | exact congrArg nI (by omega) | (rw [e4]; exact congrArg nI (by omega))
    · rw [sI_1, if_neg (by omega)]; exact rd k i n1 (by omega)
  · refine ⟨?_, ?_, ?_, ?_, ?_, fun k i n1 n2 => ?_, j2⟩
    · rw [sI_1, if_neg (by omega)]; exact f90
    · rw [sI_1, if_neg (by omega)]; exact f91
    · rw [sI_1, if_neg (by omega)]; exact f92
    · rw [sI_1, if_neg (by omega)]; exact f21
    · rw [sI_1, if_pos ⟨rfl, rfl⟩]
      first | exact congrArg nI (by omega) | (rw [e4]; exact congrArg nI (by omega))
    · rw [sI_1, if_neg (by omega)]; exact rd k i n1 (by omega)
end PX
