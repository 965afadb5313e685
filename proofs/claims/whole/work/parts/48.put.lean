/-! the class's search made ready -/
def cB (S h : Nat) : Nat := (if 0 < h then S % 2 else 0) + (if 1 < h then S / 2 % 2 else 0) + (if 2 < h then S / 4 % 2 else 0)
def memS (S i : Nat) : Nat := if cB S 1 = i + 1 then 0 else if cB S 2 = i + 1 then 1 else 2
def piS (S h : Nat) : Nat := if S / 2 ^ h % 2 = 1 then cB S h else cB S 3 + (h - cB S h)
theorem pi_bij : ∀ S, S < 8 → Bij (piS S) := by unfold Bij; decide
theorem pi_in : ∀ S, S < 8 → ∀ h, h < 3 → (S / 2 ^ h % 2 = 1 → piS S h < cB S 3 ∧ memS S (piS S h) = h) ∧ (¬ S / 2 ^ h % 2 = 1 → cB S 3 ≤ piS S h) := by decide
theorem mem_in : ∀ S, S < 8 → ∀ i, i < cB S 3 → memS S i < 3 ∧ S / 2 ^ memS S i % 2 = 1 ∧ piS S (memS S i) = i := by decide
theorem cB_s : ∀ S, S < 8 → ∀ h, h < 3 → cB S (h + 1) = cB S h + S / 2 ^ h % 2 := by decide
theorem mem_c : ∀ S, S < 8 → ∀ h, h < 3 → S / 2 ^ h % 2 = 1 → memS S (cB S h) = h := by decide
theorem cB_le : ∀ S, S < 8 → ∀ h, h < 4 → cB S h ≤ 3 := by decide
theorem cB_pos : ∀ S, S < 8 → 1 ≤ S → 1 ≤ cB S 3 := by decide
theorem bits_lt : ∀ n, n < 4 → ∀ S, S < 2 ^ n → S < 8 ∧ ∀ h, h < 3 → n ≤ h → ¬ S / 2 ^ h % 2 = 1 := by decide
theorem andn (a b : Nat) (ha : a < 1024) (hb : b < 1024) : ∃ o, o < 1024 ∧ nI a &&& (nI b ^^^ (-1)) = nI o ∧ ∀ c, c < 10 → (bitP o c ↔ (bitP a c ∧ ¬ bitP b c)) := by
  have ta : (nI a).toBitVec.toNat = a := pk_tn (by omega)
  have tb' : (nI b).toBitVec.toNat = b := pk_tn (by omega)
  have ones : (-1 : Int32).toBitVec = BitVec.allOnes 32 := by decide
  refine ⟨(nI a &&& (nI b ^^^ (-1))).toBitVec.toNat, ?_, ?_, fun c hc => ?_⟩
  · rw [Int32.toBitVec_and, BitVec.toNat_and, ta]
    exact Nat.lt_of_le_of_lt Nat.and_le_left ha
  · apply Int32.toBitVec_inj.mp
    apply BitVec.eq_of_toNat_eq
    have lt : (nI a &&& (nI b ^^^ (-1))).toBitVec.toNat < 2 ^ 32 := BitVec.isLt _
    exact (pk_tn lt).symm
  · have h : (nI a &&& (nI b ^^^ (-1))).toBitVec.toNat.testBit c = (a.testBit c && !b.testBit c) := by
      rw [BitVec.testBit_toNat, Int32.toBitVec_and, BitVec.getLsbD_and, Int32.toBitVec_xor, BitVec.getLsbD_xor, ones, BitVec.getLsbD_allOnes, ← BitVec.testBit_toNat, ← BitVec.testBit_toNat, ta, tb']
      simp [show c < 32 by omega]
    rw [tb, tb, tb] at h
    have h2 := congrArg (· = true) h
    simp only [decide_eq_true_eq, Bool.and_eq_true, Bool.not_eq_true', decide_eq_false_iff_not, eq_iff_iff] at h2
    exact h2
theorem fr_bit2 {w b c : Nat} (hb : b < 2 ^ w) : bitP (2 ^ w - (b + 1)) c ↔ (c < w ∧ ¬ bitP b c) := by
  have h := Nat.testBit_two_pow_sub_succ hb c
  rw [tb, tb] at h
  have h2 := congrArg (· = true) h
  simp only [decide_eq_true_eq, Bool.and_eq_true, Bool.not_eq_true', decide_eq_false_iff_not, eq_iff_iff] at h2
  exact h2
def OpOK (g : Geo) (cl : Nat) (op : Nat → Nat) : Prop := ∀ r, r ≤ g.gH - 1 → op r < 1024 ∧ ∀ c, c < 10 → (bitP (op r) c ↔ (c < g.gW ∧ ¬ bitP (g.bar r) c ∧ ¬ bitP cl c))
theorem pw_bit : ∀ s, s < 10 → ∀ c, c < 10 → (2 ^ s / 2 ^ c % 2 = 1 ↔ c = s) := by decide
theorem one_bit : ∀ c, c < 10 → (1 / 2 ^ c % 2 = 1 ↔ c = 0) := by decide
/-- the columns of a hearth that begins in course f and column s -/
def oneF (op : Nat → Nat) (f s r c : Nat) : Prop := (r < f ∧ c = 0) ∨ (f ≤ r ∧ bitP (op r) c ∧ (r = f → c = s))
/-- which places are put, where -/
def PutP (g : Geo) (op : Nat → Nat) (fs st : Nat → Nat) (τ : St) : Prop := τ.1 49 4 = nI (g.gH - 1) ∧ τ.1 49 5 = nI (g.tu 0) ∧ (∀ r, r ≤ g.gH - 1 → τ.1 69 r = nI (op r) ∧ op r < 1024) ∧ ∀ h, h < 3 → τ.1 68 h = nI (fs h) ∧ fs h ≤ 16 ∧ ∀ r, r ≤ g.gH - 1 → Mk τ h r (oneF op (fs h) (st h) r)
/-- nothing is known yet -/
def PutX (g : Geo) (op : Nat → Nat) (fs st : Nat → Nat) (τ : St) : Prop := PutP g op fs st τ ∧ ∀ r, r ≤ g.gH → ∀ c, c < 1000 → τ.1 (51 + r) c = 0
/-- but for one hearth's beginning and its bits -/
def OffP (h : Nat) (τ υ : St) : Prop := (∀ k j, ¬ (k = 68 ∧ j = h) → ¬ k = 71 + h → υ.1 k j = τ.1 k j) ∧ υ.2 = τ.2
theorem OffP.cor {h : Nat} {τ υ : St} (hh : h < 3) (f : OffP h τ υ) : Cor τ υ := ⟨fun k i n => f.1 k i (fun z => n (by unfold Scr; omega)) (fun z => n (by unfold Scr; omega)), by rw [f.2], by rw [f.2]⟩
section PX
variable {g : Geo} {σ τ : St} {K : St → Prop} {F : Prop} {h : Nat} {op : Nat → Nat}
theorem forget_ok {Q : St → Prop} {top : Nat} (ht : top ≤ 16) (hq : ∀ υ, (∀ k i, ¬ (51 ≤ k ∧ k ≤ 51 + top) → υ.1 k i = τ.1 k i) → υ.2 = τ.2 → (∀ r, r ≤ top → ∀ c, c < 1000 → υ.1 (51 + r) c = 0) → Q υ) : wp_X3_forgetUpTo (nI top) Q τ := by
  unfold wp_X3_forgetUpTo
  refine pk_loop (fun n i υ => wp_X3_forgetUpTo_l2 Q n (nI top) (nI i) υ) (fun i υ => (∀ k j, ¬ (51 ≤ k ∧ k < 51 + i) → υ.1 k j = τ.1 k j) ∧ υ.2 = τ.2 ∧ ∀ r, r < i → ∀ c, c < 1000 → υ.1 (51 + r) c = 0) (top + 1) 0 τ (by omega) ⟨fun _ _ _ => rfl, rfl, fun r hr => by omega⟩ (fun n υ hυ => ?_) (fun n i υ hi hυ hk => ?_)
  · show wp_X3_forgetUpTo_b2 _ _ _ _ _
    unfold wp_X3_forgetUpTo_b2
    obtain ⟨u1, u2, u3⟩ := hυ
    have fin := hq υ (fun k i n => u1 k i (by omega)) u2 (fun r hr => u3 r (by omega))
    rw [pn_lt (by omega) (by omega)]
    exact ⟨fun _ => fin, fun z => absurd (by omega) z⟩
  · show wp_X3_forgetUpTo_b2 _ _ _ _ _
    unfold wp_X3_forgetUpTo_b2 wp_fillI
    obtain ⟨u1, u2, u3⟩ := hυ
    rw [pn_lt (by omega) (by omega), show (16 : Int32) = nI 16 from rfl, pn_lt (by omega) (by omega), pn_in (by omega) (by omega), pn_cl (by omega), na1]
    refine ⟨fun z => absurd z (by omega), fun _ => ⟨fun z => absurd z (by omega), fun _ => ⟨by omega, hk _ ⟨fun k j n => ?_, u2, fun r hr c hc => ?_⟩⟩⟩⟩
    · rw [sR_1, if_neg (by omega)]
      exact u1 k j (by omega)
    · rw [sR_1]
      by_cases e : r = i
      · rw [if_pos (by omega), if_pos hc]
      · rw [if_neg (by omega)]
        exact u3 r (by omega) c hc
theorem prepX_ok {Q : St → Prop} {cl : Nat} (hI : Inv g σ) (hcl : cl < 1024) (hq : ∀ τ op, Cor σ τ → OpOK g cl op → PutX g op (fun _ => 16) (fun _ => 0) τ → Q τ) : wp_X3_prepare (nI (g.tu 0)) (nI cl) Q σ := by
  have hd := hI.1
  have hd' := hd.1
  have hb := hI.2.1
  have pw := pow_le hd'.2.1
  have s49 : ∀ i, Scr 49 i := fun i => by unfold Scr; omega
  have s69 : ∀ i, Scr 69 i := fun i => by unfold Scr; omega
  have s68 : ∀ i, Scr 68 i := fun i => by unfold Scr; omega
  unfold wp_X3_prepare
  rw [hd.2.2.1, ns1 (by omega)]
  generalize h1 : sI σ 49 4 (nI (g.gH - 1)) = σ1
  generalize h2 : sI σ1 49 5 (nI (g.tu 0)) = σ2
  have c2 : Cor σ σ2 := by rw [← h2, ← h1]; exact (Cor.rf.sI (s49 _) _).sI (s49 _) _
  have f6 : σ2.1 49 4 = nI (g.gH - 1) := by rw [← h2, sI_1, if_neg (by omega), ← h1, sI_1, if_pos ⟨rfl, rfl⟩]
  have f7 : σ2.1 49 5 = nI (g.tu 0) := by rw [← h2, sI_1, if_pos ⟨rfl, rfl⟩]
  refine pk_loop (fun n i τ => wp_X3_prepare_l18 Q n (nI cl) (nI i) τ) (fun i τ => Cor σ τ ∧ τ.1 49 4 = nI (g.gH - 1) ∧ τ.1 49 5 = nI (g.tu 0) ∧ ∃ op, (∀ r, r < i → τ.1 69 r = nI (op r) ∧ op r < 1024 ∧ ∀ c, c < 10 → (bitP (op r) c ↔ (c < g.gW ∧ ¬ bitP (g.bar r) c ∧ ¬ bitP cl c)))) g.gH 0 σ2 (by omega) ⟨c2, f6, f7, fun _ => 0, fun r hr => by omega⟩ (fun n τ hτ => ?_) (fun n i τ hi hτ hk => ?_)
  · show wp_X3_prepare_b18 _ _ _ _ _
    unfold wp_X3_prepare_b18
    obtain ⟨t1, t2, t3, op, t4⟩ := hτ
    rw [t2, pn_lt (by omega) (by omega)]
    refine ⟨fun _ => ?_, fun z => absurd (by omega) z⟩
    refine pk_loop (fun n i υ => wp_X3_prepare_l53 Q n (nI i) υ) (fun i υ => Cor σ υ ∧ υ.1 49 4 = nI (g.gH - 1) ∧ υ.1 49 5 = nI (g.tu 0) ∧ (∀ r, υ.1 69 r = τ.1 69 r) ∧ ∀ h, h < i → υ.1 68 h = 16 ∧ ∀ r, r < 16 → υ.1 (71 + h) r = 1) 3 0 τ (by omega) ⟨t1, t2, t3, fun _ => rfl, fun h hh => by omega⟩ (fun n υ hυ => ?_) (fun n i υ hi hυ hk => ?_)
    · show wp_X3_prepare_b53 _ _ _ _
      unfold wp_X3_prepare_b53
      obtain ⟨u1, u2, u3, u4, u5⟩ := hυ
      rw [u2, na1]
      refine ⟨fun _ => forget_ok (by omega) (fun φ w1 w2 w3 => ?_), fun z => absurd (by decide) z⟩
      have cφ : Cor σ φ := by
        refine u1.tr ⟨fun k i n => w1 k i (fun z => n (by unfold Scr; omega)), by rw [w2], by rw [w2]⟩
      refine hq φ op cφ (fun r hr => (t4 r (by omega)).2) ⟨⟨?_, ?_, fun r hr => ⟨?_, (t4 r (by omega)).2.1⟩, fun h hh => ⟨?_, Nat.le_refl _, fun r hr => ⟨1, ?_, by omega, fun c hc => ?_⟩⟩⟩, fun r hr => w3 r (by omega)⟩
      · rw [w1 _ _ (by omega)]; exact u2
      · rw [w1 _ _ (by omega)]; exact u3
      · rw [w1 _ _ (by omega), u4]; exact (t4 r (by omega)).1
      · rw [w1 _ _ (by omega)]; exact (u5 h hh).1
      · rw [w1 _ _ (by omega)]; exact (u5 h hh).2 r (by omega)
      · show bitP 1 c ↔ oneF op 16 0 r c
        unfold bitP oneF
        rw [one_bit c hc]
        exact ⟨fun z => Or.inl ⟨by omega, z⟩, fun z => by omega⟩
    · show wp_X3_prepare_b53 _ _ _ _
      unfold wp_X3_prepare_b53 wp_fillI
      obtain ⟨u1, u2, u3, u4, u5⟩ := hυ
      rw [pn_in (by omega) (by omega), pn_cl (by omega), na1]
      refine ⟨fun z => absurd z (nI_ge (b := 3) hi (by omega)), fun _ => ⟨by omega, by omega, hk _ ⟨(u1.sI (s68 _) _).sR (fun j => by unfold Scr; omega) _, ?_, ?_, fun r => ?_, fun h hh => ⟨?_, fun r hr => ?_⟩⟩⟩⟩
      · rw [sR_1, if_neg (by omega), sI_1, if_neg (by omega)]; exact u2
      · rw [sR_1, if_neg (by omega), sI_1, if_neg (by omega)]; exact u3
      · rw [sR_1, if_neg (by omega), sI_1, if_neg (by omega)]; exact u4 r
      · rw [sR_1, if_neg (by omega), sI_1]
        by_cases e : h = i
        · rw [if_pos ⟨rfl, e⟩]
        · rw [if_neg (by omega)]; exact (u5 h (by omega)).1
      · rw [sR_1]
        by_cases e : h = i
        · rw [if_pos (by omega), if_pos hr]
        · rw [if_neg (by omega), sI_1, if_neg (by omega)]; exact (u5 h (by omega)).2 r hr
  · show wp_X3_prepare_b18 _ _ _ _ _
    unfold wp_X3_prepare_b18
    obtain ⟨t1, t2, t3, op, t4⟩ := hτ
    have hIt := hI.cor t1
    have bi := (hb.1 i (by omega)).2.2
    rw [t2, pn_lt (by omega) (by omega)]
    refine ⟨fun z => absurd z (by omega), fun _ => free_ok hIt.1 hIt.2.1 (by omega) ?_⟩
    obtain ⟨v, v1, v2, v3⟩ := andn (2 ^ g.gW - (g.bar i + 1)) cl (by omega) hcl
    rw [pn_in (by omega) (by omega), pn_cl (by omega), na1, fr_num g.gW (by omega) _ bi, v2]
    refine ⟨by omega, hk _ ⟨t1.sI (s69 _) _, ?_, ?_, fun r => if r = i then v else op r, fun r hr => ?_⟩⟩
    · rw [sI_1, if_neg (by omega)]; exact t2
    · rw [sI_1, if_neg (by omega)]; exact t3
    · rw [sI_1]
      dsimp only
      by_cases e : r = i
      · rw [if_pos ⟨rfl, e⟩, if_pos e]
        refine ⟨rfl, v1, fun c hc => ?_⟩
        rw [v3 c hc, fr_bit2 bi, e]
        exact ⟨fun z => ⟨z.1.1, z.1.2, z.2⟩, fun z => ⟨⟨z.1, z.2.1⟩, z.2.2⟩⟩
      · rw [if_neg (by omega), if_neg e]
        exact t4 r (by omega)
/-- one hearth is put -/
theorem put_ok {Q : St → Prop} {f s : Nat} (hH : 1 ≤ g.gH ∧ g.gH ≤ 16) (hh : h < 3) (hf : f ≤ g.gH - 1) (hs : s < 10) (ho : ∀ r, r ≤ g.gH - 1 → τ.1 69 r = nI (op r) ∧ op r < 1024) (hm : ∀ r, r < f → Mk τ h r (fun c => c = 0)) (hq : ∀ υ, OffP h τ υ → υ.1 68 h = nI f → (∀ r, r ≤ g.gH - 1 → Mk υ h r (oneF op f s r)) → Q υ) : wp_X3_put (nI h) (nI f) (nI s) Q τ := by
  unfold wp_X3_put
  have key : ∀ A : Nat → Int32, (∀ j, j < f → A j = τ.1 (71 + h) j) → (∀ j, f ≤ j → j < 16 → A j = τ.1 69 j) → Q (sI (sR (sI τ 68 h (nI f)) (70 + 1 + h) A) (70 + 1 + h) f (((sR (sI τ 68 h (nI f)) (70 + 1 + h) A).1 (70 + 1 + h) f) &&& ((1 : Int32) <<< (nI s &&& 31)))) := by
    intro A a1 a2
    have e : (sR (sI τ 68 h (nI f)) (70 + 1 + h) A).1 (70 + 1 + h) f = A f := by rw [sR_1, if_pos rfl]
    have p2 : 2 ^ s ≤ 2 ^ 9 := Nat.pow_le_pow_right (by omega) (by omega)
    obtain ⟨o, o1, o2, o3⟩ := andI (b := 2 ^ s) (ho f hf).2 (by omega)
    rw [e, a2 f (Nat.le_refl _) (by omega), (ho f hf).1, shl1 s hs, o2]
    refine hq _ ⟨fun k j n1 n2 => ?_, rfl⟩ ?_ (fun r hr => ?_)
    · rw [sI_1, if_neg (by omega), sR_1, if_neg (by omega), sI_1, if_neg n1]
    · rw [sI_1, if_neg (by omega), sR_1, if_neg (by omega), sI_1, if_pos ⟨rfl, rfl⟩]
    · have rd : ∀ j, (sI (sR (sI τ 68 h (nI f)) (70 + 1 + h) A) (70 + 1 + h) f (nI o)).1 (71 + h) j = if j = f then nI o else A j := by
        intro j
        rw [sI_1]
        by_cases z : j = f
        · rw [if_pos ⟨by omega, z⟩, if_pos z]
        · rw [if_neg (by omega), if_neg z, sR_1, if_pos (by omega)]
      by_cases e1 : r = f
      · refine ⟨o, by rw [rd, if_pos e1], o1, fun c hc => ?_⟩
        rw [o3 c, e1]
        unfold oneF
        have b2 : bitP (2 ^ s) c ↔ c = s := pw_bit s hs c hc
        rw [b2]
        exact ⟨fun z => Or.inr ⟨Nat.le_refl _, z.1, fun _ => z.2⟩, fun z => by
          rcases z with z | z
          · omega
          · exact ⟨z.2.1, z.2.2 rfl⟩⟩
      · by_cases e2 : r < f
        · obtain ⟨m, m1, m2, m3⟩ := hm r e2
          refine ⟨m, by rw [rd, if_neg e1, a1 r e2]; exact m1, m2, fun c hc => ?_⟩
          rw [m3 c hc]
          unfold oneF
          exact ⟨fun z => Or.inl ⟨e2, z⟩, fun z => by omega⟩
        · refine ⟨op r, by rw [rd, if_neg e1, a2 r (by omega) (by omega)]; exact (ho r hr).1, (ho r hr).2, fun c hc => ?_⟩
          unfold oneF
          exact ⟨fun z => Or.inr ⟨by omega, z, fun y => absurd y e1⟩, fun z => by
            rcases z with z | z
            · omega
            · exact z.2.1⟩
  have n0 : ∀ x : Nat, x < 17 → ¬ nI x < 0 := fun x hx => nI_pos (by omega)
  have eS : (16 : Int32) - nI f = nI (16 - f) := pk_sub (a := 16) (by omega)
  rw [eS, pn_in (by omega) (by omega), pn_in (by omega) (by omega), pn_cl (by omega), pn_cl (by omega), pn_cl (by omega)]
  refine ⟨by omega, by omega, ⟨n0 f (by omega), n0 f (by omega), n0 _ (by omega), by omega, by omega⟩, by omega, by omega, by omega, key _ (fun j hj => ?_) (fun j h1 h2 => ?_)⟩
  · rw [pk_cpy_out (Or.inl hj), sI_1, if_neg (by omega), show 70 + 1 + h = 71 + h by omega]
  · rw [pk_cpy_in h1 (by omega), sI_1, if_neg (by omega), show f + (j - f) = j by omega]
theorem putP_ok {Q : St → Prop} {fs st : Nat → Nat} {f s : Nat} (hH : 1 ≤ g.gH ∧ g.gH ≤ 16) (hh : h < 3) (hf : f ≤ g.gH - 1) (hs : s < 10) (H : PutP g op fs st τ) (hl : f ≤ fs h) (hq : ∀ υ, OffP h τ υ → PutP g op (fun i => if i = h then f else fs i) (fun i => if i = h then s else st i) υ → Q υ) : wp_X3_put (nI h) (nI f) (nI s) Q τ := by
  obtain ⟨h1, h2, h3, h4⟩ := H
  refine put_ok hH hh hf hs h3 (fun r hr => ((h4 h hh).2.2 r (by omega)).i (fun c hc => ?_)) (fun υ hυ u1 u2 => hq υ hυ ⟨?_, ?_, fun r hr => ?_, fun i hi => ?_⟩)
  · unfold oneF
    exact ⟨fun z => by omega, fun z => Or.inl ⟨by omega, z⟩⟩
  · rw [hυ.1 _ _ (by omega) (by omega)]; exact h1
  · rw [hυ.1 _ _ (by omega) (by omega)]; exact h2
  · rw [hυ.1 _ _ (by omega) (by omega)]; exact h3 r hr
  · obtain ⟨a1, a2, a3⟩ := h4 i hi
    dsimp only
    by_cases e : i = h
    · rw [if_pos e, if_pos e, e]
      exact ⟨u1, by omega, u2⟩
    · rw [if_neg e, if_neg e]
      exact ⟨by rw [hυ.1 _ _ (by omega) (by omega)]; exact a1, a2, fun r hr => (a3 r hr).of (hυ.1 _ _ (by omega) (by omega))⟩
/-- the members as the reference has them -/
def qL (m : Nat) (F G : Nat → Nat) (op : Nat → Nat) (gp la : Nat) : Prm := (fun i => if i < m then F i else 16, G, fun _ => false, fun _ _ => 0, op, gp, la)
theorem spP_of {m : Nat} {F G fs st π : Nat → Nat} (hd : IDim g σ) (htu : g.tu 0 ≤ 3) (hp : PutP g op fs st τ) (hF : ∀ h, h < 3 → fs h = (if π h < m then F (π h) else 16)) (hG : ∀ h, h < 3 → π h < m → st h = G (π h) ∧ st h < 10) : SP (permP π (qL m F G op (g.tu 0) (g.gH - 1))) τ := by
  have hd' := hd.1
  obtain ⟨h1, h2, h3, h4⟩ := hp
  refine ⟨by show g.gH - 1 ≤ 15; omega, htu, h1, h2, fun h hh => ?_⟩
  obtain ⟨a1, a2, a3⟩ := h4 h hh
  have e := hF h hh
  have ef : (permP π (qL m F G op (g.tu 0) (g.gH - 1))).fs h = fs h := e.symm
  rw [ef]
  refine ⟨a1, a2, ⟨fun z => ?_, fun z => absurd (show false = true from z) (by decide)⟩, fun r hr => (a3 r hr).i (fun c hc => ?_)⟩
  · rw [ef] at z
    have z : fs h ≤ g.gH - 1 := z
    by_cases y : π h < m
    · obtain ⟨b1, b2⟩ := hG h hh y
      show G (π h) < 10
      omega
    · rw [if_neg y] at e
      omega
  · have hr : r ≤ g.gH - 1 := hr
    unfold oneC
    rw [ef]
    unfold oneF
    show _ ↔ ((r < fs h ∧ c = 0) ∨ (fs h ≤ r ∧ bitP (op r) c ∧ (r = fs h → c = G (π h)) ∧ (false = true → c = 0)))
    by_cases y : π h < m
    · obtain ⟨b1, b2⟩ := hG h hh y
      rw [b1]
      exact ⟨fun z => z.imp id (fun z => ⟨z.1, z.2.1, z.2.2, fun w => absurd w (by decide)⟩), fun z => z.imp id (fun z => ⟨z.1, z.2.1, z.2.2.1⟩)⟩
    · rw [if_neg y] at e
      exact ⟨fun z => by
        rcases z with z | z
        · exact Or.inl z
        · omega, fun z => by
        rcases z with z | z
        · exact Or.inl z
        · omega⟩
theorem sp_of {m : Nat} {F G fs st π : Nat → Nat} (hd : IDim g σ) (htu : g.tu 0 ≤ 3) (hp : PutX g op fs st τ) (hF : ∀ h, h < 3 → fs h = (if π h < m then F (π h) else 16)) (hG : ∀ h, h < 3 → π h < m → st h = G (π h) ∧ st h < 10) : SP (permP π (qL m F G op (g.tu 0) (g.gH - 1))) τ ∧ ∀ a, Tab a (permP π (qL m F G op (g.tu 0) (g.gH - 1))) τ := by
  have hd' := hd.1
  exact ⟨spP_of hd htu hp.1 hF hG, fun a k hk c hc => Or.inl (hp.2 _ (by show g.gH - 1 + 1 - k ≤ g.gH; omega) c hc)⟩
theorem putSet_ok {Q : St → Prop} {S : Nat} (hI : Inv g σ) (hS : S < 2 ^ g.gN) (hq : ∀ τ op, Cor σ τ → OpOK g 0 op → PutX g op (fun h => if S / 2 ^ h % 2 = 1 then g.co h else 16) g.cl τ → Q τ) : wp_X6_putSet (nI S) Q σ := by
  have hd := hI.1
  have hd' := hd.1
  have t0 := hI.2.2.2.1 0 (by omega)
  obtain ⟨S8, Sn⟩ := bits_lt g.gN (by omega) S hS
  unfold wp_X6_putSet
  rw [c0, t0.1]
  refine ⟨by unfold vp_in; decide, prepX_ok (cl := 0) hI (by omega) (fun τ op hc hop hp => ?_)⟩
  refine pk_loop (fun n i τ => wp_X6_putSet_l20 Q n (nI S) (nI i) τ) (fun i τ => Cor σ τ ∧ ∃ st, PutX g op (fun h => if h < i ∧ S / 2 ^ h % 2 = 1 then g.co h else 16) st τ ∧ ∀ h, h < i → S / 2 ^ h % 2 = 1 → st h = g.cl h) g.gN 0 τ (by omega) ⟨hc, fun _ => 0, ?_, fun h hh => by omega⟩ (fun n υ hυ => ?_) (fun n i υ hi hυ hk => ?_)
  · have : (fun h => if h < 0 ∧ S / 2 ^ h % 2 = 1 then g.co h else 16) = (fun _ => 16) := by
      funext h
      rw [if_neg (by omega)]
    rw [this]
    exact hp
  · show wp_X6_putSet_b20 _ _ _ _ _
    unfold wp_X6_putSet_b20
    obtain ⟨u1, st, u2, u3⟩ := hυ
    have hIu := hI.cor u1
    rw [hIu.1.2.2.2.1]
    refine ⟨fun _ => hq υ op u1 hop ?_, fun z => absurd (nI_le (Nat.le_refl _) (by omega)) z⟩
    obtain ⟨⟨h1, h2, h3, h4⟩, h5⟩ := u2
    refine ⟨⟨h1, h2, h3, fun h hh => ?_⟩, h5⟩
    obtain ⟨a1, a2, a3⟩ := h4 h hh
    dsimp only at a1 a2 a3 ⊢
    by_cases e : S / 2 ^ h % 2 = 1
    · have hn : h < g.gN := by
        by_cases z : h < g.gN
        · exact z
        · exact absurd e (Sn h hh (by omega))
      rw [if_pos ⟨hn, e⟩] at a1 a2 a3
      rw [if_pos e, ← u3 h hn e]
      exact ⟨a1, a2, a3⟩
    · rw [if_neg (fun z => e z.2)] at a1 a2 a3
      rw [if_neg e]
      refine ⟨a1, a2, fun r hr => (a3 r hr).i (fun c hc => ?_)⟩
      unfold oneF
      exact ⟨fun z => by
        rcases z with z | z
        · exact Or.inl z
        · omega, fun z => by
        rcases z with z | z
        · exact Or.inl z
        · omega⟩
  · show wp_X6_putSet_b20 _ _ _ _ _
    unfold wp_X6_putSet_b20
    obtain ⟨u1, st, u2, u3⟩ := hυ
    have hIu := hI.cor u1
    obtain ⟨⟨a1, -, a3⟩, ⟨b1, -, b3⟩, -⟩ := hIu.2.2.1 i hi
    have bv : (nI S >>> (nI i &&& 31)) &&& 1 = nI (S / 2 ^ i % 2) := bit_val (by omega) (by omega)
    rw [hIu.1.2.2.2.1, bv, show (0 : Int32) = nI 0 from rfl, pn_eq (by omega) (by omega), na1, pn_in (by omega) (by omega), pn_cl (by omega), a1, b1]
    have nxt : ∀ υ' st', Cor σ υ' → PutX g op (fun h => if h < i + 1 ∧ S / 2 ^ h % 2 = 1 then g.co h else 16) st' υ' → (∀ h, h < i + 1 → S / 2 ^ h % 2 = 1 → st' h = g.cl h) → wp_X6_putSet_l20 Q n (nI S) (nI (i + 1)) υ' := fun υ' st' h1 h2 h3 => hk υ' ⟨h1, st', h2, h3⟩
    refine ⟨fun z => absurd z (nI_ge hi (by omega)), fun _ => ⟨fun z => nxt υ st u1 ?_ (fun h hh e => ?_), fun z => ⟨by omega, by omega, ?_⟩⟩⟩
    · have : (fun h => if h < i + 1 ∧ S / 2 ^ h % 2 = 1 then g.co h else 16) = (fun h => if h < i ∧ S / 2 ^ h % 2 = 1 then g.co h else 16) := by
        funext h
        by_cases e : h = i
        · rw [if_neg (by rw [e]; omega), if_neg (by omega)]
        · by_cases y : h < i ∧ S / 2 ^ h % 2 = 1
          · rw [if_pos y, if_pos ⟨by omega, y.2⟩]
          · rw [if_neg y, if_neg (fun x => y ⟨by omega, x.2⟩)]
      rw [this]
      exact u2
    · by_cases y : h = i
      · rw [y] at e; omega
      · exact u3 h (by omega) e
    · refine putP_ok (f := g.co i) (s := g.cl i) ⟨by omega, hd'.2.2.2.1⟩ (by omega) (by omega) (by omega) u2.1 (by show g.co i ≤ (if i < i ∧ _ then _ else 16); rw [if_neg (by omega)]; omega) (fun υ' hυ' H => nxt υ' (fun h => if h = i then g.cl i else st h) (u1.tr (hυ'.cor (by omega))) ⟨?_, fun r hr c hc => by rw [hυ'.1 _ _ (by omega) (by omega)]; exact u2.2 r hr c hc⟩ (fun h hh e => ?_))
      · have : (fun h => if h < i + 1 ∧ S / 2 ^ h % 2 = 1 then g.co h else 16) = (fun i_1 => if i_1 = i then g.co i else (if i_1 < i ∧ S / 2 ^ i_1 % 2 = 1 then g.co i_1 else 16)) := by
          funext h
          by_cases e : h = i
          · rw [if_pos e, if_pos ⟨by omega, by rw [e]; omega⟩, e]
          · rw [if_neg e]
            by_cases y : h < i ∧ S / 2 ^ h % 2 = 1
            · rw [if_pos y, if_pos ⟨by omega, y.2⟩]
            · rw [if_neg y, if_neg (fun x => y ⟨by omega, x.2⟩)]
        rw [this]
        exact H
      · show (if h = i then g.cl i else st h) = g.cl h
        by_cases y : h = i
        · rw [if_pos y, y]
        · rw [if_neg y]; exact u3 h (by omega) e
/-! the reference's members -/
def AddR (m r0 low : Nat) (c kv : Int32) (τ υ : St) : Prop := υ.1 90 m = nI r0 ∧ υ.1 91 m = c ∧ υ.1 92 m = kv ∧ υ.1 75 21 = nI (m + 1) ∧ υ.1 75 26 = nI (min r0 low) ∧ (∀ k i, ¬ ((k = 90 ∨ k = 91 ∨ k = 92) ∧ i = m) → ¬ (k = 75 ∧ (i = 21 ∨ i = 26)) → υ.1 k i = τ.1 k i) ∧ υ.2 = τ.2
theorem AddR.cor {m r0 low : Nat} {c kv : Int32} {υ : St} (H : AddR m r0 low c kv τ υ) : Cor τ υ := by
  obtain ⟨-, -, -, -, -, h, h2⟩ := H
  exact ⟨fun k i n => h k i (fun z => n (by unfold Scr; omega)) (fun z => n (by unfold Scr; omega)), by rw [h2], by rw [h2]⟩
theorem add_ok {Q : St → Prop} {m r0 low : Nat} {c kv : Int32} (hm : m < 3) (h21 : τ.1 75 21 = nI m) (h26 : τ.1 75 26 = nI low) (hl : low ≤ 16) (hr : r0 ≤ 16) (hq : ∀ υ, AddR m r0 low c kv τ υ → Q υ) : wp_X7_add (nI r0) c kv Q τ := by
  unfold wp_X7_add
  rw [h21, pn_in (by omega) (by omega), pn_cl (by omega)]
  generalize h1 : sI τ 90 m (nI r0) = τ1
  have e1 : τ1.1 75 21 = nI m := by rw [← h1, sI_1, if_neg (by omega), h21]
  rw [e1, pn_in (by omega) (by omega), pn_cl (by omega)]
  generalize h2 : sI τ1 91 m c = τ2
  have e2 : τ2.1 75 21 = nI m := by rw [← h2, sI_1, if_neg (by omega), e1]
  rw [e2, pn_in (by omega) (by omega), pn_cl (by omega)]
  generalize h3 : sI τ2 92 m kv = τ3
  have e3 : τ3.1 75 21 = nI m := by rw [← h3, sI_1, if_neg (by omega), e2]
  rw [e3, na1]
  generalize h4 : sI τ3 75 21 (nI (m + 1)) = τ4
  have rd : ∀ k i, ¬ ((k = 90 ∨ k = 91 ∨ k = 92) ∧ i = m) → ¬ (k = 75 ∧ i = 21) → τ4.1 k i = τ.1 k i := by
    intro k i n1 n2
    rw [← h4, sI_1, if_neg n2, ← h3, sI_1, if_neg (by omega), ← h2, sI_1, if_neg (by omega), ← h1, sI_1, if_neg (by omega)]
  have j2 : τ4.2 = τ.2 := by rw [← h4, sI_2, ← h3, sI_2, ← h2, sI_2, ← h1, sI_2]
  have e4 : τ4.1 75 26 = nI low := by rw [rd _ _ (by omega) (by omega), h26]
  have f90 : τ4.1 90 m = nI r0 := by rw [← h4, sI_1, if_neg (by omega), ← h3, sI_1, if_neg (by omega), ← h2, sI_1, if_neg (by omega), ← h1, sI_1, if_pos ⟨rfl, rfl⟩]
  have f91 : τ4.1 91 m = c := by rw [← h4, sI_1, if_neg (by omega), ← h3, sI_1, if_neg (by omega), ← h2, sI_1, if_pos ⟨rfl, rfl⟩]
  have f92 : τ4.1 92 m = kv := by rw [← h4, sI_1, if_neg (by omega), ← h3, sI_1, if_pos ⟨rfl, rfl⟩]
  have f21 : τ4.1 75 21 = nI (m + 1) := by rw [← h4, sI_1, if_pos ⟨rfl, rfl⟩]
  rw [e4, pn_le (by omega) (by omega)]
  refine ⟨by omega, by omega, by omega, fun z => hq _ ?_, fun z => hq _ ?_⟩
  · refine ⟨?_, ?_, ?_, ?_, ?_, fun k i n1 n2 => ?_, j2⟩
    · rw [sI_1, if_neg (by omega)]; exact f90
    · rw [sI_1, if_neg (by omega)]; exact f91
    · rw [sI_1, if_neg (by omega)]; exact f92
    · rw [sI_1, if_neg (by omega)]; exact f21
    · rw [sI_1, if_pos ⟨rfl, rfl⟩]
      first | exact congrArg nI (by omega) | (rw [e4]; exact congrArg nI (by omega))
    · rw [sI_1, if_neg (by omega)]; exact rd k i n1 (by omega)
  · refine ⟨?_, ?_, ?_, ?_, ?_, fun k i n1 n2 => ?_, j2⟩
    · rw [sI_1, if_neg (by omega)]; exact f90
    · rw [sI_1, if_neg (by omega)]; exact f91
    · rw [sI_1, if_neg (by omega)]; exact f92
    · rw [sI_1, if_neg (by omega)]; exact f21
    · rw [sI_1, if_pos ⟨rfl, rfl⟩]
      first | exact congrArg nI (by omega) | (rw [e4]; exact congrArg nI (by omega))
    · rw [sI_1, if_neg (by omega)]; exact rd k i n1 (by omega)
end PX
