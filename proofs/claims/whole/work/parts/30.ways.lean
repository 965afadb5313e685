/-! the ways of one hearth -/
theorem fr_num : ∀ w, w < 11 → ∀ b, b < 2 ^ w → frV w b = nI (2 ^ w - (b + 1)) := by decide +kernel
theorem tb (b c : Nat) : b.testBit c = decide (bitP b c) := Nat.testBit_eq_decide_div_mod_eq
theorem fr_bit {w b c : Nat} (hb : b < 2 ^ w) (hc : c < w) : bitP (2 ^ w - (b + 1)) c ↔ ¬ bitP b c := by
  have h := Nat.testBit_two_pow_sub_succ hb c
  rw [tb, tb] at h
  have h2 := congrArg (· = true) h
  simp only [decide_eq_true_eq, Bool.and_eq_true, Bool.not_eq_true', decide_eq_false_iff_not, eq_iff_iff] at h2
  exact h2.trans ⟨fun z => z.2, fun z => ⟨hc, z⟩⟩
theorem shl1 : ∀ c, c < 10 → (1 : Int32) <<< (nI c &&& 31) = nI (2 ^ c) := by decide +kernel
theorem and_bit : ∀ c, c < 10 → ∀ a, a < 1024 → nI a &&& nI (2 ^ c) = nI (if a / 2 ^ c % 2 = 1 then 2 ^ c else 0) := by decide +kernel
theorem bit_one {c m : Nat} : bitP (2 ^ c) m ↔ c = m := by
  have h := Nat.testBit_two_pow (n := c) (m := m)
  rw [tb] at h
  have h2 := congrArg (· = true) h
  simp only [decide_eq_true_eq, eq_iff_iff] at h2
  exact h2
theorem bit_zero {m : Nat} : ¬ bitP 0 m := by unfold bitP; rw [Nat.zero_div]; decide
/-- heard: what the marks allow -/
def mkd (σ : St) (r c : Nat) : Prop := ∀ M, M ≤ 6 → σ.1 96 0 = nI M → ∀ k, k < M → σ.1 97 k = nI r → σ.1 98 k = nI c
def opn (g : Geo) (σ : St) (b : Bool) (r c : Nat) : Prop := ¬ bitP (g.bar r) c ∧ (b = true → mkd σ r c)
def Prep (g : Geo) (h : Nat) (o : Nat → Nat) (τ : St) : Prop := τ.1 43 4 = nI g.gW ∧ τ.1 43 5 = nI (g.co h) ∧ τ.1 43 6 = nI (g.gH - 1) ∧ τ.1 43 7 = nI (g.cl h) ∧ ∀ r, r < g.gH → τ.1 44 r = nI (o r) ∧ o r < 1024
theorem Prep.e {g : Geo} {h : Nat} {o : Nat → Nat} {τ υ : St} (hP : Prep g h o τ) (e : υ.1 = τ.1) : Prep g h o υ := by
  unfold Prep
  rw [e]
  exact hP
section WY
variable {g : Geo} {σ : St} {K : St → Prop} {F : Prop} {h : Nat}
theorem prep_ok {Q : St → Prop} (hI : Inv g σ) (hn : h < g.gN) (hq : ∀ τ, Cor σ τ → (∃ o, Prep g h o τ ∧ ∀ r c, r < g.gH → c < g.gW → (bitP (o r) c ↔ opn g σ false r c)) → Q τ) : wp_X5_prepare (nI h) Q σ := by
  have hd := hI.1
  have hd' := hd.1
  have hb := hI.2.1
  obtain ⟨⟨a1, -, a3⟩, ⟨b1, -, b3⟩, -⟩ := hI.2.2.1 h hn
  unfold wp_X5_prepare
  rw [pn_in (by omega) (by omega), pn_cl (by omega), hd.2.1]
  refine ⟨by omega, by omega, ?_⟩
  have s43 : ∀ i, Scr 43 i := fun i => by unfold Scr; omega
  have s44 : ∀ i, Scr 44 i := fun i => by unfold Scr; omega
  generalize h1 : sI σ 43 4 (nI g.gW) = σ1
  have e1 : ∀ k i, ¬ (k = 43) → σ1.1 k i = σ.1 k i := fun k i n => by rw [← h1, sI_1, if_neg (by omega)]
  rw [e1 6 h (by omega), a1]
  generalize h2 : sI σ1 43 5 (nI (g.co h)) = σ2
  have e2 : ∀ k i, ¬ (k = 43) → σ2.1 k i = σ.1 k i := fun k i n => by rw [← h2, sI_1, if_neg (by omega), e1 k i n]
  rw [e2 4 1 (by omega), hd.2.2.1, ns1 (by omega)]
  generalize h3 : sI σ2 43 6 (nI (g.gH - 1)) = σ3
  have e3 : ∀ k i, ¬ (k = 43) → σ3.1 k i = σ.1 k i := fun k i n => by rw [← h3, sI_1, if_neg (by omega), e2 k i n]
  rw [e3 7 h (by omega), b1]
  generalize h4 : sI σ3 43 7 (nI (g.cl h)) = σ4
  have c4 : Cor σ σ4 := by
    rw [← h4, ← h3, ← h2, ← h1]
    exact (((Cor.rf.sI (s43 _) _).sI (s43 _) _).sI (s43 _) _).sI (s43 _) _
  have f4 : σ4.1 43 4 = nI g.gW := by rw [← h4, sI_1, if_neg (by omega), ← h3, sI_1, if_neg (by omega), ← h2, sI_1, if_neg (by omega), ← h1, sI_1, if_pos ⟨rfl, rfl⟩]
  have f5 : σ4.1 43 5 = nI (g.co h) := by rw [← h4, sI_1, if_neg (by omega), ← h3, sI_1, if_neg (by omega), ← h2, sI_1, if_pos ⟨rfl, rfl⟩]
  have f6 : σ4.1 43 6 = nI (g.gH - 1) := by rw [← h4, sI_1, if_neg (by omega), ← h3, sI_1, if_pos ⟨rfl, rfl⟩]
  have f7 : σ4.1 43 7 = nI (g.cl h) := by rw [← h4, sI_1, if_pos ⟨rfl, rfl⟩]
  have pw := pow_le hd'.2.1
  refine pk_loop (fun n i τ => wp_X5_prepare_l40 Q n (nI i) τ) (fun i τ => Cor σ τ ∧ (∀ j, τ.1 43 j = σ4.1 43 j) ∧ ∀ r, r < i → τ.1 44 r = nI (2 ^ g.gW - (g.bar r + 1))) g.gH 0 σ4 (by omega) ⟨c4, fun _ => rfl, fun r hr => by omega⟩ (fun n τ hτ => ?_) (fun n i τ hi hτ hk => ?_)
  · show wp_X5_prepare_b40 _ _ _ _
    unfold wp_X5_prepare_b40
    obtain ⟨t1, t2, t3⟩ := hτ
    rw [t2, f6]
    refine ⟨fun _ => hq τ t1 ⟨fun r => 2 ^ g.gW - (g.bar r + 1), ⟨by rw [t2, f4], by rw [t2, f5], by rw [t2, f6], by rw [t2, f7], fun r hr => ⟨t3 r hr, by show 2 ^ g.gW - (g.bar r + 1) < 1024; omega⟩⟩, fun r c hr hc => ?_⟩, fun q => absurd (nI_lt (by omega) (by omega)) q⟩
    rw [fr_bit (hb.1 r (by omega)).2.2 hc]
    unfold opn
    exact ⟨fun z => ⟨z, fun e => by cases e⟩, fun z => z.1⟩
  · show wp_X5_prepare_b40 _ _ _ _
    unfold wp_X5_prepare_b40
    obtain ⟨t1, t2, t3⟩ := hτ
    have hIt := hI.cor t1
    rw [t2, f6]
    refine ⟨fun q => absurd q (nI_nlt (by omega) (by omega)), fun _ => free_ok hIt.1 hIt.2.1 (by omega) ?_⟩
    rw [pn_in (by omega) (by omega), pn_cl (by omega), na1, fr_num g.gW (by omega) _ (hb.1 i (by omega)).2.2]
    refine ⟨by omega, hk _ ⟨t1.sI (s44 _) _, fun j => by rw [sI_1, if_neg (by omega), t2], fun r hr => ?_⟩⟩
    rw [sI_1]
    by_cases e : r = i
    · rw [if_pos ⟨rfl, e⟩, e]
    · rw [if_neg (by omega)]
      exact t3 r (by omega)
theorem hear_ok {Q : St → Prop} {τ : St} {o : Nat → Nat} (hI : Inv g σ) (hc : Cor σ τ) (hP : Prep g h o τ) (ho : ∀ r c, r < g.gH → c < g.gW → (bitP (o r) c ↔ opn g σ false r c)) (hq : ∀ υ, Cor σ υ → (∃ o, Prep g h o υ ∧ ∀ r c, r < g.gH → c < g.gW → (bitP (o r) c ↔ opn g σ true r c)) → Q υ) : wp_X5_hear Q τ := by
  have hd' := hI.1.1
  obtain ⟨M, hM, m1, m2, m3⟩ := hI.2.2.2.2.2.2.1
  have s44 : ∀ i, Scr 44 i := fun i => by unfold Scr; omega
  unfold wp_X5_hear
  refine pk_loop (fun n i τ => wp_X5_hear_l2 Q n (nI i) τ) (fun i υ => Cor σ υ ∧ (∀ j, υ.1 43 j = τ.1 43 j) ∧ ∃ o', (∀ r, r < g.gH → υ.1 44 r = nI (o' r) ∧ o' r < 1024) ∧ ∀ r c, r < g.gH → c < g.gW → (bitP (o' r) c ↔ (bitP (o r) c ∧ ∀ k, k < i → σ.1 25 k = nI r → σ.1 26 k = nI c))) M 0 τ (by omega) ⟨hc, fun _ => rfl, o, hP.2.2.2.2, fun r c _ _ => ⟨fun z => ⟨z, fun k hk => by omega⟩, fun z => z.1⟩⟩ (fun n υ hυ => ?_) (fun n i υ hi hυ hk => ?_)
  · show wp_X5_hear_b2 _ _ _ _
    unfold wp_X5_hear_b2
    obtain ⟨u1, u2, o', u3, u4⟩ := hυ
    have e20 : υ.1 20 3 = nI M := by rw [u1.1 20 3 (by unfold Scr; omega), m1]
    rw [e20]
    refine ⟨fun _ => hq υ u1 ⟨o', ⟨by rw [u2]; exact hP.1, by rw [u2]; exact hP.2.1, by rw [u2]; exact hP.2.2.1, by rw [u2]; exact hP.2.2.2.1, u3⟩, fun r c hr hcw => ?_⟩, fun q => absurd (nI_le (Nat.le_refl _) (by omega)) q⟩
    rw [u4 r c hr hcw, ho r c hr hcw]
    unfold opn mkd
    constructor
    · rintro ⟨⟨z1, -⟩, z2⟩
      refine ⟨z1, fun _ M' hM' e k hk e97 => ?_⟩
      have : M' = M := by
        rw [m2] at e
        exact ((nI_eq (by omega) (by omega)).mp e).symm
      subst this
      obtain ⟨r', c', q1, q2, q3, q4, q5, q6⟩ := m3 k hk
      rw [show 6 * 0 + k = k by omega] at q4 q6
      rw [q4] at e97
      have := z2 k hk (by rw [← e97]; exact q3)
      rw [q6, ← this]
      exact q5.symm
    · rintro ⟨z1, z2⟩
      refine ⟨⟨z1, fun e => by cases e⟩, fun k hk e25 => ?_⟩
      obtain ⟨r', c', q1, q2, q3, q4, q5, q6⟩ := m3 k hk
      rw [show 6 * 0 + k = k by omega] at q4 q6
      have q3' : σ.1 25 k = nI r' := q3
      have q5' : σ.1 26 k = nI c' := q5
      rw [q3'] at e25
      have := z2 rfl M hM m2 k hk (by rw [q4]; exact e25)
      rw [q5', ← q6]
      exact this
  · show wp_X5_hear_b2 _ _ _ _
    unfold wp_X5_hear_b2
    obtain ⟨u1, u2, o', u3, u4⟩ := hυ
    have e20 : υ.1 20 3 = nI M := by rw [u1.1 20 3 (by unfold Scr; omega), m1]
    obtain ⟨r', c', q1, q2, q3, q4, q5, q6⟩ := m3 i hi
    have q3' : σ.1 25 i = nI r' := q3
    have q5' : σ.1 26 i = nI c' := q5
    have e25 : υ.1 25 i = nI r' := by rw [u1.1 25 i (by unfold Scr; omega)]; exact q3'
    have e26 : υ.1 26 i = nI c' := by rw [u1.1 26 i (by unfold Scr; omega)]; exact q5'
    rw [e20, pn_in (by omega) (by omega), pn_cl (show i < 2 ^ 31 by omega), e25, e26, pn_in (by omega) (by omega), pn_cl (by omega), (u3 r' q1).1, shl1 c' (by omega), and_bit c' (by omega) _ (u3 r' q1).2, na1]
    have pc : 2 ^ c' ≤ 512 := Nat.pow_le_pow_right (n := 2) (by omega) (show c' ≤ 9 by omega)
    refine ⟨fun q => absurd q (nI_ge hi (by omega)), fun _ => ⟨by omega, by omega, by omega, by omega, hk _ ⟨u1.sI (s44 _) _, fun j => by rw [sI_1, if_neg (by omega), u2], fun r => if r = r' then (if o' r' / 2 ^ c' % 2 = 1 then 2 ^ c' else 0) else o' r, fun r hr => ?_, fun r c hr hcw => ?_⟩⟩⟩
    · rw [sI_1]
      dsimp only
      by_cases e : r = r'
      · rw [if_pos ⟨rfl, e⟩, if_pos e]
        refine ⟨rfl, ?_⟩
        split <;> omega
      · rw [if_neg (by omega), if_neg e]
        exact u3 r hr
    · have key : (∀ k, k < i + 1 → σ.1 25 k = nI r → σ.1 26 k = nI c) ↔ ((∀ k, k < i → σ.1 25 k = nI r → σ.1 26 k = nI c) ∧ (r' = r → c' = c)) := by
        constructor
        · intro z
          refine ⟨fun k hk => z k (by omega), fun e => ?_⟩
          have := z i (by omega) (by rw [q3', e])
          rw [q5'] at this
          exact (nI_eq (by omega) (by omega)).mp this
        · rintro ⟨z1, z2⟩ k hk e
          by_cases ek : k = i
          · subst ek
            rw [q3'] at e
            rw [q5', z2 ((nI_eq (by omega) (by omega)).mp e)]
          · exact z1 k (by omega) e
      rw [key]
      dsimp only
      by_cases e : r = r'
      · subst e
        have h4 := u4 r c hr hcw
        have h4' := u4 r c' hr (by omega)
        rw [if_pos rfl]
        by_cases eb : o' r / 2 ^ c' % 2 = 1
        · rw [if_pos eb, bit_one]
          have eb' : bitP (o' r) c' := eb
          constructor
          · intro ec
            subst ec
            have := h4'.mp eb'
            exact ⟨this.1, this.2, fun _ => rfl⟩
          · rintro ⟨-, -, z⟩
            exact z rfl
        · rw [if_neg eb]
          have eb' : ¬ bitP (o' r) c' := eb
          constructor
          · intro z; exact absurd z bit_zero
          · rintro ⟨z1, z2, z3⟩
            have ec := z3 rfl
            subst ec
            exact absurd (h4'.mpr ⟨z1, z2⟩) eb'
      · rw [if_neg e, u4 r c hr hcw]
        exact ⟨fun z => ⟨z.1, z.2, fun q => absurd q.symm e⟩, fun z => ⟨z.1, z.2.1⟩⟩
theorem openX_ok {Q : Int32 → St → Prop} {o : Nat → Nat} {τ : St} {r : Nat} {x : Int32} (hd : IDim g σ) (hP : Prep g h o τ) (hr : r < g.gH) (hq : Q (bI (pW g x ∧ bitP (o r) x.toInt.toNat)) τ) : wp_X5_isOpen (nI r) x Q τ := by
  have hd' := hd.1
  unfold wp_X5_isOpen
  rw [hP.1, tI_lt, tI_le, z0, tI_n (by omega), pn_in (by omega) (by omega), pn_cl (by omega), (hP.2.2.2.2 r hr).1]
  have hb := (hP.2.2.2.2 r hr).2
  refine ⟨fun q => ?_, fun q => ⟨fun q2 => ?_, fun q2 => ⟨by omega, ?_⟩⟩⟩
  · rwa [bI_f (fun z => by have := z.1.1; omega)] at hq
  · rwa [bI_f (fun z => by have := z.1.2; omega)] at hq
  · obtain ⟨c, hc, rfl⟩ := of_pin (x := x) (n := g.gW) ⟨by omega, by omega⟩
    rw [bit_val (by omega) (by omega), show (0 : Int32) = nI 0 from rfl, pn_eq (by omega) (by omega)]
    have ec : (nI c).toInt.toNat = c := by rw [tI_n (by omega)]; omega
    rw [ec] at hq
    refine ⟨fun e => ?_, fun e => ?_⟩
    · rwa [bI_f (fun z => by have := z.2; unfold bitP at this; omega)] at hq
    · rwa [bI_t ⟨⟨by rw [tI_n (by omega)]; omega, by rw [tI_n (by omega)]; omega⟩, by unfold bitP; omega⟩] at hq
end WY
