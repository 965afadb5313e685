/-! the text's tokens, as the reference reads them -/
def kdM (K : Nat) : Nat := if K = 0 then 7 else if K = 7 then 0 else K
def TXm (T : Nat) (tx : Nat → Nat) (σ : St) : Prop := T ≤ 300 ∧ σ.1 75 2 = nI T ∧ ∀ j, j < T → (σ.1 76 j) &&& 255 = nI (tx j) ∧ tx j < 256
def FQ (σ τ : St) : Prop := (∀ k i, ¬ (k = 75 ∧ 13 ≤ i ∧ i ≤ 16) → τ.1 k i = σ.1 k i) ∧ τ.2 = σ.2
theorem FQ.rf {σ : St} : FQ σ σ := ⟨fun _ _ _ => rfl, rfl⟩
theorem FQ.tr {σ τ υ : St} (a : FQ σ τ) (b : FQ τ υ) : FQ σ υ := ⟨fun k i n => (b.1 k i n).trans (a.1 k i n), b.2.trans a.2⟩
theorem FQ.s {σ τ : St} (a : FQ σ τ) {i : Nat} (hi : 13 ≤ i ∧ i ≤ 16) (v : Int32) : FQ σ (sI τ 75 i v) := ⟨fun k j n => by rw [sI_1, if_neg (by omega)]; exact a.1 k j n, a.2⟩
theorem TXm.fr {T : Nat} {tx : Nat → Nat} {σ τ : St} (h : TXm T tx σ) (f : FQ σ τ) : TXm T tx τ := by
  obtain ⟨h1, h2, h4⟩ := h
  exact ⟨h1, by rw [f.1 _ _ (by omega)]; exact h2, fun j hj => by rw [f.1 _ _ (by omega)]; exact h4 j hj⟩
def TokM (t : Tk) (τ : St) : Prop := τ.1 75 13 = nI t.e ∧ τ.1 75 14 = nI t.s ∧ τ.1 75 15 = nI (kdM t.k) ∧ (t.k = 5 → τ.1 75 16 = nI t.v)
/-- a word's code -/
def cdn (B : Nat → Nat) (s : Nat) : Nat → Nat
  | 0 => 0
  | n + 1 => 27 * cdn B s n + (B (s + n) - 96)
def cdW (B : Nat → Nat) (s m : Nat) : Nat := if m ≤ 6 then cdn B s m else 0
def mvn (B : Nat → Nat) (s : Nat) : Nat → Nat
  | 0 => 0
  | n + 1 => if mvn B s n ≤ 99 then 10 * mvn B s n + B (s + n) - 48 else mvn B s n
theorem cdn_lt {B : Nat → Nat} {s : Nat} : ∀ n, (∀ j, s ≤ j → j < s + n → letP (B j)) → cdn B s n + 1 ≤ 27 ^ n
  | 0, _ => Nat.le_refl _
  | n + 1, h => by
    have ih := cdn_lt n (fun j a b => h j a (by omega))
    have b := h (s + n) (by omega) (by omega)
    show 27 * cdn B s n + (B (s + n) - 96) + 1 ≤ 27 ^ (n + 1)
    rw [Nat.pow_succ]
    omega
theorem cdW_lt {B : Nat → Nat} {s m : Nat} (h : ∀ j, s ≤ j → j < s + m → letP (B j)) : cdW B s m < 387420489 := by
  unfold cdW
  by_cases z : m ≤ 6
  · rw [if_pos z]
    have := cdn_lt m h
    have p : 27 ^ m ≤ 27 ^ 6 := Nat.pow_le_pow_right (by omega) z
    have : (27 : Nat) ^ 6 = 387420489 := by decide
    omega
  · rw [if_neg z]; omega
theorem mv_cv {B : Nat → Nat} {s : Nat} : ∀ n, (∀ j, s ≤ j → j < s + n → digP (B j)) → (mvn B s n ≤ 99 ∧ cvn B s n = mvn B s n) ∨ (99 < mvn B s n ∧ mvn B s n ≤ 999 ∧ cvn B s n = 100)
  | 0, _ => Or.inl ⟨Nat.zero_le _, rfl⟩
  | n + 1, h => by
    have ih := mv_cv n (fun j a b => h j a (by omega))
    have b := h (s + n) (by omega) (by omega)
    have e1 : cvn B s (n + 1) = min (10 * cvn B s n + B (s + n) - 48) 100 := rfl
    have e2 : mvn B s (n + 1) = if mvn B s n ≤ 99 then 10 * mvn B s n + B (s + n) - 48 else mvn B s n := rfl
    rw [e1, e2]
    rcases ih with ⟨i1, i2⟩ | ⟨i1, i2, i3⟩
    · rw [if_pos i1, i2]
      omega
    · rw [if_neg (by omega), i3]
      omega
theorem wd_0 {B : Nat → Nat} {s e : Nat} : wdP 0 B s e ↔ (e = s + 4 ∧ B s = 115 ∧ B (s + 1) = 105 ∧ B (s + 2) = 122 ∧ B (s + 3) = 101) := by
  constructor
  · intro h; exact ⟨h.1, h.2 0 (by decide), h.2 1 (by decide), h.2 2 (by decide), h.2 3 (by decide)⟩
  · rintro ⟨h, h0, h1, h2, h3⟩
    refine ⟨h, fun i hi => ?_⟩
    have hi : i < 4 := hi
    have : i = 0 ∨ i = 1 ∨ i = 2 ∨ i = 3 := by omega
    rcases this with rfl | rfl | rfl | rfl
    · exact h0
    · exact h1
    · exact h2
    · exact h3
theorem wd_b {B : Nat → Nat} {s e : Nat} : wdP 1 B s e ↔ (e = s + 4 ∧ B s = 98 ∧ B (s + 1) = 101 ∧ B (s + 2) = 97 ∧ B (s + 3) = 109) := by
  constructor
  · intro h; exact ⟨h.1, h.2 0 (by decide), h.2 1 (by decide), h.2 2 (by decide), h.2 3 (by decide)⟩
  · rintro ⟨h, h0, h1, h2, h3⟩
    refine ⟨h, fun i hi => ?_⟩
    have hi : i < 4 := hi
    have : i = 0 ∨ i = 1 ∨ i = 2 ∨ i = 3 := by omega
    rcases this with rfl | rfl | rfl | rfl
    · exact h0
    · exact h1
    · exact h2
    · exact h3
theorem wd_2 {B : Nat → Nat} {s e : Nat} : wdP 2 B s e ↔ (e = s + 4 ∧ B s = 99 ∧ B (s + 1) = 111 ∧ B (s + 2) = 108 ∧ B (s + 3) = 100) := by
  constructor
  · intro h; exact ⟨h.1, h.2 0 (by decide), h.2 1 (by decide), h.2 2 (by decide), h.2 3 (by decide)⟩
  · rintro ⟨h, h0, h1, h2, h3⟩
    refine ⟨h, fun i hi => ?_⟩
    have hi : i < 4 := hi
    have : i = 0 ∨ i = 1 ∨ i = 2 ∨ i = 3 := by omega
    rcases this with rfl | rfl | rfl | rfl
    · exact h0
    · exact h1
    · exact h2
    · exact h3
theorem wd_3 {B : Nat → Nat} {s e : Nat} : wdP 3 B s e ↔ (e = s + 6 ∧ B s = 104 ∧ B (s + 1) = 101 ∧ B (s + 2) = 97 ∧ B (s + 3) = 114 ∧ B (s + 4) = 116 ∧ B (s + 5) = 104) := by
  constructor
  · intro h; exact ⟨h.1, h.2 0 (by decide), h.2 1 (by decide), h.2 2 (by decide), h.2 3 (by decide), h.2 4 (by decide), h.2 5 (by decide)⟩
  · rintro ⟨h, h0, h1, h2, h3, h4, h5⟩
    refine ⟨h, fun i hi => ?_⟩
    have hi : i < 6 := hi
    have : i = 0 ∨ i = 1 ∨ i = 2 ∨ i = 3 ∨ i = 4 ∨ i = 5 := by omega
    rcases this with rfl | rfl | rfl | rfl | rfl | rfl
    · exact h0
    · exact h1
    · exact h2
    · exact h3
    · exact h4
    · exact h5
theorem cd_w {B : Nat → Nat} {s m : Nat} (h : ∀ j, s ≤ j → j < s + m → letP (B j)) : (cdW B s m = 381245 ↔ wdP 0 B s (s + m)) ∧ (cdW B s m = 43051 ↔ wdP 1 B s (s + m)) ∧ (cdW B s m = 70312 ↔ wdP 2 B s (s + m)) ∧ (cdW B s m = 117481814 ↔ wdP 3 B s (s + m)) := by
  rw [wd_0, wd_b, wd_2, wd_3]
  unfold cdW
  by_cases z : m ≤ 6
  · rw [if_pos z]
    have hm : m = 0 ∨ m = 1 ∨ m = 2 ∨ m = 3 ∨ m = 4 ∨ m = 5 ∨ m = 6 := by omega
    rcases hm with rfl | rfl | rfl | rfl | rfl | rfl | rfl
    · unfold cdn
      omega
    · have b0 := h s (by omega) (by omega)
      unfold cdn cdn
      rw [Nat.add_zero]
      omega
    · have b0 := h s (by omega) (by omega)
      have b1 := h (s + 1) (by omega) (by omega)
      unfold cdn cdn cdn
      rw [Nat.add_zero]
      omega
    · have b0 := h s (by omega) (by omega)
      have b1 := h (s + 1) (by omega) (by omega)
      have b2 := h (s + 2) (by omega) (by omega)
      unfold cdn cdn cdn cdn
      rw [Nat.add_zero]
      omega
    · have b0 := h s (by omega) (by omega)
      have b1 := h (s + 1) (by omega) (by omega)
      have b2 := h (s + 2) (by omega) (by omega)
      have b3 := h (s + 3) (by omega) (by omega)
      unfold cdn cdn cdn cdn cdn
      rw [Nat.add_zero]
      refine ⟨?_, ?_, ?_, ?_⟩ <;> constructor <;> intro w <;> omega
    · have b0 := h s (by omega) (by omega)
      have b1 := h (s + 1) (by omega) (by omega)
      have b2 := h (s + 2) (by omega) (by omega)
      have b3 := h (s + 3) (by omega) (by omega)
      have b4 := h (s + 4) (by omega) (by omega)
      unfold cdn cdn cdn cdn cdn cdn
      rw [Nat.add_zero]
      refine ⟨?_, ?_, ?_, ?_⟩ <;> constructor <;> intro w <;> omega
    · have b0 := h s (by omega) (by omega)
      have b1 := h (s + 1) (by omega) (by omega)
      have b2 := h (s + 2) (by omega) (by omega)
      have b3 := h (s + 3) (by omega) (by omega)
      have b4 := h (s + 4) (by omega) (by omega)
      have b5 := h (s + 5) (by omega) (by omega)
      unfold cdn cdn cdn cdn cdn cdn cdn
      rw [Nat.add_zero]
      refine ⟨?_, ?_, ?_, ?_⟩ <;> constructor <;> intro w <;> omega
  · rw [if_neg z]
    omega
section RM
variable {σ τ : St} {T s p e : Nat} {tx : Nat → Nat}
theorem TXm.b (hX : TXm T tx σ) (j : Nat) : Bt T tx j < 1000 := by
  unfold Bt
  split
  · have := (hX.2.2 j (by assumption)).2; omega
  · omega
theorem here_ok {Q : Int32 → St → Prop} (hX : TXm T tx σ) (h13 : σ.1 75 13 = nI p) (hp : p < 2 ^ 31) (hq : Q (if p < T then nI (Bt T tx p) else -1) σ) : wp_X7_here Q σ := by
  obtain ⟨h1, h2, h4⟩ := hX
  unfold wp_X7_here
  rw [h2, h13, pn_le (by omega) (by omega), pn_in (by omega) (by omega), pn_cl hp]
  refine ⟨fun z => ?_, fun z => ⟨by omega, ?_⟩⟩
  · rwa [if_neg (by omega)] at hq
  · rw [if_pos (by omega), Bt_t (by omega)] at hq
    rw [(h4 p (by omega)).1]
    exact hq
theorem inB_ok {Q : Int32 → St → Prop} {l h : Nat} (hX : TXm T tx σ) (hh : h < 999) (hl : l ≤ h) (hq : Q (bI (l ≤ Bt T tx p ∧ Bt T tx p ≤ h)) τ) : wp_X7_in (if p < T then nI (Bt T tx p) else -1) (nI l) (nI h) Q τ := by
  have hb := hX.b p
  refine in_ok ?_
  by_cases z : p < T
  · rw [if_pos z, tI_n (by omega), tI_n (by omega), tI_n (by omega), bI_c (d := l ≤ Bt T tx p ∧ Bt T tx p ≤ h) (by omega)]
    exact hq
  · rw [if_neg z, tI_n (by omega), tI_n (by omega), t_m1, bI_f (by omega)]
    rw [Bt_T (by omega), bI_f (by omega)] at hq
    exact hq
theorem codeM_ok {Q : St → Prop} (hX : TXm T tx σ) (h13 : σ.1 75 13 = nI s) (h14 : σ.1 75 14 = nI s) (hs : s ≤ T) (hq : ∀ τ e K, FQ σ τ → Run letP (Bt T tx) s e → WK (Bt T tx) s e K → τ.1 75 13 = nI e → τ.1 75 14 = nI s → τ.1 75 15 = nI (kdM K) → Q τ) : ∃ n, wp_X7_next_l65 Q n 0 σ := by
  have hT := hX.1
  have fin : ∀ τ e, FQ σ τ → s ≤ e → e ≤ T → (∀ j, s ≤ j → j < e → letP (Bt T tx j)) → ¬ letP (Bt T tx e) → τ.1 75 13 = nI e → τ.1 75 14 = nI s → wp_X7_next_b142 Q (nI (cdW (Bt T tx) s (e - s))) τ := by
    intro τ e f se eT al nl t2 t3
    have al2 : ∀ j, s ≤ j → j < s + (e - s) → letP (Bt T tx j) := fun j a b => al j a (by omega)
    have lt := cdW_lt al2
    obtain ⟨c1, c2, c3, c4⟩ := cd_w al2
    rw [show s + (e - s) = e by omega] at c1 c2 c3 c4
    have out : ∀ K : Nat, ∀ v : Int32, v = nI (kdM K) → WK (Bt T tx) s e K → Q (sI τ 75 15 v) := fun K v hv hK => hq _ e K (f.s (by omega) _) ⟨se, al, nl⟩ hK (by rw [sI_1, if_neg (by omega)]; exact t2) (by rw [sI_1, if_neg (by omega)]; exact t3) (by rw [sI_1, if_pos ⟨rfl, rfl⟩]; exact hv)
    unfold wp_X7_next_b142
    rw [show (381245 : Int32) = nI 381245 from rfl, show (43051 : Int32) = nI 43051 from rfl, show (70312 : Int32) = nI 70312 from rfl, show (117481814 : Int32) = nI 117481814 from rfl, pn_eq (by omega) (by omega), pn_eq (by omega) (by omega), pn_eq (by omega) (by omega), pn_eq (by omega) (by omega)]
    exact ⟨fun z => out 1 _ rfl (Or.inl ⟨c1.mp z, rfl⟩), fun n0 => ⟨fun z => out 2 _ rfl (Or.inr (Or.inl ⟨c2.mp z, rfl⟩)), fun n1 => ⟨fun z => out 3 _ rfl (Or.inr (Or.inr (Or.inl ⟨c3.mp z, rfl⟩))), fun n2 => ⟨fun z => out 4 _ rfl (Or.inr (Or.inr (Or.inr (Or.inl ⟨c4.mp z, rfl⟩)))), fun n3 => out 0 _ rfl (Or.inr (Or.inr (Or.inr (Or.inr ⟨fun z => n0 (c1.mpr z), fun z => n1 (c2.mpr z), fun z => n2 (c3.mpr z), fun z => n3 (c4.mpr z), rfl⟩))))⟩⟩⟩⟩
  have H : ∃ n, wp_X7_next_l65 Q n (nI (cdW (Bt T tx) s (s - s))) σ := by
    refine pk_loop (fun n i τ => wp_X7_next_l65 Q n (nI (cdW (Bt T tx) s (i - s))) τ) (fun i τ => FQ σ τ ∧ s ≤ i ∧ (∀ j, s ≤ j → j < i → letP (Bt T tx j)) ∧ τ.1 75 13 = nI i ∧ τ.1 75 14 = nI s) T s σ hs ⟨FQ.rf, Nat.le_refl _, fun j a b => by omega, h13, h14⟩ (fun n τ hτ => ?_) (fun n i τ hi hτ hk => ?_)
    · show wp_X7_next_b65 _ _ _ _
      unfold wp_X7_next_b65
      obtain ⟨t1, t2, t3, t4, t5⟩ := hτ
      have hXt := hX.fr t1
      have f := fin τ T t1 t2 (Nat.le_refl _) t3 (by rw [Bt_T (Nat.le_refl _)]; omega) t4 t5
      refine here_ok hXt t4 (by omega) (inB_ok (l := 97) (h := 122) hXt (by omega) (by omega) ?_)
      rw [Bt_T (Nat.le_refl _)]
      refine g_f (by omega) ?_
      rw [t4, t5, pn_sub t2, show (6 : Int32) = nI 6 from rfl, pn_le (by omega) (by omega)]
      refine ⟨fun _ => f, fun z => ?_⟩
      unfold cdW at f
      rwa [if_neg z] at f
    · show wp_X7_next_b65 _ _ _ _
      unfold wp_X7_next_b65
      obtain ⟨t1, t2, t3, t4, t5⟩ := hτ
      have hXt := hX.fr t1
      refine here_ok hXt t4 (by omega) (inB_ok (l := 97) (h := 122) hXt (by omega) (by omega) (i2_eq (fun c => ?_) (fun c => ?_)))
      · have c : letP (Bt T tx i) := c
        have nx : ∀ v : Int32, v = nI (cdW (Bt T tx) s (i + 1 - s)) → wp_X7_next_b109 Q (wp_X7_next_l65 Q n) v τ := by
          intro v hv
          unfold wp_X7_next_b109
          rw [hv, t4, na1]
          refine hk _ ⟨t1.s (by omega) _, by omega, fun j a b => ?_, by rw [sI_1, if_pos ⟨rfl, rfl⟩], by rw [sI_1, if_neg (by omega)]; exact t5⟩
          by_cases y : j = i
          · rw [y]; exact c
          · exact t3 j a (by omega)
        rw [t4, t5, pn_sub t2, show (6 : Int32) = nI 6 from rfl, pn_le (by omega) (by omega)]
        refine ⟨fun z => nx 0 ?_, fun z => here_ok hXt t4 (by omega) (nx _ ?_)⟩
        · unfold cdW
          rw [if_neg (by omega)]
          rfl
        · rw [if_pos hi]
          unfold cdW
          rw [if_pos (by omega), if_pos (by omega), show i + 1 - s = (i - s) + 1 by omega]
          show 27 * nI (cdn (Bt T tx) s (i - s)) + nI (Bt T tx i) - 96 = nI (27 * cdn (Bt T tx) s (i - s) + (Bt T tx (s + (i - s)) - 96))
          rw [show s + (i - s) = i by omega, show (27 : Int32) = nI 27 from rfl, show (96 : Int32) = nI 96 from rfl, pk_mul, nI_add, pn_sub (by omega)]
          exact congrArg nI (by omega)
      · have f := fin τ i t1 t2 (by omega) t3 c t4 t5
        rw [t4, t5, pn_sub t2, show (6 : Int32) = nI 6 from rfl, pn_le (by omega) (by omega)]
        refine ⟨fun _ => f, fun z => ?_⟩
        unfold cdW at f
        rwa [if_neg z] at f
  rw [Nat.sub_self] at H
  exact H
theorem valM_ok {Q : St → Prop} (hX : TXm T tx σ) (h13 : σ.1 75 13 = nI s) (h14 : σ.1 75 14 = nI s) (h16 : σ.1 75 16 = 0) (hs : s < T) (hq : ∀ τ e, FQ σ τ → Run digP (Bt T tx) s e → τ.1 75 13 = nI e → τ.1 75 14 = nI s → τ.1 75 15 = nI (kdM (nkd (Bt T tx) s e)) → (nkd (Bt T tx) s e = 5 → τ.1 75 16 = nI (cvn (Bt T tx) s (e - s))) → Q τ) : ∃ n, wp_X7_next_l203 Q n (nI (Bt T tx s)) σ := by
  have hT := hX.1
  have fin : ∀ τ e, FQ σ τ → s ≤ e → e ≤ T → (∀ j, s ≤ j → j < e → digP (Bt T tx j)) → ¬ digP (Bt T tx e) → τ.1 75 13 = nI e → τ.1 75 14 = nI s → τ.1 75 16 = nI (mvn (Bt T tx) s (e - s)) → ((99 : Int32) < (τ.1 75 16) → wp_X7_next_b294 Q (τ)) ∧ (¬ (99 : Int32) < (τ.1 75 16) → ((nI (Bt T tx s) = (48 : Int32) → ((((τ.1 75 13) - (τ.1 75 14)) ≤ (1 : Int32) → wp_X7_next_b299 Q (τ)) ∧ (¬ ((τ.1 75 13) - (τ.1 75 14)) ≤ (1 : Int32) → wp_X7_next_b294 Q (τ)))) ∧ (¬ nI (Bt T tx s) = (48 : Int32) → wp_X7_next_b299 Q (τ)))) := by
    intro τ e f se eT al nl t2 t3 t4
    have al2 : ∀ j, s ≤ j → j < s + (e - s) → digP (Bt T tx j) := fun j a b => al j a (by omega)
    have mc := mv_cv (e - s) al2
    have hb := hX.b s
    have out : ∀ K : Nat, ∀ v : Int32, v = nI (kdM K) → K = nkd (Bt T tx) s e → Q (sI τ 75 15 v) := by
      intro K v hv hK
      refine hq _ e (f.s (by omega) _) ⟨se, al, nl⟩ (by rw [sI_1, if_neg (by omega)]; exact t2) (by rw [sI_1, if_neg (by omega)]; exact t3) (by rw [sI_1, if_pos ⟨rfl, rfl⟩, hv, hK]) (fun z => ?_)
      rw [sI_1, if_neg (by omega), t4]
      unfold nkd at z
      rcases mc with ⟨m1, m2⟩ | ⟨m1, m2, m3⟩
      · rw [m2]
      · rw [if_pos (by omega)] at z; omega
    have bad : (99 < cvn (Bt T tx) s (e - s) ∨ (Bt T tx s = 48 ∧ 1 < e - s)) → wp_X7_next_b294 Q τ := by
      intro z
      unfold wp_X7_next_b294
      exact out 0 _ rfl (by unfold nkd; rw [if_pos z])
    have good : ¬ (99 < cvn (Bt T tx) s (e - s) ∨ (Bt T tx s = 48 ∧ 1 < e - s)) → wp_X7_next_b299 Q τ := by
      intro z
      unfold wp_X7_next_b299
      exact out 5 _ rfl (by unfold nkd; rw [if_neg z])
    rw [t2, t3, t4, pn_sub se, show (99 : Int32) = nI 99 from rfl, show (48 : Int32) = nI 48 from rfl, show (1 : Int32) = nI 1 from rfl, pn_lt (by omega) (by omega), pn_le (by omega) (by omega), pn_eq (by omega) (by omega)]
    refine ⟨fun z => bad (by omega), fun z => ⟨fun z2 => ⟨fun z3 => good (by omega), fun z3 => bad (by omega)⟩, fun z2 => good (by omega)⟩⟩
  refine pk_loop (fun n i τ => wp_X7_next_l203 Q n (nI (Bt T tx s)) τ) (fun i τ => FQ σ τ ∧ s ≤ i ∧ (∀ j, s ≤ j → j < i → digP (Bt T tx j)) ∧ τ.1 75 13 = nI i ∧ τ.1 75 14 = nI s ∧ τ.1 75 16 = nI (mvn (Bt T tx) s (i - s))) T s σ (by omega) ⟨FQ.rf, Nat.le_refl _, fun j a b => by omega, h13, h14, by rw [Nat.sub_self, h16]; rfl⟩ (fun n τ hτ => ?_) (fun n i τ hi hτ hk => ?_)
  · show wp_X7_next_b203 _ _ _ _
    unfold wp_X7_next_b203
    obtain ⟨t1, t2, t3, t4, t5, t6⟩ := hτ
    have hXt := hX.fr t1
    refine here_ok hXt t4 (by omega) (inB_ok (l := 48) (h := 57) hXt (by omega) (by omega) ?_)
    rw [Bt_T (Nat.le_refl _)]
    exact g_f (by omega) (fin τ T t1 t2 (Nat.le_refl _) t3 (by rw [Bt_T (Nat.le_refl _)]; omega) t4 t5 t6)
  · show wp_X7_next_b203 _ _ _ _
    unfold wp_X7_next_b203
    obtain ⟨t1, t2, t3, t4, t5, t6⟩ := hτ
    have hXt := hX.fr t1
    refine here_ok hXt t4 (by omega) (inB_ok (l := 48) (h := 57) hXt (by omega) (by omega) (i2_eq (fun c => ?_) (fun c => fin τ i t1 t2 (by omega) t3 c t4 t5 t6)))
    have c : digP (Bt T tx i) := c
    have mc := mv_cv (i - s) (fun j a b => t3 j a (by omega))
    have nx : ∀ v : Int32, v = nI (mvn (Bt T tx) s (i + 1 - s)) → wp_X7_next_b249 Q (wp_X7_next_l203 Q n) (nI (Bt T tx s)) v τ := by
      intro v hv
      unfold wp_X7_next_b249
      have e2 : (sI τ 75 16 v).1 75 13 = nI i := by rw [sI_1, if_neg (by omega)]; exact t4
      rw [e2, na1]
      refine hk _ ⟨(t1.s (by omega) _).s (by omega) _, by omega, fun j a b => ?_, by rw [sI_1, if_pos ⟨rfl, rfl⟩], by rw [sI_1, if_neg (by omega), sI_1, if_neg (by omega)]; exact t5, by rw [sI_1, if_neg (by omega), sI_1, if_pos ⟨rfl, rfl⟩]; exact hv⟩
      by_cases y : j = i
      · rw [y]; exact c
      · exact t3 j a (by omega)
    have e1 : mvn (Bt T tx) s (i + 1 - s) = if mvn (Bt T tx) s (i - s) ≤ 99 then 10 * mvn (Bt T tx) s (i - s) + Bt T tx i - 48 else mvn (Bt T tx) s (i - s) := by
      rw [show i + 1 - s = (i - s) + 1 by omega]
      show (if mvn (Bt T tx) s (i - s) ≤ 99 then 10 * mvn (Bt T tx) s (i - s) + Bt T tx (s + (i - s)) - 48 else mvn (Bt T tx) s (i - s)) = _
      rw [show s + (i - s) = i by omega]
    rw [t6, show (99 : Int32) = nI 99 from rfl, pn_le (by omega) (by omega)]
    refine ⟨fun z => here_ok hXt t4 (by omega) (nx _ ?_), fun z => nx _ ?_⟩
    · rw [if_pos hi, e1, if_pos z, show (10 : Int32) = nI 10 from rfl, show (48 : Int32) = nI 48 from rfl, pk_mul, nI_add, pn_sub (by omega)]
    · rw [e1, if_neg z]
theorem next_ok {Q : St → Prop} (hX : TXm T tx σ) (h2 : σ.1 75 13 = nI p) (hp : p ≤ T) (hq : ∀ τ, FQ σ τ → Tok T (Bt T tx) p (tk T (Bt T tx) p) → TokM (tk T (Bt T tx) p) τ → Q τ) : wp_X7_next Q σ := by
  have hT := hX.1
  have done : ∀ τ t, FQ σ τ → Tok T (Bt T tx) p t → TokM t τ → Q τ := by
    intro τ t f ht ⟨x1, x2, x3, x4⟩
    have h := tk_ok ht
    obtain ⟨e1, e2, e3, e4⟩ := ht.uq h
    exact hq τ f h ⟨by rw [← e3]; exact x1, by rw [← e1]; exact x2, by rw [← e2]; exact x3, fun z => by rw [← e4 (by rw [e2]; exact z)]; exact x4 (by rw [e2]; exact z)⟩
  unfold wp_X7_next
  refine pk_loop (fun n i τ => wp_X7_next_l0 Q n τ) (fun i τ => FQ σ τ ∧ p ≤ i ∧ (∀ j, p ≤ j → j < i → blaP (Bt T tx j)) ∧ τ.1 75 13 = nI i) (T + 1) p σ (by omega) ⟨FQ.rf, Nat.le_refl _, fun j a b => by omega, h2⟩ (fun n τ hτ => ?_) (fun n i τ hi hτ hk => ?_)
  · obtain ⟨t1, t2, t3, t4⟩ := hτ
    have := t3 T hp (by omega)
    rw [Bt_T (Nat.le_refl _)] at this
    exact absurd this (by decide)
  · show wp_X7_next_b0 _ _ _
    unfold wp_X7_next_b0
    obtain ⟨t1, t2, t3, t4⟩ := hτ
    have hXt := hX.fr t1
    have hb := hX.b i
    have go : ¬ blaP (Bt T tx i) → (wp_X7_here  (fun r36 σ36 =>
    ((0 ≤ r36 → (wp_X7_in r36 (97 : Int32) (122 : Int32) (fun r57 σ57 =>
    ((r57 = 0 → (wp_X7_in r36 (48 : Int32) (57 : Int32) (fun r197 σ197 =>
    ((r197 = 0 → 
    ((r36 = (59 : Int32) → Q (sI (sI σ197 75 13 ((σ197.1 75 13) + 1)) 75 15 (6 : Int32))) ∧ (¬ r36 = (59 : Int32) → Q (sI (sI σ197 75 13 ((σ197.1 75 13) + 1)) 75 15 (7 : Int32))))) ∧ (¬ r197 = 0 → (∃ n : Nat, wp_X7_next_l203 Q n (r36) (σ197))))) σ57)) ∧ (¬ r57 = 0 → (∃ n : Nat, wp_X7_next_l65 Q n (0) (σ57))))) σ36)) ∧ (¬ 0 ≤ r36 → Q (sI σ36 75 15 (0 : Int32))))) (sI (sI τ 75 14 (τ.1 75 13)) 75 16 (0 : Int32))) := by
      intro nb
      have f1 : FQ σ (sI (sI τ 75 14 (τ.1 75 13)) 75 16 (0 : Int32)) := (t1.s (by omega) _).s (by omega) _
      have hX1 := hX.fr f1
      have g13 : (sI (sI τ 75 14 (τ.1 75 13)) 75 16 (0 : Int32)).1 75 13 = nI i := by rw [sI_1, if_neg (by omega), sI_1, if_neg (by omega)]; exact t4
      have g14 : (sI (sI τ 75 14 (τ.1 75 13)) 75 16 (0 : Int32)).1 75 14 = nI i := by rw [sI_1, if_neg (by omega), sI_1, if_pos ⟨rfl, rfl⟩]; exact t4
      have g16 : (sI (sI τ 75 14 (τ.1 75 13)) 75 16 (0 : Int32)).1 75 16 = 0 := by rw [sI_1, if_pos ⟨rfl, rfl⟩]
      generalize sI (sI τ 75 14 (τ.1 75 13)) 75 16 (0 : Int32) = τ1 at f1 hX1 g13 g14 g16
      refine here_ok hX1 g13 (by omega) ?_
      have hr : Run blaP (Bt T tx) p i := ⟨t2, t3, nb⟩
      refine ⟨fun z => ?_, fun z => ?_⟩
      · have hiT : i < T := by
          by_cases y : i < T
          · exact y
          · rw [if_neg y] at z; exact absurd z (by decide)
        refine inB_ok (l := 97) (h := 122) hX1 (by omega) (by omega) (i2_eq (fun c => ?_) (fun c => ?_))
        · refine codeM_ok hX1 g13 g14 (by omega) (fun υ e K fu hru hK u2 u3 u4 => done υ (i, K, 0, e) (f1.tr fu) ⟨hr, Or.inr (Or.inl ⟨hiT, c, hru, hK⟩)⟩ ⟨u2, u3, u4, fun w => ?_⟩)
          have := hK.k4
          have w : K = 5 := w
          omega
        · refine inB_ok (l := 48) (h := 57) hX1 (by omega) (by omega) (i2_eq (fun d => ?_) (fun d => ?_))
          · rw [if_pos hiT]
            exact valM_ok hX1 g13 g14 g16 hiT (fun υ e fu hru u2 u3 u4 u5 => done υ (i, nkd (Bt T tx) i e, cvn (Bt T tx) i (e - i), e) (f1.tr fu) ⟨hr, Or.inr (Or.inr (Or.inl ⟨hiT, d, hru, rfl, rfl⟩))⟩ ⟨u2, u3, u4, u5⟩)
          · rw [if_pos hiT, show (59 : Int32) = nI 59 from rfl, pn_eq (by omega) (by omega), g13, na1]
            have out : ∀ v : Nat, v = (if Bt T tx i = 59 then 6 else 0) → Q (sI (sI τ1 75 13 (nI (i + 1))) 75 15 (nI (kdM v))) := by
              intro v hv
              refine done _ (i, v, 0, i + 1) ((f1.s (by omega) _).s (by omega) _) ⟨hr, Or.inr (Or.inr (Or.inr ⟨hiT, c, d, rfl, hv⟩))⟩ ⟨by rw [sI_1, if_neg (by omega), sI_1, if_pos ⟨rfl, rfl⟩], by rw [sI_1, if_neg (by omega), sI_1, if_neg (by omega)]; exact g14, by rw [sI_1, if_pos ⟨rfl, rfl⟩], fun w => ?_⟩
              have w : v = 5 := w
              by_cases y : Bt T tx i = 59
              · rw [if_pos y] at hv; omega
              · rw [if_neg y] at hv; omega
            exact ⟨fun w => out 6 (by rw [if_pos w]), fun w => out 0 (by rw [if_neg w])⟩
      · have hiT : ¬ i < T := by
          intro y
          rw [if_pos y] at z
          exact z (nI_pos' (by omega))
        refine done _ (i, 7, 0, i) (f1.s (by omega) _) ⟨hr, Or.inl ⟨by show T ≤ i; omega, rfl, rfl⟩⟩ ⟨by rw [sI_1, if_neg (by omega)]; exact g13, by rw [sI_1, if_neg (by omega)]; exact g14, by rw [sI_1, if_pos ⟨rfl, rfl⟩]; rfl, fun w => absurd (show (7 : Nat) = 5 from w) (by decide)⟩
    refine here_ok hXt t4 (by omega) ⟨fun z => ?_, fun z => go (fun c => z ?_)⟩
    · have hiT : i < T := by
        by_cases y : i < T
        · exact y
        · rw [if_neg y] at z; exact absurd z (by decide)
      rw [if_pos hiT, show (32 : Int32) = nI 32 from rfl, pn_eq (by omega) (by omega)] at z
      rw [t4, na1]
      refine hk _ ⟨t1.s (by omega) _, by omega, fun j a b => ?_, by rw [sI_1, if_pos ⟨rfl, rfl⟩]⟩
      by_cases y : j = i
      · rw [y]; exact z
      · exact t3 j a (by omega)
    · have c : Bt T tx i = 32 := c
      have hiT : i < T := by
        by_cases y : i < T
        · exact y
        · rw [Bt_T (by omega)] at c; omega
      rw [if_pos hiT, c]
      rfl
end RM
