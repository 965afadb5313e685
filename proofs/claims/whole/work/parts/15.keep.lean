/-! keep, back -/
def RCp (D k i : Nat) : Prop := (D + 2 ≤ k ∧ k < D + 5 ∧ i < 16) ∨ ((k = D + 5 ∨ k = D + 6) ∧ i < 6) ∨ (k = D ∧ i = 3)
def CpX (D S : Nat) (σ τ : St) : Prop := τ.2 = σ.2 ∧ (∀ k i, D + 2 ≤ k → k < D + 5 → i < 16 → τ.1 k i = σ.1 (k + S - D) i) ∧ (∀ i, i < 6 → τ.1 (D + 5) i = σ.1 (S + 5) i ∧ τ.1 (D + 6) i = σ.1 (S + 6) i) ∧ τ.1 D 3 = σ.1 S 3 ∧ ∀ k i, ¬ RCp D k i → τ.1 k i = σ.1 k i
def RCm (b k i : Nat) : Prop := (k = 95 ∧ 48 * b ≤ i ∧ i < 48 * b + 48) ∨ (k = 96 ∧ i = b) ∨ ((k = 97 ∨ k = 98) ∧ 6 * b ≤ i ∧ i < 6 * b + 6)
def CpM (a b : Nat) (σ τ : St) : Prop := τ.2 = σ.2 ∧ (∀ i, i < 48 → τ.1 95 (48 * b + i) = σ.1 95 (48 * a + i)) ∧ τ.1 96 b = σ.1 96 a ∧ (∀ i, i < 6 → τ.1 97 (6 * b + i) = σ.1 97 (6 * a + i) ∧ τ.1 98 (6 * b + i) = σ.1 98 (6 * a + i)) ∧ ∀ k i, ¬ RCm b k i → τ.1 k i = σ.1 k i
theorem cpy0 {f h : Nat → Int32} {n j : Nat} : va_cpy f h 0 0 n j = if j < n then f j else h j := by
  by_cases e : j < n
  · rw [if_pos e, pk_cpy_in (Nat.zero_le _) (by omega), Nat.sub_zero, Nat.zero_add]
  · rw [if_neg e, pk_cpy_out (by omega)]
theorem cgk {σ : St} {a b j : Nat} (h : a = b) : σ.1 a j = σ.1 b j := by rw [h]
theorem cgj {f : Nat → Int32} {a b : Nat} (h : a = b) : f a = f b := by rw [h]
theorem cpx_fin {D S : Nat} {σ τ : St} (hD : D + 6 < S ∨ S + 6 < D) (t1 : τ.2 = σ.2) (t2 : ∀ k j, τ.1 k j = if D + 2 ≤ k ∧ k < D + 5 ∧ j < 16 then σ.1 (k + S - D) j else σ.1 k j) :
    CpX D S σ (sI (sR (sR τ (D + 5) (va_cpy (τ.1 (S + 5)) (τ.1 (D + 5)) 0 0 6)) (D + 6) (va_cpy ((sR τ (D + 5) (va_cpy (τ.1 (S + 5)) (τ.1 (D + 5)) 0 0 6)).1 (S + 6)) ((sR τ (D + 5) (va_cpy (τ.1 (S + 5)) (τ.1 (D + 5)) 0 0 6)).1 (D + 6)) 0 0 6)) D 3 ((sR (sR τ (D + 5) (va_cpy (τ.1 (S + 5)) (τ.1 (D + 5)) 0 0 6)) (D + 6) (va_cpy ((sR τ (D + 5) (va_cpy (τ.1 (S + 5)) (τ.1 (D + 5)) 0 0 6)).1 (S + 6)) ((sR τ (D + 5) (va_cpy (τ.1 (S + 5)) (τ.1 (D + 5)) 0 0 6)).1 (D + 6)) 0 0 6)).1 S 3)) := by
  have hA : ∀ j, va_cpy (τ.1 (S + 5)) (τ.1 (D + 5)) 0 0 6 j = if j < 6 then τ.1 (S + 5) j else τ.1 (D + 5) j := fun j => cpy0
  generalize va_cpy (τ.1 (S + 5)) (τ.1 (D + 5)) 0 0 6 = A at *
  have hB : ∀ j, va_cpy ((sR τ (D + 5) A).1 (S + 6)) ((sR τ (D + 5) A).1 (D + 6)) 0 0 6 j = if j < 6 then τ.1 (S + 6) j else τ.1 (D + 6) j := fun j => by
    rw [cpy0, sR_1, sR_1, if_neg (show ¬ S + 6 = D + 5 by omega), if_neg (show ¬ D + 6 = D + 5 by omega)]
  generalize va_cpy ((sR τ (D + 5) A).1 (S + 6)) ((sR τ (D + 5) A).1 (D + 6)) 0 0 6 = B at *
  have hC : (sR (sR τ (D + 5) A) (D + 6) B).1 S 3 = σ.1 S 3 := by
    rw [sR_1, if_neg (by omega), sR_1, if_neg (by omega), t2, if_neg (by omega)]
  rw [hC]
  have rd : ∀ k j, (sI (sR (sR τ (D + 5) A) (D + 6) B) D 3 (σ.1 S 3)).1 k j = if k = D ∧ j = 3 then σ.1 S 3 else if k = D + 6 then B j else if k = D + 5 then A j else τ.1 k j := by
    intro k j
    rw [sI_1]
    by_cases e : k = D ∧ j = 3
    · rw [if_pos e, if_pos e]
    · rw [if_neg e, if_neg e, sR_1]
      by_cases e2 : k = D + 6
      · rw [if_pos e2, if_pos e2]
      · rw [if_neg e2, if_neg e2, sR_1]
        by_cases e3 : k = D + 5
        · rw [if_pos e3, if_pos e3]
        · rw [if_neg e3, if_neg e3]
  refine ⟨t1, fun k i h1 h2 h3 => ?_, fun i hi => ⟨?_, ?_⟩, ?_, fun k i n => ?_⟩
  · rw [rd, if_neg (by omega), if_neg (by omega), if_neg (by omega), t2, if_pos (by omega)]
  · rw [rd, if_neg (by omega), if_neg (by omega), if_pos rfl, hA, if_pos hi, t2, if_neg (by omega)]
  · rw [rd, if_neg (by omega), if_pos rfl, hB, if_pos hi, t2, if_neg (by omega)]
  · rw [rd, if_pos ⟨rfl, rfl⟩]
  · unfold RCp at n
    rw [rd, if_neg (by omega)]
    by_cases e : k = D + 6
    · rw [if_pos e, hB, if_neg (by omega), t2, if_neg (by omega), e]
    · rw [if_neg e]
      by_cases e2 : k = D + 5
      · rw [if_pos e2, hA, if_neg (by omega), t2, if_neg (by omega), e2]
      · rw [if_neg e2, t2, if_neg (by omega)]
theorem cl16 : (16 : Int32).toNatClampNeg = 16 := by decide
theorem cl6 : (6 : Int32).toNatClampNeg = 6 := by decide
theorem cpX_28_20 {σ : St} {Q : St → Prop} (hq : ∀ τ, CpX 28 20 σ τ → Q τ) : wp_X2_copyFrom_28_20 Q σ := by
  unfold wp_X2_copyFrom_28_20
  refine pk_loop (fun n i τ => wp_X2_copyFrom_28_20_l2 Q n (nI i) τ) (fun i τ => τ.2 = σ.2 ∧ ∀ k j, τ.1 k j = if 28 + 2 ≤ k ∧ k < 28 + 2 + i ∧ j < 16 then σ.1 (k + 20 - 28) j else σ.1 k j) 3 0 σ (by omega) ⟨rfl, fun k j => by rw [if_neg (by omega)]⟩ (fun n τ hτ => ?_) (fun n i τ hi hτ hk => ?_)
  · show wp_X2_copyFrom_28_20_b2 _ _ _ _
    unfold wp_X2_copyFrom_28_20_b2
    rw [c0, cl16, cl6]
    exact ⟨fun _ => ⟨by decide, by decide, hq _ (cpx_fin (D := 28) (S := 20) (by omega) hτ.1 hτ.2)⟩, fun c => absurd (by decide) c⟩
  · show wp_X2_copyFrom_28_20_b2 _ _ _ _
    unfold wp_X2_copyFrom_28_20_b2
    rw [c0, cl16, cl6, pn_in (by omega) (by omega), pn_cl (by omega), na1]
    refine ⟨fun c => absurd c (nI_ge (b := 3) hi (by omega)), fun _ => ⟨by omega, by omega, by decide, hk _ ⟨hτ.1, fun k j => ?_⟩⟩⟩
    have hj : ∀ j, va_cpy (τ.1 (21 + 1 + i)) (τ.1 (21 + 1 + i)) 0 0 16 j = τ.1 (21 + 1 + i) j := fun j => by rw [cpy0]; split <;> rfl
    rw [sR_1]
    by_cases e : k = 28 + 2 + i
    · rw [if_pos (by omega), cpy0]
      by_cases e2 : j < 16
      · rw [if_pos e2, if_pos (by omega), hτ.2, if_neg (by omega)]
        exact cgk (by omega)
      · rw [if_neg e2, if_neg (by omega), hτ.2, if_neg (by omega)]
        exact cgk (by omega)
    · rw [if_neg (by omega), hτ.2]
      by_cases e2 : 28 + 2 ≤ k ∧ k < 28 + 2 + i ∧ j < 16
      · rw [if_pos e2, if_pos (by omega)]
      · rw [if_neg e2, if_neg (by omega)]
theorem cpX_35_20 {σ : St} {Q : St → Prop} (hq : ∀ τ, CpX 35 20 σ τ → Q τ) : wp_X2_copyFrom_35_20 Q σ := by
  unfold wp_X2_copyFrom_35_20
  refine pk_loop (fun n i τ => wp_X2_copyFrom_35_20_l2 Q n (nI i) τ) (fun i τ => τ.2 = σ.2 ∧ ∀ k j, τ.1 k j = if 35 + 2 ≤ k ∧ k < 35 + 2 + i ∧ j < 16 then σ.1 (k + 20 - 35) j else σ.1 k j) 3 0 σ (by omega) ⟨rfl, fun k j => by rw [if_neg (by omega)]⟩ (fun n τ hτ => ?_) (fun n i τ hi hτ hk => ?_)
  · show wp_X2_copyFrom_35_20_b2 _ _ _ _
    unfold wp_X2_copyFrom_35_20_b2
    rw [c0, cl16, cl6]
    exact ⟨fun _ => ⟨by decide, by decide, hq _ (cpx_fin (D := 35) (S := 20) (by omega) hτ.1 hτ.2)⟩, fun c => absurd (by decide) c⟩
  · show wp_X2_copyFrom_35_20_b2 _ _ _ _
    unfold wp_X2_copyFrom_35_20_b2
    rw [c0, cl16, cl6, pn_in (by omega) (by omega), pn_cl (by omega), na1]
    refine ⟨fun c => absurd c (nI_ge (b := 3) hi (by omega)), fun _ => ⟨by omega, by omega, by decide, hk _ ⟨hτ.1, fun k j => ?_⟩⟩⟩
    have hj : ∀ j, va_cpy (τ.1 (21 + 1 + i)) (τ.1 (21 + 1 + i)) 0 0 16 j = τ.1 (21 + 1 + i) j := fun j => by rw [cpy0]; split <;> rfl
    rw [sR_1]
    by_cases e : k = 35 + 2 + i
    · rw [if_pos (by omega), cpy0]
      by_cases e2 : j < 16
      · rw [if_pos e2, if_pos (by omega), hτ.2, if_neg (by omega)]
        exact cgk (by omega)
      · rw [if_neg e2, if_neg (by omega), hτ.2, if_neg (by omega)]
        exact cgk (by omega)
    · rw [if_neg (by omega), hτ.2]
      by_cases e2 : 35 + 2 ≤ k ∧ k < 35 + 2 + i ∧ j < 16
      · rw [if_pos e2, if_pos (by omega)]
      · rw [if_neg e2, if_neg (by omega)]
theorem cpX_20_28 {σ : St} {Q : St → Prop} (hq : ∀ τ, CpX 20 28 σ τ → Q τ) : wp_X2_copyFrom_20_28 Q σ := by
  unfold wp_X2_copyFrom_20_28
  refine pk_loop (fun n i τ => wp_X2_copyFrom_20_28_l2 Q n (nI i) τ) (fun i τ => τ.2 = σ.2 ∧ ∀ k j, τ.1 k j = if 20 + 2 ≤ k ∧ k < 20 + 2 + i ∧ j < 16 then σ.1 (k + 28 - 20) j else σ.1 k j) 3 0 σ (by omega) ⟨rfl, fun k j => by rw [if_neg (by omega)]⟩ (fun n τ hτ => ?_) (fun n i τ hi hτ hk => ?_)
  · show wp_X2_copyFrom_20_28_b2 _ _ _ _
    unfold wp_X2_copyFrom_20_28_b2
    rw [c0, cl16, cl6]
    exact ⟨fun _ => ⟨by decide, by decide, hq _ (cpx_fin (D := 20) (S := 28) (by omega) hτ.1 hτ.2)⟩, fun c => absurd (by decide) c⟩
  · show wp_X2_copyFrom_20_28_b2 _ _ _ _
    unfold wp_X2_copyFrom_20_28_b2
    rw [c0, cl16, cl6, pn_in (by omega) (by omega), pn_cl (by omega), na1]
    refine ⟨fun c => absurd c (nI_ge (b := 3) hi (by omega)), fun _ => ⟨by omega, by omega, by decide, hk _ ⟨hτ.1, fun k j => ?_⟩⟩⟩
    have hj : ∀ j, va_cpy (τ.1 (21 + 1 + i)) (τ.1 (21 + 1 + i)) 0 0 16 j = τ.1 (21 + 1 + i) j := fun j => by rw [cpy0]; split <;> rfl
    rw [sR_1]
    by_cases e : k = 20 + 2 + i
    · rw [if_pos (by omega), cpy0]
      by_cases e2 : j < 16
      · rw [if_pos e2, if_pos (by omega), hτ.2, if_neg (by omega)]
        exact cgk (by omega)
      · rw [if_neg e2, if_neg (by omega), hτ.2, if_neg (by omega)]
        exact cgk (by omega)
    · rw [if_neg (by omega), hτ.2]
      by_cases e2 : 20 + 2 ≤ k ∧ k < 20 + 2 + i ∧ j < 16
      · rw [if_pos e2, if_pos (by omega)]
      · rw [if_neg e2, if_neg (by omega)]
theorem cpX_20_35 {σ : St} {Q : St → Prop} (hq : ∀ τ, CpX 20 35 σ τ → Q τ) : wp_X2_copyFrom_20_35 Q σ := by
  unfold wp_X2_copyFrom_20_35
  refine pk_loop (fun n i τ => wp_X2_copyFrom_20_35_l2 Q n (nI i) τ) (fun i τ => τ.2 = σ.2 ∧ ∀ k j, τ.1 k j = if 20 + 2 ≤ k ∧ k < 20 + 2 + i ∧ j < 16 then σ.1 (k + 35 - 20) j else σ.1 k j) 3 0 σ (by omega) ⟨rfl, fun k j => by rw [if_neg (by omega)]⟩ (fun n τ hτ => ?_) (fun n i τ hi hτ hk => ?_)
  · show wp_X2_copyFrom_20_35_b2 _ _ _ _
    unfold wp_X2_copyFrom_20_35_b2
    rw [c0, cl16, cl6]
    exact ⟨fun _ => ⟨by decide, by decide, hq _ (cpx_fin (D := 20) (S := 35) (by omega) hτ.1 hτ.2)⟩, fun c => absurd (by decide) c⟩
  · show wp_X2_copyFrom_20_35_b2 _ _ _ _
    unfold wp_X2_copyFrom_20_35_b2
    rw [c0, cl16, cl6, pn_in (by omega) (by omega), pn_cl (by omega), na1]
    refine ⟨fun c => absurd c (nI_ge (b := 3) hi (by omega)), fun _ => ⟨by omega, by omega, by decide, hk _ ⟨hτ.1, fun k j => ?_⟩⟩⟩
    have hj : ∀ j, va_cpy (τ.1 (21 + 1 + i)) (τ.1 (21 + 1 + i)) 0 0 16 j = τ.1 (21 + 1 + i) j := fun j => by rw [cpy0]; split <;> rfl
    rw [sR_1]
    by_cases e : k = 20 + 2 + i
    · rw [if_pos (by omega), cpy0]
      by_cases e2 : j < 16
      · rw [if_pos e2, if_pos (by omega), hτ.2, if_neg (by omega)]
        exact cgk (by omega)
      · rw [if_neg e2, if_neg (by omega), hτ.2, if_neg (by omega)]
        exact cgk (by omega)
    · rw [if_neg (by omega), hτ.2]
      by_cases e2 : 20 + 2 ≤ k ∧ k < 20 + 2 + i ∧ j < 16
      · rw [if_pos e2, if_pos (by omega)]
      · rw [if_neg e2, if_neg (by omega)]
theorem cpM_ok {σ : St} {Q : St → Prop} {a b : Nat} (ha : a < 3) (hb : b < 3) (hab : a ≠ b) (hq : ∀ τ, CpM a b σ τ → Q τ) : wp_X7_copy (nI a) (nI b) Q σ := by
  have n48 : ∀ z, 48 * nI z = nI (48 * z) := fun z => pk_mul 48 z
  have n6 : ∀ z, 6 * nI z = nI (6 * z) := fun z => pk_mul 6 z
  unfold wp_X7_copy
  refine pk_loop (fun n i τ => wp_X7_copy_l2 Q n (nI a) (nI b) (nI i) τ) (fun i τ => τ.2 = σ.2 ∧ ∀ k j, τ.1 k j = if k = 95 ∧ 48 * b ≤ j ∧ j < 48 * b + i then σ.1 95 (j + 48 * a - 48 * b) else σ.1 k j) 48 0 σ (by omega) ⟨rfl, fun k j => by rw [if_neg (by omega)]⟩ (fun n τ hτ => ?_) (fun n i τ hi hτ hk => ?_)
  · show wp_X7_copy_b2 _ _ _ _ _ _
    unfold wp_X7_copy_b2
    rw [pn_in (by omega) (by omega), pn_in (by omega) (by omega), pn_cl (by omega), pn_cl (by omega)]
    obtain ⟨t1, t2⟩ := hτ
    refine ⟨fun _ => ⟨by omega, by omega, ?_⟩, fun c => absurd (by decide) c⟩
    have e96 : τ.1 96 a = σ.1 96 a := by rw [t2, if_neg (by omega)]
    rw [e96]
    refine pk_loop (fun n i υ => wp_X7_copy_l50 Q n (nI a) (nI b) (nI i) υ) (fun i υ => υ.2 = σ.2 ∧ ∀ k j, υ.1 k j = if (k = 97 ∨ k = 98) ∧ 6 * b ≤ j ∧ j < 6 * b + i then σ.1 k (j + 6 * a - 6 * b) else if k = 96 ∧ j = b then σ.1 96 a else τ.1 k j) 6 0 _ (by omega) ⟨t1, fun k j => by rw [sI_1, if_neg (c := (k = 97 ∨ k = 98) ∧ _) (by omega)]⟩ (fun n υ hυ => ?_) (fun n i υ hi hυ hk => ?_)
    · show wp_X7_copy_b50 _ _ _ _ _ _
      unfold wp_X7_copy_b50
      obtain ⟨u1, u2⟩ := hυ
      refine ⟨fun _ => hq _ ⟨u1, fun i hi => ?_, ?_, fun i hi => ⟨?_, ?_⟩, fun k i n => ?_⟩, fun c => absurd (by decide) c⟩
      · rw [u2, if_neg (by omega), if_neg (by omega), t2, if_pos (by omega)]
        exact cgj (by omega)
      · rw [u2, if_neg (by omega), if_pos ⟨rfl, rfl⟩]
      · rw [u2, if_pos (by omega)]
        exact cgj (by omega)
      · rw [u2, if_pos (by omega)]
        exact cgj (by omega)
      · unfold RCm at n
        rw [u2, if_neg (by omega), if_neg (by omega), t2, if_neg (by omega)]
    · show wp_X7_copy_b50 _ _ _ _ _ _
      unfold wp_X7_copy_b50
      obtain ⟨u1, u2⟩ := hυ
      rw [n6, n6, nI_add, nI_add, pn_in (by omega) (by omega), pn_in (by omega) (by omega), pn_cl (by omega), pn_cl (by omega), na1]
      refine ⟨fun c => absurd c (nI_ge (b := 6) hi (by omega)), fun _ => ⟨by omega, by omega, by omega, by omega, hk _ ⟨u1, fun k j => ?_⟩⟩⟩
      have s97 : υ.1 97 (6 * a + i) = σ.1 97 (6 * a + i) := by rw [u2, if_neg (by omega), if_neg (by omega), t2, if_neg (by omega)]
      have s98 : υ.1 98 (6 * a + i) = σ.1 98 (6 * a + i) := by rw [u2, if_neg (by omega), if_neg (by omega), t2, if_neg (by omega)]
      have s98' : (sI υ 97 (6 * b + i) (σ.1 97 (6 * a + i))).1 98 (6 * a + i) = σ.1 98 (6 * a + i) := by rw [sI_1, if_neg (by omega), s98]
      rw [s97, s98', sI_1]
      by_cases e : k = 98 ∧ j = 6 * b + i
      · rw [if_pos e, if_pos (by omega), e.1]
        exact cgj (by omega)
      · rw [if_neg e, sI_1]
        by_cases e2 : k = 97 ∧ j = 6 * b + i
        · rw [if_pos e2, if_pos (by omega), e2.1]
          exact cgj (by omega)
        · rw [if_neg e2, u2]
          by_cases e3 : (k = 97 ∨ k = 98) ∧ 6 * b ≤ j ∧ j < 6 * b + i
          · rw [if_pos e3, if_pos (by omega)]
          · rw [if_neg e3, if_neg (c := (k = 97 ∨ k = 98) ∧ _) (by omega)]
  · show wp_X7_copy_b2 _ _ _ _ _ _
    unfold wp_X7_copy_b2
    obtain ⟨t1, t2⟩ := hτ
    rw [n48, n48, nI_add, nI_add, pn_in (show 48 * a + i < 2 ^ 31 by omega) (by omega), pn_in (show 48 * b + i < 2 ^ 31 by omega) (by omega), pn_cl (show 48 * b + i < 2 ^ 31 by omega), pn_cl (show 48 * a + i < 2 ^ 31 by omega), na1]
    refine ⟨fun c => absurd c (nI_ge (b := 48) hi (by omega)), fun _ => ⟨by omega, by omega, hk _ ⟨t1, fun k j => ?_⟩⟩⟩
    rw [sI_1]
    by_cases e : k = 95 ∧ j = 48 * b + i
    · rw [if_pos e, if_pos (by omega), t2, if_neg (by omega)]
      exact cgj (by omega)
    · rw [if_neg e, t2]
      by_cases e2 : k = 95 ∧ 48 * b ≤ j ∧ j < 48 * b + i
      · rw [if_pos e2, if_pos (by omega)]
      · rw [if_neg e2, if_neg (by omega)]
theorem cp_plan {g : Geo} {σ τ υ : St} {D S a b : Nat} (hd : IDim g σ) (hh : IHea g σ) (hX : CpX D S σ τ) (hM : CpM a b τ υ) (hD : D + 6 < 42) (hS : S + 6 < 42) (hp : IPlan g (S + 2) (48 * a) σ) : IPlan g (D + 2) (48 * b) υ := by
  have hd' := hd.1
  intro h hn
  obtain ⟨p1, p2, p3⟩ := hp h hn
  obtain ⟨⟨-, -, c3⟩, -⟩ := hh h hn
  have row : ∀ r, r < 16 → υ.1 (D + 2 + h) r = σ.1 (S + 2 + h) r := by
    intro r hr
    rw [hM.2.2.2.2 _ _ (by unfold RCm; omega), hX.2.1 _ _ (by omega) (by omega) hr]
    exact cgk (by omega)
  refine ⟨fun r hr => ?_, by rw [row _ (by omega)]; exact p2, fun r h4 h5 => by rw [row _ (by omega), row _ (by omega)]; exact p3 r h4 h5⟩
  rw [row r hr, show 48 * b + 16 * h + r = 48 * b + (16 * h + r) by omega, hM.2.1 _ (by omega), hX.2.2.2.2 _ _ (by unfold RCp; omega), show 48 * a + (16 * h + r) = 48 * a + 16 * h + r by omega]
  exact p1 r hr
theorem cp_mark {g : Geo} {σ τ υ : St} {D S a b : Nat} (hX : CpX D S σ τ) (hM : CpM a b τ υ) (hD : D + 6 < 42) (hS : S + 6 < 42) (hp : IMark g S a σ) : IMark g D b υ := by
  obtain ⟨M, hM6, m1, m2, m3⟩ := hp
  refine ⟨M, hM6, ?_, ?_, fun j hj => ?_⟩
  · rw [hM.2.2.2.2 _ _ (by unfold RCm; omega), hX.2.2.2.1, m1]
  · rw [hM.2.2.1, hX.2.2.2.2 _ _ (by unfold RCp; omega), m2]
  · obtain ⟨r, c, q1, q2, q3, q4, q5, q6⟩ := m3 j hj
    refine ⟨r, c, q1, q2, ?_, ?_, ?_, ?_⟩
    · rw [hM.2.2.2.2 _ _ (by unfold RCm; omega), (hX.2.2.1 j (by omega)).1, q3]
    · rw [(hM.2.2.2.1 j (by omega)).1, hX.2.2.2.2 _ _ (by unfold RCp; omega), q4]
    · rw [hM.2.2.2.2 _ _ (by unfold RCm; omega), (hX.2.2.1 j (by omega)).2, q5]
    · rw [(hM.2.2.2.1 j (by omega)).2, hX.2.2.2.2 _ _ (by unfold RCp; omega), q6]
