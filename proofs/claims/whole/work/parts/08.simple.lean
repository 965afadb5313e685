/-! the small calls -/
abbrev pH (g : Geo) (x : Int32) : Prop := 0 ≤ x.toInt ∧ x.toInt < (g.gH : Int)
abbrev pW (g : Geo) (x : Int32) : Prop := 0 ≤ x.toInt ∧ x.toInt < (g.gW : Int)
abbrev pN (g : Geo) (x : Int32) : Prop := 0 ≤ x.toInt ∧ x.toInt < (g.gN : Int)
theorem of_pin {x : Int32} {n : Nat} (h : 0 ≤ x.toInt ∧ x.toInt < (n : Int)) : ∃ j, j < n ∧ x = nI j := by
  refine ⟨x.toInt.toNat, by omega, ?_⟩
  rw [tI_eq, tI_n (by have := Int32.toInt_lt x; have := Int32.le_toInt x; omega)]
  omega
theorem in_ok {x lo hi : Int32} {Q : Int32 → St → Prop} {σ : St} (h : Q (bI (lo.toInt ≤ x.toInt ∧ x.toInt ≤ hi.toInt)) σ) : wp_X7_in x lo hi Q σ := by
  unfold wp_X7_in
  refine ⟨fun a => ?_, fun a => ⟨fun b => ?_, fun b => ?_⟩⟩ <;> simp only [tI_lt] at *
  · rwa [bI_f (by omega)] at h
  · rwa [bI_f (by omega)] at h
  · rwa [bI_t (by omega)] at h
theorem c0 : (0 : Int32).toNatClampNeg = 0 := by decide
theorem z0 : (0 : Int32).toInt = 0 := by decide
theorem vin0_2 : vp_in (0 : Int32) 2 := by unfold vp_in; decide
theorem vin0_3 : vp_in (0 : Int32) 3 := by unfold vp_in; decide
theorem hi_ok {n : Nat} (h1 : 1 ≤ n) (h2 : n < 2 ^ 31) : (nI n - 1).toInt = (n : Int) - 1 := by
  have e : nI n - 1 = nI (n - 1) := pk_sub (b := 1) h1
  rw [e, tI_n (by omega)]
  omega
section SM
variable {g : Geo} {σ : St} {x y : Int32} {Q : Int32 → St → Prop}
theorem hasCourse_ok (hd : IDim g σ) (h : Q (bI (pH g x)) σ) : wp_X4_hasCourse x Q σ := by
  obtain ⟨⟨d1, d2, d3, d4, d5⟩, e1, e2, e3, e4, e5, e6⟩ := hd
  unfold wp_X4_hasCourse
  rw [e2]
  refine ⟨fun a => ?_, fun a => ⟨fun b => ?_, fun b => ?_⟩⟩ <;> simp only [tI_lt, tI_le, z0, tI_n (show g.gH < 2 ^ 31 by omega)] at *
  · rwa [bI_f (by omega)] at h
  · rwa [bI_f (by omega)] at h
  · rwa [bI_t (by omega)] at h
theorem hasColumn_ok (hd : IDim g σ) (h : Q (bI (pW g x)) σ) : wp_X4_hasColumn x Q σ := by
  obtain ⟨⟨d1, d2, d3, d4, d5⟩, e1, e2, e3, e4, e5, e6⟩ := hd
  unfold wp_X4_hasColumn
  rw [e1]
  refine ⟨fun a => ?_, fun a => ⟨fun b => ?_, fun b => ?_⟩⟩ <;> simp only [tI_lt, tI_le, z0, tI_n (show g.gW < 2 ^ 31 by omega)] at *
  · rwa [bI_f (by omega)] at h
  · rwa [bI_f (by omega)] at h
  · rwa [bI_t (by omega)] at h
theorem hasHearth_ok (hd : IDim g σ) (h : Q (bI (pN g x)) σ) : wp_X4_hasHearth x Q σ := by
  obtain ⟨⟨d1, d2, d3, d4, d5⟩, e1, e2, e3, e4, e5, e6⟩ := hd
  unfold wp_X4_hasHearth
  rw [e3]
  refine ⟨fun a => ?_, fun a => ⟨fun b => ?_, fun b => ?_⟩⟩ <;> simp only [tI_lt, tI_le, z0, tI_n (show g.gN < 2 ^ 31 by omega)] at *
  · rwa [bI_f (by omega)] at h
  · rwa [bI_f (by omega)] at h
  · rwa [bI_t (by omega)] at h
theorem bI_c {c d : Prop} [Decidable c] [Decidable d] (h : c ↔ d) : bI c = bI d := by
  unfold bI
  by_cases hc : c
  · rw [if_pos hc, if_pos (h.mp hc)]
  · rw [if_neg hc, if_neg (fun e => hc (h.mpr e))]
theorem isIn_ok (hd : IDim g σ) (h : Q (bI (pW g x)) σ) : wp_X7_isIn x Q σ := by
  obtain ⟨⟨d1, d2, d3, d4, d5⟩, e1, e2, e3, e4, e5, e6⟩ := hd
  unfold wp_X7_isIn
  refine ⟨vin0_2, in_ok ?_⟩
  rw [c0, e4, hi_ok (by omega) (by omega), z0]
  refine ⟨bI_01, ?_⟩
  rwa [bI_c (d := pW g x) (by unfold pW; omega)]
theorem isCourse_ok (hd : IDim g σ) (h : Q (bI (pH g x)) σ) : wp_X7_isCourse x Q σ := by
  obtain ⟨⟨d1, d2, d3, d4, d5⟩, e1, e2, e3, e4, e5, e6⟩ := hd
  unfold wp_X7_isCourse
  refine ⟨vin0_2, in_ok ?_⟩
  rw [c0, e5, hi_ok (by omega) (by omega), z0]
  refine ⟨bI_01, ?_⟩
  rwa [bI_c (d := pH g x) (by unfold pH; omega)]
theorem nI_m1 (n : Nat) (h : n < 2 ^ 31) : (nI n - 1).toInt = (n : Int) - 1 := by
  by_cases h0 : n = 0
  · subst h0; decide
  · exact hi_ok (by omega) h
theorem isHearth_ok (hd : IDim g σ) (h : Q (bI (pN g x)) σ) : wp_X7_isHearth x Q σ := by
  obtain ⟨⟨d1, d2, d3, d4, d5⟩, e1, e2, e3, e4, e5, e6⟩ := hd
  unfold wp_X7_isHearth
  refine ⟨vin0_2, in_ok ?_⟩
  rw [c0, e6, nI_m1 _ (by omega), z0]
  refine ⟨bI_01, ?_⟩
  rwa [bI_c (d := pN g x) (by unfold pN; omega)]
theorem hasBrick_ok (hd : IDim g σ) (h : Q (bI (pH g x ∧ pW g y)) σ) : wp_X4_hasBrick x y Q σ := by
  unfold wp_X4_hasBrick
  refine hasCourse_ok hd ?_
  rw [bI_0]
  refine ⟨fun a => ?_, fun a => hasColumn_ok hd ?_⟩
  · rwa [bI_f (by omega)] at h
  · rw [bI_0]
    refine ⟨fun b => ?_, fun b => ?_⟩
    · rwa [bI_f (by omega)] at h
    · rwa [bI_t (by omega)] at h
theorem s_l31 : ∀ n, n < 32 → ((nI n &&& 31).toBitVec.smod 32).toNat = n := by decide +kernel
theorem and1 {a : Nat} (h : a < 2 ^ 31) : nI a &&& 1 = nI (a % 2) := pk_andN (m := 1) (by omega) 1 (by decide)
theorem bit_val {b c : Nat} (hb : b < 2 ^ 31) (hc : c < 31) : (nI b >>> (nI c &&& 31)) &&& 1 = nI (b / 2 ^ c % 2) := by
  rw [pk_shrN hb (nI c &&& 31) c (s_l31 c (by omega)), and1 (Nat.lt_of_le_of_lt (Nat.div_le_self _ _) hb)]
theorem pow_le {w : Nat} (h : w ≤ 10) : 2 ^ w ≤ 1024 := Nat.pow_le_pow_right (by omega) h
theorem mod2 (a : Nat) : a % 2 = 0 ∨ a % 2 = 1 := by omega
abbrev bitP (b c : Nat) : Prop := b / 2 ^ c % 2 = 1
theorem isFree_ok (hd : IDim g σ) (hb : IBar g σ) (h : ¬ (pH g x ∧ pW g y) → Q 0 σ) (h2 : ∀ r c, r < g.gH → c < g.gW → x = nI r → y = nI c → Q (bI (¬ bitP (g.bar r) c)) σ) : wp_X4_isFree x y Q σ := by
  unfold wp_X4_isFree
  refine hasBrick_ok hd ?_
  rw [bI_0]
  refine ⟨fun a => h a, fun a => ?_⟩
  have a := Classical.not_not.mp a
  obtain ⟨r, hr, rfl⟩ := of_pin a.1
  obtain ⟨c, hc, rfl⟩ := of_pin a.2
  have hd' := hd.1
  have h3 := h2 r c hr hc rfl rfl
  obtain ⟨b1, -, b3⟩ := hb.1 r (by omega)
  have hp := pow_le hd'.2.1
  rw [pn_in (by omega) (by omega), pn_cl (by omega), b1, bit_val (by omega) (by omega)]
  refine ⟨by omega, fun e => ?_, fun e => ?_⟩
  · rw [show (0 : Int32) = nI 0 from rfl, pn_eq (by omega) (by omega)] at e
    rwa [bI_t (show ¬ bitP (g.bar r) c by unfold bitP; omega)] at h3
  · rw [show (0 : Int32) = nI 0 from rfl, pn_eq (by omega) (by omega)] at e
    rwa [bI_f (show ¬ ¬ bitP (g.bar r) c by unfold bitP; omega)] at h3
theorem isBarred_ok (hd : IDim g σ) (hb : IBar g σ) {r c : Nat} (hr : r < 16) (hc : c < 10) (h : Q (bI (bitP (g.bar r) c)) σ) : wp_X7_isBarred (nI r) (nI c) Q σ := by
  unfold wp_X7_isBarred
  have hd' := hd.1
  obtain ⟨-, b2, b3⟩ := hb.1 r hr
  have hp := pow_le hd'.2.1
  rw [pn_in (by omega) (by omega), pn_cl (by omega), b2, bit_val (by omega) (by omega), show (1 : Int32) = nI 1 from rfl, pn_eq (by omega) (by omega)]
  refine ⟨by omega, fun e => ?_, fun e => ?_⟩
  · rwa [bI_t (show bitP (g.bar r) c from e)] at h
  · rwa [bI_f (show ¬ bitP (g.bar r) c from e)] at h
abbrev coldP (g : Geo) (x : Int32) : Prop := pW g x ∧ bitP g.cold x.toInt.toNat
theorem isColdX_ok (hd : IDim g σ) (hb : IBar g σ) (h : Q (bI (coldP g x)) σ) : wp_X4_isCold x Q σ := by
  unfold wp_X4_isCold
  refine hasColumn_ok hd ?_
  rw [bI_0]
  have hd' := hd.1
  have hp := pow_le hd'.2.1
  obtain ⟨-, b2, b3, b4⟩ := hb
  refine ⟨fun a => ?_, fun a => ?_⟩
  · rwa [bI_f (fun e => a e.1)] at h
  · have a := Classical.not_not.mp a
    obtain ⟨c, hc, rfl⟩ := of_pin a
    rw [b2, bit_val (by omega) (by omega), show (0 : Int32) = nI 0 from rfl, pn_eq (by omega) (by omega)]
    have e0 : (nI c).toInt.toNat = c := by rw [tI_n (by omega)]; omega
    refine ⟨fun e => ?_, fun e => ?_⟩
    · rwa [bI_f (fun z => by have := z.2; rw [e0] at this; unfold bitP at this; omega)] at h
    · rwa [bI_t ⟨a, by rw [e0]; unfold bitP; omega⟩] at h
theorem isColdM_ok (hd : IDim g σ) (hb : IBar g σ) (h : Q (bI (coldP g x)) σ) : wp_X7_isCold x Q σ := by
  unfold wp_X7_isCold
  refine isIn_ok hd ?_
  rw [bI_0]
  have hd' := hd.1
  have hp := pow_le hd'.2.1
  obtain ⟨-, b2, b3, b4⟩ := hb
  refine ⟨fun a => ?_, fun a => ⟨vin0_2, ?_⟩⟩
  · rwa [bI_f (fun e => a e.1)] at h
  · have a := Classical.not_not.mp a
    obtain ⟨c, hc, rfl⟩ := of_pin a
    rw [c0, b3, bit_val (by omega) (by omega), show (1 : Int32) = nI 1 from rfl, pn_eq (by omega) (by omega)]
    have e0 : (nI c).toInt.toNat = c := by rw [tI_n (by omega)]; omega
    refine ⟨fun e => ?_, fun e => ?_⟩
    · rwa [bI_t ⟨a, by rw [e0]; exact e⟩] at h
    · rwa [bI_f (fun z => by have := z.2; rw [e0] at this; exact e this)] at h
end SM
section OP
variable {g : Geo} {σ : St} {K : St → Prop} {F : Prop}
theorem op_brick (hI : Inv g σ) (hK : K σ) (x y : Int32) : wp_X6_brick x y (fun r σ1 => wp_X7_brick x y (fun r2 σ2 => (r = r2 → K σ2) ∧ (¬ r = r2 → F)) σ1) σ := by
  obtain ⟨hd, hb, -⟩ := hI
  unfold wp_X6_brick
  refine hasBrick_ok hd ?_
  rw [bI_0]
  refine ⟨fun a => ?_, fun a => ?_⟩
  · unfold wp_X7_brick
    refine isCourse_ok hd ?_
    rw [bI_0]
    refine ⟨fun _ => eq_k rfl hK, fun b => isIn_ok hd ?_⟩
    rw [bI_0]
    refine ⟨fun _ => eq_k rfl hK, fun c => absurd ⟨Classical.not_not.mp b, Classical.not_not.mp c⟩ a⟩
  · have a := Classical.not_not.mp a
    refine isFree_ok hd hb (fun n => absurd a n) (fun r c hr hc e1 e2 => ?_)
    subst e1; subst e2
    have hd' := hd.1
    have fin : ∀ v : Int32, wp_X7_brick_b30 (fun r2 σ2 => (v + bI (coldP g (nI c)) + bI (coldP g (nI c)) = r2 → K σ2) ∧ (¬ v + bI (coldP g (nI c)) + bI (coldP g (nI c)) = r2 → F)) (nI c) v σ := by
      intro v
      unfold wp_X7_brick_b30
      refine isColdM_ok hd hb ?_
      rw [bI_0]
      refine ⟨fun e => ?_, fun e => ?_⟩
      · rw [bI_f e]; exact eq_k (by simp) hK
      · rw [bI_t (Classical.not_not.mp e)]; exact eq_k (by rw [Int32.add_assoc]; rfl) hK
    have mid : ∀ v : Int32, v = bI (bitP (g.bar r) c) → wp_X6_brick_b31 (fun r_1 σ1 => wp_X7_brick (nI r) (nI c) (fun r2 σ2 => (r_1 = r2 → K σ2) ∧ (¬r_1 = r2 → F)) σ1) (nI c) v σ := by
      intro v hv
      unfold wp_X6_brick_b31
      refine isColdX_ok hd hb ?_
      have go : ∀ w : Int32, w = v + bI (coldP g (nI c)) + bI (coldP g (nI c)) → wp_X7_brick (nI r) (nI c) (fun r2 σ2 => (w = r2 → K σ2) ∧ (¬ w = r2 → F)) σ := by
        intro w hw
        subst hw
        unfold wp_X7_brick
        refine isCourse_ok hd ?_
        rw [bI_0]
        refine ⟨fun b => absurd a.1 b, fun _ => isIn_ok hd ?_⟩
        rw [bI_0]
        refine ⟨fun b => absurd a.2 b, fun _ => isBarred_ok hd hb (by omega) (by omega) ?_⟩
        rw [bI_0]
        refine ⟨fun b => ?_, fun b => ?_⟩
        · rw [hv, bI_f b]; exact fin 0
        · rw [hv, bI_t (Classical.not_not.mp b)]; exact fin 1
      rw [bI_0]
      refine ⟨fun e => go _ (by rw [bI_f e]; simp), fun e => go _ (by rw [bI_t (Classical.not_not.mp e), Int32.add_assoc]; rfl)⟩
    rw [bI_0]
    refine ⟨fun e => mid 1 ?_, fun e => mid 0 ?_⟩
    · rw [bI_t (Classical.not_not.mp e)]
    · rw [bI_f (Classical.not_not.mp e)]
end OP
