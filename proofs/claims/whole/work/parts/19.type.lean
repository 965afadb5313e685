/-! type -/
def XB (v : Int64) (i : Nat) : Int32 := vp_nar .byte ((((v.toUInt64 >>> ((8 * nI i).toInt64.toUInt64 &&& Int64.toUInt64 63)).toInt64).toInt32).toInt8.toInt32)
def MB (v : Int64) (i : Nat) : Int32 := vp_nar .byte ((((v >>> ((8 * nI i).toInt64 &&& 63)) &&& 255).toInt32).toInt8.toInt32)
theorem byte8 (v : Int64) (i : Nat) (hi : i < 8) : (((v.toUInt64 >>> ((8 * nI i).toInt64.toUInt64 &&& Int64.toUInt64 63)).toInt64).toInt32).toInt8 = (((v >>> ((8 * nI i).toInt64 &&& 63)) &&& 255).toInt32).toInt8 := by
  have hx : ∀ k, k < 8 → ((8 * nI k).toInt64.toUInt64 &&& Int64.toUInt64 63) = UInt64.ofNat (8 * k) := by decide
  have hm : ∀ k, k < 8 → ((8 * nI k).toInt64 &&& 63) = Int64.ofNat (8 * k) := by decide
  rw [hx i hi, hm i hi]
  apply Int8.toBitVec_inj.mp
  apply BitVec.eq_of_getLsbD_eq
  intro j hj
  have h1 : (Int64.ofNat (8 * i)).toBitVec.smod 64 = BitVec.ofNat 64 (8 * i) := by
    have : ∀ k, k < 8 → (Int64.ofNat (8 * k)).toBitVec.smod 64 = BitVec.ofNat 64 (8 * k) := by decide
    exact this i hi
  have h2 : (UInt64.ofNat (8 * i)).toBitVec % 64 = BitVec.ofNat 64 (8 * i) := by
    have : ∀ k, k < 8 → (UInt64.ofNat (8 * k)).toBitVec % 64 = BitVec.ofNat 64 (8 * k) := by decide
    exact this i hi
  have h255 : (255 : Int64).toBitVec.getLsbD j = true := by
    have : ∀ k, k < 8 → (255 : Int64).toBitVec.getLsbD k = true := by decide
    exact this j hj
  have e1 : ∀ x : Int64, x.toInt32.toInt8.toBitVec.getLsbD j = x.toBitVec.getLsbD j := by
    intro x
    show ((x.toBitVec.signExtend 32).signExtend 8).getLsbD j = _
    rw [BitVec.getLsbD_signExtend, BitVec.getLsbD_signExtend]
    simp [hj, show j < 32 by omega, show j < 64 by omega]
  rw [e1, e1]
  have l : (v.toUInt64 >>> UInt64.ofNat (8 * i)).toInt64.toBitVec.getLsbD j = v.toBitVec.getLsbD (8 * i + j) := by
    show (v.toUInt64 >>> UInt64.ofNat (8 * i)).toBitVec.getLsbD j = _
    rw [UInt64.toBitVec_shiftRight, h2, BitVec.ushiftRight_eq', BitVec.getLsbD_ushiftRight]
    rw [BitVec.toNat_ofNat, Nat.mod_eq_of_lt (by omega)]
    rfl
  have r : ((v >>> Int64.ofNat (8 * i)) &&& 255).toBitVec.getLsbD j = v.toBitVec.getLsbD (8 * i + j) := by
    rw [Int64.toBitVec_and, BitVec.getLsbD_and, h255, Bool.and_true, Int64.toBitVec_shiftRight, h1, BitVec.sshiftRight_eq', BitVec.getLsbD_sshiftRight]
    rw [BitVec.toNat_ofNat, Nat.mod_eq_of_lt (by omega)]
    simp [show j < 64 by omega, show 8 * i + j < 64 by omega]
  rw [l, r]
theorem XB_MB (v : Int64) {i : Nat} (hi : i < 8) : XB v i = MB v i := by
  unfold XB MB
  rw [byte8 v i hi]
section TY
variable {g : Geo} {σ : St} {K : St → Prop} {F : Prop} {Q : Int32 → St → Prop}
theorem pm1 (x : Int32) : x + (-1) = x - 1 := by grind
theorem typeX {v : Int64} {T n : Nat} (t1 : σ.1 0 1 = nI T) (hn : n ≤ 8) (hT : T + n ≤ 300) (hq : ∀ τ, τ.2 = σ.2 → τ.1 0 1 = nI (T + n) → (∀ k i, ¬ (k = 0 ∧ i = 1) → ¬ k = 1 → τ.1 k i = σ.1 k i) → (∀ j, j < T → τ.1 1 j = σ.1 1 j) → (∀ j, j < n → τ.1 1 (T + j) = XB v (n - 1 - j)) → Q (nI (T + n)) τ) : ∃ f : Nat, wp_X6_type_l33 Q f v (nI n - 1) σ := by
  refine ⟨n + 1, pk_loopD (fun f m τ => wp_X6_type_l33 Q f v (nI m - 1) τ) (fun m τ => m ≤ n ∧ τ.2 = σ.2 ∧ τ.1 0 1 = nI (T + (n - m)) ∧ (∀ k i, ¬ (k = 0 ∧ i = 1) → ¬ k = 1 → τ.1 k i = σ.1 k i) ∧ (∀ j, j < T → τ.1 1 j = σ.1 1 j) ∧ (∀ j, j < n - m → τ.1 1 (T + j) = XB v (n - 1 - j))) (fun f τ hτ => ?_) (fun f m τ hτ hk => ?_) n σ ⟨Nat.le_refl _, rfl, by rw [Nat.sub_self, Nat.add_zero]; exact t1, fun _ _ _ _ => rfl, fun _ _ => rfl, fun j hj => by omega⟩⟩
  · show wp_X6_type_b33 _ _ _ _ _
    unfold wp_X6_type_b33
    obtain ⟨h1, h2, h3, h4, h5, h6⟩ := hτ
    rw [h3]
    exact ⟨fun _ => hq τ h2 h3 h4 h5 h6, fun q => absurd (by decide) q⟩
  · show wp_X6_type_b33 _ _ _ _ _
    unfold wp_X6_type_b33
    obtain ⟨h1, h2, h3, h4, h5, h6⟩ := hτ
    rw [ns1 (by omega), show m + 1 - 1 = m by omega, h3, pn_in (by omega) (by omega), pn_cl (by omega), pm1]
    refine ⟨fun q => absurd q (nI_pos (by omega)), fun _ => ⟨by omega, ?_⟩⟩
    have hb : (vp_nar .byte ((((v.toUInt64 >>> ((8 * nI m).toInt64.toUInt64 &&& Int64.toUInt64 63)).toInt64).toInt32).toInt8.toInt32)) = XB v m := rfl
    rw [hb]
    have e1 : (sI τ 1 (T + (n - (m + 1))) (XB v m)).1 0 1 = nI (T + (n - (m + 1))) := by rw [sI_1, if_neg (by omega), h3]
    rw [e1, na1]
    refine hk _ ⟨by omega, h2, ?_, fun k i n1 n2 => ?_, fun j hj => ?_, fun j hj => ?_⟩
    · rw [sI_1, if_pos ⟨rfl, rfl⟩]
      exact congrArg nI (by omega)
    · rw [sI_1, if_neg n1, sI_1, if_neg (by omega)]
      exact h4 k i n1 n2
    · rw [sI_1, if_neg (by omega), sI_1, if_neg (by omega)]
      exact h5 j hj
    · rw [sI_1, if_neg (by omega), sI_1]
      by_cases e : j = n - (m + 1)
      · rw [if_pos ⟨rfl, by omega⟩]
        exact congrArg (XB v) (by omega)
      · rw [if_neg (by omega)]
        exact h6 j (by omega)
theorem typeM {v : Int64} {T n : Nat} (t1 : σ.1 75 2 = nI T) (hn : n ≤ 8) (hT : T + n ≤ 300) (hq : ∀ τ, τ.2 = σ.2 → τ.1 75 2 = nI (T + n) → (∀ k i, ¬ (k = 75 ∧ i = 2) → ¬ k = 76 → τ.1 k i = σ.1 k i) → (∀ j, j < T → τ.1 76 j = σ.1 76 j) → (∀ j, j < n → τ.1 76 (T + j) = MB v (n - 1 - j)) → Q (nI (T + n)) τ) : ∃ f : Nat, wp_X7_type_l32 Q f v (nI n - 1) σ := by
  refine ⟨n + 1, pk_loopD (fun f m τ => wp_X7_type_l32 Q f v (nI m - 1) τ) (fun m τ => m ≤ n ∧ τ.2 = σ.2 ∧ τ.1 75 2 = nI (T + (n - m)) ∧ (∀ k i, ¬ (k = 75 ∧ i = 2) → ¬ k = 76 → τ.1 k i = σ.1 k i) ∧ (∀ j, j < T → τ.1 76 j = σ.1 76 j) ∧ (∀ j, j < n - m → τ.1 76 (T + j) = MB v (n - 1 - j))) (fun f τ hτ => ?_) (fun f m τ hτ hk => ?_) n σ ⟨Nat.le_refl _, rfl, by rw [Nat.sub_self, Nat.add_zero]; exact t1, fun _ _ _ _ => rfl, fun _ _ => rfl, fun j hj => by omega⟩⟩
  · show wp_X7_type_b32 _ _ _ _ _
    unfold wp_X7_type_b32
    obtain ⟨h1, h2, h3, h4, h5, h6⟩ := hτ
    rw [h3]
    exact ⟨fun _ => hq τ h2 h3 h4 h5 h6, fun q => absurd (by decide) q⟩
  · show wp_X7_type_b32 _ _ _ _ _
    unfold wp_X7_type_b32
    obtain ⟨h1, h2, h3, h4, h5, h6⟩ := hτ
    rw [ns1 (by omega), show m + 1 - 1 = m by omega, h3, pn_in (by omega) (by omega), pn_cl (by omega), pm1]
    refine ⟨fun q => absurd q (nI_pos (by omega)), fun _ => ⟨by omega, ?_⟩⟩
    have hb : (vp_nar .byte ((((v >>> ((8 * nI m).toInt64 &&& 63)) &&& 255).toInt32).toInt8.toInt32)) = MB v m := rfl
    rw [hb]
    have e1 : (sI τ 76 (T + (n - (m + 1))) (MB v m)).1 75 2 = nI (T + (n - (m + 1))) := by rw [sI_1, if_neg (by omega), h3]
    rw [e1, na1]
    refine hk _ ⟨by omega, h2, ?_, fun k i n1 n2 => ?_, fun j hj => ?_, fun j hj => ?_⟩
    · rw [sI_1, if_pos ⟨rfl, rfl⟩]
      exact congrArg nI (by omega)
    · rw [sI_1, if_neg n1, sI_1, if_neg (by omega)]
      exact h4 k i n1 n2
    · rw [sI_1, if_neg (by omega), sI_1, if_neg (by omega)]
      exact h5 j hj
    · rw [sI_1, if_neg (by omega), sI_1]
      by_cases e : j = n - (m + 1)
      · rw [if_pos ⟨rfl, by omega⟩]
        exact congrArg (MB v) (by omega)
      · rw [if_neg (by omega)]
        exact h6 j (by omega)
theorem op_type (hI : Inv g σ) (hK : ∀ τ, Inv g τ → K τ) (v : Int64) (x : Int32) : wp_X6_type v x (fun r σ1 => wp_X7_type v x (fun r2 σ2 => (r = r2 → K σ2) ∧ (¬ r = r2 → F)) σ1) σ := by
  have k0 := hK σ hI
  obtain ⟨T, hT, t1, t2, t3⟩ := hI.2.2.2.2.2.2.2.2.1
  have t8 : (8 : Int32).toInt = 8 := by decide
  have bad : ¬ (1 ≤ x.toInt ∧ x.toInt ≤ 8) → wp_X7_type v x (fun r2 σ2 => ((-1 : Int32) = r2 → K σ2) ∧ (¬ (-1 : Int32) = r2 → F)) σ := by
    intro n
    unfold wp_X7_type
    exact in_ok (g_f (by rw [t8, t_1]; exact n) (eq_k rfl k0))
  unfold wp_X6_type
  rw [tI_lt, tI_le, t_1, t8]
  refine ⟨fun q => bad (by omega), fun q => ⟨fun q2 => ?_, fun q2 => bad (by omega)⟩⟩
  obtain ⟨n, hn, rfl⟩ := of_pin (x := x) (n := 9) ⟨by omega, by omega⟩
  rw [t1, nI_add, show (300 : Int32) = nI 300 from rfl, pn_le (by omega) (by omega)]
  rw [tI_n (by omega)] at q q2
  refine ⟨fun c => typeX t1 (by omega) c (fun τ a1 a2 a3 a4 a5 => ?_), fun c => ?_⟩
  · unfold wp_X7_type
    refine in_ok (g_t (by rw [t8, t_1, tI_n (by omega)]; omega) ?_)
    have e1 : τ.1 75 2 = nI T := by rw [a3 _ _ (by omega) (by omega), t2]
    rw [e1, nI_add, show (300 : Int32) = nI 300 from rfl, pn_le (by omega) (by omega)]
    refine ⟨fun _ => typeM e1 (by omega) c (fun υ b1 b2 b3 b4 b5 => eq_k rfl (hK _ (hI.setTxt (fun k i n => ?_) (b1.trans a1) ⟨T + n, c, ?_, b2, fun j hj => ?_⟩))), fun q => absurd c q⟩
    · unfold RTxt at n
      rw [b3 _ _ (by omega) (by omega), a3 _ _ (by omega) (by omega)]
    · rw [b3 _ _ (by omega) (by omega), a2]
    · rw [b3 _ _ (by omega) (by omega)]
      by_cases e : j < T
      · rw [a4 j e, b4 j e, a3 _ _ (by omega) (by omega)]
        exact t3 j e
      · obtain ⟨d, rfl⟩ : ∃ d, j = T + d := ⟨j - T, by omega⟩
        rw [a5 d (by omega), b5 d (by omega)]
        exact XB_MB v (by omega)
  · unfold wp_X7_type
    refine in_ok (g_t (by rw [t8, t_1, tI_n (by omega)]; omega) ?_)
    rw [t2, nI_add, show (300 : Int32) = nI 300 from rfl, pn_le (by omega) (by omega)]
    exact ⟨fun q => absurd q c, fun _ => eq_k rfl k0⟩
end TY
