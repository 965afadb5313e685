theorem k_reco {X : Cx} {own : String} {cc : ByteArray} {nL d t : Nat} (hX : CxB X own cc nL d) (ht : t < 4) : ∀ (H : Heap) (locs : List Loc), va_S X.kA X.ks.heap H locs → ∃ cell : Cell, H[X.kad (102 + t)]? = some cell ∧ cell.vm.isStatics = false ∧ X.ks.vm.findClass "java/lang/String" = some cell.cls := fun H locs hS => vk_recv (adK := fun i => X.kad (102 + i)) (i := t) hX.huc.2.1.2.2 ht hS
set_option maxRecDepth 20000 in
theorem c_coder {t : Nat} (ht : t < 4) : Con yJ0_coder_7d493 cJ0_coder_7d493 1 (some .byte) 1 (fun ad => [.ref (ad (102 + t))]) (fun Q σ => Q (some (.inl 0)) σ) := by
  refine con_intro (by decide +kernel) (fun _ => Nat.le_of_ble_eq_true rfl) (by omega) (fun X Q σ hX hR hw => ?_)
  have hX : CxB X RJ0 cJ0_coder_7d493 1 1 := hX
  show At X 1 0 [(0, .ref (X.kad (102 + t)))] [] σ
  refine r_sget 3 hX hX.huc.2.1.1 tw_192 dJ0_coder_7d493_0 rfl ?_
  refine r_if_eq 13 6 hX dJ0_coder_7d493_3 (by decide) rfl (P := False) (Q := True) ⟨fun h => absurd h (by decide), fun _ => trivial⟩ (fun h => h.elim) (fun _ => ?_)
  refine r_aload_n 7 hX dJ0_coder_7d493_6 rfl rfl 0 rfl ?_
  refine r_kget 10 hX (hX.huc.2.1.2.2.1 t ht).2.1 tw_193 dJ0_coder_7d493_7 rfl ?_
  refine r_goto 14 hX dJ0_coder_7d493_10 (by decide) ?_
  exact r_nret hX hR rfl dJ0_coder_7d493_14 hw
set_option maxRecDepth 20000 in
theorem c_slen {t : Nat} (ht : t < 4) : Con yJ0_length_8abf5 cJ0_length_8abf5 1 (some .int) 2 (fun ad => [.ref (ad (102 + t))]) (fun Q σ => Q (some (.inl (Int32.ofNat (strL.getD t 0)))) σ) := by
  refine con_intro (by decide +kernel) (fun _ => Nat.le_of_ble_eq_true rfl) (by omega) (fun X Q σ hX hR hw => ?_)
  have hX : CxB X RJ0 cJ0_length_8abf5 1 2 := hX
  show At X 1 0 [(0, .ref (X.kad (102 + t)))] [] σ
  refine r_aload_n 1 hX dJ0_length_8abf5_0 rfl rfl 0 rfl ?_
  refine r_kget 4 hX (hX.huc.2.1.2.2.1 t ht).2.2.1 tw_194 dJ0_length_8abf5_1 rfl ?_
  refine r_klen 5 hX (hX.huc.2.1.2.2.1 t ht).2.2.2 dJ0_length_8abf5_4 rfl ?_
  refine r_aload_n 6 hX dJ0_length_8abf5_5 rfl rfl 0 rfl ?_
  refine r_callK (n := 0) 9 hX (c_coder ht) tw_196 tw_197 tw_198 tw_199 tw_200 ⟨by decide +kernel, by decide +kernel, by decide +kernel⟩ (by decide) (by decide) (As := []) rfl rfl (k_reco hX ht) (Nat.le_of_ble_eq_true rfl) dJ0_length_8abf5_6 rfl rfl (K := qI (fun r τ => r = 0 ∧ σ = τ)) ⟨rfl, rfl⟩ (kI (fun r τ hw9 => ?_))
  obtain ⟨rfl, rfl⟩ := hw9
  refine r_ishr 10 hX dJ0_length_8abf5_9 rfl ?_
  rw [sb_shr0]
  exact r_iret hX hR dJ0_length_8abf5_10 hw
set_option maxRecDepth 20000 in
theorem c_latin {t : Nat} (ht : t < 4) : Con yJ0_isLatin1_aae02 cJ0_isLatin1_aae02 1 (some .boolean) 1 (fun ad => [.ref (ad (102 + t))]) (fun Q σ => Q (some (.inl 1)) σ) := by
  refine con_intro (by decide +kernel) (fun _ => Nat.le_of_ble_eq_true rfl) (by omega) (fun X Q σ hX hR hw => ?_)
  have hX : CxB X RJ0 cJ0_isLatin1_aae02 1 1 := hX
  show At X 1 0 [(0, .ref (X.kad (102 + t)))] [] σ
  refine r_sget 3 hX hX.huc.2.1.1 tw_192 dJ0_isLatin1_aae02_0 rfl ?_
  refine r_if_eq 17 6 hX dJ0_isLatin1_aae02_3 (by decide) rfl (P := False) (Q := True) ⟨fun h => absurd h (by decide), fun _ => trivial⟩ (fun h => h.elim) (fun _ => ?_)
  refine r_aload_n 7 hX dJ0_isLatin1_aae02_6 rfl rfl 0 rfl ?_
  refine r_kget 10 hX (hX.huc.2.1.2.2.1 t ht).2.1 tw_193 dJ0_isLatin1_aae02_7 rfl ?_
  refine r_if_ne 17 13 hX dJ0_isLatin1_aae02_10 (by decide) rfl (P := False) (Q := True) ⟨fun _ => trivial, fun h => absurd rfl h⟩ (fun h => h.elim) (fun _ => ?_)
  refine r_iconst 14 hX dJ0_isLatin1_aae02_13 rfl 1 ic_1 ?_
  refine r_goto 18 hX dJ0_isLatin1_aae02_14 (by decide) ?_
  exact r_zret hX hR narrow_b1 dJ0_isLatin1_aae02_18 hw
theorem pchk_len {i n : Int32} {v : Value} (hv : v.category = 1) : (lg_sl [.int i, .int n, v]).length ≤ 3 := by
  cases v <;> first | exact Nat.le_of_ble_eq_true rfl | cases hv
set_option maxRecDepth 20000 in
theorem c_pchk {i n : Int32} {v : Value} (hv : v.category = 1) (h1 : ¬ i < 0) (h2 : i < n) : Con yJ3_checkIndex_8e157 cJ3_checkIndex_8e157 3 (some .int) 1 (fun ad => [.int i, .int n, v]) (fun Q σ => Q (some (.inl i)) σ) := by
  refine con_intro (by decide +kernel) (fun _ => pchk_len hv) (by omega) (fun X Q σ hX hR hw => ?_)
  have hX : CxB X RJ3 cJ3_checkIndex_8e157 3 1 := hX
  show At X 3 0 (lv_args 0 [.int i, .int n, v]) [] σ
  refine r_iload_n 1 hX dJ3_checkIndex_8e157_0 rfl rfl 0 rfl ?_
  refine r_if_lt 9 4 hX dJ3_checkIndex_8e157_1 (by decide) rfl (P := False) (Q := True) ⟨fun h => absurd h h1, fun _ => trivial⟩ (fun h => h.elim) (fun _ => ?_)
  refine r_iload_n 5 hX dJ3_checkIndex_8e157_4 rfl rfl 0 rfl ?_
  refine r_iload_n 6 hX dJ3_checkIndex_8e157_5 rfl rfl 1 rfl ?_
  refine r_icmp_lt 16 9 hX dJ3_checkIndex_8e157_6 (by decide) rfl (P := True) (Q := False) ⟨fun _ => trivial, fun h => absurd h2 h⟩ (fun _ => ?_) (fun h => h.elim)
  refine r_iload_n 17 hX dJ3_checkIndex_8e157_16 rfl rfl 0 rfl ?_
  exact r_iret hX hR dJ3_checkIndex_8e157_17 hw
set_option maxRecDepth 20000 in
theorem c_schk {i n : Int32} (h1 : ¬ i < 0) (h2 : i < n) : Con yJ0_checkIndex_df160 cJ0_checkIndex_df160 2 (none) 2 (fun ad => [.int i, .int n]) (fun Q σ => Q none σ) := by
  refine con_intro (by decide +kernel) (fun _ => Nat.le_of_ble_eq_true rfl) (by omega) (fun X Q σ hX hR hw => ?_)
  have hX : CxB X RJ0 cJ0_checkIndex_df160 2 2 := hX
  show At X 2 0 [(0, .int i), (1, .int n)] [] σ
  obtain ⟨v, hv, hZ⟩ : ∃ v : Value, v.category = 1 ∧ va_Z "jdk/internal/util/Preconditions" "SIOOBE_FORMATTER" "Ljava/util/function/BiFunction;" v X.kA X.ks X.ks.heap := by
    rcases hX.huc.2.1.2.1 with h | ⟨a, h⟩
    · exact ⟨_, rfl, h⟩
    · exact ⟨_, rfl, h⟩
  refine r_iload_n 1 hX dJ0_checkIndex_df160_0 rfl rfl 0 rfl ?_
  refine r_iload_n 2 hX dJ0_checkIndex_df160_1 rfl rfl 1 rfl ?_
  refine r_sget 5 hX hZ tw_195 dJ0_checkIndex_df160_2 rfl ?_
  refine r_callS (n := 3) 8 hX (c_pchk (v := v) hv h1 h2) tw_201 tw_202 tw_203 tw_204 ⟨by decide +kernel, by decide +kernel, by decide +kernel⟩ (by decide) (by decide) (As := [.int i, .int n, v]) rfl rfl (Nat.le_of_ble_eq_true rfl) dJ0_checkIndex_df160_5 rfl rfl (K := qI (fun r τ => σ = τ)) rfl (kI (fun r τ hw9 => ?_))
  subst hw9
  refine r_pop 9 hX dJ0_checkIndex_df160_8 rfl rfl ?_
  exact r_vret hX hR dJ0_checkIndex_df160_9 hw
theorem vin_of {i : Int32} {n : Nat} (h : vp_in i n) (hn : n < 2 ^ 31) : ¬ i < 0 ∧ i < Int32.ofNat n := by
  obtain ⟨j, hj, rfl⟩ := vp_in_of h hn
  exact ⟨nI_pos (by omega), nI_lt hj hn⟩
set_option maxRecDepth 20000 in
theorem c_l1at {t : Nat} (ht : t < 4) {i : Int32} (hi : vp_in i (strL.getD t 0)) : Con yJ1_charAt_3b067 cJ1_charAt_3b067 2 (some .char) 3 (fun ad => [.ref (ad (106 + t)), .int i]) (fun Q σ => Q (some (.inl (strC t i.toNatClampNeg))) σ) := by
  refine con_intro (by decide +kernel) (fun _ => Nat.le_of_ble_eq_true rfl) (by omega) (fun X Q σ hX hR hw => ?_)
  have hX : CxB X RJ1 cJ1_charAt_3b067 2 3 := hX
  show At X 2 0 [(0, .ref (X.kad (106 + t))), (1, .int i)] [] σ
  have hb : strL.getD t 0 < 2 ^ 31 := (by decide +kernel : ∀ t, t < 4 → strL.getD t 0 < 2 ^ 31) t ht
  refine r_iload_n 1 hX dJ1_charAt_3b067_0 rfl rfl 1 rfl ?_
  refine r_aload_n 2 hX dJ1_charAt_3b067_1 rfl rfl 0 rfl ?_
  refine r_klen 3 hX (hX.huc.2.1.2.2.1 t ht).2.2.2 dJ1_charAt_3b067_2 rfl ?_
  refine r_callS (n := 2) 6 hX (c_schk (vin_of hi hb).1 (vin_of hi hb).2) tw_205 tw_206 tw_199 tw_207 ⟨by decide +kernel, by decide +kernel, by decide +kernel⟩ (by decide) (by decide) (As := [.int i, .int (Int32.ofNat (strL.getD t 0))]) rfl rfl (Nat.le_of_ble_eq_true rfl) dJ1_charAt_3b067_3 rfl rfl (K := qV (fun τ => σ = τ)) rfl (kV (fun τ hw9 => ?_))
  subst hw9
  refine r_aload_n 7 hX dJ1_charAt_3b067_6 rfl rfl 0 rfl ?_
  refine r_iload_n 8 hX dJ1_charAt_3b067_7 rfl rfl 1 rfl ?_
  refine r_kbald 9 hX (hX.huc.2.1.2.2.1 t ht).2.2.2 hi dJ1_charAt_3b067_8 rfl ?_
  refine r_sipush 12 hX dJ1_charAt_3b067_9 rfl 255 si_255 ?_
  refine r_iand 13 hX dJ1_charAt_3b067_12 rfl ?_
  refine r_i2c 14 hX dJ1_charAt_3b067_13 rfl ?_
  have e : (((strB.getD t []).getD i.toNatClampNeg 0 &&& 255).toUInt32 % 65536).toInt32 = strC t i.toNatClampNeg ∧ narrow .char (.int (strC t i.toNatClampNeg)) = .int (strC t i.toNatClampNeg) := by
    have h9 : ∀ t, t < 4 → ∀ j, j < 6 → ((((strB.getD t []).getD j 0 &&& 255).toUInt32 % 65536).toInt32 = strC t j ∧ narrow .char (.int (strC t j)) = .int (strC t j)) := by decide +kernel
    have h8 : ∀ t, t < 4 → strL.getD t 0 ≤ 6 := by decide +kernel
    exact h9 t ht _ (Nat.lt_of_lt_of_le (vin_lt hi) (h8 t ht))
  rw [e.1]
  exact r_nret hX hR e.2 dJ1_charAt_3b067_14 hw
set_option maxRecDepth 20000 in
theorem c_scharAt {t : Nat} (ht : t < 4) {i : Int32} (hi : vp_in i (strL.getD t 0)) : Con yJ0_charAt_5068e cJ0_charAt_5068e 2 (some .char) 4 (fun ad => [.ref (ad (102 + t)), .int i]) (fun Q σ => Q (some (.inl (strC t i.toNatClampNeg))) σ) := by
  refine con_intro (by decide +kernel) (fun _ => Nat.le_of_ble_eq_true rfl) (by omega) (fun X Q σ hX hR hw => ?_)
  have hX : CxB X RJ0 cJ0_charAt_5068e 2 4 := hX
  show At X 2 0 [(0, .ref (X.kad (102 + t))), (1, .int i)] [] σ
  have e : narrow .char (.int (strC t i.toNatClampNeg)) = .int (strC t i.toNatClampNeg) := by
    have h9 : ∀ t, t < 4 → ∀ j, j < 6 → narrow .char (.int (strC t j)) = .int (strC t j) := by decide +kernel
    have h8 : ∀ t, t < 4 → strL.getD t 0 ≤ 6 := by decide +kernel
    exact h9 t ht _ (Nat.lt_of_lt_of_le (vin_lt hi) (h8 t ht))
  refine r_aload_n 1 hX dJ0_charAt_5068e_0 rfl rfl 0 rfl ?_
  refine r_callK (n := 0) 4 hX (c_latin ht) tw_208 tw_209 tw_210 tw_199 tw_211 ⟨by decide +kernel, by decide +kernel, by decide +kernel⟩ (by decide) (by decide) (As := []) rfl rfl (k_reco hX ht) (Nat.le_of_ble_eq_true rfl) dJ0_charAt_5068e_1 rfl rfl (K := qI (fun r τ => r = 1 ∧ σ = τ)) ⟨rfl, rfl⟩ (kI (fun r τ hw9 => ?_))
  obtain ⟨rfl, rfl⟩ := hw9
  refine r_if_eq 16 7 hX dJ0_charAt_5068e_4 (by decide) rfl (P := False) (Q := True) ⟨fun h => absurd h (by decide), fun _ => trivial⟩ (fun h => h.elim) (fun _ => ?_)
  refine r_aload_n 8 hX dJ0_charAt_5068e_7 rfl rfl 0 rfl ?_
  refine r_kget 11 hX (hX.huc.2.1.2.2.1 t ht).2.2.1 tw_194 dJ0_charAt_5068e_8 rfl ?_
  refine r_iload_n 12 hX dJ0_charAt_5068e_11 rfl rfl 1 rfl ?_
  refine r_callS (n := 2) 15 hX (c_l1at ht hi) tw_212 tw_213 tw_214 tw_215 ⟨by decide +kernel, by decide +kernel, by decide +kernel⟩ (by decide) (by decide) (As := [.ref (X.kad (106 + t)), .int i]) rfl rfl (Nat.le_of_ble_eq_true rfl) dJ0_charAt_5068e_12 rfl rfl (K := qI (fun r τ => r = strC t i.toNatClampNeg ∧ σ = τ)) ⟨rfl, rfl⟩ (kI (fun r τ hw9 => ?_))
  obtain ⟨rfl, rfl⟩ := hw9
  exact r_nret hX hR e dJ0_charAt_5068e_15 hw
theorem k_str_0 {X : Cx} {cc : ByteArray} {nL d pc : Nat} {lv : List (Nat × Value)} {st : List Value} {σ : St} (q : Nat) (hX : CxB X RX1 cc nL d) (hd : decode cc pc = .ok (.ldc 128, 2)) (hq : pc + 2 = q) (kk : At X nL q lv (.ref (X.kad 102) :: st) σ) : At X nL pc lv st σ := r_kstr q hX hX.huc.2.2.1 hd hq kk
theorem k_len_0 {X : Cx} {cc : ByteArray} {nL d pc : Nat} {lv : List (Nat × Value)} {rest : List Value} {σ : St} (q : Nat) (hX : CxB X RX1 cc nL d) (hdc : 2 + 1 ≤ d) (hst : (rest.map fun v => v.category).sum ≤ 8) (hd : decode cc pc = .ok (.invokevirtual 139, 3)) (hq : pc + 3 = q) (kk : At X nL q lv (.int 4 :: rest) σ) : At X nL pc lv (.ref (X.kad 102) :: rest) σ := r_callK (n := 0) q hX (c_slen (t := 0) (by decide)) tw_216 tw_217 tw_218 tw_199 tw_219 ⟨by decide +kernel, by decide +kernel, by decide +kernel⟩ hdc (by decide) (As := []) rfl rfl (k_reco hX (t := 0) (by decide)) hst hd hq rfl (K := qI (fun r τ => r = 4 ∧ σ = τ)) ⟨by decide, rfl⟩ (kI (fun r τ h => by obtain ⟨rfl, rfl⟩ := h; exact kk))
theorem k_at_0 {X : Cx} {cc : ByteArray} {nL d pc : Nat} {lv : List (Nat × Value)} {rest : List Value} {σ : St} {i : Int32} {B : Prop} (q : Nat) (hX : CxB X RX1 cc nL d) (hdc : 4 + 1 ≤ d) (hst : (rest.map fun v => v.category).sum ≤ 8) (hd : decode cc pc = .ok (.invokevirtual 143, 3)) (hq : pc + 3 = q) (hw : vp_in i 4 ∧ B) (kk : B → At X nL q lv (.int (strC 0 i.toNatClampNeg) :: rest) σ) : At X nL pc lv (.int i :: .ref (X.kad 102) :: rest) σ := r_callK (n := 1) q hX (c_scharAt (t := 0) (by decide) (i := i) hw.1) tw_220 tw_221 tw_222 tw_199 tw_223 ⟨by decide +kernel, by decide +kernel, by decide +kernel⟩ hdc (by decide) (As := [.int i]) rfl rfl (k_reco hX (t := 0) (by decide)) hst hd hq rfl (K := qI (fun r τ => r = strC 0 i.toNatClampNeg ∧ σ = τ)) ⟨rfl, rfl⟩ (kI (fun r τ h => by obtain ⟨rfl, rfl⟩ := h; exact kk hw.2))
theorem k_str_1 {X : Cx} {cc : ByteArray} {nL d pc : Nat} {lv : List (Nat × Value)} {st : List Value} {σ : St} (q : Nat) (hX : CxB X RX1 cc nL d) (hd : decode cc pc = .ok (.ldc 134, 2)) (hq : pc + 2 = q) (kk : At X nL q lv (.ref (X.kad 103) :: st) σ) : At X nL pc lv st σ := r_kstr q hX hX.huc.2.2.2.1 hd hq kk
theorem k_len_1 {X : Cx} {cc : ByteArray} {nL d pc : Nat} {lv : List (Nat × Value)} {rest : List Value} {σ : St} (q : Nat) (hX : CxB X RX1 cc nL d) (hdc : 2 + 1 ≤ d) (hst : (rest.map fun v => v.category).sum ≤ 8) (hd : decode cc pc = .ok (.invokevirtual 139, 3)) (hq : pc + 3 = q) (kk : At X nL q lv (.int 4 :: rest) σ) : At X nL pc lv (.ref (X.kad 103) :: rest) σ := r_callK (n := 0) q hX (c_slen (t := 1) (by decide)) tw_216 tw_217 tw_218 tw_199 tw_219 ⟨by decide +kernel, by decide +kernel, by decide +kernel⟩ hdc (by decide) (As := []) rfl rfl (k_reco hX (t := 1) (by decide)) hst hd hq rfl (K := qI (fun r τ => r = 4 ∧ σ = τ)) ⟨by decide, rfl⟩ (kI (fun r τ h => by obtain ⟨rfl, rfl⟩ := h; exact kk))
theorem k_at_1 {X : Cx} {cc : ByteArray} {nL d pc : Nat} {lv : List (Nat × Value)} {rest : List Value} {σ : St} {i : Int32} {B : Prop} (q : Nat) (hX : CxB X RX1 cc nL d) (hdc : 4 + 1 ≤ d) (hst : (rest.map fun v => v.category).sum ≤ 8) (hd : decode cc pc = .ok (.invokevirtual 143, 3)) (hq : pc + 3 = q) (hw : vp_in i 4 ∧ B) (kk : B → At X nL q lv (.int (strC 1 i.toNatClampNeg) :: rest) σ) : At X nL pc lv (.int i :: .ref (X.kad 103) :: rest) σ := r_callK (n := 1) q hX (c_scharAt (t := 1) (by decide) (i := i) hw.1) tw_220 tw_221 tw_222 tw_199 tw_223 ⟨by decide +kernel, by decide +kernel, by decide +kernel⟩ hdc (by decide) (As := [.int i]) rfl rfl (k_reco hX (t := 1) (by decide)) hst hd hq rfl (K := qI (fun r τ => r = strC 1 i.toNatClampNeg ∧ σ = τ)) ⟨rfl, rfl⟩ (kI (fun r τ h => by obtain ⟨rfl, rfl⟩ := h; exact kk hw.2))
theorem k_str_2 {X : Cx} {cc : ByteArray} {nL d pc : Nat} {lv : List (Nat × Value)} {st : List Value} {σ : St} (q : Nat) (hX : CxB X RX1 cc nL d) (hd : decode cc pc = .ok (.ldc 136, 2)) (hq : pc + 2 = q) (kk : At X nL q lv (.ref (X.kad 104) :: st) σ) : At X nL pc lv st σ := r_kstr q hX hX.huc.2.2.2.2.1 hd hq kk
theorem k_len_2 {X : Cx} {cc : ByteArray} {nL d pc : Nat} {lv : List (Nat × Value)} {rest : List Value} {σ : St} (q : Nat) (hX : CxB X RX1 cc nL d) (hdc : 2 + 1 ≤ d) (hst : (rest.map fun v => v.category).sum ≤ 8) (hd : decode cc pc = .ok (.invokevirtual 139, 3)) (hq : pc + 3 = q) (kk : At X nL q lv (.int 4 :: rest) σ) : At X nL pc lv (.ref (X.kad 104) :: rest) σ := r_callK (n := 0) q hX (c_slen (t := 2) (by decide)) tw_216 tw_217 tw_218 tw_199 tw_219 ⟨by decide +kernel, by decide +kernel, by decide +kernel⟩ hdc (by decide) (As := []) rfl rfl (k_reco hX (t := 2) (by decide)) hst hd hq rfl (K := qI (fun r τ => r = 4 ∧ σ = τ)) ⟨by decide, rfl⟩ (kI (fun r τ h => by obtain ⟨rfl, rfl⟩ := h; exact kk))
theorem k_at_2 {X : Cx} {cc : ByteArray} {nL d pc : Nat} {lv : List (Nat × Value)} {rest : List Value} {σ : St} {i : Int32} {B : Prop} (q : Nat) (hX : CxB X RX1 cc nL d) (hdc : 4 + 1 ≤ d) (hst : (rest.map fun v => v.category).sum ≤ 8) (hd : decode cc pc = .ok (.invokevirtual 143, 3)) (hq : pc + 3 = q) (hw : vp_in i 4 ∧ B) (kk : B → At X nL q lv (.int (strC 2 i.toNatClampNeg) :: rest) σ) : At X nL pc lv (.int i :: .ref (X.kad 104) :: rest) σ := r_callK (n := 1) q hX (c_scharAt (t := 2) (by decide) (i := i) hw.1) tw_220 tw_221 tw_222 tw_199 tw_223 ⟨by decide +kernel, by decide +kernel, by decide +kernel⟩ hdc (by decide) (As := [.int i]) rfl rfl (k_reco hX (t := 2) (by decide)) hst hd hq rfl (K := qI (fun r τ => r = strC 2 i.toNatClampNeg ∧ σ = τ)) ⟨rfl, rfl⟩ (kI (fun r τ h => by obtain ⟨rfl, rfl⟩ := h; exact kk hw.2))
theorem k_str_3 {X : Cx} {cc : ByteArray} {nL d pc : Nat} {lv : List (Nat × Value)} {st : List Value} {σ : St} (q : Nat) (hX : CxB X RX1 cc nL d) (hd : decode cc pc = .ok (.ldc 137, 2)) (hq : pc + 2 = q) (kk : At X nL q lv (.ref (X.kad 105) :: st) σ) : At X nL pc lv st σ := r_kstr q hX hX.huc.2.2.2.2.2 hd hq kk
theorem k_len_3 {X : Cx} {cc : ByteArray} {nL d pc : Nat} {lv : List (Nat × Value)} {rest : List Value} {σ : St} (q : Nat) (hX : CxB X RX1 cc nL d) (hdc : 2 + 1 ≤ d) (hst : (rest.map fun v => v.category).sum ≤ 8) (hd : decode cc pc = .ok (.invokevirtual 139, 3)) (hq : pc + 3 = q) (kk : At X nL q lv (.int 6 :: rest) σ) : At X nL pc lv (.ref (X.kad 105) :: rest) σ := r_callK (n := 0) q hX (c_slen (t := 3) (by decide)) tw_216 tw_217 tw_218 tw_199 tw_219 ⟨by decide +kernel, by decide +kernel, by decide +kernel⟩ hdc (by decide) (As := []) rfl rfl (k_reco hX (t := 3) (by decide)) hst hd hq rfl (K := qI (fun r τ => r = 6 ∧ σ = τ)) ⟨by decide, rfl⟩ (kI (fun r τ h => by obtain ⟨rfl, rfl⟩ := h; exact kk))
theorem k_at_3 {X : Cx} {cc : ByteArray} {nL d pc : Nat} {lv : List (Nat × Value)} {rest : List Value} {σ : St} {i : Int32} {B : Prop} (q : Nat) (hX : CxB X RX1 cc nL d) (hdc : 4 + 1 ≤ d) (hst : (rest.map fun v => v.category).sum ≤ 8) (hd : decode cc pc = .ok (.invokevirtual 143, 3)) (hq : pc + 3 = q) (hw : vp_in i 6 ∧ B) (kk : B → At X nL q lv (.int (strC 3 i.toNatClampNeg) :: rest) σ) : At X nL pc lv (.int i :: .ref (X.kad 105) :: rest) σ := r_callK (n := 1) q hX (c_scharAt (t := 3) (by decide) (i := i) hw.1) tw_220 tw_221 tw_222 tw_199 tw_223 ⟨by decide +kernel, by decide +kernel, by decide +kernel⟩ hdc (by decide) (As := [.int i]) rfl rfl (k_reco hX (t := 3) (by decide)) hst hd hq rfl (K := qI (fun r τ => r = strC 3 i.toNatClampNeg ∧ σ = τ)) ⟨rfl, rfl⟩ (kI (fun r τ h => by obtain ⟨rfl, rfl⟩ := h; exact kk hw.2))
set_option maxRecDepth 20000 in
set_option maxHeartbeats 4000000 in
theorem c_X1_byteAt (x1 : Int32) : Con yX1_byteAt cX1_byteAt 2 (some .int) (1) (fun ad => [.ref (ad 2), .int (x1)]) (fun Q σ => wp_X1_byteAt x1 (aI Q) σ) := by
  refine con_intro (by decide +kernel) (fun _ => Nat.le_of_ble_eq_true rfl) (by omega) (fun X Q σ hX hR hw => ?_)
  have hX : CxB X RX1 cX1_byteAt 2 (1) := hX
  unfold wp_X1_byteAt at hw
  show At X 2 0 [(0, .ref (X.kad 2)), (1, .int (x1))] [] σ
  refine r_iload_n 1 hX dX1_byteAt_0 rfl rfl 1 rfl ?_
  refine r_if_lt 25 4 hX dX1_byteAt_1 (by decide) rfl hw (fun hw => ?_) (fun hw => ?_)
  · refine r_iconst 26 hX dX1_byteAt_25 rfl (-1) ic_m1 ?_
    exact r_iret hX hR dX1_byteAt_26 hw
  · refine r_iload_n 5 hX dX1_byteAt_4 rfl rfl 1 rfl ?_
    refine r_aload_n 6 hX dX1_byteAt_5 rfl rfl 0 rfl ?_
    refine g_X1_31_2 9 hX dX1_byteAt_6 rfl ?_
    refine r_icmp_ge 25 12 hX dX1_byteAt_9 (by decide) rfl hw (fun hw => ?_) (fun hw => ?_)
    · refine r_iconst 26 hX dX1_byteAt_25 rfl (-1) ic_m1 ?_
      exact r_iret hX hR dX1_byteAt_26 hw
    · refine r_aload_n 13 hX dX1_byteAt_12 rfl rfl 0 rfl ?_
      refine g_bytes 16 hX dX1_byteAt_13 rfl hw (fun hw => ?_)
      refine r_iload_n 17 hX dX1_byteAt_16 rfl rfl 1 rfl ?_
      refine r_bald 18 hX sh_1 dX1_byteAt_17 rfl hw (fun hw => ?_)
      refine r_sipush 21 hX dX1_byteAt_18 rfl 255 si_255 ?_
      refine r_iand 22 hX dX1_byteAt_21 rfl ?_
      refine r_goto 26 hX dX1_byteAt_22 (by decide) ?_
      exact r_iret hX hR dX1_byteAt_26 hw
theorem k_X1_107_X1_byteAt {X : Cx} {cc : ByteArray} {nL d pc : Nat} {lv : List (Nat × Value)} {rest : List Value} {σ : St} {K : Int32 → St → Prop} (q : Nat) (hX : CxB X RX1 cc nL d) (hdc : 1 + 1 ≤ d) (x1 : Int32) (hst : (rest.map fun v => v.category).sum ≤ 8) (hd : decode cc pc = .ok (.invokevirtual 107, 3)) (hq : pc + 3 = q) (hw : wp_X1_byteAt x1 K σ) (kk : ∀ (r : Int32) (τ : St), K r τ → At X nL q lv (.int r :: rest) τ) : At X nL pc lv (.int (x1) :: .ref (X.kad 2) :: rest) σ := r_callV (n := 1) q hX (k0 := 2) (c_X1_byteAt x1) tw_225 tw_226 tw_227 tw_228 tw_229 ⟨by decide +kernel, by decide +kernel, by decide +kernel⟩ hdc (by decide) (As := [.int (x1)]) rfl rfl (by decide) ⟨_, _, _, rfl, rfl, rfl⟩ hst hd hq rfl (K := qI K) hw (kI kk)
set_option maxRecDepth 20000 in
set_option maxHeartbeats 4000000 in
theorem c_X1_letterAt (x1 : Int32) : Con yX1_letterAt cX1_letterAt 3 (some .boolean) (2) (fun ad => [.ref (ad 2), .int (x1)]) (fun Q σ => wp_X1_letterAt x1 (aI Q) σ) := by
  refine con_intro (by decide +kernel) (fun _ => Nat.le_of_ble_eq_true rfl) (by omega) (fun X Q σ hX hR hw => ?_)
  have hX : CxB X RX1 cX1_letterAt 3 (2) := hX
  unfold wp_X1_letterAt at hw
  show At X 3 0 [(0, .ref (X.kad 2)), (1, .int (x1))] [] σ
  refine r_aload_n 1 hX dX1_letterAt_0 rfl rfl 0 rfl ?_
  refine r_iload_n 2 hX dX1_letterAt_1 rfl rfl 1 rfl ?_
  refine k_X1_107_X1_byteAt 5 hX (by omega) (x1) (Nat.le_of_ble_eq_true rfl) dX1_letterAt_2 rfl hw (fun r2 σ2 hw => ?_)
  refine r_istore_n (lv' := [(2, .int (r2)), (0, .ref (X.kad 2)), (1, .int (x1))]) 6 hX dX1_letterAt_5 rfl rfl (by decide) rfl ?_
  refine r_iload_n 7 hX dX1_letterAt_6 rfl rfl 0 rfl ?_
  refine r_bipush 9 hX dX1_letterAt_7 rfl 97 bi_97 ?_
  refine r_icmp_lt 22 12 hX dX1_letterAt_9 (by decide) rfl hw (fun hw => ?_) (fun hw => ?_)
  · refine r_iconst 23 hX dX1_letterAt_22 rfl 0 ic_0 ?_
    exact r_zret hX hR narrow_b0 dX1_letterAt_23 hw
  · refine r_iload_n 13 hX dX1_letterAt_12 rfl rfl 0 rfl ?_
    refine r_bipush 15 hX dX1_letterAt_13 rfl 122 bi_122 ?_
    refine r_icmp_gt 22 18 hX dX1_letterAt_15 (by decide) rfl hw (fun hw => ?_) (fun hw => ?_)
    · refine r_iconst 23 hX dX1_letterAt_22 rfl 0 ic_0 ?_
      exact r_zret hX hR narrow_b0 dX1_letterAt_23 hw
    · refine r_iconst 19 hX dX1_letterAt_18 rfl 1 ic_1 ?_
      refine r_goto 23 hX dX1_letterAt_19 (by decide) ?_
      exact r_zret hX hR narrow_b1 dX1_letterAt_23 hw
set_option maxRecDepth 20000 in
set_option maxHeartbeats 4000000 in
theorem c_X1_digitAt (x1 : Int32) : Con yX1_digitAt cX1_digitAt 3 (some .boolean) (2) (fun ad => [.ref (ad 2), .int (x1)]) (fun Q σ => wp_X1_digitAt x1 (aI Q) σ) := by
  refine con_intro (by decide +kernel) (fun _ => Nat.le_of_ble_eq_true rfl) (by omega) (fun X Q σ hX hR hw => ?_)
  have hX : CxB X RX1 cX1_digitAt 3 (2) := hX
  unfold wp_X1_digitAt at hw
  show At X 3 0 [(0, .ref (X.kad 2)), (1, .int (x1))] [] σ
  refine r_aload_n 1 hX dX1_digitAt_0 rfl rfl 0 rfl ?_
  refine r_iload_n 2 hX dX1_digitAt_1 rfl rfl 1 rfl ?_
  refine k_X1_107_X1_byteAt 5 hX (by omega) (x1) (Nat.le_of_ble_eq_true rfl) dX1_digitAt_2 rfl hw (fun r2 σ2 hw => ?_)
  refine r_istore_n (lv' := [(2, .int (r2)), (0, .ref (X.kad 2)), (1, .int (x1))]) 6 hX dX1_digitAt_5 rfl rfl (by decide) rfl ?_
  refine r_iload_n 7 hX dX1_digitAt_6 rfl rfl 0 rfl ?_
  refine r_bipush 9 hX dX1_digitAt_7 rfl 48 bi_48 ?_
  refine r_icmp_lt 22 12 hX dX1_digitAt_9 (by decide) rfl hw (fun hw => ?_) (fun hw => ?_)
  · refine r_iconst 23 hX dX1_digitAt_22 rfl 0 ic_0 ?_
    exact r_zret hX hR narrow_b0 dX1_digitAt_23 hw
  · refine r_iload_n 13 hX dX1_digitAt_12 rfl rfl 0 rfl ?_
    refine r_bipush 15 hX dX1_digitAt_13 rfl 57 bi_57 ?_
    refine r_icmp_gt 22 18 hX dX1_digitAt_15 (by decide) rfl hw (fun hw => ?_) (fun hw => ?_)
    · refine r_iconst 23 hX dX1_digitAt_22 rfl 0 ic_0 ?_
      exact r_zret hX hR narrow_b0 dX1_digitAt_23 hw
    · refine r_iconst 19 hX dX1_digitAt_18 rfl 1 ic_1 ?_
      refine r_goto 23 hX dX1_digitAt_19 (by decide) ?_
      exact r_zret hX hR narrow_b1 dX1_digitAt_23 hw
set_option maxRecDepth 20000 in
set_option maxHeartbeats 4000000 in
theorem w_X1_wordIs_0_b17 {X : Cx} {Q : RV → St → Prop} (hX : CxB X RX1 cX1_wordIs 4 (5)) (hR : CxR X (some .boolean) Q) {K17 : Int32 → Int32 → St → Prop} (hK17 : ∀ (x1 : Int32) (x3 : Int32) (σ : St), K17 x1 x3 σ → At X 4 17 [(0, .ref (X.kad 2)), (1, .int (x1)), (2, .ref (X.kad 102)), (3, .int (x3))] [] σ) (x1 : Int32) (x3 : Int32) (σ : St) (hw : wp_X1_wordIs_0_b17 (aI Q) K17 x1 x3 σ) : At X 4 17 [(0, .ref (X.kad 2)), (1, .int (x1)), (2, .ref (X.kad 102)), (3, .int (x3))] [] σ := by
  unfold wp_X1_wordIs_0_b17 at hw
  refine r_iload_n 18 hX dX1_wordIs_17 rfl rfl 3 rfl ?_
  refine r_aload_n 19 hX dX1_wordIs_18 rfl rfl 2 rfl ?_
  refine k_len_0 22 hX (by omega) (Nat.le_of_ble_eq_true rfl) dX1_wordIs_19 rfl ?_
  refine r_icmp_ge 48 25 hX dX1_wordIs_22 (by decide) rfl hw (fun hw => ?_) (fun hw => ?_)
  · refine r_iconst 49 hX dX1_wordIs_48 rfl 1 ic_1 ?_
    exact r_zret hX hR narrow_b1 dX1_wordIs_49 hw
  · refine r_aload_n 26 hX dX1_wordIs_25 rfl rfl 0 rfl ?_
    refine r_iload_n 27 hX dX1_wordIs_26 rfl rfl 1 rfl ?_
    refine r_iload_n 28 hX dX1_wordIs_27 rfl rfl 3 rfl ?_
    refine r_iadd 29 hX dX1_wordIs_28 rfl ?_
    refine k_X1_107_X1_byteAt 32 hX (by omega) (x1 + x3) (Nat.le_of_ble_eq_true rfl) dX1_wordIs_29 rfl hw (fun r29 σ29 hw => ?_)
    refine r_aload_n 33 hX dX1_wordIs_32 rfl rfl 2 rfl ?_
    refine r_iload_n 34 hX dX1_wordIs_33 rfl rfl 3 rfl ?_
    refine k_at_0 37 hX (by omega) (Nat.le_of_ble_eq_true rfl) dX1_wordIs_34 rfl hw (fun hw => ?_)
    refine r_icmp_eq 42 40 hX dX1_wordIs_37 (by decide) rfl hw (fun hw => ?_) (fun hw => ?_)
    · refine r_iinc (lv' := [(3, .int (x3 + 1)), (0, .ref (X.kad 2)), (1, .int (x1)), (2, .ref (X.kad 102))]) 45 hX dX1_wordIs_42 rfl 3 rfl (x3 + 1) (ici_1 _) (by decide) rfl ?_
      refine r_goto 17 hX dX1_wordIs_45 (by decide) ?_
      refine r_sub [1, 2, 3, 0] rfl ?_
      exact hK17 _ _ _ hw
    · refine r_iconst 41 hX dX1_wordIs_40 rfl 0 ic_0 ?_
      exact r_zret hX hR narrow_b0 dX1_wordIs_41 hw
set_option maxRecDepth 20000 in
set_option maxHeartbeats 4000000 in
theorem w_X1_wordIs_0_l17 {X : Cx} {Q : RV → St → Prop} (hX : CxB X RX1 cX1_wordIs 4 (5)) (hR : CxR X (some .boolean) Q) (n : Nat) : ∀ (x1 : Int32) (x3 : Int32) (σ : St), wp_X1_wordIs_0_l17 (aI Q)  n x1 x3 σ → At X 4 17 [(0, .ref (X.kad 2)), (1, .int (x1)), (2, .ref (X.kad 102)), (3, .int (x3))] [] σ := by
  induction n with
  | zero => intro x1 x3 σ h; exact h.elim
  | succ n ih => intro x1 x3 σ h; exact w_X1_wordIs_0_b17  hX hR ih x1 x3 σ h
set_option maxRecDepth 20000 in
set_option maxHeartbeats 4000000 in
theorem c_X1_wordIs_0 (x1 : Int32) : Con yX1_wordIs cX1_wordIs 4 (some .boolean) (5) (fun ad => [.ref (ad 2), .int (x1), .ref (ad 102)]) (fun Q σ => wp_X1_wordIs_0 x1 (aI Q) σ) := by
  refine con_intro (by decide +kernel) (fun _ => Nat.le_of_ble_eq_true rfl) (by omega) (fun X Q σ hX hR hw => ?_)
  have hX : CxB X RX1 cX1_wordIs 4 (5) := hX
  unfold wp_X1_wordIs_0 at hw
  show At X 4 0 [(0, .ref (X.kad 2)), (1, .int (x1)), (2, .ref (X.kad 102))] [] σ
  refine r_aload_n 1 hX dX1_wordIs_0 rfl rfl 0 rfl ?_
  refine g_X1_104_2 4 hX dX1_wordIs_1 rfl ?_
  refine r_iload_n 5 hX dX1_wordIs_4 rfl rfl 1 rfl ?_
  refine r_isub 6 hX dX1_wordIs_5 rfl ?_
  refine r_aload_n 7 hX dX1_wordIs_6 rfl rfl 2 rfl ?_
  refine k_len_0 10 hX (by omega) (Nat.le_of_ble_eq_true rfl) dX1_wordIs_7 rfl ?_
  refine r_icmp_eq 15 13 hX dX1_wordIs_10 (by decide) rfl hw (fun hw => ?_) (fun hw => ?_)
  · refine r_iconst 16 hX dX1_wordIs_15 rfl 0 ic_0 ?_
    refine r_istore_n (lv' := [(3, .int (0)), (0, .ref (X.kad 2)), (1, .int (x1)), (2, .ref (X.kad 102))]) 17 hX dX1_wordIs_16 rfl rfl (by decide) rfl ?_
    refine r_sub [1, 2, 3, 0] rfl ?_
    obtain ⟨n, hw⟩ := hw
    exact w_X1_wordIs_0_l17 hX hR n _ _ _ hw
  · refine r_iconst 14 hX dX1_wordIs_13 rfl 0 ic_0 ?_
    exact r_zret hX hR narrow_b0 dX1_wordIs_14 hw
set_option maxRecDepth 20000 in
set_option maxHeartbeats 4000000 in
theorem w_X1_wordIs_1_b17 {X : Cx} {Q : RV → St → Prop} (hX : CxB X RX1 cX1_wordIs 4 (5)) (hR : CxR X (some .boolean) Q) {K17 : Int32 → Int32 → St → Prop} (hK17 : ∀ (x1 : Int32) (x3 : Int32) (σ : St), K17 x1 x3 σ → At X 4 17 [(0, .ref (X.kad 2)), (1, .int (x1)), (2, .ref (X.kad 103)), (3, .int (x3))] [] σ) (x1 : Int32) (x3 : Int32) (σ : St) (hw : wp_X1_wordIs_1_b17 (aI Q) K17 x1 x3 σ) : At X 4 17 [(0, .ref (X.kad 2)), (1, .int (x1)), (2, .ref (X.kad 103)), (3, .int (x3))] [] σ := by
  unfold wp_X1_wordIs_1_b17 at hw
  refine r_iload_n 18 hX dX1_wordIs_17 rfl rfl 3 rfl ?_
  refine r_aload_n 19 hX dX1_wordIs_18 rfl rfl 2 rfl ?_
  refine k_len_1 22 hX (by omega) (Nat.le_of_ble_eq_true rfl) dX1_wordIs_19 rfl ?_
  refine r_icmp_ge 48 25 hX dX1_wordIs_22 (by decide) rfl hw (fun hw => ?_) (fun hw => ?_)
  · refine r_iconst 49 hX dX1_wordIs_48 rfl 1 ic_1 ?_
    exact r_zret hX hR narrow_b1 dX1_wordIs_49 hw
  · refine r_aload_n 26 hX dX1_wordIs_25 rfl rfl 0 rfl ?_
    refine r_iload_n 27 hX dX1_wordIs_26 rfl rfl 1 rfl ?_
    refine r_iload_n 28 hX dX1_wordIs_27 rfl rfl 3 rfl ?_
    refine r_iadd 29 hX dX1_wordIs_28 rfl ?_
    refine k_X1_107_X1_byteAt 32 hX (by omega) (x1 + x3) (Nat.le_of_ble_eq_true rfl) dX1_wordIs_29 rfl hw (fun r29 σ29 hw => ?_)
    refine r_aload_n 33 hX dX1_wordIs_32 rfl rfl 2 rfl ?_
    refine r_iload_n 34 hX dX1_wordIs_33 rfl rfl 3 rfl ?_
    refine k_at_1 37 hX (by omega) (Nat.le_of_ble_eq_true rfl) dX1_wordIs_34 rfl hw (fun hw => ?_)
    refine r_icmp_eq 42 40 hX dX1_wordIs_37 (by decide) rfl hw (fun hw => ?_) (fun hw => ?_)
    · refine r_iinc (lv' := [(3, .int (x3 + 1)), (0, .ref (X.kad 2)), (1, .int (x1)), (2, .ref (X.kad 103))]) 45 hX dX1_wordIs_42 rfl 3 rfl (x3 + 1) (ici_1 _) (by decide) rfl ?_
      refine r_goto 17 hX dX1_wordIs_45 (by decide) ?_
      refine r_sub [1, 2, 3, 0] rfl ?_
      exact hK17 _ _ _ hw
    · refine r_iconst 41 hX dX1_wordIs_40 rfl 0 ic_0 ?_
      exact r_zret hX hR narrow_b0 dX1_wordIs_41 hw
set_option maxRecDepth 20000 in
set_option maxHeartbeats 4000000 in
theorem w_X1_wordIs_1_l17 {X : Cx} {Q : RV → St → Prop} (hX : CxB X RX1 cX1_wordIs 4 (5)) (hR : CxR X (some .boolean) Q) (n : Nat) : ∀ (x1 : Int32) (x3 : Int32) (σ : St), wp_X1_wordIs_1_l17 (aI Q)  n x1 x3 σ → At X 4 17 [(0, .ref (X.kad 2)), (1, .int (x1)), (2, .ref (X.kad 103)), (3, .int (x3))] [] σ := by
  induction n with
  | zero => intro x1 x3 σ h; exact h.elim
  | succ n ih => intro x1 x3 σ h; exact w_X1_wordIs_1_b17  hX hR ih x1 x3 σ h
set_option maxRecDepth 20000 in
set_option maxHeartbeats 4000000 in
theorem c_X1_wordIs_1 (x1 : Int32) : Con yX1_wordIs cX1_wordIs 4 (some .boolean) (5) (fun ad => [.ref (ad 2), .int (x1), .ref (ad 103)]) (fun Q σ => wp_X1_wordIs_1 x1 (aI Q) σ) := by
  refine con_intro (by decide +kernel) (fun _ => Nat.le_of_ble_eq_true rfl) (by omega) (fun X Q σ hX hR hw => ?_)
  have hX : CxB X RX1 cX1_wordIs 4 (5) := hX
  unfold wp_X1_wordIs_1 at hw
  show At X 4 0 [(0, .ref (X.kad 2)), (1, .int (x1)), (2, .ref (X.kad 103))] [] σ
  refine r_aload_n 1 hX dX1_wordIs_0 rfl rfl 0 rfl ?_
  refine g_X1_104_2 4 hX dX1_wordIs_1 rfl ?_
  refine r_iload_n 5 hX dX1_wordIs_4 rfl rfl 1 rfl ?_
  refine r_isub 6 hX dX1_wordIs_5 rfl ?_
  refine r_aload_n 7 hX dX1_wordIs_6 rfl rfl 2 rfl ?_
  refine k_len_1 10 hX (by omega) (Nat.le_of_ble_eq_true rfl) dX1_wordIs_7 rfl ?_
  refine r_icmp_eq 15 13 hX dX1_wordIs_10 (by decide) rfl hw (fun hw => ?_) (fun hw => ?_)
  · refine r_iconst 16 hX dX1_wordIs_15 rfl 0 ic_0 ?_
    refine r_istore_n (lv' := [(3, .int (0)), (0, .ref (X.kad 2)), (1, .int (x1)), (2, .ref (X.kad 103))]) 17 hX dX1_wordIs_16 rfl rfl (by decide) rfl ?_
    refine r_sub [1, 2, 3, 0] rfl ?_
    obtain ⟨n, hw⟩ := hw
    exact w_X1_wordIs_1_l17 hX hR n _ _ _ hw
  · refine r_iconst 14 hX dX1_wordIs_13 rfl 0 ic_0 ?_
    exact r_zret hX hR narrow_b0 dX1_wordIs_14 hw
set_option maxRecDepth 20000 in
set_option maxHeartbeats 4000000 in
theorem w_X1_wordIs_2_b17 {X : Cx} {Q : RV → St → Prop} (hX : CxB X RX1 cX1_wordIs 4 (5)) (hR : CxR X (some .boolean) Q) {K17 : Int32 → Int32 → St → Prop} (hK17 : ∀ (x1 : Int32) (x3 : Int32) (σ : St), K17 x1 x3 σ → At X 4 17 [(0, .ref (X.kad 2)), (1, .int (x1)), (2, .ref (X.kad 104)), (3, .int (x3))] [] σ) (x1 : Int32) (x3 : Int32) (σ : St) (hw : wp_X1_wordIs_2_b17 (aI Q) K17 x1 x3 σ) : At X 4 17 [(0, .ref (X.kad 2)), (1, .int (x1)), (2, .ref (X.kad 104)), (3, .int (x3))] [] σ := by
  unfold wp_X1_wordIs_2_b17 at hw
  refine r_iload_n 18 hX dX1_wordIs_17 rfl rfl 3 rfl ?_
  refine r_aload_n 19 hX dX1_wordIs_18 rfl rfl 2 rfl ?_
  refine k_len_2 22 hX (by omega) (Nat.le_of_ble_eq_true rfl) dX1_wordIs_19 rfl ?_
  refine r_icmp_ge 48 25 hX dX1_wordIs_22 (by decide) rfl hw (fun hw => ?_) (fun hw => ?_)
  · refine r_iconst 49 hX dX1_wordIs_48 rfl 1 ic_1 ?_
    exact r_zret hX hR narrow_b1 dX1_wordIs_49 hw
  · refine r_aload_n 26 hX dX1_wordIs_25 rfl rfl 0 rfl ?_
    refine r_iload_n 27 hX dX1_wordIs_26 rfl rfl 1 rfl ?_
    refine r_iload_n 28 hX dX1_wordIs_27 rfl rfl 3 rfl ?_
    refine r_iadd 29 hX dX1_wordIs_28 rfl ?_
    refine k_X1_107_X1_byteAt 32 hX (by omega) (x1 + x3) (Nat.le_of_ble_eq_true rfl) dX1_wordIs_29 rfl hw (fun r29 σ29 hw => ?_)
    refine r_aload_n 33 hX dX1_wordIs_32 rfl rfl 2 rfl ?_
    refine r_iload_n 34 hX dX1_wordIs_33 rfl rfl 3 rfl ?_
    refine k_at_2 37 hX (by omega) (Nat.le_of_ble_eq_true rfl) dX1_wordIs_34 rfl hw (fun hw => ?_)
    refine r_icmp_eq 42 40 hX dX1_wordIs_37 (by decide) rfl hw (fun hw => ?_) (fun hw => ?_)
    · refine r_iinc (lv' := [(3, .int (x3 + 1)), (0, .ref (X.kad 2)), (1, .int (x1)), (2, .ref (X.kad 104))]) 45 hX dX1_wordIs_42 rfl 3 rfl (x3 + 1) (ici_1 _) (by decide) rfl ?_
      refine r_goto 17 hX dX1_wordIs_45 (by decide) ?_
      refine r_sub [1, 2, 3, 0] rfl ?_
      exact hK17 _ _ _ hw
    · refine r_iconst 41 hX dX1_wordIs_40 rfl 0 ic_0 ?_
      exact r_zret hX hR narrow_b0 dX1_wordIs_41 hw
set_option maxRecDepth 20000 in
set_option maxHeartbeats 4000000 in
theorem w_X1_wordIs_2_l17 {X : Cx} {Q : RV → St → Prop} (hX : CxB X RX1 cX1_wordIs 4 (5)) (hR : CxR X (some .boolean) Q) (n : Nat) : ∀ (x1 : Int32) (x3 : Int32) (σ : St), wp_X1_wordIs_2_l17 (aI Q)  n x1 x3 σ → At X 4 17 [(0, .ref (X.kad 2)), (1, .int (x1)), (2, .ref (X.kad 104)), (3, .int (x3))] [] σ := by
  induction n with
  | zero => intro x1 x3 σ h; exact h.elim
  | succ n ih => intro x1 x3 σ h; exact w_X1_wordIs_2_b17  hX hR ih x1 x3 σ h
set_option maxRecDepth 20000 in
set_option maxHeartbeats 4000000 in
theorem c_X1_wordIs_2 (x1 : Int32) : Con yX1_wordIs cX1_wordIs 4 (some .boolean) (5) (fun ad => [.ref (ad 2), .int (x1), .ref (ad 104)]) (fun Q σ => wp_X1_wordIs_2 x1 (aI Q) σ) := by
  refine con_intro (by decide +kernel) (fun _ => Nat.le_of_ble_eq_true rfl) (by omega) (fun X Q σ hX hR hw => ?_)
  have hX : CxB X RX1 cX1_wordIs 4 (5) := hX
  unfold wp_X1_wordIs_2 at hw
  show At X 4 0 [(0, .ref (X.kad 2)), (1, .int (x1)), (2, .ref (X.kad 104))] [] σ
  refine r_aload_n 1 hX dX1_wordIs_0 rfl rfl 0 rfl ?_
  refine g_X1_104_2 4 hX dX1_wordIs_1 rfl ?_
  refine r_iload_n 5 hX dX1_wordIs_4 rfl rfl 1 rfl ?_
  refine r_isub 6 hX dX1_wordIs_5 rfl ?_
  refine r_aload_n 7 hX dX1_wordIs_6 rfl rfl 2 rfl ?_
  refine k_len_2 10 hX (by omega) (Nat.le_of_ble_eq_true rfl) dX1_wordIs_7 rfl ?_
  refine r_icmp_eq 15 13 hX dX1_wordIs_10 (by decide) rfl hw (fun hw => ?_) (fun hw => ?_)
  · refine r_iconst 16 hX dX1_wordIs_15 rfl 0 ic_0 ?_
    refine r_istore_n (lv' := [(3, .int (0)), (0, .ref (X.kad 2)), (1, .int (x1)), (2, .ref (X.kad 104))]) 17 hX dX1_wordIs_16 rfl rfl (by decide) rfl ?_
    refine r_sub [1, 2, 3, 0] rfl ?_
    obtain ⟨n, hw⟩ := hw
    exact w_X1_wordIs_2_l17 hX hR n _ _ _ hw
  · refine r_iconst 14 hX dX1_wordIs_13 rfl 0 ic_0 ?_
    exact r_zret hX hR narrow_b0 dX1_wordIs_14 hw
set_option maxRecDepth 20000 in
set_option maxHeartbeats 4000000 in
theorem w_X1_wordIs_3_b17 {X : Cx} {Q : RV → St → Prop} (hX : CxB X RX1 cX1_wordIs 4 (5)) (hR : CxR X (some .boolean) Q) {K17 : Int32 → Int32 → St → Prop} (hK17 : ∀ (x1 : Int32) (x3 : Int32) (σ : St), K17 x1 x3 σ → At X 4 17 [(0, .ref (X.kad 2)), (1, .int (x1)), (2, .ref (X.kad 105)), (3, .int (x3))] [] σ) (x1 : Int32) (x3 : Int32) (σ : St) (hw : wp_X1_wordIs_3_b17 (aI Q) K17 x1 x3 σ) : At X 4 17 [(0, .ref (X.kad 2)), (1, .int (x1)), (2, .ref (X.kad 105)), (3, .int (x3))] [] σ := by
  unfold wp_X1_wordIs_3_b17 at hw
  refine r_iload_n 18 hX dX1_wordIs_17 rfl rfl 3 rfl ?_
  refine r_aload_n 19 hX dX1_wordIs_18 rfl rfl 2 rfl ?_
  refine k_len_3 22 hX (by omega) (Nat.le_of_ble_eq_true rfl) dX1_wordIs_19 rfl ?_
  refine r_icmp_ge 48 25 hX dX1_wordIs_22 (by decide) rfl hw (fun hw => ?_) (fun hw => ?_)
  · refine r_iconst 49 hX dX1_wordIs_48 rfl 1 ic_1 ?_
    exact r_zret hX hR narrow_b1 dX1_wordIs_49 hw
  · refine r_aload_n 26 hX dX1_wordIs_25 rfl rfl 0 rfl ?_
    refine r_iload_n 27 hX dX1_wordIs_26 rfl rfl 1 rfl ?_
    refine r_iload_n 28 hX dX1_wordIs_27 rfl rfl 3 rfl ?_
    refine r_iadd 29 hX dX1_wordIs_28 rfl ?_
    refine k_X1_107_X1_byteAt 32 hX (by omega) (x1 + x3) (Nat.le_of_ble_eq_true rfl) dX1_wordIs_29 rfl hw (fun r29 σ29 hw => ?_)
    refine r_aload_n 33 hX dX1_wordIs_32 rfl rfl 2 rfl ?_
    refine r_iload_n 34 hX dX1_wordIs_33 rfl rfl 3 rfl ?_
    refine k_at_3 37 hX (by omega) (Nat.le_of_ble_eq_true rfl) dX1_wordIs_34 rfl hw (fun hw => ?_)
    refine r_icmp_eq 42 40 hX dX1_wordIs_37 (by decide) rfl hw (fun hw => ?_) (fun hw => ?_)
    · refine r_iinc (lv' := [(3, .int (x3 + 1)), (0, .ref (X.kad 2)), (1, .int (x1)), (2, .ref (X.kad 105))]) 45 hX dX1_wordIs_42 rfl 3 rfl (x3 + 1) (ici_1 _) (by decide) rfl ?_
      refine r_goto 17 hX dX1_wordIs_45 (by decide) ?_
      refine r_sub [1, 2, 3, 0] rfl ?_
      exact hK17 _ _ _ hw
    · refine r_iconst 41 hX dX1_wordIs_40 rfl 0 ic_0 ?_
      exact r_zret hX hR narrow_b0 dX1_wordIs_41 hw
set_option maxRecDepth 20000 in
set_option maxHeartbeats 4000000 in
theorem w_X1_wordIs_3_l17 {X : Cx} {Q : RV → St → Prop} (hX : CxB X RX1 cX1_wordIs 4 (5)) (hR : CxR X (some .boolean) Q) (n : Nat) : ∀ (x1 : Int32) (x3 : Int32) (σ : St), wp_X1_wordIs_3_l17 (aI Q)  n x1 x3 σ → At X 4 17 [(0, .ref (X.kad 2)), (1, .int (x1)), (2, .ref (X.kad 105)), (3, .int (x3))] [] σ := by
  induction n with
  | zero => intro x1 x3 σ h; exact h.elim
  | succ n ih => intro x1 x3 σ h; exact w_X1_wordIs_3_b17  hX hR ih x1 x3 σ h
set_option maxRecDepth 20000 in
set_option maxHeartbeats 4000000 in
theorem c_X1_wordIs_3 (x1 : Int32) : Con yX1_wordIs cX1_wordIs 4 (some .boolean) (5) (fun ad => [.ref (ad 2), .int (x1), .ref (ad 105)]) (fun Q σ => wp_X1_wordIs_3 x1 (aI Q) σ) := by
  refine con_intro (by decide +kernel) (fun _ => Nat.le_of_ble_eq_true rfl) (by omega) (fun X Q σ hX hR hw => ?_)
  have hX : CxB X RX1 cX1_wordIs 4 (5) := hX
  unfold wp_X1_wordIs_3 at hw
  show At X 4 0 [(0, .ref (X.kad 2)), (1, .int (x1)), (2, .ref (X.kad 105))] [] σ
  refine r_aload_n 1 hX dX1_wordIs_0 rfl rfl 0 rfl ?_
  refine g_X1_104_2 4 hX dX1_wordIs_1 rfl ?_
  refine r_iload_n 5 hX dX1_wordIs_4 rfl rfl 1 rfl ?_
  refine r_isub 6 hX dX1_wordIs_5 rfl ?_
  refine r_aload_n 7 hX dX1_wordIs_6 rfl rfl 2 rfl ?_
  refine k_len_3 10 hX (by omega) (Nat.le_of_ble_eq_true rfl) dX1_wordIs_7 rfl ?_
  refine r_icmp_eq 15 13 hX dX1_wordIs_10 (by decide) rfl hw (fun hw => ?_) (fun hw => ?_)
  · refine r_iconst 16 hX dX1_wordIs_15 rfl 0 ic_0 ?_
    refine r_istore_n (lv' := [(3, .int (0)), (0, .ref (X.kad 2)), (1, .int (x1)), (2, .ref (X.kad 105))]) 17 hX dX1_wordIs_16 rfl rfl (by decide) rfl ?_
    refine r_sub [1, 2, 3, 0] rfl ?_
    obtain ⟨n, hw⟩ := hw
    exact w_X1_wordIs_3_l17 hX hR n _ _ _ hw
  · refine r_iconst 14 hX dX1_wordIs_13 rfl 0 ic_0 ?_
    exact r_zret hX hR narrow_b0 dX1_wordIs_14 hw
theorem k_X1_130_X1_wordIs_0 {X : Cx} {cc : ByteArray} {nL d pc : Nat} {lv : List (Nat × Value)} {rest : List Value} {σ : St} {K : Int32 → St → Prop} (q : Nat) (hX : CxB X RX1 cc nL d) (hdc : 5 + 1 ≤ d) (x1 : Int32) (hst : (rest.map fun v => v.category).sum ≤ 8) (hd : decode cc pc = .ok (.invokevirtual 130, 3)) (hq : pc + 3 = q) (hw : wp_X1_wordIs_0 x1 K σ) (kk : ∀ (r : Int32) (τ : St), K r τ → At X nL q lv (.int r :: rest) τ) : At X nL pc lv (.ref (X.kad 102) :: .int (x1) :: .ref (X.kad 2) :: rest) σ := r_callV (n := 2) q hX (k0 := 2) (c_X1_wordIs_0 x1) tw_231 tw_232 tw_233 tw_228 tw_234 ⟨by decide +kernel, by decide +kernel, by decide +kernel⟩ hdc (by decide) (As := [.int (x1), .ref (X.kad 102)]) rfl rfl (by decide) ⟨_, _, _, rfl, rfl, rfl⟩ hst hd hq rfl (K := qI K) hw (kI kk)
theorem k_X1_130_X1_wordIs_1 {X : Cx} {cc : ByteArray} {nL d pc : Nat} {lv : List (Nat × Value)} {rest : List Value} {σ : St} {K : Int32 → St → Prop} (q : Nat) (hX : CxB X RX1 cc nL d) (hdc : 5 + 1 ≤ d) (x1 : Int32) (hst : (rest.map fun v => v.category).sum ≤ 8) (hd : decode cc pc = .ok (.invokevirtual 130, 3)) (hq : pc + 3 = q) (hw : wp_X1_wordIs_1 x1 K σ) (kk : ∀ (r : Int32) (τ : St), K r τ → At X nL q lv (.int r :: rest) τ) : At X nL pc lv (.ref (X.kad 103) :: .int (x1) :: .ref (X.kad 2) :: rest) σ := r_callV (n := 2) q hX (k0 := 2) (c_X1_wordIs_1 x1) tw_231 tw_232 tw_233 tw_228 tw_234 ⟨by decide +kernel, by decide +kernel, by decide +kernel⟩ hdc (by decide) (As := [.int (x1), .ref (X.kad 103)]) rfl rfl (by decide) ⟨_, _, _, rfl, rfl, rfl⟩ hst hd hq rfl (K := qI K) hw (kI kk)
theorem k_X1_130_X1_wordIs_2 {X : Cx} {cc : ByteArray} {nL d pc : Nat} {lv : List (Nat × Value)} {rest : List Value} {σ : St} {K : Int32 → St → Prop} (q : Nat) (hX : CxB X RX1 cc nL d) (hdc : 5 + 1 ≤ d) (x1 : Int32) (hst : (rest.map fun v => v.category).sum ≤ 8) (hd : decode cc pc = .ok (.invokevirtual 130, 3)) (hq : pc + 3 = q) (hw : wp_X1_wordIs_2 x1 K σ) (kk : ∀ (r : Int32) (τ : St), K r τ → At X nL q lv (.int r :: rest) τ) : At X nL pc lv (.ref (X.kad 104) :: .int (x1) :: .ref (X.kad 2) :: rest) σ := r_callV (n := 2) q hX (k0 := 2) (c_X1_wordIs_2 x1) tw_231 tw_232 tw_233 tw_228 tw_234 ⟨by decide +kernel, by decide +kernel, by decide +kernel⟩ hdc (by decide) (As := [.int (x1), .ref (X.kad 104)]) rfl rfl (by decide) ⟨_, _, _, rfl, rfl, rfl⟩ hst hd hq rfl (K := qI K) hw (kI kk)
theorem k_X1_130_X1_wordIs_3 {X : Cx} {cc : ByteArray} {nL d pc : Nat} {lv : List (Nat × Value)} {rest : List Value} {σ : St} {K : Int32 → St → Prop} (q : Nat) (hX : CxB X RX1 cc nL d) (hdc : 5 + 1 ≤ d) (x1 : Int32) (hst : (rest.map fun v => v.category).sum ≤ 8) (hd : decode cc pc = .ok (.invokevirtual 130, 3)) (hq : pc + 3 = q) (hw : wp_X1_wordIs_3 x1 K σ) (kk : ∀ (r : Int32) (τ : St), K r τ → At X nL q lv (.int r :: rest) τ) : At X nL pc lv (.ref (X.kad 105) :: .int (x1) :: .ref (X.kad 2) :: rest) σ := r_callV (n := 2) q hX (k0 := 2) (c_X1_wordIs_3 x1) tw_231 tw_232 tw_233 tw_228 tw_234 ⟨by decide +kernel, by decide +kernel, by decide +kernel⟩ hdc (by decide) (As := [.int (x1), .ref (X.kad 105)]) rfl rfl (by decide) ⟨_, _, _, rfl, rfl, rfl⟩ hst hd hq rfl (K := qI K) hw (kI kk)
theorem k_X1_115_X1_letterAt {X : Cx} {cc : ByteArray} {nL d pc : Nat} {lv : List (Nat × Value)} {rest : List Value} {σ : St} {K : Int32 → St → Prop} (q : Nat) (hX : CxB X RX1 cc nL d) (hdc : 2 + 1 ≤ d) (x1 : Int32) (hst : (rest.map fun v => v.category).sum ≤ 8) (hd : decode cc pc = .ok (.invokevirtual 115, 3)) (hq : pc + 3 = q) (hw : wp_X1_letterAt x1 K σ) (kk : ∀ (r : Int32) (τ : St), K r τ → At X nL q lv (.int r :: rest) τ) : At X nL pc lv (.int (x1) :: .ref (X.kad 2) :: rest) σ := r_callV (n := 1) q hX (k0 := 2) (c_X1_letterAt x1) tw_235 tw_236 tw_237 tw_228 tw_238 ⟨by decide +kernel, by decide +kernel, by decide +kernel⟩ hdc (by decide) (As := [.int (x1)]) rfl rfl (by decide) ⟨_, _, _, rfl, rfl, rfl⟩ hst hd hq rfl (K := qI K) hw (kI kk)
set_option maxRecDepth 20000 in
set_option maxHeartbeats 4000000 in
theorem w_X1_partWord_b35 {X : Cx} {Q : RV → St → Prop} (hX : CxB X RX1 cX1_partWord 2 (6)) (hR : CxR X (some .int) Q) (x1 : Int32) (σ : St) (hw : wp_X1_partWord_b35 (aI Q)  x1 σ) : At X 2 35 [(0, .ref (X.kad 2)), (1, .int (x1))] [] σ := by
  unfold wp_X1_partWord_b35 at hw
  refine r_aload_n 36 hX dX1_partWord_35 rfl rfl 0 rfl ?_
  refine r_iload_n 37 hX dX1_partWord_36 rfl rfl 1 rfl ?_
  refine k_str_0 39 hX dX1_partWord_37 rfl ?_
  refine k_X1_130_X1_wordIs_0 42 hX (by omega) (x1) (Nat.le_of_ble_eq_true rfl) dX1_partWord_39 rfl hw (fun r39 σ39 hw => ?_)
  refine r_if_eq 47 45 hX dX1_partWord_42 (by decide) rfl hw (fun hw => ?_) (fun hw => ?_)
  · refine r_aload_n 48 hX dX1_partWord_47 rfl rfl 0 rfl ?_
    refine r_iload_n 49 hX dX1_partWord_48 rfl rfl 1 rfl ?_
    refine k_str_1 51 hX dX1_partWord_49 rfl ?_
    refine k_X1_130_X1_wordIs_1 54 hX (by omega) (x1) (Nat.le_of_ble_eq_true rfl) dX1_partWord_51 rfl hw (fun r51 σ51 hw => ?_)
    refine r_if_eq 59 57 hX dX1_partWord_54 (by decide) rfl hw (fun hw => ?_) (fun hw => ?_)
    · refine r_aload_n 60 hX dX1_partWord_59 rfl rfl 0 rfl ?_
      refine r_iload_n 61 hX dX1_partWord_60 rfl rfl 1 rfl ?_
      refine k_str_2 63 hX dX1_partWord_61 rfl ?_
      refine k_X1_130_X1_wordIs_2 66 hX (by omega) (x1) (Nat.le_of_ble_eq_true rfl) dX1_partWord_63 rfl hw (fun r63 σ63 hw => ?_)
      refine r_if_eq 71 69 hX dX1_partWord_66 (by decide) rfl hw (fun hw => ?_) (fun hw => ?_)
      · refine r_aload_n 72 hX dX1_partWord_71 rfl rfl 0 rfl ?_
        refine r_iload_n 73 hX dX1_partWord_72 rfl rfl 1 rfl ?_
        refine k_str_3 75 hX dX1_partWord_73 rfl ?_
        refine k_X1_130_X1_wordIs_3 78 hX (by omega) (x1) (Nat.le_of_ble_eq_true rfl) dX1_partWord_75 rfl hw (fun r75 σ75 hw => ?_)
        refine r_if_eq 85 81 hX dX1_partWord_78 (by decide) rfl hw (fun hw => ?_) (fun hw => ?_)
        · refine r_iconst 86 hX dX1_partWord_85 rfl 0 ic_0 ?_
          exact r_iret hX hR dX1_partWord_86 hw
        · refine r_iconst 82 hX dX1_partWord_81 rfl 4 ic_4 ?_
          refine r_goto 86 hX dX1_partWord_82 (by decide) ?_
          exact r_iret hX hR dX1_partWord_86 hw
      · refine r_iconst 70 hX dX1_partWord_69 rfl 3 ic_3 ?_
        exact r_iret hX hR dX1_partWord_70 hw
    · refine r_iconst 58 hX dX1_partWord_57 rfl 2 ic_2 ?_
      exact r_iret hX hR dX1_partWord_58 hw
  · refine r_iconst 46 hX dX1_partWord_45 rfl 1 ic_1 ?_
    exact r_iret hX hR dX1_partWord_46 hw
set_option maxRecDepth 20000 in
set_option maxHeartbeats 4000000 in
theorem w_X1_partWord_b0 {X : Cx} {Q : RV → St → Prop} (hX : CxB X RX1 cX1_partWord 2 (6)) (hR : CxR X (some .int) Q) {K0 : Int32 → St → Prop} (hK0 : ∀ (x1 : Int32) (σ : St), K0 x1 σ → At X 2 0 [(0, .ref (X.kad 2)), (1, .int (x1))] [] σ) (x1 : Int32) (σ : St) (hw : wp_X1_partWord_b0 (aI Q) K0 x1 σ) : At X 2 0 [(0, .ref (X.kad 2)), (1, .int (x1))] [] σ := by
  unfold wp_X1_partWord_b0 at hw
  refine r_aload_n 1 hX dX1_partWord_0 rfl rfl 0 rfl ?_
  refine g_X1_104_2 4 hX dX1_partWord_1 rfl ?_
  refine r_aload_n 5 hX dX1_partWord_4 rfl rfl 0 rfl ?_
  refine g_X1_31_2 8 hX dX1_partWord_5 rfl ?_
  refine r_icmp_ge 35 11 hX dX1_partWord_8 (by decide) rfl hw (fun hw => ?_) (fun hw => ?_)
  · exact w_X1_partWord_b35 hX hR _ _ hw
  · refine r_aload_n 12 hX dX1_partWord_11 rfl rfl 0 rfl ?_
    refine r_aload_n 13 hX dX1_partWord_12 rfl rfl 0 rfl ?_
    refine g_X1_104_2 16 hX dX1_partWord_13 rfl ?_
    refine k_X1_115_X1_letterAt 19 hX (by omega) (σ.1 2 2) (Nat.le_of_ble_eq_true rfl) dX1_partWord_16 rfl hw (fun r16 σ16 hw => ?_)
    refine r_if_eq 35 22 hX dX1_partWord_19 (by decide) rfl hw (fun hw => ?_) (fun hw => ?_)
    · exact w_X1_partWord_b35 hX hR _ _ hw
    · refine r_aload_n 23 hX dX1_partWord_22 rfl rfl 0 rfl ?_
      refine r_dup 24 hX dX1_partWord_23 rfl rfl ?_
      refine g_X1_104_2 27 hX dX1_partWord_24 rfl ?_
      refine r_iconst 28 hX dX1_partWord_27 rfl 1 ic_1 ?_
      refine r_iadd 29 hX dX1_partWord_28 rfl ?_
      refine p_X1_104_2 32 hX dX1_partWord_29 rfl ?_
      refine r_goto 0 hX dX1_partWord_32 (by decide) ?_
      exact hK0 _ _ hw
set_option maxRecDepth 20000 in
set_option maxHeartbeats 4000000 in
theorem w_X1_partWord_l0 {X : Cx} {Q : RV → St → Prop} (hX : CxB X RX1 cX1_partWord 2 (6)) (hR : CxR X (some .int) Q) (n : Nat) : ∀ (x1 : Int32) (σ : St), wp_X1_partWord_l0 (aI Q)  n x1 σ → At X 2 0 [(0, .ref (X.kad 2)), (1, .int (x1))] [] σ := by
  induction n with
  | zero => intro x1 σ h; exact h.elim
  | succ n ih => intro x1 σ h; exact w_X1_partWord_b0  hX hR ih x1 σ h
set_option maxRecDepth 20000 in
set_option maxHeartbeats 4000000 in
theorem c_X1_partWord (x1 : Int32) : Con yX1_partWord cX1_partWord 2 (some .int) (6) (fun ad => [.ref (ad 2), .int (x1)]) (fun Q σ => wp_X1_partWord x1 (aI Q) σ) := by
  refine con_intro (by decide +kernel) (fun _ => Nat.le_of_ble_eq_true rfl) (by omega) (fun X Q σ hX hR hw => ?_)
  have hX : CxB X RX1 cX1_partWord 2 (6) := hX
  unfold wp_X1_partWord at hw
  show At X 2 0 [(0, .ref (X.kad 2)), (1, .int (x1))] [] σ
  obtain ⟨n, hw⟩ := hw
  exact w_X1_partWord_l0 hX hR n _ _ hw
theorem k_X1_122_X1_digitAt {X : Cx} {cc : ByteArray} {nL d pc : Nat} {lv : List (Nat × Value)} {rest : List Value} {σ : St} {K : Int32 → St → Prop} (q : Nat) (hX : CxB X RX1 cc nL d) (hdc : 2 + 1 ≤ d) (x1 : Int32) (hst : (rest.map fun v => v.category).sum ≤ 8) (hd : decode cc pc = .ok (.invokevirtual 122, 3)) (hq : pc + 3 = q) (hw : wp_X1_digitAt x1 K σ) (kk : ∀ (r : Int32) (τ : St), K r τ → At X nL q lv (.int r :: rest) τ) : At X nL pc lv (.int (x1) :: .ref (X.kad 2) :: rest) σ := r_callV (n := 1) q hX (k0 := 2) (c_X1_digitAt x1) tw_240 tw_241 tw_242 tw_228 tw_243 ⟨by decide +kernel, by decide +kernel, by decide +kernel⟩ hdc (by decide) (As := [.int (x1)]) rfl rfl (by decide) ⟨_, _, _, rfl, rfl, rfl⟩ hst hd hq rfl (K := qI K) hw (kI kk)
set_option maxRecDepth 20000 in
set_option maxHeartbeats 4000000 in
theorem w_X1_partNumber_b93 {X : Cx} {Q : RV → St → Prop} (hX : CxB X RX1 cX1_partNumber 3 (3)) (hR : CxR X (some .int) Q) (s0 : Int32) (σ : St) (hw : wp_X1_partNumber_b93 (aI Q)  s0 σ) : At X 3 93 [(0, .ref (X.kad 2))] [.int (s0)] σ := by
  unfold wp_X1_partNumber_b93 at hw
  refine r_istore_n (lv' := [(2, .int (s0)), (0, .ref (X.kad 2))]) 94 hX dX1_partNumber_93 rfl rfl (by decide) rfl ?_
  refine r_iload_n 95 hX dX1_partNumber_94 rfl rfl 0 rfl ?_
  refine r_if_ne 107 98 hX dX1_partNumber_95 (by decide) rfl hw (fun hw => ?_) (fun hw => ?_)
  · refine r_iconst 108 hX dX1_partNumber_107 rfl 0 ic_0 ?_
    refine r_goto 112 hX dX1_partNumber_108 (by decide) ?_
    exact r_iret hX hR dX1_partNumber_112 hw
  · refine r_aload_n 99 hX dX1_partNumber_98 rfl rfl 1 rfl ?_
    refine g_X1_76_2 102 hX dX1_partNumber_99 rfl ?_
    refine r_bipush 104 hX dX1_partNumber_102 rfl 99 bi_99 ?_
    refine r_icmp_le 111 107 hX dX1_partNumber_104 (by decide) rfl hw (fun hw => ?_) (fun hw => ?_)
    · refine r_iconst 112 hX dX1_partNumber_111 rfl 5 ic_5 ?_
      exact r_iret hX hR dX1_partNumber_112 hw
    · refine r_iconst 108 hX dX1_partNumber_107 rfl 0 ic_0 ?_
      refine r_goto 112 hX dX1_partNumber_108 (by decide) ?_
      exact r_iret hX hR dX1_partNumber_112 hw
set_option maxRecDepth 20000 in
set_option maxHeartbeats 4000000 in
theorem w_X1_partNumber_b92 {X : Cx} {Q : RV → St → Prop} (hX : CxB X RX1 cX1_partNumber 3 (3)) (hR : CxR X (some .int) Q) (σ : St) (hw : wp_X1_partNumber_b92 (aI Q)   σ) : At X 3 92 [(0, .ref (X.kad 2))] [] σ := by
  unfold wp_X1_partNumber_b92 at hw
  refine r_iconst 93 hX dX1_partNumber_92 rfl 0 ic_0 ?_
  exact w_X1_partNumber_b93 hX hR _ _ hw
set_option maxRecDepth 20000 in
set_option maxHeartbeats 4000000 in
theorem w_X1_partNumber_b68 {X : Cx} {Q : RV → St → Prop} (hX : CxB X RX1 cX1_partNumber 3 (3)) (hR : CxR X (some .int) Q) (x1 : Int32) (σ : St) (hw : wp_X1_partNumber_b68 (aI Q)  x1 σ) : At X 3 68 [(0, .ref (X.kad 2)), (1, .int (x1))] [] σ := by
  unfold wp_X1_partNumber_b68 at hw
  refine r_aload_n 69 hX dX1_partNumber_68 rfl rfl 0 rfl ?_
  refine g_X1_104_2 72 hX dX1_partNumber_69 rfl ?_
  refine r_iload_n 73 hX dX1_partNumber_72 rfl rfl 1 rfl ?_
  refine r_isub 74 hX dX1_partNumber_73 rfl ?_
  refine r_iconst 75 hX dX1_partNumber_74 rfl 1 ic_1 ?_
  refine r_icmp_le 92 78 hX dX1_partNumber_75 (by decide) rfl hw (fun hw => ?_) (fun hw => ?_)
  · refine r_sub [0] rfl ?_
    exact w_X1_partNumber_b92 hX hR _ hw
  · refine r_aload_n 79 hX dX1_partNumber_78 rfl rfl 0 rfl ?_
    refine r_iload_n 80 hX dX1_partNumber_79 rfl rfl 1 rfl ?_
    refine k_X1_107_X1_byteAt 83 hX (by omega) (x1) (Nat.le_of_ble_eq_true rfl) dX1_partNumber_80 rfl hw (fun r80 σ80 hw => ?_)
    refine r_bipush 85 hX dX1_partNumber_83 rfl 48 bi_48 ?_
    refine r_icmp_ne 92 88 hX dX1_partNumber_85 (by decide) rfl hw (fun hw => ?_) (fun hw => ?_)
    · refine r_sub [0] rfl ?_
      exact w_X1_partNumber_b92 hX hR _ hw
    · refine r_iconst 89 hX dX1_partNumber_88 rfl 1 ic_1 ?_
      refine r_goto 93 hX dX1_partNumber_89 (by decide) ?_
      refine r_sub [0] rfl ?_
      exact w_X1_partNumber_b93 hX hR _ _ hw
set_option maxRecDepth 20000 in
set_option maxHeartbeats 4000000 in
theorem w_X1_partNumber_b5 {X : Cx} {Q : RV → St → Prop} (hX : CxB X RX1 cX1_partNumber 3 (3)) (hR : CxR X (some .int) Q) {K5 : Int32 → St → Prop} (hK5 : ∀ (x1 : Int32) (σ : St), K5 x1 σ → At X 3 5 [(0, .ref (X.kad 2)), (1, .int (x1))] [] σ) (x1 : Int32) (σ : St) (hw : wp_X1_partNumber_b5 (aI Q) K5 x1 σ) : At X 3 5 [(0, .ref (X.kad 2)), (1, .int (x1))] [] σ := by
  unfold wp_X1_partNumber_b5 at hw
  refine r_aload_n 6 hX dX1_partNumber_5 rfl rfl 0 rfl ?_
  refine g_X1_104_2 9 hX dX1_partNumber_6 rfl ?_
  refine r_aload_n 10 hX dX1_partNumber_9 rfl rfl 0 rfl ?_
  refine g_X1_31_2 13 hX dX1_partNumber_10 rfl ?_
  refine r_icmp_ge 68 16 hX dX1_partNumber_13 (by decide) rfl hw (fun hw => ?_) (fun hw => ?_)
  · exact w_X1_partNumber_b68 hX hR _ _ hw
  · refine r_aload_n 17 hX dX1_partNumber_16 rfl rfl 0 rfl ?_
    refine r_aload_n 18 hX dX1_partNumber_17 rfl rfl 0 rfl ?_
    refine g_X1_104_2 21 hX dX1_partNumber_18 rfl ?_
    refine k_X1_122_X1_digitAt 24 hX (by omega) (σ.1 2 2) (Nat.le_of_ble_eq_true rfl) dX1_partNumber_21 rfl hw (fun r21 σ21 hw => ?_)
    refine r_if_eq 68 27 hX dX1_partNumber_24 (by decide) rfl hw (fun hw => ?_) (fun hw => ?_)
    · exact w_X1_partNumber_b68 hX hR _ _ hw
    · refine r_aload_n 28 hX dX1_partNumber_27 rfl rfl 0 rfl ?_
      refine r_aload_n 29 hX dX1_partNumber_28 rfl rfl 0 rfl ?_
      refine g_X1_76_2 32 hX dX1_partNumber_29 rfl ?_
      refine r_bipush 34 hX dX1_partNumber_32 rfl 10 bi_10 ?_
      refine r_imul 35 hX dX1_partNumber_34 rfl ?_
      refine r_aload_n 36 hX dX1_partNumber_35 rfl rfl 0 rfl ?_
      refine r_aload_n 37 hX dX1_partNumber_36 rfl rfl 0 rfl ?_
      refine g_X1_104_2 40 hX dX1_partNumber_37 rfl ?_
      refine k_X1_107_X1_byteAt 43 hX (by omega) (σ21.1 2 2) (Nat.le_of_ble_eq_true rfl) dX1_partNumber_40 rfl hw (fun r40 σ40 hw => ?_)
      refine r_iadd 44 hX dX1_partNumber_43 rfl ?_
      refine r_bipush 46 hX dX1_partNumber_44 rfl 48 bi_48 ?_
      refine r_isub 47 hX dX1_partNumber_46 rfl ?_
      refine r_bipush 49 hX dX1_partNumber_47 rfl 100 bi_100 ?_
      refine r_mmin 52 hX tw_244 tw_103 tw_74 tw_104 (Nat.le_of_ble_eq_true rfl) dX1_partNumber_49 rfl ?_
      refine r_topi hw (fun v49 hw => ?_)
      refine p_X1_76_2 55 hX dX1_partNumber_52 rfl ?_
      refine r_aload_n 56 hX dX1_partNumber_55 rfl rfl 0 rfl ?_
      refine r_dup 57 hX dX1_partNumber_56 rfl rfl ?_
      refine g_X1_104_2 60 hX dX1_partNumber_57 rfl ?_
      refine r_iconst 61 hX dX1_partNumber_60 rfl 1 ic_1 ?_
      refine r_iadd 62 hX dX1_partNumber_61 rfl ?_
      refine p_X1_104_2 65 hX dX1_partNumber_62 rfl ?_
      refine r_goto 5 hX dX1_partNumber_65 (by decide) ?_
      exact hK5 _ _ hw
set_option maxRecDepth 20000 in
set_option maxHeartbeats 4000000 in
theorem w_X1_partNumber_l5 {X : Cx} {Q : RV → St → Prop} (hX : CxB X RX1 cX1_partNumber 3 (3)) (hR : CxR X (some .int) Q) (n : Nat) : ∀ (x1 : Int32) (σ : St), wp_X1_partNumber_l5 (aI Q)  n x1 σ → At X 3 5 [(0, .ref (X.kad 2)), (1, .int (x1))] [] σ := by
  induction n with
  | zero => intro x1 σ h; exact h.elim
  | succ n ih => intro x1 σ h; exact w_X1_partNumber_b5  hX hR ih x1 σ h
set_option maxRecDepth 20000 in
set_option maxHeartbeats 4000000 in
theorem c_X1_partNumber (x1 : Int32) : Con yX1_partNumber cX1_partNumber 3 (some .int) (3) (fun ad => [.ref (ad 2), .int (x1)]) (fun Q σ => wp_X1_partNumber x1 (aI Q) σ) := by
  refine con_intro (by decide +kernel) (fun _ => Nat.le_of_ble_eq_true rfl) (by omega) (fun X Q σ hX hR hw => ?_)
  have hX : CxB X RX1 cX1_partNumber 3 (3) := hX
  unfold wp_X1_partNumber at hw
  show At X 3 0 [(0, .ref (X.kad 2)), (1, .int (x1))] [] σ
  refine r_aload_n 1 hX dX1_partNumber_0 rfl rfl 0 rfl ?_
  refine r_iconst 2 hX dX1_partNumber_1 rfl 0 ic_0 ?_
  refine p_X1_76_2 5 hX dX1_partNumber_2 rfl ?_
  obtain ⟨n, hw⟩ := hw
  exact w_X1_partNumber_l5 hX hR n _ _ hw
theorem k_X1_125_X1_partNumber {X : Cx} {cc : ByteArray} {nL d pc : Nat} {lv : List (Nat × Value)} {rest : List Value} {σ : St} {K : Int32 → St → Prop} (q : Nat) (hX : CxB X RX1 cc nL d) (hdc : 3 + 1 ≤ d) (x1 : Int32) (hst : (rest.map fun v => v.category).sum ≤ 8) (hd : decode cc pc = .ok (.invokevirtual 125, 3)) (hq : pc + 3 = q) (hw : wp_X1_partNumber x1 K σ) (kk : ∀ (r : Int32) (τ : St), K r τ → At X nL q lv (.int r :: rest) τ) : At X nL pc lv (.int (x1) :: .ref (X.kad 2) :: rest) σ := r_callV (n := 1) q hX (k0 := 2) (c_X1_partNumber x1) tw_245 tw_246 tw_247 tw_228 tw_248 ⟨by decide +kernel, by decide +kernel, by decide +kernel⟩ hdc (by decide) (As := [.int (x1)]) rfl rfl (by decide) ⟨_, _, _, rfl, rfl, rfl⟩ hst hd hq rfl (K := qI K) hw (kI kk)
theorem k_X1_119_X1_partWord {X : Cx} {cc : ByteArray} {nL d pc : Nat} {lv : List (Nat × Value)} {rest : List Value} {σ : St} {K : Int32 → St → Prop} (q : Nat) (hX : CxB X RX1 cc nL d) (hdc : 6 + 1 ≤ d) (x1 : Int32) (hst : (rest.map fun v => v.category).sum ≤ 8) (hd : decode cc pc = .ok (.invokevirtual 119, 3)) (hq : pc + 3 = q) (hw : wp_X1_partWord x1 K σ) (kk : ∀ (r : Int32) (τ : St), K r τ → At X nL q lv (.int r :: rest) τ) : At X nL pc lv (.int (x1) :: .ref (X.kad 2) :: rest) σ := r_callV (n := 1) q hX (k0 := 2) (c_X1_partWord x1) tw_249 tw_250 tw_251 tw_228 tw_252 ⟨by decide +kernel, by decide +kernel, by decide +kernel⟩ hdc (by decide) (As := [.int (x1)]) rfl rfl (by decide) ⟨_, _, _, rfl, rfl, rfl⟩ hst hd hq rfl (K := qI K) hw (kI kk)
set_option maxRecDepth 20000 in
set_option maxHeartbeats 4000000 in
theorem c_X1_partToken : Con yX1_partToken cX1_partToken 2 (some .int) (7) (fun ad => [.ref (ad 2)]) (fun Q σ => wp_X1_partToken  (aI Q) σ) := by
  refine con_intro (by decide +kernel) (fun _ => Nat.le_of_ble_eq_true rfl) (by omega) (fun X Q σ hX hR hw => ?_)
  have hX : CxB X RX1 cX1_partToken 2 (7) := hX
  unfold wp_X1_partToken at hw
  show At X 2 0 [(0, .ref (X.kad 2))] [] σ
  refine r_aload_n 1 hX dX1_partToken_0 rfl rfl 0 rfl ?_
  refine g_X1_104_2 4 hX dX1_partToken_1 rfl ?_
  refine r_istore_n (lv' := [(1, .int (σ.1 2 2)), (0, .ref (X.kad 2))]) 5 hX dX1_partToken_4 rfl rfl (by decide) rfl ?_
  refine r_aload_n 6 hX dX1_partToken_5 rfl rfl 1 rfl ?_
  refine r_iload_n 7 hX dX1_partToken_6 rfl rfl 0 rfl ?_
  refine k_X1_115_X1_letterAt 10 hX (by omega) (σ.1 2 2) (Nat.le_of_ble_eq_true rfl) dX1_partToken_7 rfl hw (fun r7 σ7 hw => ?_)
  refine r_if_eq 19 13 hX dX1_partToken_10 (by decide) rfl hw (fun hw => ?_) (fun hw => ?_)
  · refine r_aload_n 20 hX dX1_partToken_19 rfl rfl 1 rfl ?_
    refine r_iload_n 21 hX dX1_partToken_20 rfl rfl 0 rfl ?_
    refine k_X1_122_X1_digitAt 24 hX (by omega) (σ.1 2 2) (Nat.le_of_ble_eq_true rfl) dX1_partToken_21 rfl hw (fun r21 σ21 hw => ?_)
    refine r_if_eq 33 27 hX dX1_partToken_24 (by decide) rfl hw (fun hw => ?_) (fun hw => ?_)
    · refine r_aload_n 34 hX dX1_partToken_33 rfl rfl 1 rfl ?_
      refine r_dup 35 hX dX1_partToken_34 rfl rfl ?_
      refine g_X1_104_2 38 hX dX1_partToken_35 rfl ?_
      refine r_iconst 39 hX dX1_partToken_38 rfl 1 ic_1 ?_
      refine r_iadd 40 hX dX1_partToken_39 rfl ?_
      refine p_X1_104_2 43 hX dX1_partToken_40 rfl ?_
      refine r_aload_n 44 hX dX1_partToken_43 rfl rfl 1 rfl ?_
      refine r_iload_n 45 hX dX1_partToken_44 rfl rfl 0 rfl ?_
      refine k_X1_107_X1_byteAt 48 hX (by omega) (σ.1 2 2) (Nat.le_of_ble_eq_true rfl) dX1_partToken_45 rfl hw (fun r45 σ45 hw => ?_)
      refine r_bipush 50 hX dX1_partToken_48 rfl 59 bi_59 ?_
      refine r_icmp_ne 58 53 hX dX1_partToken_50 (by decide) rfl hw (fun hw => ?_) (fun hw => ?_)
      · refine r_iconst 59 hX dX1_partToken_58 rfl 0 ic_0 ?_
        exact r_iret hX hR dX1_partToken_59 hw
      · refine r_bipush 55 hX dX1_partToken_53 rfl 6 bi_6 ?_
        refine r_goto 59 hX dX1_partToken_55 (by decide) ?_
        exact r_iret hX hR dX1_partToken_59 hw
    · refine r_aload_n 28 hX dX1_partToken_27 rfl rfl 1 rfl ?_
      refine r_iload_n 29 hX dX1_partToken_28 rfl rfl 0 rfl ?_
      refine k_X1_125_X1_partNumber 32 hX (by omega) (σ.1 2 2) (Nat.le_of_ble_eq_true rfl) dX1_partToken_29 rfl hw (fun r29 σ29 hw => ?_)
      exact r_iret hX hR dX1_partToken_32 hw
  · refine r_aload_n 14 hX dX1_partToken_13 rfl rfl 1 rfl ?_
    refine r_iload_n 15 hX dX1_partToken_14 rfl rfl 0 rfl ?_
    refine k_X1_119_X1_partWord 18 hX (by omega) (σ.1 2 2) (Nat.le_of_ble_eq_true rfl) dX1_partToken_15 rfl hw (fun r15 σ15 hw => ?_)
    exact r_iret hX hR dX1_partToken_18 hw
theorem k_X1_111_X1_partToken {X : Cx} {cc : ByteArray} {nL d pc : Nat} {lv : List (Nat × Value)} {rest : List Value} {σ : St} {K : Int32 → St → Prop} (q : Nat) (hX : CxB X RX1 cc nL d) (hdc : 7 + 1 ≤ d) (hst : (rest.map fun v => v.category).sum ≤ 8) (hd : decode cc pc = .ok (.invokevirtual 111, 3)) (hq : pc + 3 = q) (hw : wp_X1_partToken  K σ) (kk : ∀ (r : Int32) (τ : St), K r τ → At X nL q lv (.int r :: rest) τ) : At X nL pc lv (.ref (X.kad 2) :: rest) σ := r_callV (n := 0) q hX (k0 := 2) (c_X1_partToken ) tw_256 tw_257 tw_258 tw_228 tw_259 ⟨by decide +kernel, by decide +kernel, by decide +kernel⟩ hdc (by decide) (As := []) rfl rfl (by decide) ⟨_, _, _, rfl, rfl, rfl⟩ hst hd hq rfl (K := qI K) hw (kI kk)
set_option maxRecDepth 20000 in
set_option maxHeartbeats 4000000 in
theorem w_X1_part_b10 {X : Cx} {Q : RV → St → Prop} (hX : CxB X RX1 cX1_part 1 (8)) (hR : CxR X (none) Q) {K10 : St → Prop} (hK10 : ∀ (σ : St), K10  σ → At X 1 10 [(0, .ref (X.kad 2))] [] σ) (σ : St) (hw : wp_X1_part_b10 (aV Q) K10  σ) : At X 1 10 [(0, .ref (X.kad 2))] [] σ := by
  unfold wp_X1_part_b10 at hw
  refine r_aload_n 11 hX dX1_part_10 rfl rfl 0 rfl ?_
  refine g_X1_104_2 14 hX dX1_part_11 rfl ?_
  refine r_aload_n 15 hX dX1_part_14 rfl rfl 0 rfl ?_
  refine g_X1_31_2 18 hX dX1_part_15 rfl ?_
  refine r_icmp_ge 109 21 hX dX1_part_18 (by decide) rfl hw (fun hw => ?_) (fun hw => ?_)
  · exact r_vret hX hR dX1_part_109 hw
  · refine r_aload_n 22 hX dX1_part_21 rfl rfl 0 rfl ?_
    refine g_X1_46_2 25 hX dX1_part_22 rfl ?_
    refine r_sipush 28 hX dX1_part_25 rfl 300 si_300 ?_
    refine r_icmp_ge 109 31 hX dX1_part_28 (by decide) rfl hw (fun hw => ?_) (fun hw => ?_)
    · exact r_vret hX hR dX1_part_109 hw
    · refine r_aload_n 32 hX dX1_part_31 rfl rfl 0 rfl ?_
      refine r_aload_n 33 hX dX1_part_32 rfl rfl 0 rfl ?_
      refine g_X1_104_2 36 hX dX1_part_33 rfl ?_
      refine k_X1_107_X1_byteAt 39 hX (by omega) (σ.1 2 2) (Nat.le_of_ble_eq_true rfl) dX1_part_36 rfl hw (fun r36 σ36 hw => ?_)
      refine r_bipush 41 hX dX1_part_39 rfl 32 bi_32 ?_
      refine r_icmp_ne 57 44 hX dX1_part_41 (by decide) rfl hw (fun hw => ?_) (fun hw => ?_)
      · refine r_aload_n 58 hX dX1_part_57 rfl rfl 0 rfl ?_
        refine g_X1_19_2 61 hX dX1_part_58 rfl ?_
        refine r_aload_n 62 hX dX1_part_61 rfl rfl 0 rfl ?_
        refine g_X1_46_2 65 hX dX1_part_62 rfl ?_
        refine r_aload_n 66 hX dX1_part_65 rfl rfl 0 rfl ?_
        refine g_X1_104_2 69 hX dX1_part_66 rfl ?_
        refine r_iast 70 hX sh_101 dX1_part_69 rfl hw (fun hw => ?_)
        refine r_aload_n 71 hX dX1_part_70 rfl rfl 0 rfl ?_
        refine g_X1_15_2 74 hX dX1_part_71 rfl ?_
        refine r_aload_n 75 hX dX1_part_74 rfl rfl 0 rfl ?_
        refine g_X1_46_2 78 hX dX1_part_75 rfl ?_
        refine r_aload_n 79 hX dX1_part_78 rfl rfl 0 rfl ?_
        refine k_X1_111_X1_partToken 82 hX (by omega)  (Nat.le_of_ble_eq_true rfl) dX1_part_79 rfl hw (fun r79 σ79 hw => ?_)
        refine r_iast 83 hX sh_100 dX1_part_82 rfl hw (fun hw => ?_)
        refine r_aload_n 84 hX dX1_part_83 rfl rfl 0 rfl ?_
        refine g_X1_22_2 87 hX dX1_part_84 rfl ?_
        refine r_aload_n 88 hX dX1_part_87 rfl rfl 0 rfl ?_
        refine g_X1_46_2 91 hX dX1_part_88 rfl ?_
        refine r_aload_n 92 hX dX1_part_91 rfl rfl 0 rfl ?_
        refine g_X1_76_2 95 hX dX1_part_92 rfl ?_
        refine r_iast 96 hX sh_74 dX1_part_95 rfl hw (fun hw => ?_)
        refine r_aload_n 97 hX dX1_part_96 rfl rfl 0 rfl ?_
        refine r_dup 98 hX dX1_part_97 rfl rfl ?_
        refine g_X1_46_2 101 hX dX1_part_98 rfl ?_
        refine r_iconst 102 hX dX1_part_101 rfl 1 ic_1 ?_
        refine r_iadd 103 hX dX1_part_102 rfl ?_
        refine p_X1_46_2 106 hX dX1_part_103 rfl ?_
        refine r_goto 10 hX dX1_part_106 (by decide) ?_
        exact hK10 _ hw
      · refine r_aload_n 45 hX dX1_part_44 rfl rfl 0 rfl ?_
        refine r_dup 46 hX dX1_part_45 rfl rfl ?_
        refine g_X1_104_2 49 hX dX1_part_46 rfl ?_
        refine r_iconst 50 hX dX1_part_49 rfl 1 ic_1 ?_
        refine r_iadd 51 hX dX1_part_50 rfl ?_
        refine p_X1_104_2 54 hX dX1_part_51 rfl ?_
        refine r_goto 10 hX dX1_part_54 (by decide) ?_
        exact hK10 _ hw
set_option maxRecDepth 20000 in
set_option maxHeartbeats 4000000 in
theorem w_X1_part_l10 {X : Cx} {Q : RV → St → Prop} (hX : CxB X RX1 cX1_part 1 (8)) (hR : CxR X (none) Q) (n : Nat) : ∀ (σ : St), wp_X1_part_l10 (aV Q)  n σ → At X 1 10 [(0, .ref (X.kad 2))] [] σ := by
  induction n with
  | zero => intro σ h; exact h.elim
  | succ n ih => intro σ h; exact w_X1_part_b10  hX hR ih σ h
set_option maxRecDepth 20000 in
set_option maxHeartbeats 4000000 in
theorem c_X1_part : Con yX1_part cX1_part 1 (none) (8) (fun ad => [.ref (ad 2)]) (fun Q σ => wp_X1_part  (aV Q) σ) := by
  refine con_intro (by decide +kernel) (fun _ => Nat.le_of_ble_eq_true rfl) (by omega) (fun X Q σ hX hR hw => ?_)
  have hX : CxB X RX1 cX1_part 1 (8) := hX
  unfold wp_X1_part at hw
  show At X 1 0 [(0, .ref (X.kad 2))] [] σ
  refine r_aload_n 1 hX dX1_part_0 rfl rfl 0 rfl ?_
  refine r_iconst 2 hX dX1_part_1 rfl 0 ic_0 ?_
  refine p_X1_46_2 5 hX dX1_part_2 rfl ?_
  refine r_aload_n 6 hX dX1_part_5 rfl rfl 0 rfl ?_
  refine r_iconst 7 hX dX1_part_6 rfl 0 ic_0 ?_
  refine p_X1_104_2 10 hX dX1_part_7 rfl ?_
  obtain ⟨n, hw⟩ := hw
  exact w_X1_part_l10 hX hR n _ hw
set_option maxRecDepth 20000 in
set_option maxHeartbeats 4000000 in
theorem c_X1_readNumber (x1 : Int32) (x2 : Int32) : Con yX1_readNumber cX1_readNumber 3 (some .boolean) (1) (fun ad => [.ref (ad 2), .int (x1), .int (x2)]) (fun Q σ => wp_X1_readNumber x1 x2 (aI Q) σ) := by
  refine con_intro (by decide +kernel) (fun _ => Nat.le_of_ble_eq_true rfl) (by omega) (fun X Q σ hX hR hw => ?_)
  have hX : CxB X RX1 cX1_readNumber 3 (1) := hX
  unfold wp_X1_readNumber at hw
  show At X 3 0 [(0, .ref (X.kad 2)), (1, .int (x1)), (2, .int (x2))] [] σ
  refine r_aload_n 1 hX dX1_readNumber_0 rfl rfl 0 rfl ?_
  refine r_dup 2 hX dX1_readNumber_1 rfl rfl ?_
  refine g_X1_43_2 5 hX dX1_readNumber_2 rfl ?_
  refine r_iconst 6 hX dX1_readNumber_5 rfl 1 ic_1 ?_
  refine r_iadd 7 hX dX1_readNumber_6 rfl ?_
  refine p_X1_43_2 10 hX dX1_readNumber_7 rfl ?_
  refine r_aload_n 11 hX dX1_readNumber_10 rfl rfl 0 rfl ?_
  refine g_X1_43_2 14 hX dX1_readNumber_11 rfl ?_
  refine r_aload_n 15 hX dX1_readNumber_14 rfl rfl 0 rfl ?_
  refine g_X1_46_2 18 hX dX1_readNumber_15 rfl ?_
  refine r_icmp_ge 34 21 hX dX1_readNumber_18 (by decide) rfl hw (fun hw => ?_) (fun hw => ?_)
  · refine r_iconst 35 hX dX1_readNumber_34 rfl 0 ic_0 ?_
    exact r_zret hX hR narrow_b0 dX1_readNumber_35 hw
  · refine r_aload_n 22 hX dX1_readNumber_21 rfl rfl 0 rfl ?_
    refine g_X1_15_2 25 hX dX1_readNumber_22 rfl ?_
    refine r_aload_n 26 hX dX1_readNumber_25 rfl rfl 0 rfl ?_
    refine g_X1_43_2 29 hX dX1_readNumber_26 rfl ?_
    refine r_iald 30 hX sh_100 dX1_readNumber_29 rfl hw (fun hw => ?_)
    refine r_iconst 31 hX dX1_readNumber_30 rfl 5 ic_5 ?_
    refine r_icmp_eq 36 34 hX dX1_readNumber_31 (by decide) rfl hw (fun hw => ?_) (fun hw => ?_)
    · refine r_aload_n 37 hX dX1_readNumber_36 rfl rfl 0 rfl ?_
      refine r_aload_n 38 hX dX1_readNumber_37 rfl rfl 0 rfl ?_
      refine g_X1_22_2 41 hX dX1_readNumber_38 rfl ?_
      refine r_aload_n 42 hX dX1_readNumber_41 rfl rfl 0 rfl ?_
      refine g_X1_43_2 45 hX dX1_readNumber_42 rfl ?_
      refine r_iald 46 hX sh_74 dX1_readNumber_45 rfl hw (fun hw => ?_)
      refine p_X1_76_2 49 hX dX1_readNumber_46 rfl ?_
      refine r_aload_n 50 hX dX1_readNumber_49 rfl rfl 0 rfl ?_
      refine g_X1_76_2 53 hX dX1_readNumber_50 rfl ?_
      refine r_iload_n 54 hX dX1_readNumber_53 rfl rfl 1 rfl ?_
      refine r_icmp_lt 69 57 hX dX1_readNumber_54 (by decide) rfl hw (fun hw => ?_) (fun hw => ?_)
      · refine r_iconst 70 hX dX1_readNumber_69 rfl 0 ic_0 ?_
        exact r_zret hX hR narrow_b0 dX1_readNumber_70 hw
      · refine r_aload_n 58 hX dX1_readNumber_57 rfl rfl 0 rfl ?_
        refine g_X1_76_2 61 hX dX1_readNumber_58 rfl ?_
        refine r_iload_n 62 hX dX1_readNumber_61 rfl rfl 2 rfl ?_
        refine r_icmp_gt 69 65 hX dX1_readNumber_62 (by decide) rfl hw (fun hw => ?_) (fun hw => ?_)
        · refine r_iconst 70 hX dX1_readNumber_69 rfl 0 ic_0 ?_
          exact r_zret hX hR narrow_b0 dX1_readNumber_70 hw
        · refine r_iconst 66 hX dX1_readNumber_65 rfl 1 ic_1 ?_
          refine r_goto 70 hX dX1_readNumber_66 (by decide) ?_
          exact r_zret hX hR narrow_b1 dX1_readNumber_70 hw
    · refine r_iconst 35 hX dX1_readNumber_34 rfl 0 ic_0 ?_
      exact r_zret hX hR narrow_b0 dX1_readNumber_35 hw
set_option maxRecDepth 20000 in
set_option maxHeartbeats 4000000 in
theorem c_X1_readClose : Con yX1_readClose cX1_readClose 1 (some .boolean) (1) (fun ad => [.ref (ad 2)]) (fun Q σ => wp_X1_readClose  (aI Q) σ) := by
  refine con_intro (by decide +kernel) (fun _ => Nat.le_of_ble_eq_true rfl) (by omega) (fun X Q σ hX hR hw => ?_)
  have hX : CxB X RX1 cX1_readClose 1 (1) := hX
  unfold wp_X1_readClose at hw
  show At X 1 0 [(0, .ref (X.kad 2))] [] σ
  refine r_aload_n 1 hX dX1_readClose_0 rfl rfl 0 rfl ?_
  refine r_dup 2 hX dX1_readClose_1 rfl rfl ?_
  refine g_X1_43_2 5 hX dX1_readClose_2 rfl ?_
  refine r_iconst 6 hX dX1_readClose_5 rfl 1 ic_1 ?_
  refine r_iadd 7 hX dX1_readClose_6 rfl ?_
  refine p_X1_43_2 10 hX dX1_readClose_7 rfl ?_
  refine r_aload_n 11 hX dX1_readClose_10 rfl rfl 0 rfl ?_
  refine g_X1_43_2 14 hX dX1_readClose_11 rfl ?_
  refine r_aload_n 15 hX dX1_readClose_14 rfl rfl 0 rfl ?_
  refine g_X1_46_2 18 hX dX1_readClose_15 rfl ?_
  refine r_icmp_ge 39 21 hX dX1_readClose_18 (by decide) rfl hw (fun hw => ?_) (fun hw => ?_)
  · refine r_iconst 40 hX dX1_readClose_39 rfl 0 ic_0 ?_
    exact r_zret hX hR narrow_b0 dX1_readClose_40 hw
  · refine r_aload_n 22 hX dX1_readClose_21 rfl rfl 0 rfl ?_
    refine g_X1_15_2 25 hX dX1_readClose_22 rfl ?_
    refine r_aload_n 26 hX dX1_readClose_25 rfl rfl 0 rfl ?_
    refine g_X1_43_2 29 hX dX1_readClose_26 rfl ?_
    refine r_iald 30 hX sh_100 dX1_readClose_29 rfl hw (fun hw => ?_)
    refine r_bipush 32 hX dX1_readClose_30 rfl 6 bi_6 ?_
    refine r_icmp_ne 39 35 hX dX1_readClose_32 (by decide) rfl hw (fun hw => ?_) (fun hw => ?_)
    · refine r_iconst 40 hX dX1_readClose_39 rfl 0 ic_0 ?_
      exact r_zret hX hR narrow_b0 dX1_readClose_40 hw
    · refine r_iconst 36 hX dX1_readClose_35 rfl 1 ic_1 ?_
      refine r_goto 40 hX dX1_readClose_36 (by decide) ?_
      exact r_zret hX hR narrow_b1 dX1_readClose_40 hw
theorem k_X1_72_X1_readNumber {X : Cx} {cc : ByteArray} {nL d pc : Nat} {lv : List (Nat × Value)} {rest : List Value} {σ : St} {K : Int32 → St → Prop} (q : Nat) (hX : CxB X RX1 cc nL d) (hdc : 1 + 1 ≤ d) (x1 : Int32) (x2 : Int32) (hst : (rest.map fun v => v.category).sum ≤ 8) (hd : decode cc pc = .ok (.invokevirtual 72, 3)) (hq : pc + 3 = q) (hw : wp_X1_readNumber x1 x2 K σ) (kk : ∀ (r : Int32) (τ : St), K r τ → At X nL q lv (.int r :: rest) τ) : At X nL pc lv (.int (x2) :: .int (x1) :: .ref (X.kad 2) :: rest) σ := r_callV (n := 2) q hX (k0 := 2) (c_X1_readNumber x1 x2) tw_263 tw_264 tw_265 tw_228 tw_266 ⟨by decide +kernel, by decide +kernel, by decide +kernel⟩ hdc (by decide) (As := [.int (x1), .int (x2)]) rfl rfl (by decide) ⟨_, _, _, rfl, rfl, rfl⟩ hst hd hq rfl (K := qI K) hw (kI kk)
set_option maxRecDepth 20000 in
set_option maxHeartbeats 4000000 in
theorem c_X1_readSpan : Con yX1_readSpan cX1_readSpan 3 (some .int) (2) (fun ad => [.ref (ad 2), .ref (ad 9)]) (fun Q σ => wp_X1_readSpan  (aI Q) σ) := by
  refine con_intro (by decide +kernel) (fun _ => Nat.le_of_ble_eq_true rfl) (by omega) (fun X Q σ hX hR hw => ?_)
  have hX : CxB X RX1 cX1_readSpan 3 (2) := hX
  unfold wp_X1_readSpan at hw
  show At X 3 0 [(0, .ref (X.kad 2)), (1, .ref (X.kad 9))] [] σ
  refine r_aload_n 1 hX dX1_readSpan_0 rfl rfl 0 rfl ?_
  refine r_iconst 2 hX dX1_readSpan_1 rfl 0 ic_0 ?_
  refine r_aload_n 3 hX dX1_readSpan_2 rfl rfl 1 rfl ?_
  refine g_X1_79_9 6 hX dX1_readSpan_3 rfl ?_
  refine r_iconst 7 hX dX1_readSpan_6 rfl 1 ic_1 ?_
  refine r_isub 8 hX dX1_readSpan_7 rfl ?_
  refine k_X1_72_X1_readNumber 11 hX (by omega) (0) ((σ.1 9 0) - 1) (Nat.le_of_ble_eq_true rfl) dX1_readSpan_8 rfl hw (fun r8 σ8 hw => ?_)
  refine r_if_ne 16 14 hX dX1_readSpan_11 (by decide) rfl hw (fun hw => ?_) (fun hw => ?_)
  · refine r_aload_n 17 hX dX1_readSpan_16 rfl rfl 0 rfl ?_
    refine g_X1_76_2 20 hX dX1_readSpan_17 rfl ?_
    refine r_istore_n (lv' := [(2, .int (σ8.1 2 8)), (0, .ref (X.kad 2)), (1, .ref (X.kad 9))]) 21 hX dX1_readSpan_20 rfl rfl (by decide) rfl ?_
    refine r_aload_n 22 hX dX1_readSpan_21 rfl rfl 1 rfl ?_
    refine r_iload_n 23 hX dX1_readSpan_22 rfl rfl 0 rfl ?_
    refine r_aload_n 24 hX dX1_readSpan_23 rfl rfl 2 rfl ?_
    refine g_X1_79_9 27 hX dX1_readSpan_24 rfl ?_
    refine r_iconst 28 hX dX1_readSpan_27 rfl 1 ic_1 ?_
    refine r_isub 29 hX dX1_readSpan_28 rfl ?_
    refine k_X1_72_X1_readNumber 32 hX (by omega) (σ8.1 2 8) ((σ8.1 9 0) - 1) (Nat.le_of_ble_eq_true rfl) dX1_readSpan_29 rfl hw (fun r29 σ29 hw => ?_)
    refine r_if_ne 37 35 hX dX1_readSpan_32 (by decide) rfl hw (fun hw => ?_) (fun hw => ?_)
    · refine r_iconst 38 hX dX1_readSpan_37 rfl 1 ic_1 ?_
      refine r_aload_n 39 hX dX1_readSpan_38 rfl rfl 1 rfl ?_
      refine g_X1_76_2 42 hX dX1_readSpan_39 rfl ?_
      refine r_iconst 43 hX dX1_readSpan_42 rfl 1 ic_1 ?_
      refine r_iadd 44 hX dX1_readSpan_43 rfl ?_
      refine r_ishl 45 hX dX1_readSpan_44 rfl ?_
      refine r_iconst 46 hX dX1_readSpan_45 rfl 1 ic_1 ?_
      refine r_isub 47 hX dX1_readSpan_46 rfl ?_
      refine r_iconst 48 hX dX1_readSpan_47 rfl 1 ic_1 ?_
      refine r_iload_n 49 hX dX1_readSpan_48 rfl rfl 0 rfl ?_
      refine r_ishl 50 hX dX1_readSpan_49 rfl ?_
      refine r_iconst 51 hX dX1_readSpan_50 rfl 1 ic_1 ?_
      refine r_isub 52 hX dX1_readSpan_51 rfl ?_
      refine r_iconst 53 hX dX1_readSpan_52 rfl (-1) ic_m1 ?_
      refine r_ixor 54 hX dX1_readSpan_53 rfl ?_
      refine r_iand 55 hX dX1_readSpan_54 rfl ?_
      exact r_iret hX hR dX1_readSpan_55 hw
    · refine r_iconst 36 hX dX1_readSpan_35 rfl 0 ic_0 ?_
      exact r_iret hX hR dX1_readSpan_36 hw
  · refine r_iconst 15 hX dX1_readSpan_14 rfl 0 ic_0 ?_
    exact r_iret hX hR dX1_readSpan_15 hw
set_option maxRecDepth 20000 in
set_option maxHeartbeats 4000000 in
theorem c_X1_readSize : Con yX1_readSize cX1_readSize 2 (some .boolean) (2) (fun ad => [.ref (ad 2), .ref (ad 9)]) (fun Q σ => wp_X1_readSize  (aI Q) σ) := by
  refine con_intro (by decide +kernel) (fun _ => Nat.le_of_ble_eq_true rfl) (by omega) (fun X Q σ hX hR hw => ?_)
  have hX : CxB X RX1 cX1_readSize 2 (2) := hX
  unfold wp_X1_readSize at hw
  show At X 2 0 [(0, .ref (X.kad 2)), (1, .ref (X.kad 9))] [] σ
  refine r_aload_n 1 hX dX1_readSize_0 rfl rfl 0 rfl ?_
  refine r_iconst 2 hX dX1_readSize_1 rfl 2 ic_2 ?_
  refine r_bipush 4 hX dX1_readSize_2 rfl 10 bi_10 ?_
  refine k_X1_72_X1_readNumber 7 hX (by omega) (2) (10) (Nat.le_of_ble_eq_true rfl) dX1_readSize_4 rfl hw (fun r4 σ4 hw => ?_)
  refine r_if_ne 12 10 hX dX1_readSize_7 (by decide) rfl hw (fun hw => ?_) (fun hw => ?_)
  · refine r_aload_n 13 hX dX1_readSize_12 rfl rfl 1 rfl ?_
    refine r_aload_n 14 hX dX1_readSize_13 rfl rfl 0 rfl ?_
    refine g_X1_76_2 17 hX dX1_readSize_14 rfl ?_
    refine p_X1_79_9 20 hX dX1_readSize_17 rfl ?_
    refine r_aload_n 21 hX dX1_readSize_20 rfl rfl 0 rfl ?_
    refine r_iconst 22 hX dX1_readSize_21 rfl 2 ic_2 ?_
    refine r_bipush 24 hX dX1_readSize_22 rfl 16 bi_16 ?_
    refine k_X1_72_X1_readNumber 27 hX (by omega) (2) (16) (Nat.le_of_ble_eq_true rfl) dX1_readSize_24 rfl hw (fun r24 σ24 hw => ?_)
    refine r_if_ne 32 30 hX dX1_readSize_27 (by decide) rfl hw (fun hw => ?_) (fun hw => ?_)
    · refine r_aload_n 33 hX dX1_readSize_32 rfl rfl 1 rfl ?_
      refine r_aload_n 34 hX dX1_readSize_33 rfl rfl 0 rfl ?_
      refine g_X1_76_2 37 hX dX1_readSize_34 rfl ?_
      refine p_X1_82_9 40 hX dX1_readSize_37 rfl ?_
      refine r_iconst 41 hX dX1_readSize_40 rfl 1 ic_1 ?_
      exact r_zret hX hR narrow_b1 dX1_readSize_41 hw
    · refine r_iconst 31 hX dX1_readSize_30 rfl 0 ic_0 ?_
      exact r_zret hX hR narrow_b0 dX1_readSize_31 hw
  · refine r_iconst 11 hX dX1_readSize_10 rfl 0 ic_0 ?_
    exact r_zret hX hR narrow_b0 dX1_readSize_11 hw
theorem k_X1_85_X1_readSpan {X : Cx} {cc : ByteArray} {nL d pc : Nat} {lv : List (Nat × Value)} {rest : List Value} {σ : St} {K : Int32 → St → Prop} (q : Nat) (hX : CxB X RX1 cc nL d) (hdc : 2 + 1 ≤ d) (hst : (rest.map fun v => v.category).sum ≤ 8) (hd : decode cc pc = .ok (.invokevirtual 85, 3)) (hq : pc + 3 = q) (hw : wp_X1_readSpan  K σ) (kk : ∀ (r : Int32) (τ : St), K r τ → At X nL q lv (.int r :: rest) τ) : At X nL pc lv (.ref (X.kad 9) :: .ref (X.kad 2) :: rest) σ := r_callV (n := 1) q hX (k0 := 2) (c_X1_readSpan ) tw_268 tw_269 tw_270 tw_228 tw_271 ⟨by decide +kernel, by decide +kernel, by decide +kernel⟩ hdc (by decide) (As := [.ref (X.kad 9)]) rfl rfl (by decide) ⟨_, _, _, rfl, rfl, rfl⟩ hst hd hq rfl (K := qI K) hw (kI kk)
set_option maxRecDepth 20000 in
set_option maxHeartbeats 4000000 in
theorem c_X1_readBeam : Con yX1_readBeam cX1_readBeam 4 (some .boolean) (3) (fun ad => [.ref (ad 2), .ref (ad 9)]) (fun Q σ => wp_X1_readBeam  (aI Q) σ) := by
  refine con_intro (by decide +kernel) (fun _ => Nat.le_of_ble_eq_true rfl) (by omega) (fun X Q σ hX hR hw => ?_)
  have hX : CxB X RX1 cX1_readBeam 4 (3) := hX
  unfold wp_X1_readBeam at hw
  show At X 4 0 [(0, .ref (X.kad 2)), (1, .ref (X.kad 9))] [] σ
  refine r_aload_n 1 hX dX1_readBeam_0 rfl rfl 0 rfl ?_
  refine r_iconst 2 hX dX1_readBeam_1 rfl 0 ic_0 ?_
  refine r_aload_n 3 hX dX1_readBeam_2 rfl rfl 1 rfl ?_
  refine g_X1_82_9 6 hX dX1_readBeam_3 rfl ?_
  refine r_iconst 7 hX dX1_readBeam_6 rfl 1 ic_1 ?_
  refine r_isub 8 hX dX1_readBeam_7 rfl ?_
  refine k_X1_72_X1_readNumber 11 hX (by omega) (0) ((σ.1 9 1) - 1) (Nat.le_of_ble_eq_true rfl) dX1_readBeam_8 rfl hw (fun r8 σ8 hw => ?_)
  refine r_if_ne 16 14 hX dX1_readBeam_11 (by decide) rfl hw (fun hw => ?_) (fun hw => ?_)
  · refine r_aload_n 17 hX dX1_readBeam_16 rfl rfl 0 rfl ?_
    refine g_X1_76_2 20 hX dX1_readBeam_17 rfl ?_
    refine r_istore_n (lv' := [(2, .int (σ8.1 2 8)), (0, .ref (X.kad 2)), (1, .ref (X.kad 9))]) 21 hX dX1_readBeam_20 rfl rfl (by decide) rfl ?_
    refine r_aload_n 22 hX dX1_readBeam_21 rfl rfl 1 rfl ?_
    refine r_aload_n 23 hX dX1_readBeam_22 rfl rfl 2 rfl ?_
    refine k_X1_85_X1_readSpan 26 hX (by omega)  (Nat.le_of_ble_eq_true rfl) dX1_readBeam_23 rfl hw (fun r23 σ23 hw => ?_)
    refine r_istore_n (lv' := [(3, .int (r23)), (2, .int (σ8.1 2 8)), (0, .ref (X.kad 2)), (1, .ref (X.kad 9))]) 27 hX dX1_readBeam_26 rfl rfl (by decide) rfl ?_
    refine r_iload_n 28 hX dX1_readBeam_27 rfl rfl 0 rfl ?_
    refine r_if_ne 33 31 hX dX1_readBeam_28 (by decide) rfl hw (fun hw => ?_) (fun hw => ?_)
    · refine r_aload_n 34 hX dX1_readBeam_33 rfl rfl 3 rfl ?_
      refine g_X1_89_9 37 hX dX1_readBeam_34 rfl ?_
      refine r_iload_n 38 hX dX1_readBeam_37 rfl rfl 1 rfl ?_
      refine r_dup2 39 hX dX1_readBeam_38 rfl rfl rfl ?_
      refine r_iald 40 hX sh_10 dX1_readBeam_39 rfl hw (fun hw => ?_)
      refine r_iload_n 41 hX dX1_readBeam_40 rfl rfl 0 rfl ?_
      refine r_ior 42 hX dX1_readBeam_41 rfl ?_
      refine r_iast 43 hX sh_10 dX1_readBeam_42 rfl hw (fun hw => ?_)
      refine r_iconst 44 hX dX1_readBeam_43 rfl 1 ic_1 ?_
      exact r_zret hX hR narrow_b1 dX1_readBeam_44 hw
    · refine r_iconst 32 hX dX1_readBeam_31 rfl 0 ic_0 ?_
      exact r_zret hX hR narrow_b0 dX1_readBeam_32 hw
  · refine r_iconst 15 hX dX1_readBeam_14 rfl 0 ic_0 ?_
    exact r_zret hX hR narrow_b0 dX1_readBeam_15 hw
set_option maxRecDepth 20000 in
set_option maxHeartbeats 4000000 in
theorem c_X1_readCold : Con yX1_readCold cX1_readCold 3 (some .boolean) (3) (fun ad => [.ref (ad 2), .ref (ad 9)]) (fun Q σ => wp_X1_readCold  (aI Q) σ) := by
  refine con_intro (by decide +kernel) (fun _ => Nat.le_of_ble_eq_true rfl) (by omega) (fun X Q σ hX hR hw => ?_)
  have hX : CxB X RX1 cX1_readCold 3 (3) := hX
  unfold wp_X1_readCold at hw
  show At X 3 0 [(0, .ref (X.kad 2)), (1, .ref (X.kad 9))] [] σ
  refine r_aload_n 1 hX dX1_readCold_0 rfl rfl 0 rfl ?_
  refine r_aload_n 2 hX dX1_readCold_1 rfl rfl 1 rfl ?_
  refine k_X1_85_X1_readSpan 5 hX (by omega)  (Nat.le_of_ble_eq_true rfl) dX1_readCold_2 rfl hw (fun r2 σ2 hw => ?_)
  refine r_istore_n (lv' := [(2, .int (r2)), (0, .ref (X.kad 2)), (1, .ref (X.kad 9))]) 6 hX dX1_readCold_5 rfl rfl (by decide) rfl ?_
  refine r_aload_n 7 hX dX1_readCold_6 rfl rfl 2 rfl ?_
  refine r_dup 8 hX dX1_readCold_7 rfl rfl ?_
  refine g_X1_92_9 11 hX dX1_readCold_8 rfl ?_
  refine r_iload_n 12 hX dX1_readCold_11 rfl rfl 0 rfl ?_
  refine r_ior 13 hX dX1_readCold_12 rfl ?_
  refine p_X1_92_9 16 hX dX1_readCold_13 rfl ?_
  refine r_iload_n 17 hX dX1_readCold_16 rfl rfl 0 rfl ?_
  refine r_if_eq 24 20 hX dX1_readCold_17 (by decide) rfl hw (fun hw => ?_) (fun hw => ?_)
  · refine r_iconst 25 hX dX1_readCold_24 rfl 0 ic_0 ?_
    exact r_zret hX hR narrow_b0 dX1_readCold_25 hw
  · refine r_iconst 21 hX dX1_readCold_20 rfl 1 ic_1 ?_
    refine r_goto 25 hX dX1_readCold_21 (by decide) ?_
    exact r_zret hX hR narrow_b1 dX1_readCold_25 hw
set_option maxRecDepth 20000 in
set_option maxHeartbeats 4000000 in
theorem c_X1_readHearth : Con yX1_readHearth cX1_readHearth 3 (some .boolean) (2) (fun ad => [.ref (ad 2), .ref (ad 9)]) (fun Q σ => wp_X1_readHearth  (aI Q) σ) := by
  refine con_intro (by decide +kernel) (fun _ => Nat.le_of_ble_eq_true rfl) (by omega) (fun X Q σ hX hR hw => ?_)
  have hX : CxB X RX1 cX1_readHearth 3 (2) := hX
  unfold wp_X1_readHearth at hw
  show At X 3 0 [(0, .ref (X.kad 2)), (1, .ref (X.kad 9))] [] σ
  refine r_aload_n 1 hX dX1_readHearth_0 rfl rfl 1 rfl ?_
  refine g_X1_66_9 4 hX dX1_readHearth_1 rfl ?_
  refine r_istore_n (lv' := [(2, .int (σ.1 9 3)), (0, .ref (X.kad 2)), (1, .ref (X.kad 9))]) 5 hX dX1_readHearth_4 rfl rfl (by decide) rfl ?_
  refine r_aload_n 6 hX dX1_readHearth_5 rfl rfl 1 rfl ?_
  refine r_iconst 7 hX dX1_readHearth_6 rfl 0 ic_0 ?_
  refine r_aload_n 8 hX dX1_readHearth_7 rfl rfl 2 rfl ?_
  refine g_X1_82_9 11 hX dX1_readHearth_8 rfl ?_
  refine r_iconst 12 hX dX1_readHearth_11 rfl 2 ic_2 ?_
  refine r_isub 13 hX dX1_readHearth_12 rfl ?_
  refine k_X1_72_X1_readNumber 16 hX (by omega) (0) ((σ.1 9 1) - 2) (Nat.le_of_ble_eq_true rfl) dX1_readHearth_13 rfl hw (fun r13 σ13 hw => ?_)
  refine r_if_ne 21 19 hX dX1_readHearth_16 (by decide) rfl hw (fun hw => ?_) (fun hw => ?_)
  · refine r_aload_n 22 hX dX1_readHearth_21 rfl rfl 2 rfl ?_
    refine g_X1_95_9 25 hX dX1_readHearth_22 rfl ?_
    refine r_iload_n 26 hX dX1_readHearth_25 rfl rfl 0 rfl ?_
    refine r_aload_n 27 hX dX1_readHearth_26 rfl rfl 1 rfl ?_
    refine g_X1_76_2 30 hX dX1_readHearth_27 rfl ?_
    refine r_iast 31 hX sh_11 dX1_readHearth_30 rfl hw (fun hw => ?_)
    refine r_aload_n 32 hX dX1_readHearth_31 rfl rfl 1 rfl ?_
    refine r_iconst 33 hX dX1_readHearth_32 rfl 0 ic_0 ?_
    refine r_aload_n 34 hX dX1_readHearth_33 rfl rfl 2 rfl ?_
    refine g_X1_79_9 37 hX dX1_readHearth_34 rfl ?_
    refine r_iconst 38 hX dX1_readHearth_37 rfl 1 ic_1 ?_
    refine r_isub 39 hX dX1_readHearth_38 rfl ?_
    refine k_X1_72_X1_readNumber 42 hX (by omega) (0) (((sI σ13 11 (σ.1 9 3).toNatClampNeg (σ13.1 2 8)).1 9 0) - 1) (Nat.le_of_ble_eq_true rfl) dX1_readHearth_39 rfl hw (fun r39 σ39 hw => ?_)
    refine r_if_ne 47 45 hX dX1_readHearth_42 (by decide) rfl hw (fun hw => ?_) (fun hw => ?_)
    · refine r_aload_n 48 hX dX1_readHearth_47 rfl rfl 2 rfl ?_
      refine g_X1_98_9 51 hX dX1_readHearth_48 rfl ?_
      refine r_iload_n 52 hX dX1_readHearth_51 rfl rfl 0 rfl ?_
      refine r_aload_n 53 hX dX1_readHearth_52 rfl rfl 1 rfl ?_
      refine g_X1_76_2 56 hX dX1_readHearth_53 rfl ?_
      refine r_iast 57 hX sh_12 dX1_readHearth_56 rfl hw (fun hw => ?_)
      refine r_aload_n 58 hX dX1_readHearth_57 rfl rfl 1 rfl ?_
      refine r_iconst 59 hX dX1_readHearth_58 rfl 0 ic_0 ?_
      refine r_bipush 61 hX dX1_readHearth_59 rfl 99 bi_99 ?_
      refine k_X1_72_X1_readNumber 64 hX (by omega) (0) (99) (Nat.le_of_ble_eq_true rfl) dX1_readHearth_61 rfl hw (fun r61 σ61 hw => ?_)
      refine r_if_ne 69 67 hX dX1_readHearth_64 (by decide) rfl hw (fun hw => ?_) (fun hw => ?_)
      · refine r_aload_n 70 hX dX1_readHearth_69 rfl rfl 2 rfl ?_
        refine g_X1_101_9 73 hX dX1_readHearth_70 rfl ?_
        refine r_iload_n 74 hX dX1_readHearth_73 rfl rfl 0 rfl ?_
        refine r_aload_n 75 hX dX1_readHearth_74 rfl rfl 1 rfl ?_
        refine g_X1_76_2 78 hX dX1_readHearth_75 rfl ?_
        refine r_iast 79 hX sh_13 dX1_readHearth_78 rfl hw (fun hw => ?_)
        refine r_aload_n 80 hX dX1_readHearth_79 rfl rfl 2 rfl ?_
        refine r_dup 81 hX dX1_readHearth_80 rfl rfl ?_
        refine g_X1_66_9 84 hX dX1_readHearth_81 rfl ?_
        refine r_iconst 85 hX dX1_readHearth_84 rfl 1 ic_1 ?_
        refine r_iadd 86 hX dX1_readHearth_85 rfl ?_
        refine p_X1_66_9 89 hX dX1_readHearth_86 rfl ?_
        refine r_iconst 90 hX dX1_readHearth_89 rfl 1 ic_1 ?_
        exact r_zret hX hR narrow_b1 dX1_readHearth_90 hw
      · refine r_iconst 68 hX dX1_readHearth_67 rfl 0 ic_0 ?_
        exact r_zret hX hR narrow_b0 dX1_readHearth_68 hw
    · refine r_iconst 46 hX dX1_readHearth_45 rfl 0 ic_0 ?_
      exact r_zret hX hR narrow_b0 dX1_readHearth_46 hw
  · refine r_iconst 20 hX dX1_readHearth_19 rfl 0 ic_0 ?_
    exact r_zret hX hR narrow_b0 dX1_readHearth_20 hw
theorem k_X1_53_X1_readSize {X : Cx} {cc : ByteArray} {nL d pc : Nat} {lv : List (Nat × Value)} {rest : List Value} {σ : St} {K : Int32 → St → Prop} (q : Nat) (hX : CxB X RX1 cc nL d) (hdc : 2 + 1 ≤ d) (hst : (rest.map fun v => v.category).sum ≤ 8) (hd : decode cc pc = .ok (.invokevirtual 53, 3)) (hq : pc + 3 = q) (hw : wp_X1_readSize  K σ) (kk : ∀ (r : Int32) (τ : St), K r τ → At X nL q lv (.int r :: rest) τ) : At X nL pc lv (.ref (X.kad 9) :: .ref (X.kad 2) :: rest) σ := r_callV (n := 1) q hX (k0 := 2) (c_X1_readSize ) tw_278 tw_279 tw_280 tw_228 tw_281 ⟨by decide +kernel, by decide +kernel, by decide +kernel⟩ hdc (by decide) (As := [.ref (X.kad 9)]) rfl rfl (by decide) ⟨_, _, _, rfl, rfl, rfl⟩ hst hd hq rfl (K := qI K) hw (kI kk)
theorem k_X1_56_X1_readClose {X : Cx} {cc : ByteArray} {nL d pc : Nat} {lv : List (Nat × Value)} {rest : List Value} {σ : St} {K : Int32 → St → Prop} (q : Nat) (hX : CxB X RX1 cc nL d) (hdc : 1 + 1 ≤ d) (hst : (rest.map fun v => v.category).sum ≤ 8) (hd : decode cc pc = .ok (.invokevirtual 56, 3)) (hq : pc + 3 = q) (hw : wp_X1_readClose  K σ) (kk : ∀ (r : Int32) (τ : St), K r τ → At X nL q lv (.int r :: rest) τ) : At X nL pc lv (.ref (X.kad 2) :: rest) σ := r_callV (n := 0) q hX (k0 := 2) (c_X1_readClose ) tw_282 tw_283 tw_284 tw_228 tw_285 ⟨by decide +kernel, by decide +kernel, by decide +kernel⟩ hdc (by decide) (As := []) rfl rfl (by decide) ⟨_, _, _, rfl, rfl, rfl⟩ hst hd hq rfl (K := qI K) hw (kI kk)
theorem k_X1_60_X1_readBeam {X : Cx} {cc : ByteArray} {nL d pc : Nat} {lv : List (Nat × Value)} {rest : List Value} {σ : St} {K : Int32 → St → Prop} (q : Nat) (hX : CxB X RX1 cc nL d) (hdc : 3 + 1 ≤ d) (hst : (rest.map fun v => v.category).sum ≤ 8) (hd : decode cc pc = .ok (.invokevirtual 60, 3)) (hq : pc + 3 = q) (hw : wp_X1_readBeam  K σ) (kk : ∀ (r : Int32) (τ : St), K r τ → At X nL q lv (.int r :: rest) τ) : At X nL pc lv (.ref (X.kad 9) :: .ref (X.kad 2) :: rest) σ := r_callV (n := 1) q hX (k0 := 2) (c_X1_readBeam ) tw_286 tw_287 tw_288 tw_228 tw_289 ⟨by decide +kernel, by decide +kernel, by decide +kernel⟩ hdc (by decide) (As := [.ref (X.kad 9)]) rfl rfl (by decide) ⟨_, _, _, rfl, rfl, rfl⟩ hst hd hq rfl (K := qI K) hw (kI kk)
theorem k_X1_63_X1_readCold {X : Cx} {cc : ByteArray} {nL d pc : Nat} {lv : List (Nat × Value)} {rest : List Value} {σ : St} {K : Int32 → St → Prop} (q : Nat) (hX : CxB X RX1 cc nL d) (hdc : 3 + 1 ≤ d) (hst : (rest.map fun v => v.category).sum ≤ 8) (hd : decode cc pc = .ok (.invokevirtual 63, 3)) (hq : pc + 3 = q) (hw : wp_X1_readCold  K σ) (kk : ∀ (r : Int32) (τ : St), K r τ → At X nL q lv (.int r :: rest) τ) : At X nL pc lv (.ref (X.kad 9) :: .ref (X.kad 2) :: rest) σ := r_callV (n := 1) q hX (k0 := 2) (c_X1_readCold ) tw_290 tw_291 tw_292 tw_228 tw_293 ⟨by decide +kernel, by decide +kernel, by decide +kernel⟩ hdc (by decide) (As := [.ref (X.kad 9)]) rfl rfl (by decide) ⟨_, _, _, rfl, rfl, rfl⟩ hst hd hq rfl (K := qI K) hw (kI kk)
theorem k_X1_69_X1_readHearth {X : Cx} {cc : ByteArray} {nL d pc : Nat} {lv : List (Nat × Value)} {rest : List Value} {σ : St} {K : Int32 → St → Prop} (q : Nat) (hX : CxB X RX1 cc nL d) (hdc : 2 + 1 ≤ d) (hst : (rest.map fun v => v.category).sum ≤ 8) (hd : decode cc pc = .ok (.invokevirtual 69, 3)) (hq : pc + 3 = q) (hw : wp_X1_readHearth  K σ) (kk : ∀ (r : Int32) (τ : St), K r τ → At X nL q lv (.int r :: rest) τ) : At X nL pc lv (.ref (X.kad 9) :: .ref (X.kad 2) :: rest) σ := r_callV (n := 1) q hX (k0 := 2) (c_X1_readHearth ) tw_294 tw_295 tw_296 tw_228 tw_297 ⟨by decide +kernel, by decide +kernel, by decide +kernel⟩ hdc (by decide) (As := [.ref (X.kad 9)]) rfl rfl (by decide) ⟨_, _, _, rfl, rfl, rfl⟩ hst hd hq rfl (K := qI K) hw (kI kk)
set_option maxRecDepth 20000 in
set_option maxHeartbeats 4000000 in
theorem c_X1_readItem : Con yX1_readItem cX1_readItem 2 (some .boolean) (4) (fun ad => [.ref (ad 2), .ref (ad 9)]) (fun Q σ => wp_X1_readItem  (aI Q) σ) := by
  refine con_intro (by decide +kernel) (fun _ => Nat.le_of_ble_eq_true rfl) (by omega) (fun X Q σ hX hR hw => ?_)
  have hX : CxB X RX1 cX1_readItem 2 (4) := hX
  unfold wp_X1_readItem at hw
  show At X 2 0 [(0, .ref (X.kad 2)), (1, .ref (X.kad 9))] [] σ
  refine r_aload_n 1 hX dX1_readItem_0 rfl rfl 0 rfl ?_
  refine g_X1_15_2 4 hX dX1_readItem_1 rfl ?_
  refine r_aload_n 5 hX dX1_readItem_4 rfl rfl 0 rfl ?_
  refine g_X1_43_2 8 hX dX1_readItem_5 rfl ?_
  refine r_iald 9 hX sh_100 dX1_readItem_8 rfl hw (fun hw => ?_)
  -- switch
  refine r_case hw (fun hc hw => ?_) (fun hc1 hw => ?_)
  · refine r_tabIn 40 hX dX1_readItem_9 (by rw [hc]; decide) (by rw [hc]; decide) (off := 31) (by rw [hc]; decide) (by decide) ?_
    refine r_aload_n 41 hX dX1_readItem_40 rfl rfl 0 rfl ?_
    refine g_X1_43_2 44 hX dX1_readItem_41 rfl ?_
    refine r_if_ne 66 47 hX dX1_readItem_44 (by decide) rfl hw (fun hw => ?_) (fun hw => ?_)
    · refine r_iconst 67 hX dX1_readItem_66 rfl 0 ic_0 ?_
      exact r_zret hX hR narrow_b0 dX1_readItem_67 hw
    · refine r_aload_n 48 hX dX1_readItem_47 rfl rfl 0 rfl ?_
      refine r_aload_n 49 hX dX1_readItem_48 rfl rfl 1 rfl ?_
      refine k_X1_53_X1_readSize 52 hX (by omega)  (Nat.le_of_ble_eq_true rfl) dX1_readItem_49 rfl hw (fun r49 σ49 hw => ?_)
      refine r_if_eq 66 55 hX dX1_readItem_52 (by decide) rfl hw (fun hw => ?_) (fun hw => ?_)
      · refine r_iconst 67 hX dX1_readItem_66 rfl 0 ic_0 ?_
        exact r_zret hX hR narrow_b0 dX1_readItem_67 hw
      · refine r_aload_n 56 hX dX1_readItem_55 rfl rfl 0 rfl ?_
        refine k_X1_56_X1_readClose 59 hX (by omega)  (Nat.le_of_ble_eq_true rfl) dX1_readItem_56 rfl hw (fun r56 σ56 hw => ?_)
        refine r_if_eq 66 62 hX dX1_readItem_59 (by decide) rfl hw (fun hw => ?_) (fun hw => ?_)
        · refine r_iconst 67 hX dX1_readItem_66 rfl 0 ic_0 ?_
          exact r_zret hX hR narrow_b0 dX1_readItem_67 hw
        · refine r_iconst 63 hX dX1_readItem_62 rfl 1 ic_1 ?_
          refine r_goto 67 hX dX1_readItem_63 (by decide) ?_
          exact r_zret hX hR narrow_b1 dX1_readItem_67 hw
  refine r_case hw (fun hc hw => ?_) (fun hc2 hw => ?_)
  · refine r_tabIn 68 hX dX1_readItem_9 (by rw [hc]; decide) (by rw [hc]; decide) (off := 59) (by rw [hc]; decide) (by decide) ?_
    refine r_aload_n 69 hX dX1_readItem_68 rfl rfl 0 rfl ?_
    refine r_aload_n 70 hX dX1_readItem_69 rfl rfl 1 rfl ?_
    refine k_X1_60_X1_readBeam 73 hX (by omega)  (Nat.le_of_ble_eq_true rfl) dX1_readItem_70 rfl hw (fun r70 σ70 hw => ?_)
    refine r_if_eq 87 76 hX dX1_readItem_73 (by decide) rfl hw (fun hw => ?_) (fun hw => ?_)
    · refine r_iconst 88 hX dX1_readItem_87 rfl 0 ic_0 ?_
      exact r_zret hX hR narrow_b0 dX1_readItem_88 hw
    · refine r_aload_n 77 hX dX1_readItem_76 rfl rfl 0 rfl ?_
      refine k_X1_56_X1_readClose 80 hX (by omega)  (Nat.le_of_ble_eq_true rfl) dX1_readItem_77 rfl hw (fun r77 σ77 hw => ?_)
      refine r_if_eq 87 83 hX dX1_readItem_80 (by decide) rfl hw (fun hw => ?_) (fun hw => ?_)
      · refine r_iconst 88 hX dX1_readItem_87 rfl 0 ic_0 ?_
        exact r_zret hX hR narrow_b0 dX1_readItem_88 hw
      · refine r_iconst 84 hX dX1_readItem_83 rfl 1 ic_1 ?_
        refine r_goto 88 hX dX1_readItem_84 (by decide) ?_
        exact r_zret hX hR narrow_b1 dX1_readItem_88 hw
  refine r_case hw (fun hc hw => ?_) (fun hc3 hw => ?_)
  · refine r_tabIn 89 hX dX1_readItem_9 (by rw [hc]; decide) (by rw [hc]; decide) (off := 80) (by rw [hc]; decide) (by decide) ?_
    refine r_aload_n 90 hX dX1_readItem_89 rfl rfl 0 rfl ?_
    refine r_aload_n 91 hX dX1_readItem_90 rfl rfl 1 rfl ?_
    refine k_X1_63_X1_readCold 94 hX (by omega)  (Nat.le_of_ble_eq_true rfl) dX1_readItem_91 rfl hw (fun r91 σ91 hw => ?_)
    refine r_if_eq 108 97 hX dX1_readItem_94 (by decide) rfl hw (fun hw => ?_) (fun hw => ?_)
    · refine r_iconst 109 hX dX1_readItem_108 rfl 0 ic_0 ?_
      exact r_zret hX hR narrow_b0 dX1_readItem_109 hw
    · refine r_aload_n 98 hX dX1_readItem_97 rfl rfl 0 rfl ?_
      refine k_X1_56_X1_readClose 101 hX (by omega)  (Nat.le_of_ble_eq_true rfl) dX1_readItem_98 rfl hw (fun r98 σ98 hw => ?_)
      refine r_if_eq 108 104 hX dX1_readItem_101 (by decide) rfl hw (fun hw => ?_) (fun hw => ?_)
      · refine r_iconst 109 hX dX1_readItem_108 rfl 0 ic_0 ?_
        exact r_zret hX hR narrow_b0 dX1_readItem_109 hw
      · refine r_iconst 105 hX dX1_readItem_104 rfl 1 ic_1 ?_
        refine r_goto 109 hX dX1_readItem_105 (by decide) ?_
        exact r_zret hX hR narrow_b1 dX1_readItem_109 hw
  refine r_case hw (fun hc hw => ?_) (fun hc4 hw => ?_)
  · refine r_tabIn 110 hX dX1_readItem_9 (by rw [hc]; decide) (by rw [hc]; decide) (off := 101) (by rw [hc]; decide) (by decide) ?_
    refine r_aload_n 111 hX dX1_readItem_110 rfl rfl 1 rfl ?_
    refine g_X1_66_9 114 hX dX1_readItem_111 rfl ?_
    refine r_iconst 115 hX dX1_readItem_114 rfl 3 ic_3 ?_
    refine r_icmp_ge 137 118 hX dX1_readItem_115 (by decide) rfl hw (fun hw => ?_) (fun hw => ?_)
    · refine r_iconst 138 hX dX1_readItem_137 rfl 0 ic_0 ?_
      exact r_zret hX hR narrow_b0 dX1_readItem_138 hw
    · refine r_aload_n 119 hX dX1_readItem_118 rfl rfl 0 rfl ?_
      refine r_aload_n 120 hX dX1_readItem_119 rfl rfl 1 rfl ?_
      refine k_X1_69_X1_readHearth 123 hX (by omega)  (Nat.le_of_ble_eq_true rfl) dX1_readItem_120 rfl hw (fun r120 σ120 hw => ?_)
      refine r_if_eq 137 126 hX dX1_readItem_123 (by decide) rfl hw (fun hw => ?_) (fun hw => ?_)
      · refine r_iconst 138 hX dX1_readItem_137 rfl 0 ic_0 ?_
        exact r_zret hX hR narrow_b0 dX1_readItem_138 hw
      · refine r_aload_n 127 hX dX1_readItem_126 rfl rfl 0 rfl ?_
        refine k_X1_56_X1_readClose 130 hX (by omega)  (Nat.le_of_ble_eq_true rfl) dX1_readItem_127 rfl hw (fun r127 σ127 hw => ?_)
        refine r_if_eq 137 133 hX dX1_readItem_130 (by decide) rfl hw (fun hw => ?_) (fun hw => ?_)
        · refine r_iconst 138 hX dX1_readItem_137 rfl 0 ic_0 ?_
          exact r_zret hX hR narrow_b0 dX1_readItem_138 hw
        · refine r_iconst 134 hX dX1_readItem_133 rfl 1 ic_1 ?_
          refine r_goto 138 hX dX1_readItem_134 (by decide) ?_
          exact r_zret hX hR narrow_b1 dX1_readItem_138 hw
  refine r_tabOut 139 hX dX1_readItem_9 (sw_out1_4 hc1 hc2 hc3 hc4) (by decide) ?_
  refine r_iconst 140 hX dX1_readItem_139 rfl 0 ic_0 ?_
  exact r_zret hX hR narrow_b0 dX1_readItem_140 hw
theorem k_X1_35_X1_part {X : Cx} {cc : ByteArray} {nL d pc : Nat} {lv : List (Nat × Value)} {rest : List Value} {σ : St} {K : St → Prop} (q : Nat) (hX : CxB X RX1 cc nL d) (hdc : 8 + 1 ≤ d) (hst : (rest.map fun v => v.category).sum ≤ 8) (hd : decode cc pc = .ok (.invokevirtual 35, 3)) (hq : pc + 3 = q) (hw : wp_X1_part  K σ) (kk : ∀ (τ : St), K τ → At X nL q lv (rest) τ) : At X nL pc lv (.ref (X.kad 2) :: rest) σ := r_callV (n := 0) q hX (k0 := 2) (c_X1_part ) tw_298 tw_299 tw_300 tw_228 tw_301 ⟨by decide +kernel, by decide +kernel, by decide +kernel⟩ hdc (by decide) (As := []) rfl rfl (by decide) ⟨_, _, _, rfl, rfl, rfl⟩ hst hd hq rfl (K := qV K) hw (kV kk)
theorem k_X1_38_X4_reset {X : Cx} {cc : ByteArray} {nL d pc : Nat} {lv : List (Nat × Value)} {rest : List Value} {σ : St} {K : St → Prop} (q : Nat) (hX : CxB X RX1 cc nL d) (hdc : 2 + 1 ≤ d) (hst : (rest.map fun v => v.category).sum ≤ 8) (hd : decode cc pc = .ok (.invokevirtual 38, 3)) (hq : pc + 3 = q) (hw : wp_X4_reset  K σ) (kk : ∀ (τ : St), K τ → At X nL q lv (rest) τ) : At X nL pc lv (.ref (X.kad 9) :: rest) σ := r_callV (n := 0) q hX (k0 := 9) (c_X4_reset ) tw_302 tw_303 tw_304 tw_8 tw_305 ⟨by decide +kernel, by decide +kernel, by decide +kernel⟩ hdc (by decide) (As := []) rfl rfl (by decide) ⟨_, _, _, rfl, rfl, rfl⟩ hst hd hq rfl (K := qV K) hw (kV kk)
theorem k_X1_49_X1_readItem {X : Cx} {cc : ByteArray} {nL d pc : Nat} {lv : List (Nat × Value)} {rest : List Value} {σ : St} {K : Int32 → St → Prop} (q : Nat) (hX : CxB X RX1 cc nL d) (hdc : 4 + 1 ≤ d) (hst : (rest.map fun v => v.category).sum ≤ 8) (hd : decode cc pc = .ok (.invokevirtual 49, 3)) (hq : pc + 3 = q) (hw : wp_X1_readItem  K σ) (kk : ∀ (r : Int32) (τ : St), K r τ → At X nL q lv (.int r :: rest) τ) : At X nL pc lv (.ref (X.kad 9) :: .ref (X.kad 2) :: rest) σ := r_callV (n := 1) q hX (k0 := 2) (c_X1_readItem ) tw_306 tw_307 tw_308 tw_228 tw_309 ⟨by decide +kernel, by decide +kernel, by decide +kernel⟩ hdc (by decide) (As := [.ref (X.kad 9)]) rfl rfl (by decide) ⟨_, _, _, rfl, rfl, rfl⟩ hst hd hq rfl (K := qI K) hw (kI kk)
set_option maxRecDepth 20000 in
set_option maxHeartbeats 4000000 in
theorem w_X1_read_b31 {X : Cx} {Q : RV → St → Prop} (hX : CxB X RX1 cX1_read 5 (9)) (hR : CxR X (some .int) Q) {K31 : Int32 → St → Prop} (hK31 : ∀ (x4 : Int32) (σ : St), K31 x4 σ → At X 5 31 [(0, .ref (X.kad 2)), (3, .ref (X.kad 9)), (4, .int (x4))] [] σ) (x4 : Int32) (σ : St) (hw : wp_X1_read_b31 (aI Q) K31 x4 σ) : At X 5 31 [(0, .ref (X.kad 2)), (3, .ref (X.kad 9)), (4, .int (x4))] [] σ := by
  unfold wp_X1_read_b31 at hw
  refine r_iload 33 hX dX1_read_31 rfl 2 rfl ?_
  refine r_aload_n 34 hX dX1_read_33 rfl rfl 0 rfl ?_
  refine g_X1_46_2 37 hX dX1_read_34 rfl ?_
  refine r_icmp_ge 103 40 hX dX1_read_37 (by decide) rfl hw (fun hw => ?_) (fun hw => ?_)
  · refine r_bipush 105 hX dX1_read_103 rfl (-9) bi_m9 ?_
    exact r_iret hX hR dX1_read_105 hw
  · refine r_aload_n 41 hX dX1_read_40 rfl rfl 0 rfl ?_
    refine g_X1_43_2 44 hX dX1_read_41 rfl ?_
    refine r_aload_n 45 hX dX1_read_44 rfl rfl 0 rfl ?_
    refine g_X1_46_2 48 hX dX1_read_45 rfl ?_
    refine r_icmp_ge 103 51 hX dX1_read_48 (by decide) rfl hw (fun hw => ?_) (fun hw => ?_)
    · refine r_bipush 105 hX dX1_read_103 rfl (-9) bi_m9 ?_
      exact r_iret hX hR dX1_read_105 hw
    · refine r_aload_n 52 hX dX1_read_51 rfl rfl 0 rfl ?_
      refine r_aload_n 53 hX dX1_read_52 rfl rfl 1 rfl ?_
      refine k_X1_49_X1_readItem 56 hX (by omega)  (Nat.le_of_ble_eq_true rfl) dX1_read_53 rfl hw (fun r53 σ53 hw => ?_)
      refine r_if_ne 87 59 hX dX1_read_56 (by decide) rfl hw (fun hw => ?_) (fun hw => ?_)
      · refine r_aload_n 88 hX dX1_read_87 rfl rfl 0 rfl ?_
        refine r_dup 89 hX dX1_read_88 rfl rfl ?_
        refine g_X1_43_2 92 hX dX1_read_89 rfl ?_
        refine r_iconst 93 hX dX1_read_92 rfl 1 ic_1 ?_
        refine r_iadd 94 hX dX1_read_93 rfl ?_
        refine p_X1_43_2 97 hX dX1_read_94 rfl ?_
        refine r_iinc (lv' := [(4, .int (x4 + 1)), (0, .ref (X.kad 2)), (3, .ref (X.kad 9))]) 100 hX dX1_read_97 rfl 2 rfl (x4 + 1) (ici_1 _) (by decide) rfl ?_
        refine r_goto 31 hX dX1_read_100 (by decide) ?_
        refine r_sub [1, 2, 0] rfl ?_
        exact hK31 _ _ hw
      · refine r_aload_n 60 hX dX1_read_59 rfl rfl 0 rfl ?_
        refine g_X1_43_2 63 hX dX1_read_60 rfl ?_
        refine r_aload_n 64 hX dX1_read_63 rfl rfl 0 rfl ?_
        refine g_X1_46_2 67 hX dX1_read_64 rfl ?_
        refine r_icmp_ge 82 70 hX dX1_read_67 (by decide) rfl hw (fun hw => ?_) (fun hw => ?_)
        · refine r_aload_n 83 hX dX1_read_82 rfl rfl 0 rfl ?_
          refine g_X1_31_2 86 hX dX1_read_83 rfl ?_
          exact r_iret hX hR dX1_read_86 hw
        · refine r_aload_n 71 hX dX1_read_70 rfl rfl 0 rfl ?_
          refine g_X1_19_2 74 hX dX1_read_71 rfl ?_
          refine r_aload_n 75 hX dX1_read_74 rfl rfl 0 rfl ?_
          refine g_X1_43_2 78 hX dX1_read_75 rfl ?_
          refine r_iald 79 hX sh_101 dX1_read_78 rfl hw (fun hw => ?_)
          refine r_goto 86 hX dX1_read_79 (by decide) ?_
          exact r_iret hX hR dX1_read_86 hw
set_option maxRecDepth 20000 in
set_option maxHeartbeats 4000000 in
theorem w_X1_read_l31 {X : Cx} {Q : RV → St → Prop} (hX : CxB X RX1 cX1_read 5 (9)) (hR : CxR X (some .int) Q) (n : Nat) : ∀ (x4 : Int32) (σ : St), wp_X1_read_l31 (aI Q)  n x4 σ → At X 5 31 [(0, .ref (X.kad 2)), (3, .ref (X.kad 9)), (4, .int (x4))] [] σ := by
  induction n with
  | zero => intro x4 σ h; exact h.elim
  | succ n ih => intro x4 σ h; exact w_X1_read_b31  hX hR ih x4 σ h
set_option maxRecDepth 20000 in
set_option maxHeartbeats 4000000 in
theorem c_X1_read (x2 : Int32) : Con yX1_read cX1_read 5 (some .int) (9) (fun ad => [.ref (ad 2), .ref (ad 1), .int (x2), .ref (ad 9)]) (fun Q σ => wp_X1_read x2 (aI Q) σ) := by
  refine con_intro (by decide +kernel) (fun _ => Nat.le_of_ble_eq_true rfl) (by omega) (fun X Q σ hX hR hw => ?_)
  have hX : CxB X RX1 cX1_read 5 (9) := hX
  unfold wp_X1_read at hw
  show At X 5 0 [(0, .ref (X.kad 2)), (1, .ref (X.kad 1)), (2, .int (x2)), (3, .ref (X.kad 9))] [] σ
  refine r_aload_n 1 hX dX1_read_0 rfl rfl 0 rfl ?_
  refine r_aload_n 2 hX dX1_read_1 rfl rfl 1 rfl ?_
  refine p_bytes 5 hX dX1_read_2 rfl ?_
  refine r_aload_n 6 hX dX1_read_5 rfl rfl 0 rfl ?_
  refine r_iload_n 7 hX dX1_read_6 rfl rfl 2 rfl ?_
  refine r_aload_n 8 hX dX1_read_7 rfl rfl 1 rfl ?_
  refine r_alen 9 hX sh_1 (by decide) dX1_read_8 rfl ?_
  refine r_mmin 12 hX tw_244 tw_103 tw_74 tw_104 (Nat.le_of_ble_eq_true rfl) dX1_read_9 rfl ?_
  refine r_topi hw (fun v9 hw => ?_)
  refine p_X1_31_2 15 hX dX1_read_12 rfl ?_
  refine r_aload_n 16 hX dX1_read_15 rfl rfl 0 rfl ?_
  refine k_X1_35_X1_part 19 hX (by omega)  (Nat.le_of_ble_eq_true rfl) dX1_read_16 rfl hw (fun σ16 hw => ?_)
  refine r_aload_n 20 hX dX1_read_19 rfl rfl 3 rfl ?_
  refine k_X1_38_X4_reset 23 hX (by omega)  (Nat.le_of_ble_eq_true rfl) dX1_read_20 rfl hw (fun σ20 hw => ?_)
  refine r_aload_n 24 hX dX1_read_23 rfl rfl 0 rfl ?_
  refine r_iconst 25 hX dX1_read_24 rfl 0 ic_0 ?_
  refine p_X1_43_2 28 hX dX1_read_25 rfl ?_
  refine r_iconst 29 hX dX1_read_28 rfl 0 ic_0 ?_
  refine r_istore (lv' := [(4, .int (0)), (0, .ref (X.kad 2)), (1, .ref (X.kad 1)), (2, .int (x2)), (3, .ref (X.kad 9))]) 31 hX dX1_read_29 rfl (by decide) rfl ?_
  refine r_sub [1, 4, 0] rfl ?_
  obtain ⟨n, hw⟩ := hw
  exact w_X1_read_l31 hX hR n _ _ hw
