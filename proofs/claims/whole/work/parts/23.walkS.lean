theorem k_reco {X : Cx} {own : String} {cc : ByteArray} {nL d t : Nat} (hX : CxB X own cc nL d) (ht : t < 4) : ∀ (H : Heap) (locs : List Loc), va_S X.kA X.ks.heap H locs → ∃ cell : Cell, H[X.kad (100 + t)]? = some cell ∧ cell.vm.isStatics = false ∧ X.ks.vm.findClass "java/lang/String" = some cell.cls := fun H locs hS => vk_recv (adK := fun i => X.kad (100 + i)) (i := t) hX.huc.2.1.2.2 ht hS
set_option maxRecDepth 20000 in
theorem c_coder {t : Nat} (ht : t < 4) : Con yJ0_coder_7d493 cJ0_coder_7d493 1 (some .byte) 1 (fun ad => [.ref (ad (100 + t))]) (fun Q σ => Q (some (.inl 0)) σ) := by
  refine con_intro (by decide +kernel) (fun _ => Nat.le_of_ble_eq_true rfl) (by omega) (fun X Q σ hX hR hw => ?_)
  have hX : CxB X RJ0 cJ0_coder_7d493 1 1 := hX
  show At X 1 0 [(0, .ref (X.kad (100 + t)))] [] σ
  refine r_sget 3 hX hX.huc.2.1.1 tw_208 dJ0_coder_7d493_0 rfl ?_
  refine r_if_eq 13 6 hX dJ0_coder_7d493_3 (by decide) rfl (P := False) (Q := True) ⟨fun h => absurd h (by decide), fun _ => trivial⟩ (fun h => h.elim) (fun _ => ?_)
  refine r_aload_n 7 hX dJ0_coder_7d493_6 rfl rfl 0 rfl ?_
  refine r_kget 10 hX (hX.huc.2.1.2.2.1 t ht).2.1 tw_209 dJ0_coder_7d493_7 rfl ?_
  refine r_goto 14 hX dJ0_coder_7d493_10 (by decide) ?_
  exact r_nret hX hR rfl dJ0_coder_7d493_14 hw
set_option maxRecDepth 20000 in
theorem c_slen {t : Nat} (ht : t < 4) : Con yJ0_length_8abf5 cJ0_length_8abf5 1 (some .int) 2 (fun ad => [.ref (ad (100 + t))]) (fun Q σ => Q (some (.inl (Int32.ofNat (strL.getD t 0)))) σ) := by
  refine con_intro (by decide +kernel) (fun _ => Nat.le_of_ble_eq_true rfl) (by omega) (fun X Q σ hX hR hw => ?_)
  have hX : CxB X RJ0 cJ0_length_8abf5 1 2 := hX
  show At X 1 0 [(0, .ref (X.kad (100 + t)))] [] σ
  refine r_aload_n 1 hX dJ0_length_8abf5_0 rfl rfl 0 rfl ?_
  refine r_kget 4 hX (hX.huc.2.1.2.2.1 t ht).2.2.1 tw_210 dJ0_length_8abf5_1 rfl ?_
  refine r_klen 5 hX (hX.huc.2.1.2.2.1 t ht).2.2.2 dJ0_length_8abf5_4 rfl ?_
  refine r_aload_n 6 hX dJ0_length_8abf5_5 rfl rfl 0 rfl ?_
  refine r_callK (n := 0) 9 hX (c_coder ht) tw_212 tw_213 tw_214 tw_215 tw_216 ⟨by decide +kernel, by decide +kernel, by decide +kernel⟩ (by decide) (by decide) (As := []) rfl rfl (k_reco hX ht) (Nat.le_of_ble_eq_true rfl) dJ0_length_8abf5_6 rfl rfl (K := qI (fun r τ => r = 0 ∧ σ = τ)) ⟨rfl, rfl⟩ (kI (fun r τ hw9 => ?_))
  obtain ⟨rfl, rfl⟩ := hw9
  refine r_ishr 10 hX dJ0_length_8abf5_9 rfl ?_
  rw [sb_shr0]
  exact r_iret hX hR dJ0_length_8abf5_10 hw
set_option maxRecDepth 20000 in
theorem c_latin {t : Nat} (ht : t < 4) : Con yJ0_isLatin1_aae02 cJ0_isLatin1_aae02 1 (some .boolean) 1 (fun ad => [.ref (ad (100 + t))]) (fun Q σ => Q (some (.inl 1)) σ) := by
  refine con_intro (by decide +kernel) (fun _ => Nat.le_of_ble_eq_true rfl) (by omega) (fun X Q σ hX hR hw => ?_)
  have hX : CxB X RJ0 cJ0_isLatin1_aae02 1 1 := hX
  show At X 1 0 [(0, .ref (X.kad (100 + t)))] [] σ
  refine r_sget 3 hX hX.huc.2.1.1 tw_208 dJ0_isLatin1_aae02_0 rfl ?_
  refine r_if_eq 17 6 hX dJ0_isLatin1_aae02_3 (by decide) rfl (P := False) (Q := True) ⟨fun h => absurd h (by decide), fun _ => trivial⟩ (fun h => h.elim) (fun _ => ?_)
  refine r_aload_n 7 hX dJ0_isLatin1_aae02_6 rfl rfl 0 rfl ?_
  refine r_kget 10 hX (hX.huc.2.1.2.2.1 t ht).2.1 tw_209 dJ0_isLatin1_aae02_7 rfl ?_
  refine r_if_ne 17 13 hX dJ0_isLatin1_aae02_10 (by decide) rfl (P := False) (Q := True) ⟨fun _ => trivial, fun h => absurd rfl h⟩ (fun h => h.elim) (fun _ => ?_)
  refine r_iconst 14 hX dJ0_isLatin1_aae02_13 rfl 1 ic_1 ?_
  refine r_goto 18 hX dJ0_isLatin1_aae02_14 (by decide) ?_
  exact r_zret hX hR narrow_b1 dJ0_isLatin1_aae02_18 hw
theorem pchk_len {i n : Int32} {v : Value} (hv : v.category = 1) : (lg_sl [.int i, .int n, v]).length ≤ 3 := by
  cases v <;> first | exact Nat.le_of_ble_eq_true rfl | cases hv
set_option maxRecDepth 20000 in
theorem c_pchk {i n : Int32} {v : Value} (hv : v.category = 1) (h1 : ¬ i < 0) (h2 : i < n) : Con yJ3_checkIndex_8e157 cJ3_checkIndex_8e157 3 (some .int) 1 (fun ad => [.int i, .int n, v]) (fun Q σ => Q (some (.inl i)) σ) := by
  refine con_intro (by decide +kernel) (fun _ => pchk_len hv) (by omega) (fun X Q σ hX hR hw => ?_)
  have hX : CxB X RJ3 cJ3_checkIndex_8e157 3 1 := hX
  show At X 3 0 (lv_args 0 [.int i, .int n, v]) [] σ
  refine r_iload_n 1 hX dJ3_checkIndex_8e157_0 rfl rfl 0 rfl ?_
  refine r_if_lt 9 4 hX dJ3_checkIndex_8e157_1 (by decide) rfl (P := False) (Q := True) ⟨fun h => absurd h h1, fun _ => trivial⟩ (fun h => h.elim) (fun _ => ?_)
  refine r_iload_n 5 hX dJ3_checkIndex_8e157_4 rfl rfl 0 rfl ?_
  refine r_iload_n 6 hX dJ3_checkIndex_8e157_5 rfl rfl 1 rfl ?_
  refine r_icmp_lt 16 9 hX dJ3_checkIndex_8e157_6 (by decide) rfl (P := True) (Q := False) ⟨fun _ => trivial, fun h => absurd h2 h⟩ (fun _ => ?_) (fun h => h.elim)
  refine r_iload_n 17 hX dJ3_checkIndex_8e157_16 rfl rfl 0 rfl ?_
  exact r_iret hX hR dJ3_checkIndex_8e157_17 hw
set_option maxRecDepth 20000 in
theorem c_schk {i n : Int32} (h1 : ¬ i < 0) (h2 : i < n) : Con yJ0_checkIndex_df160 cJ0_checkIndex_df160 2 (none) 2 (fun ad => [.int i, .int n]) (fun Q σ => Q none σ) := by
  refine con_intro (by decide +kernel) (fun _ => Nat.le_of_ble_eq_true rfl) (by omega) (fun X Q σ hX hR hw => ?_)
  have hX : CxB X RJ0 cJ0_checkIndex_df160 2 2 := hX
  show At X 2 0 [(0, .int i), (1, .int n)] [] σ
  obtain ⟨v, hv, hZ⟩ : ∃ v : Value, v.category = 1 ∧ va_Z "jdk/internal/util/Preconditions" "SIOOBE_FORMATTER" "Ljava/util/function/BiFunction;" v X.kA X.ks X.ks.heap := by
    rcases hX.huc.2.1.2.1 with h | ⟨a, h⟩
    · exact ⟨_, rfl, h⟩
    · exact ⟨_, rfl, h⟩
  refine r_iload_n 1 hX dJ0_checkIndex_df160_0 rfl rfl 0 rfl ?_
  refine r_iload_n 2 hX dJ0_checkIndex_df160_1 rfl rfl 1 rfl ?_
  refine r_sget 5 hX hZ tw_211 dJ0_checkIndex_df160_2 rfl ?_
  refine r_callS (n := 3) 8 hX (c_pchk (v := v) hv h1 h2) tw_217 tw_218 tw_219 tw_220 ⟨by decide +kernel, by decide +kernel, by decide +kernel⟩ (by decide) (by decide) (As := [.int i, .int n, v]) rfl rfl (Nat.le_of_ble_eq_true rfl) dJ0_checkIndex_df160_5 rfl rfl (K := qI (fun r τ => σ = τ)) rfl (kI (fun r τ hw9 => ?_))
  subst hw9
  refine r_pop 9 hX dJ0_checkIndex_df160_8 rfl rfl ?_
  exact r_vret hX hR dJ0_checkIndex_df160_9 hw
theorem vin_of {i : Int32} {n : Nat} (h : vp_in i n) (hn : n < 2 ^ 31) : ¬ i < 0 ∧ i < Int32.ofNat n := by
  obtain ⟨j, hj, rfl⟩ := vp_in_of h hn
  exact ⟨nI_pos (by omega), nI_lt hj hn⟩
set_option maxRecDepth 20000 in
theorem c_l1at {t : Nat} (ht : t < 4) {i : Int32} (hi : vp_in i (strL.getD t 0)) : Con yJ1_charAt_3b067 cJ1_charAt_3b067 2 (some .char) 3 (fun ad => [.ref (ad (104 + t)), .int i]) (fun Q σ => Q (some (.inl (strC t i.toNatClampNeg))) σ) := by
  refine con_intro (by decide +kernel) (fun _ => Nat.le_of_ble_eq_true rfl) (by omega) (fun X Q σ hX hR hw => ?_)
  have hX : CxB X RJ1 cJ1_charAt_3b067 2 3 := hX
  show At X 2 0 [(0, .ref (X.kad (104 + t))), (1, .int i)] [] σ
  have hb : strL.getD t 0 < 2 ^ 31 := (by decide +kernel : ∀ t, t < 4 → strL.getD t 0 < 2 ^ 31) t ht
  refine r_iload_n 1 hX dJ1_charAt_3b067_0 rfl rfl 1 rfl ?_
  refine r_aload_n 2 hX dJ1_charAt_3b067_1 rfl rfl 0 rfl ?_
  refine r_klen 3 hX (hX.huc.2.1.2.2.1 t ht).2.2.2 dJ1_charAt_3b067_2 rfl ?_
  refine r_callS (n := 2) 6 hX (c_schk (vin_of hi hb).1 (vin_of hi hb).2) tw_221 tw_222 tw_215 tw_223 ⟨by decide +kernel, by decide +kernel, by decide +kernel⟩ (by decide) (by decide) (As := [.int i, .int (Int32.ofNat (strL.getD t 0))]) rfl rfl (Nat.le_of_ble_eq_true rfl) dJ1_charAt_3b067_3 rfl rfl (K := qV (fun τ => σ = τ)) rfl (kV (fun τ hw9 => ?_))
  subst hw9
  refine r_aload_n 7 hX dJ1_charAt_3b067_6 rfl rfl 0 rfl ?_
  refine r_iload_n 8 hX dJ1_charAt_3b067_7 rfl rfl 1 rfl ?_
  refine r_kbald 9 hX (hX.huc.2.1.2.2.1 t ht).2.2.2 hi dJ1_charAt_3b067_8 rfl ?_
  refine r_sipush 12 hX dJ1_charAt_3b067_9 rfl 255 si_255 ?_
  refine r_iand 13 hX dJ1_charAt_3b067_12 rfl ?_
  refine r_i2c 14 hX dJ1_charAt_3b067_13 rfl ?_
  have e : (((strB.getD t []).getD i.toNatClampNeg 0 &&& 255).toUInt32 % 65536).toInt32 = strC t i.toNatClampNeg ∧ narrow .char (.int (strC t i.toNatClampNeg)) = .int (strC t i.toNatClampNeg) := by
    have h9 : ∀ t, t < 4 → ∀ j, j < 6 → ((((strB.getD t []).getD j 0 &&& 255).toUInt32 % 65536).toInt32 = strC t j ∧ narrow .char (.int (strC t j)) = .int (strC t j)) := by decide +kernel
    have h8 : ∀ t, t < 4 → strL.getD t 0 ≤ 6 := by decide +kernel
    exact h9 t ht _ (Nat.lt_of_lt_of_le (vin_lt hi) (h8 t ht))
  rw [e.1]
  exact r_nret hX hR e.2 dJ1_charAt_3b067_14 hw
set_option maxRecDepth 20000 in
theorem c_scharAt {t : Nat} (ht : t < 4) {i : Int32} (hi : vp_in i (strL.getD t 0)) : Con yJ0_charAt_5068e cJ0_charAt_5068e 2 (some .char) 4 (fun ad => [.ref (ad (100 + t)), .int i]) (fun Q σ => Q (some (.inl (strC t i.toNatClampNeg))) σ) := by
  refine con_intro (by decide +kernel) (fun _ => Nat.le_of_ble_eq_true rfl) (by omega) (fun X Q σ hX hR hw => ?_)
  have hX : CxB X RJ0 cJ0_charAt_5068e 2 4 := hX
  show At X 2 0 [(0, .ref (X.kad (100 + t))), (1, .int i)] [] σ
  have e : narrow .char (.int (strC t i.toNatClampNeg)) = .int (strC t i.toNatClampNeg) := by
    have h9 : ∀ t, t < 4 → ∀ j, j < 6 → narrow .char (.int (strC t j)) = .int (strC t j) := by decide +kernel
    have h8 : ∀ t, t < 4 → strL.getD t 0 ≤ 6 := by decide +kernel
    exact h9 t ht _ (Nat.lt_of_lt_of_le (vin_lt hi) (h8 t ht))
  refine r_aload_n 1 hX dJ0_charAt_5068e_0 rfl rfl 0 rfl ?_
  refine r_callK (n := 0) 4 hX (c_latin ht) tw_224 tw_225 tw_226 tw_215 tw_227 ⟨by decide +kernel, by decide +kernel, by decide +kernel⟩ (by decide) (by decide) (As := []) rfl rfl (k_reco hX ht) (Nat.le_of_ble_eq_true rfl) dJ0_charAt_5068e_1 rfl rfl (K := qI (fun r τ => r = 1 ∧ σ = τ)) ⟨rfl, rfl⟩ (kI (fun r τ hw9 => ?_))
  obtain ⟨rfl, rfl⟩ := hw9
  refine r_if_eq 16 7 hX dJ0_charAt_5068e_4 (by decide) rfl (P := False) (Q := True) ⟨fun h => absurd h (by decide), fun _ => trivial⟩ (fun h => h.elim) (fun _ => ?_)
  refine r_aload_n 8 hX dJ0_charAt_5068e_7 rfl rfl 0 rfl ?_
  refine r_kget 11 hX (hX.huc.2.1.2.2.1 t ht).2.2.1 tw_210 dJ0_charAt_5068e_8 rfl ?_
  refine r_iload_n 12 hX dJ0_charAt_5068e_11 rfl rfl 1 rfl ?_
  refine r_callS (n := 2) 15 hX (c_l1at ht hi) tw_228 tw_229 tw_230 tw_231 ⟨by decide +kernel, by decide +kernel, by decide +kernel⟩ (by decide) (by decide) (As := [.ref (X.kad (104 + t)), .int i]) rfl rfl (Nat.le_of_ble_eq_true rfl) dJ0_charAt_5068e_12 rfl rfl (K := qI (fun r τ => r = strC t i.toNatClampNeg ∧ σ = τ)) ⟨rfl, rfl⟩ (kI (fun r τ hw9 => ?_))
  obtain ⟨rfl, rfl⟩ := hw9
  exact r_nret hX hR e dJ0_charAt_5068e_15 hw
theorem k_str_0 {X : Cx} {cc : ByteArray} {nL d pc : Nat} {lv : List (Nat × Value)} {st : List Value} {σ : St} (q : Nat) (hX : CxB X RX1 cc nL d) (hd : decode cc pc = .ok (.ldc 116, 2)) (hq : pc + 2 = q) (kk : At X nL q lv (.ref (X.kad 100) :: st) σ) : At X nL pc lv st σ := r_kstr q hX hX.huc.2.2.1 hd hq kk
theorem k_len_0 {X : Cx} {cc : ByteArray} {nL d pc : Nat} {lv : List (Nat × Value)} {rest : List Value} {σ : St} (q : Nat) (hX : CxB X RX1 cc nL d) (hdc : 2 + 1 ≤ d) (hst : (rest.map fun v => v.category).sum ≤ 8) (hd : decode cc pc = .ok (.invokevirtual 127, 3)) (hq : pc + 3 = q) (kk : At X nL q lv (.int 4 :: rest) σ) : At X nL pc lv (.ref (X.kad 100) :: rest) σ := r_callK (n := 0) q hX (c_slen (t := 0) (by decide)) tw_232 tw_233 tw_234 tw_215 tw_235 ⟨by decide +kernel, by decide +kernel, by decide +kernel⟩ hdc (by decide) (As := []) rfl rfl (k_reco hX (t := 0) (by decide)) hst hd hq rfl (K := qI (fun r τ => r = 4 ∧ σ = τ)) ⟨by decide, rfl⟩ (kI (fun r τ h => by obtain ⟨rfl, rfl⟩ := h; exact kk))
theorem k_at_0 {X : Cx} {cc : ByteArray} {nL d pc : Nat} {lv : List (Nat × Value)} {rest : List Value} {σ : St} {i : Int32} {B : Prop} (q : Nat) (hX : CxB X RX1 cc nL d) (hdc : 4 + 1 ≤ d) (hst : (rest.map fun v => v.category).sum ≤ 8) (hd : decode cc pc = .ok (.invokevirtual 132, 3)) (hq : pc + 3 = q) (hw : vp_in i 4 ∧ B) (kk : B → At X nL q lv (.int (strC 0 i.toNatClampNeg) :: rest) σ) : At X nL pc lv (.int i :: .ref (X.kad 100) :: rest) σ := r_callK (n := 1) q hX (c_scharAt (t := 0) (by decide) (i := i) hw.1) tw_236 tw_237 tw_238 tw_215 tw_239 ⟨by decide +kernel, by decide +kernel, by decide +kernel⟩ hdc (by decide) (As := [.int i]) rfl rfl (k_reco hX (t := 0) (by decide)) hst hd hq rfl (K := qI (fun r τ => r = strC 0 i.toNatClampNeg ∧ σ = τ)) ⟨rfl, rfl⟩ (kI (fun r τ h => by obtain ⟨rfl, rfl⟩ := h; exact kk hw.2))
theorem k_str_1 {X : Cx} {cc : ByteArray} {nL d pc : Nat} {lv : List (Nat × Value)} {st : List Value} {σ : St} (q : Nat) (hX : CxB X RX1 cc nL d) (hd : decode cc pc = .ok (.ldc 122, 2)) (hq : pc + 2 = q) (kk : At X nL q lv (.ref (X.kad 101) :: st) σ) : At X nL pc lv st σ := r_kstr q hX hX.huc.2.2.2.1 hd hq kk
theorem k_len_1 {X : Cx} {cc : ByteArray} {nL d pc : Nat} {lv : List (Nat × Value)} {rest : List Value} {σ : St} (q : Nat) (hX : CxB X RX1 cc nL d) (hdc : 2 + 1 ≤ d) (hst : (rest.map fun v => v.category).sum ≤ 8) (hd : decode cc pc = .ok (.invokevirtual 127, 3)) (hq : pc + 3 = q) (kk : At X nL q lv (.int 4 :: rest) σ) : At X nL pc lv (.ref (X.kad 101) :: rest) σ := r_callK (n := 0) q hX (c_slen (t := 1) (by decide)) tw_232 tw_233 tw_234 tw_215 tw_235 ⟨by decide +kernel, by decide +kernel, by decide +kernel⟩ hdc (by decide) (As := []) rfl rfl (k_reco hX (t := 1) (by decide)) hst hd hq rfl (K := qI (fun r τ => r = 4 ∧ σ = τ)) ⟨by decide, rfl⟩ (kI (fun r τ h => by obtain ⟨rfl, rfl⟩ := h; exact kk))
theorem k_at_1 {X : Cx} {cc : ByteArray} {nL d pc : Nat} {lv : List (Nat × Value)} {rest : List Value} {σ : St} {i : Int32} {B : Prop} (q : Nat) (hX : CxB X RX1 cc nL d) (hdc : 4 + 1 ≤ d) (hst : (rest.map fun v => v.category).sum ≤ 8) (hd : decode cc pc = .ok (.invokevirtual 132, 3)) (hq : pc + 3 = q) (hw : vp_in i 4 ∧ B) (kk : B → At X nL q lv (.int (strC 1 i.toNatClampNeg) :: rest) σ) : At X nL pc lv (.int i :: .ref (X.kad 101) :: rest) σ := r_callK (n := 1) q hX (c_scharAt (t := 1) (by decide) (i := i) hw.1) tw_236 tw_237 tw_238 tw_215 tw_239 ⟨by decide +kernel, by decide +kernel, by decide +kernel⟩ hdc (by decide) (As := [.int i]) rfl rfl (k_reco hX (t := 1) (by decide)) hst hd hq rfl (K := qI (fun r τ => r = strC 1 i.toNatClampNeg ∧ σ = τ)) ⟨rfl, rfl⟩ (kI (fun r τ h => by obtain ⟨rfl, rfl⟩ := h; exact kk hw.2))
theorem k_str_2 {X : Cx} {cc : ByteArray} {nL d pc : Nat} {lv : List (Nat × Value)} {st : List Value} {σ : St} (q : Nat) (hX : CxB X RX1 cc nL d) (hd : decode cc pc = .ok (.ldc 124, 2)) (hq : pc + 2 = q) (kk : At X nL q lv (.ref (X.kad 102) :: st) σ) : At X nL pc lv st σ := r_kstr q hX hX.huc.2.2.2.2.1 hd hq kk
theorem k_len_2 {X : Cx} {cc : ByteArray} {nL d pc : Nat} {lv : List (Nat × Value)} {rest : List Value} {σ : St} (q : Nat) (hX : CxB X RX1 cc nL d) (hdc : 2 + 1 ≤ d) (hst : (rest.map fun v => v.category).sum ≤ 8) (hd : decode cc pc = .ok (.invokevirtual 127, 3)) (hq : pc + 3 = q) (kk : At X nL q lv (.int 4 :: rest) σ) : At X nL pc lv (.ref (X.kad 102) :: rest) σ := r_callK (n := 0) q hX (c_slen (t := 2) (by decide)) tw_232 tw_233 tw_234 tw_215 tw_235 ⟨by decide +kernel, by decide +kernel, by decide +kernel⟩ hdc (by decide) (As := []) rfl rfl (k_reco hX (t := 2) (by decide)) hst hd hq rfl (K := qI (fun r τ => r = 4 ∧ σ = τ)) ⟨by decide, rfl⟩ (kI (fun r τ h => by obtain ⟨rfl, rfl⟩ := h; exact kk))
theorem k_at_2 {X : Cx} {cc : ByteArray} {nL d pc : Nat} {lv : List (Nat × Value)} {rest : List Value} {σ : St} {i : Int32} {B : Prop} (q : Nat) (hX : CxB X RX1 cc nL d) (hdc : 4 + 1 ≤ d) (hst : (rest.map fun v => v.category).sum ≤ 8) (hd : decode cc pc = .ok (.invokevirtual 132, 3)) (hq : pc + 3 = q) (hw : vp_in i 4 ∧ B) (kk : B → At X nL q lv (.int (strC 2 i.toNatClampNeg) :: rest) σ) : At X nL pc lv (.int i :: .ref (X.kad 102) :: rest) σ := r_callK (n := 1) q hX (c_scharAt (t := 2) (by decide) (i := i) hw.1) tw_236 tw_237 tw_238 tw_215 tw_239 ⟨by decide +kernel, by decide +kernel, by decide +kernel⟩ hdc (by decide) (As := [.int i]) rfl rfl (k_reco hX (t := 2) (by decide)) hst hd hq rfl (K := qI (fun r τ => r = strC 2 i.toNatClampNeg ∧ σ = τ)) ⟨rfl, rfl⟩ (kI (fun r τ h => by obtain ⟨rfl, rfl⟩ := h; exact kk hw.2))
theorem k_str_3 {X : Cx} {cc : ByteArray} {nL d pc : Nat} {lv : List (Nat × Value)} {st : List Value} {σ : St} (q : Nat) (hX : CxB X RX1 cc nL d) (hd : decode cc pc = .ok (.ldc 125, 2)) (hq : pc + 2 = q) (kk : At X nL q lv (.ref (X.kad 103) :: st) σ) : At X nL pc lv st σ := r_kstr q hX hX.huc.2.2.2.2.2 hd hq kk
theorem k_len_3 {X : Cx} {cc : ByteArray} {nL d pc : Nat} {lv : List (Nat × Value)} {rest : List Value} {σ : St} (q : Nat) (hX : CxB X RX1 cc nL d) (hdc : 2 + 1 ≤ d) (hst : (rest.map fun v => v.category).sum ≤ 8) (hd : decode cc pc = .ok (.invokevirtual 127, 3)) (hq : pc + 3 = q) (kk : At X nL q lv (.int 6 :: rest) σ) : At X nL pc lv (.ref (X.kad 103) :: rest) σ := r_callK (n := 0) q hX (c_slen (t := 3) (by decide)) tw_232 tw_233 tw_234 tw_215 tw_235 ⟨by decide +kernel, by decide +kernel, by decide +kernel⟩ hdc (by decide) (As := []) rfl rfl (k_reco hX (t := 3) (by decide)) hst hd hq rfl (K := qI (fun r τ => r = 6 ∧ σ = τ)) ⟨by decide, rfl⟩ (kI (fun r τ h => by obtain ⟨rfl, rfl⟩ := h; exact kk))
theorem k_at_3 {X : Cx} {cc : ByteArray} {nL d pc : Nat} {lv : List (Nat × Value)} {rest : List Value} {σ : St} {i : Int32} {B : Prop} (q : Nat) (hX : CxB X RX1 cc nL d) (hdc : 4 + 1 ≤ d) (hst : (rest.map fun v => v.category).sum ≤ 8) (hd : decode cc pc = .ok (.invokevirtual 132, 3)) (hq : pc + 3 = q) (hw : vp_in i 6 ∧ B) (kk : B → At X nL q lv (.int (strC 3 i.toNatClampNeg) :: rest) σ) : At X nL pc lv (.int i :: .ref (X.kad 103) :: rest) σ := r_callK (n := 1) q hX (c_scharAt (t := 3) (by decide) (i := i) hw.1) tw_236 tw_237 tw_238 tw_215 tw_239 ⟨by decide +kernel, by decide +kernel, by decide +kernel⟩ hdc (by decide) (As := [.int i]) rfl rfl (k_reco hX (t := 3) (by decide)) hst hd hq rfl (K := qI (fun r τ => r = strC 3 i.toNatClampNeg ∧ σ = τ)) ⟨rfl, rfl⟩ (kI (fun r τ h => by obtain ⟨rfl, rfl⟩ := h; exact kk hw.2))
set_option maxRecDepth 20000 in
set_option maxHeartbeats 4000000 in
theorem c_X1_byteAt (x1 : Int32) : Con yX1_byteAt cX1_byteAt 2 (some .int) (1) (fun ad => [.ref (ad 2), .int (x1)]) (fun Q σ => wp_X1_byteAt x1 (aI Q) σ) := by
  refine con_intro (by decide +kernel) (fun _ => Nat.le_of_ble_eq_true rfl) (by omega) (fun X Q σ hX hR hw => ?_)
  have hX : CxB X RX1 cX1_byteAt 2 (1) := hX
  unfold wp_X1_byteAt at hw
  show At X 2 0 [(0, .ref (X.kad 2)), (1, .int (x1))] [] σ
  refine r_iload_n 1 hX dX1_byteAt_0 rfl rfl 1 rfl ?_
  refine r_if_lt 34 4 hX dX1_byteAt_1 (by decide) rfl hw (fun hw => ?_) (fun hw => ?_)
  · refine r_iconst 35 hX dX1_byteAt_34 rfl (-1) ic_m1 ?_
    exact r_iret hX hR dX1_byteAt_35 hw
  · refine r_iload_n 5 hX dX1_byteAt_4 rfl rfl 1 rfl ?_
    refine r_aload_n 6 hX dX1_byteAt_5 rfl rfl 0 rfl ?_
    refine g_X1_21_2 9 hX dX1_byteAt_6 rfl ?_
    refine r_icmp_ge 34 12 hX dX1_byteAt_9 (by decide) rfl hw (fun hw => ?_) (fun hw => ?_)
    · refine r_iconst 35 hX dX1_byteAt_34 rfl (-1) ic_m1 ?_
      exact r_iret hX hR dX1_byteAt_35 hw
    · refine r_iload_n 13 hX dX1_byteAt_12 rfl rfl 1 rfl ?_
      refine r_aload_n 14 hX dX1_byteAt_13 rfl rfl 0 rfl ?_
      refine g_bytes 17 hX dX1_byteAt_14 rfl hw (fun hw => ?_)
      refine r_alen 18 hX sh_1 (by decide) dX1_byteAt_17 rfl ?_
      refine r_icmp_ge 34 21 hX dX1_byteAt_18 (by decide) rfl hw (fun hw => ?_) (fun hw => ?_)
      · refine r_iconst 35 hX dX1_byteAt_34 rfl (-1) ic_m1 ?_
        exact r_iret hX hR dX1_byteAt_35 hw
      · refine r_aload_n 22 hX dX1_byteAt_21 rfl rfl 0 rfl ?_
        refine g_bytes 25 hX dX1_byteAt_22 rfl hw (fun hw => ?_)
        refine r_iload_n 26 hX dX1_byteAt_25 rfl rfl 1 rfl ?_
        refine r_bald 27 hX sh_1 dX1_byteAt_26 rfl hw (fun hw => ?_)
        refine r_sipush 30 hX dX1_byteAt_27 rfl 255 si_255 ?_
        refine r_iand 31 hX dX1_byteAt_30 rfl ?_
        refine r_goto 35 hX dX1_byteAt_31 (by decide) ?_
        exact r_iret hX hR dX1_byteAt_35 hw
theorem k_X1_99_X1_byteAt {X : Cx} {cc : ByteArray} {nL d pc : Nat} {lv : List (Nat × Value)} {rest : List Value} {σ : St} {K : Int32 → St → Prop} (q : Nat) (hX : CxB X RX1 cc nL d) (hdc : 1 + 1 ≤ d) (x1 : Int32) (hst : (rest.map fun v => v.category).sum ≤ 8) (hd : decode cc pc = .ok (.invokevirtual 99, 3)) (hq : pc + 3 = q) (hw : wp_X1_byteAt x1 K σ) (kk : ∀ (r : Int32) (τ : St), K r τ → At X nL q lv (.int r :: rest) τ) : At X nL pc lv (.int (x1) :: .ref (X.kad 2) :: rest) σ := r_callV (n := 1) q hX (k0 := 2) (c_X1_byteAt x1) tw_241 tw_242 tw_243 tw_244 tw_245 ⟨by decide +kernel, by decide +kernel, by decide +kernel⟩ hdc (by decide) (As := [.int (x1)]) rfl rfl (by decide) ⟨_, _, _, rfl, rfl, rfl⟩ hst hd hq rfl (K := qI K) hw (kI kk)
set_option maxRecDepth 20000 in
set_option maxHeartbeats 4000000 in
theorem c_X1_letterAt (x1 : Int32) : Con yX1_letterAt cX1_letterAt 3 (some .boolean) (2) (fun ad => [.ref (ad 2), .int (x1)]) (fun Q σ => wp_X1_letterAt x1 (aI Q) σ) := by
  refine con_intro (by decide +kernel) (fun _ => Nat.le_of_ble_eq_true rfl) (by omega) (fun X Q σ hX hR hw => ?_)
  have hX : CxB X RX1 cX1_letterAt 3 (2) := hX
  unfold wp_X1_letterAt at hw
  show At X 3 0 [(0, .ref (X.kad 2)), (1, .int (x1))] [] σ
  refine r_aload_n 1 hX dX1_letterAt_0 rfl rfl 0 rfl ?_
  refine r_iload_n 2 hX dX1_letterAt_1 rfl rfl 1 rfl ?_
  refine k_X1_99_X1_byteAt 5 hX (by omega) (x1) (Nat.le_of_ble_eq_true rfl) dX1_letterAt_2 rfl hw (fun r2 σ2 hw => ?_)
  refine r_istore_n (lv' := [(2, .int (r2)), (0, .ref (X.kad 2)), (1, .int (x1))]) 6 hX dX1_letterAt_5 rfl rfl (by decide) rfl ?_
  refine r_iload_n 7 hX dX1_letterAt_6 rfl rfl 0 rfl ?_
  refine r_bipush 9 hX dX1_letterAt_7 rfl 97 bi_97 ?_
  refine r_icmp_lt 22 12 hX dX1_letterAt_9 (by decide) rfl hw (fun hw => ?_) (fun hw => ?_)
  · refine r_iconst 23 hX dX1_letterAt_22 rfl 0 ic_0 ?_
    exact r_zret hX hR narrow_b0 dX1_letterAt_23 hw
  · refine r_iload_n 13 hX dX1_letterAt_12 rfl rfl 0 rfl ?_
    refine r_bipush 15 hX dX1_letterAt_13 rfl 122 bi_122 ?_
    refine r_icmp_gt 22 18 hX dX1_letterAt_15 (by decide) rfl hw (fun hw => ?_) (fun hw => ?_)
    · refine r_iconst 23 hX dX1_letterAt_22 rfl 0 ic_0 ?_
      exact r_zret hX hR narrow_b0 dX1_letterAt_23 hw
    · refine r_iconst 19 hX dX1_letterAt_18 rfl 1 ic_1 ?_
      refine r_goto 23 hX dX1_letterAt_19 (by decide) ?_
      exact r_zret hX hR narrow_b1 dX1_letterAt_23 hw
set_option maxRecDepth 20000 in
set_option maxHeartbeats 4000000 in
theorem c_X1_digitAt (x1 : Int32) : Con yX1_digitAt cX1_digitAt 3 (some .boolean) (2) (fun ad => [.ref (ad 2), .int (x1)]) (fun Q σ => wp_X1_digitAt x1 (aI Q) σ) := by
  refine con_intro (by decide +kernel) (fun _ => Nat.le_of_ble_eq_true rfl) (by omega) (fun X Q σ hX hR hw => ?_)
  have hX : CxB X RX1 cX1_digitAt 3 (2) := hX
  unfold wp_X1_digitAt at hw
  show At X 3 0 [(0, .ref (X.kad 2)), (1, .int (x1))] [] σ
  refine r_aload_n 1 hX dX1_digitAt_0 rfl rfl 0 rfl ?_
  refine r_iload_n 2 hX dX1_digitAt_1 rfl rfl 1 rfl ?_
  refine k_X1_99_X1_byteAt 5 hX (by omega) (x1) (Nat.le_of_ble_eq_true rfl) dX1_digitAt_2 rfl hw (fun r2 σ2 hw => ?_)
  refine r_istore_n (lv' := [(2, .int (r2)), (0, .ref (X.kad 2)), (1, .int (x1))]) 6 hX dX1_digitAt_5 rfl rfl (by decide) rfl ?_
  refine r_iload_n 7 hX dX1_digitAt_6 rfl rfl 0 rfl ?_
  refine r_bipush 9 hX dX1_digitAt_7 rfl 48 bi_48 ?_
  refine r_icmp_lt 22 12 hX dX1_digitAt_9 (by decide) rfl hw (fun hw => ?_) (fun hw => ?_)
  · refine r_iconst 23 hX dX1_digitAt_22 rfl 0 ic_0 ?_
    exact r_zret hX hR narrow_b0 dX1_digitAt_23 hw
  · refine r_iload_n 13 hX dX1_digitAt_12 rfl rfl 0 rfl ?_
    refine r_bipush 15 hX dX1_digitAt_13 rfl 57 bi_57 ?_
    refine r_icmp_gt 22 18 hX dX1_digitAt_15 (by decide) rfl hw (fun hw => ?_) (fun hw => ?_)
    · refine r_iconst 23 hX dX1_digitAt_22 rfl 0 ic_0 ?_
      exact r_zret hX hR narrow_b0 dX1_digitAt_23 hw
    · refine r_iconst 19 hX dX1_digitAt_18 rfl 1 ic_1 ?_
      refine r_goto 23 hX dX1_digitAt_19 (by decide) ?_
      exact r_zret hX hR narrow_b1 dX1_digitAt_23 hw
set_option maxRecDepth 20000 in
set_option maxHeartbeats 4000000 in
theorem w_X1_wordIs_0_b20 {X : Cx} {Q : RV → St → Prop} (hX : CxB X RX1 cX1_wordIs 3 (5)) (hR : CxR X (some .boolean) Q) {K20 : Int32 → St → Prop} (hK20 : ∀ (x2 : Int32) (σ : St), K20 x2 σ → At X 3 20 [(0, .ref (X.kad 2)), (1, .ref (X.kad 100)), (2, .int (x2))] [] σ) (x2 : Int32) (σ : St) (hw : wp_X1_wordIs_0_b20 (aI Q) K20 x2 σ) : At X 3 20 [(0, .ref (X.kad 2)), (1, .ref (X.kad 100)), (2, .int (x2))] [] σ := by
  unfold wp_X1_wordIs_0_b20 at hw
  refine r_iload_n 21 hX dX1_wordIs_20 rfl rfl 2 rfl ?_
  refine r_aload_n 22 hX dX1_wordIs_21 rfl rfl 1 rfl ?_
  refine k_len_0 25 hX (by omega) (Nat.le_of_ble_eq_true rfl) dX1_wordIs_22 rfl ?_
  refine r_icmp_ge 54 28 hX dX1_wordIs_25 (by decide) rfl hw (fun hw => ?_) (fun hw => ?_)
  · refine r_iconst 55 hX dX1_wordIs_54 rfl 1 ic_1 ?_
    exact r_zret hX hR narrow_b1 dX1_wordIs_55 hw
  · refine r_aload_n 29 hX dX1_wordIs_28 rfl rfl 0 rfl ?_
    refine r_aload_n 30 hX dX1_wordIs_29 rfl rfl 0 rfl ?_
    refine g_X1_43_2 33 hX dX1_wordIs_30 rfl ?_
    refine r_iload_n 34 hX dX1_wordIs_33 rfl rfl 2 rfl ?_
    refine r_iadd 35 hX dX1_wordIs_34 rfl ?_
    refine k_X1_99_X1_byteAt 38 hX (by omega) ((σ.1 2 3) + x2) (Nat.le_of_ble_eq_true rfl) dX1_wordIs_35 rfl hw (fun r35 σ35 hw => ?_)
    refine r_aload_n 39 hX dX1_wordIs_38 rfl rfl 1 rfl ?_
    refine r_iload_n 40 hX dX1_wordIs_39 rfl rfl 2 rfl ?_
    refine k_at_0 43 hX (by omega) (Nat.le_of_ble_eq_true rfl) dX1_wordIs_40 rfl hw (fun hw => ?_)
    refine r_icmp_eq 48 46 hX dX1_wordIs_43 (by decide) rfl hw (fun hw => ?_) (fun hw => ?_)
    · refine r_iinc (lv' := [(2, .int (x2 + 1)), (0, .ref (X.kad 2)), (1, .ref (X.kad 100))]) 51 hX dX1_wordIs_48 rfl 2 rfl (x2 + 1) (ici_1 _) (by decide) rfl ?_
      refine r_goto 20 hX dX1_wordIs_51 (by decide) ?_
      refine r_sub [1, 2, 0] rfl ?_
      exact hK20 _ _ hw
    · refine r_iconst 47 hX dX1_wordIs_46 rfl 0 ic_0 ?_
      exact r_zret hX hR narrow_b0 dX1_wordIs_47 hw
set_option maxRecDepth 20000 in
set_option maxHeartbeats 4000000 in
theorem w_X1_wordIs_0_l20 {X : Cx} {Q : RV → St → Prop} (hX : CxB X RX1 cX1_wordIs 3 (5)) (hR : CxR X (some .boolean) Q) (n : Nat) : ∀ (x2 : Int32) (σ : St), wp_X1_wordIs_0_l20 (aI Q)  n x2 σ → At X 3 20 [(0, .ref (X.kad 2)), (1, .ref (X.kad 100)), (2, .int (x2))] [] σ := by
  induction n with
  | zero => intro x2 σ h; exact h.elim
  | succ n ih => intro x2 σ h; exact w_X1_wordIs_0_b20  hX hR ih x2 σ h
set_option maxRecDepth 20000 in
set_option maxHeartbeats 4000000 in
theorem c_X1_wordIs_0 : Con yX1_wordIs cX1_wordIs 3 (some .boolean) (5) (fun ad => [.ref (ad 2), .ref (ad 100)]) (fun Q σ => wp_X1_wordIs_0  (aI Q) σ) := by
  refine con_intro (by decide +kernel) (fun _ => Nat.le_of_ble_eq_true rfl) (by omega) (fun X Q σ hX hR hw => ?_)
  have hX : CxB X RX1 cX1_wordIs 3 (5) := hX
  unfold wp_X1_wordIs_0 at hw
  show At X 3 0 [(0, .ref (X.kad 2)), (1, .ref (X.kad 100))] [] σ
  refine r_aload_n 1 hX dX1_wordIs_0 rfl rfl 0 rfl ?_
  refine g_X1_25_2 4 hX dX1_wordIs_1 rfl ?_
  refine r_aload_n 5 hX dX1_wordIs_4 rfl rfl 0 rfl ?_
  refine g_X1_43_2 8 hX dX1_wordIs_5 rfl ?_
  refine r_isub 9 hX dX1_wordIs_8 rfl ?_
  refine r_aload_n 10 hX dX1_wordIs_9 rfl rfl 1 rfl ?_
  refine k_len_0 13 hX (by omega) (Nat.le_of_ble_eq_true rfl) dX1_wordIs_10 rfl ?_
  refine r_icmp_eq 18 16 hX dX1_wordIs_13 (by decide) rfl hw (fun hw => ?_) (fun hw => ?_)
  · refine r_iconst 19 hX dX1_wordIs_18 rfl 0 ic_0 ?_
    refine r_istore_n (lv' := [(2, .int (0)), (0, .ref (X.kad 2)), (1, .ref (X.kad 100))]) 20 hX dX1_wordIs_19 rfl rfl (by decide) rfl ?_
    refine r_sub [1, 2, 0] rfl ?_
    obtain ⟨n, hw⟩ := hw
    exact w_X1_wordIs_0_l20 hX hR n _ _ hw
  · refine r_iconst 17 hX dX1_wordIs_16 rfl 0 ic_0 ?_
    exact r_zret hX hR narrow_b0 dX1_wordIs_17 hw
set_option maxRecDepth 20000 in
set_option maxHeartbeats 4000000 in
theorem w_X1_wordIs_1_b20 {X : Cx} {Q : RV → St → Prop} (hX : CxB X RX1 cX1_wordIs 3 (5)) (hR : CxR X (some .boolean) Q) {K20 : Int32 → St → Prop} (hK20 : ∀ (x2 : Int32) (σ : St), K20 x2 σ → At X 3 20 [(0, .ref (X.kad 2)), (1, .ref (X.kad 101)), (2, .int (x2))] [] σ) (x2 : Int32) (σ : St) (hw : wp_X1_wordIs_1_b20 (aI Q) K20 x2 σ) : At X 3 20 [(0, .ref (X.kad 2)), (1, .ref (X.kad 101)), (2, .int (x2))] [] σ := by
  unfold wp_X1_wordIs_1_b20 at hw
  refine r_iload_n 21 hX dX1_wordIs_20 rfl rfl 2 rfl ?_
  refine r_aload_n 22 hX dX1_wordIs_21 rfl rfl 1 rfl ?_
  refine k_len_1 25 hX (by omega) (Nat.le_of_ble_eq_true rfl) dX1_wordIs_22 rfl ?_
  refine r_icmp_ge 54 28 hX dX1_wordIs_25 (by decide) rfl hw (fun hw => ?_) (fun hw => ?_)
  · refine r_iconst 55 hX dX1_wordIs_54 rfl 1 ic_1 ?_
    exact r_zret hX hR narrow_b1 dX1_wordIs_55 hw
  · refine r_aload_n 29 hX dX1_wordIs_28 rfl rfl 0 rfl ?_
    refine r_aload_n 30 hX dX1_wordIs_29 rfl rfl 0 rfl ?_
    refine g_X1_43_2 33 hX dX1_wordIs_30 rfl ?_
    refine r_iload_n 34 hX dX1_wordIs_33 rfl rfl 2 rfl ?_
    refine r_iadd 35 hX dX1_wordIs_34 rfl ?_
    refine k_X1_99_X1_byteAt 38 hX (by omega) ((σ.1 2 3) + x2) (Nat.le_of_ble_eq_true rfl) dX1_wordIs_35 rfl hw (fun r35 σ35 hw => ?_)
    refine r_aload_n 39 hX dX1_wordIs_38 rfl rfl 1 rfl ?_
    refine r_iload_n 40 hX dX1_wordIs_39 rfl rfl 2 rfl ?_
    refine k_at_1 43 hX (by omega) (Nat.le_of_ble_eq_true rfl) dX1_wordIs_40 rfl hw (fun hw => ?_)
    refine r_icmp_eq 48 46 hX dX1_wordIs_43 (by decide) rfl hw (fun hw => ?_) (fun hw => ?_)
    · refine r_iinc (lv' := [(2, .int (x2 + 1)), (0, .ref (X.kad 2)), (1, .ref (X.kad 101))]) 51 hX dX1_wordIs_48 rfl 2 rfl (x2 + 1) (ici_1 _) (by decide) rfl ?_
      refine r_goto 20 hX dX1_wordIs_51 (by decide) ?_
      refine r_sub [1, 2, 0] rfl ?_
      exact hK20 _ _ hw
    · refine r_iconst 47 hX dX1_wordIs_46 rfl 0 ic_0 ?_
      exact r_zret hX hR narrow_b0 dX1_wordIs_47 hw
set_option maxRecDepth 20000 in
set_option maxHeartbeats 4000000 in
theorem w_X1_wordIs_1_l20 {X : Cx} {Q : RV → St → Prop} (hX : CxB X RX1 cX1_wordIs 3 (5)) (hR : CxR X (some .boolean) Q) (n : Nat) : ∀ (x2 : Int32) (σ : St), wp_X1_wordIs_1_l20 (aI Q)  n x2 σ → At X 3 20 [(0, .ref (X.kad 2)), (1, .ref (X.kad 101)), (2, .int (x2))] [] σ := by
  induction n with
  | zero => intro x2 σ h; exact h.elim
  | succ n ih => intro x2 σ h; exact w_X1_wordIs_1_b20  hX hR ih x2 σ h
set_option maxRecDepth 20000 in
set_option maxHeartbeats 4000000 in
theorem c_X1_wordIs_1 : Con yX1_wordIs cX1_wordIs 3 (some .boolean) (5) (fun ad => [.ref (ad 2), .ref (ad 101)]) (fun Q σ => wp_X1_wordIs_1  (aI Q) σ) := by
  refine con_intro (by decide +kernel) (fun _ => Nat.le_of_ble_eq_true rfl) (by omega) (fun X Q σ hX hR hw => ?_)
  have hX : CxB X RX1 cX1_wordIs 3 (5) := hX
  unfold wp_X1_wordIs_1 at hw
  show At X 3 0 [(0, .ref (X.kad 2)), (1, .ref (X.kad 101))] [] σ
  refine r_aload_n 1 hX dX1_wordIs_0 rfl rfl 0 rfl ?_
  refine g_X1_25_2 4 hX dX1_wordIs_1 rfl ?_
  refine r_aload_n 5 hX dX1_wordIs_4 rfl rfl 0 rfl ?_
  refine g_X1_43_2 8 hX dX1_wordIs_5 rfl ?_
  refine r_isub 9 hX dX1_wordIs_8 rfl ?_
  refine r_aload_n 10 hX dX1_wordIs_9 rfl rfl 1 rfl ?_
  refine k_len_1 13 hX (by omega) (Nat.le_of_ble_eq_true rfl) dX1_wordIs_10 rfl ?_
  refine r_icmp_eq 18 16 hX dX1_wordIs_13 (by decide) rfl hw (fun hw => ?_) (fun hw => ?_)
  · refine r_iconst 19 hX dX1_wordIs_18 rfl 0 ic_0 ?_
    refine r_istore_n (lv' := [(2, .int (0)), (0, .ref (X.kad 2)), (1, .ref (X.kad 101))]) 20 hX dX1_wordIs_19 rfl rfl (by decide) rfl ?_
    refine r_sub [1, 2, 0] rfl ?_
    obtain ⟨n, hw⟩ := hw
    exact w_X1_wordIs_1_l20 hX hR n _ _ hw
  · refine r_iconst 17 hX dX1_wordIs_16 rfl 0 ic_0 ?_
    exact r_zret hX hR narrow_b0 dX1_wordIs_17 hw
set_option maxRecDepth 20000 in
set_option maxHeartbeats 4000000 in
theorem w_X1_wordIs_2_b20 {X : Cx} {Q : RV → St → Prop} (hX : CxB X RX1 cX1_wordIs 3 (5)) (hR : CxR X (some .boolean) Q) {K20 : Int32 → St → Prop} (hK20 : ∀ (x2 : Int32) (σ : St), K20 x2 σ → At X 3 20 [(0, .ref (X.kad 2)), (1, .ref (X.kad 102)), (2, .int (x2))] [] σ) (x2 : Int32) (σ : St) (hw : wp_X1_wordIs_2_b20 (aI Q) K20 x2 σ) : At X 3 20 [(0, .ref (X.kad 2)), (1, .ref (X.kad 102)), (2, .int (x2))] [] σ := by
  unfold wp_X1_wordIs_2_b20 at hw
  refine r_iload_n 21 hX dX1_wordIs_20 rfl rfl 2 rfl ?_
  refine r_aload_n 22 hX dX1_wordIs_21 rfl rfl 1 rfl ?_
  refine k_len_2 25 hX (by omega) (Nat.le_of_ble_eq_true rfl) dX1_wordIs_22 rfl ?_
  refine r_icmp_ge 54 28 hX dX1_wordIs_25 (by decide) rfl hw (fun hw => ?_) (fun hw => ?_)
  · refine r_iconst 55 hX dX1_wordIs_54 rfl 1 ic_1 ?_
    exact r_zret hX hR narrow_b1 dX1_wordIs_55 hw
  · refine r_aload_n 29 hX dX1_wordIs_28 rfl rfl 0 rfl ?_
    refine r_aload_n 30 hX dX1_wordIs_29 rfl rfl 0 rfl ?_
    refine g_X1_43_2 33 hX dX1_wordIs_30 rfl ?_
    refine r_iload_n 34 hX dX1_wordIs_33 rfl rfl 2 rfl ?_
    refine r_iadd 35 hX dX1_wordIs_34 rfl ?_
    refine k_X1_99_X1_byteAt 38 hX (by omega) ((σ.1 2 3) + x2) (Nat.le_of_ble_eq_true rfl) dX1_wordIs_35 rfl hw (fun r35 σ35 hw => ?_)
    refine r_aload_n 39 hX dX1_wordIs_38 rfl rfl 1 rfl ?_
    refine r_iload_n 40 hX dX1_wordIs_39 rfl rfl 2 rfl ?_
    refine k_at_2 43 hX (by omega) (Nat.le_of_ble_eq_true rfl) dX1_wordIs_40 rfl hw (fun hw => ?_)
    refine r_icmp_eq 48 46 hX dX1_wordIs_43 (by decide) rfl hw (fun hw => ?_) (fun hw => ?_)
    · refine r_iinc (lv' := [(2, .int (x2 + 1)), (0, .ref (X.kad 2)), (1, .ref (X.kad 102))]) 51 hX dX1_wordIs_48 rfl 2 rfl (x2 + 1) (ici_1 _) (by decide) rfl ?_
      refine r_goto 20 hX dX1_wordIs_51 (by decide) ?_
      refine r_sub [1, 2, 0] rfl ?_
      exact hK20 _ _ hw
    · refine r_iconst 47 hX dX1_wordIs_46 rfl 0 ic_0 ?_
      exact r_zret hX hR narrow_b0 dX1_wordIs_47 hw
set_option maxRecDepth 20000 in
set_option maxHeartbeats 4000000 in
theorem w_X1_wordIs_2_l20 {X : Cx} {Q : RV → St → Prop} (hX : CxB X RX1 cX1_wordIs 3 (5)) (hR : CxR X (some .boolean) Q) (n : Nat) : ∀ (x2 : Int32) (σ : St), wp_X1_wordIs_2_l20 (aI Q)  n x2 σ → At X 3 20 [(0, .ref (X.kad 2)), (1, .ref (X.kad 102)), (2, .int (x2))] [] σ := by
  induction n with
  | zero => intro x2 σ h; exact h.elim
  | succ n ih => intro x2 σ h; exact w_X1_wordIs_2_b20  hX hR ih x2 σ h
set_option maxRecDepth 20000 in
set_option maxHeartbeats 4000000 in
theorem c_X1_wordIs_2 : Con yX1_wordIs cX1_wordIs 3 (some .boolean) (5) (fun ad => [.ref (ad 2), .ref (ad 102)]) (fun Q σ => wp_X1_wordIs_2  (aI Q) σ) := by
  refine con_intro (by decide +kernel) (fun _ => Nat.le_of_ble_eq_true rfl) (by omega) (fun X Q σ hX hR hw => ?_)
  have hX : CxB X RX1 cX1_wordIs 3 (5) := hX
  unfold wp_X1_wordIs_2 at hw
  show At X 3 0 [(0, .ref (X.kad 2)), (1, .ref (X.kad 102))] [] σ
  refine r_aload_n 1 hX dX1_wordIs_0 rfl rfl 0 rfl ?_
  refine g_X1_25_2 4 hX dX1_wordIs_1 rfl ?_
  refine r_aload_n 5 hX dX1_wordIs_4 rfl rfl 0 rfl ?_
  refine g_X1_43_2 8 hX dX1_wordIs_5 rfl ?_
  refine r_isub 9 hX dX1_wordIs_8 rfl ?_
  refine r_aload_n 10 hX dX1_wordIs_9 rfl rfl 1 rfl ?_
  refine k_len_2 13 hX (by omega) (Nat.le_of_ble_eq_true rfl) dX1_wordIs_10 rfl ?_
  refine r_icmp_eq 18 16 hX dX1_wordIs_13 (by decide) rfl hw (fun hw => ?_) (fun hw => ?_)
  · refine r_iconst 19 hX dX1_wordIs_18 rfl 0 ic_0 ?_
    refine r_istore_n (lv' := [(2, .int (0)), (0, .ref (X.kad 2)), (1, .ref (X.kad 102))]) 20 hX dX1_wordIs_19 rfl rfl (by decide) rfl ?_
    refine r_sub [1, 2, 0] rfl ?_
    obtain ⟨n, hw⟩ := hw
    exact w_X1_wordIs_2_l20 hX hR n _ _ hw
  · refine r_iconst 17 hX dX1_wordIs_16 rfl 0 ic_0 ?_
    exact r_zret hX hR narrow_b0 dX1_wordIs_17 hw
set_option maxRecDepth 20000 in
set_option maxHeartbeats 4000000 in
theorem w_X1_wordIs_3_b20 {X : Cx} {Q : RV → St → Prop} (hX : CxB X RX1 cX1_wordIs 3 (5)) (hR : CxR X (some .boolean) Q) {K20 : Int32 → St → Prop} (hK20 : ∀ (x2 : Int32) (σ : St), K20 x2 σ → At X 3 20 [(0, .ref (X.kad 2)), (1, .ref (X.kad 103)), (2, .int (x2))] [] σ) (x2 : Int32) (σ : St) (hw : wp_X1_wordIs_3_b20 (aI Q) K20 x2 σ) : At X 3 20 [(0, .ref (X.kad 2)), (1, .ref (X.kad 103)), (2, .int (x2))] [] σ := by
  unfold wp_X1_wordIs_3_b20 at hw
  refine r_iload_n 21 hX dX1_wordIs_20 rfl rfl 2 rfl ?_
  refine r_aload_n 22 hX dX1_wordIs_21 rfl rfl 1 rfl ?_
  refine k_len_3 25 hX (by omega) (Nat.le_of_ble_eq_true rfl) dX1_wordIs_22 rfl ?_
  refine r_icmp_ge 54 28 hX dX1_wordIs_25 (by decide) rfl hw (fun hw => ?_) (fun hw => ?_)
  · refine r_iconst 55 hX dX1_wordIs_54 rfl 1 ic_1 ?_
    exact r_zret hX hR narrow_b1 dX1_wordIs_55 hw
  · refine r_aload_n 29 hX dX1_wordIs_28 rfl rfl 0 rfl ?_
    refine r_aload_n 30 hX dX1_wordIs_29 rfl rfl 0 rfl ?_
    refine g_X1_43_2 33 hX dX1_wordIs_30 rfl ?_
    refine r_iload_n 34 hX dX1_wordIs_33 rfl rfl 2 rfl ?_
    refine r_iadd 35 hX dX1_wordIs_34 rfl ?_
    refine k_X1_99_X1_byteAt 38 hX (by omega) ((σ.1 2 3) + x2) (Nat.le_of_ble_eq_true rfl) dX1_wordIs_35 rfl hw (fun r35 σ35 hw => ?_)
    refine r_aload_n 39 hX dX1_wordIs_38 rfl rfl 1 rfl ?_
    refine r_iload_n 40 hX dX1_wordIs_39 rfl rfl 2 rfl ?_
    refine k_at_3 43 hX (by omega) (Nat.le_of_ble_eq_true rfl) dX1_wordIs_40 rfl hw (fun hw => ?_)
    refine r_icmp_eq 48 46 hX dX1_wordIs_43 (by decide) rfl hw (fun hw => ?_) (fun hw => ?_)
    · refine r_iinc (lv' := [(2, .int (x2 + 1)), (0, .ref (X.kad 2)), (1, .ref (X.kad 103))]) 51 hX dX1_wordIs_48 rfl 2 rfl (x2 + 1) (ici_1 _) (by decide) rfl ?_
      refine r_goto 20 hX dX1_wordIs_51 (by decide) ?_
      refine r_sub [1, 2, 0] rfl ?_
      exact hK20 _ _ hw
    · refine r_iconst 47 hX dX1_wordIs_46 rfl 0 ic_0 ?_
      exact r_zret hX hR narrow_b0 dX1_wordIs_47 hw
set_option maxRecDepth 20000 in
set_option maxHeartbeats 4000000 in
theorem w_X1_wordIs_3_l20 {X : Cx} {Q : RV → St → Prop} (hX : CxB X RX1 cX1_wordIs 3 (5)) (hR : CxR X (some .boolean) Q) (n : Nat) : ∀ (x2 : Int32) (σ : St), wp_X1_wordIs_3_l20 (aI Q)  n x2 σ → At X 3 20 [(0, .ref (X.kad 2)), (1, .ref (X.kad 103)), (2, .int (x2))] [] σ := by
  induction n with
  | zero => intro x2 σ h; exact h.elim
  | succ n ih => intro x2 σ h; exact w_X1_wordIs_3_b20  hX hR ih x2 σ h
set_option maxRecDepth 20000 in
set_option maxHeartbeats 4000000 in
theorem c_X1_wordIs_3 : Con yX1_wordIs cX1_wordIs 3 (some .boolean) (5) (fun ad => [.ref (ad 2), .ref (ad 103)]) (fun Q σ => wp_X1_wordIs_3  (aI Q) σ) := by
  refine con_intro (by decide +kernel) (fun _ => Nat.le_of_ble_eq_true rfl) (by omega) (fun X Q σ hX hR hw => ?_)
  have hX : CxB X RX1 cX1_wordIs 3 (5) := hX
  unfold wp_X1_wordIs_3 at hw
  show At X 3 0 [(0, .ref (X.kad 2)), (1, .ref (X.kad 103))] [] σ
  refine r_aload_n 1 hX dX1_wordIs_0 rfl rfl 0 rfl ?_
  refine g_X1_25_2 4 hX dX1_wordIs_1 rfl ?_
  refine r_aload_n 5 hX dX1_wordIs_4 rfl rfl 0 rfl ?_
  refine g_X1_43_2 8 hX dX1_wordIs_5 rfl ?_
  refine r_isub 9 hX dX1_wordIs_8 rfl ?_
  refine r_aload_n 10 hX dX1_wordIs_9 rfl rfl 1 rfl ?_
  refine k_len_3 13 hX (by omega) (Nat.le_of_ble_eq_true rfl) dX1_wordIs_10 rfl ?_
  refine r_icmp_eq 18 16 hX dX1_wordIs_13 (by decide) rfl hw (fun hw => ?_) (fun hw => ?_)
  · refine r_iconst 19 hX dX1_wordIs_18 rfl 0 ic_0 ?_
    refine r_istore_n (lv' := [(2, .int (0)), (0, .ref (X.kad 2)), (1, .ref (X.kad 103))]) 20 hX dX1_wordIs_19 rfl rfl (by decide) rfl ?_
    refine r_sub [1, 2, 0] rfl ?_
    obtain ⟨n, hw⟩ := hw
    exact w_X1_wordIs_3_l20 hX hR n _ _ hw
  · refine r_iconst 17 hX dX1_wordIs_16 rfl 0 ic_0 ?_
    exact r_zret hX hR narrow_b0 dX1_wordIs_17 hw
theorem k_X1_118_X1_wordIs_0 {X : Cx} {cc : ByteArray} {nL d pc : Nat} {lv : List (Nat × Value)} {rest : List Value} {σ : St} {K : Int32 → St → Prop} (q : Nat) (hX : CxB X RX1 cc nL d) (hdc : 5 + 1 ≤ d) (hst : (rest.map fun v => v.category).sum ≤ 8) (hd : decode cc pc = .ok (.invokevirtual 118, 3)) (hq : pc + 3 = q) (hw : wp_X1_wordIs_0  K σ) (kk : ∀ (r : Int32) (τ : St), K r τ → At X nL q lv (.int r :: rest) τ) : At X nL pc lv (.ref (X.kad 100) :: .ref (X.kad 2) :: rest) σ := r_callV (n := 1) q hX (k0 := 2) (c_X1_wordIs_0 ) tw_248 tw_249 tw_250 tw_244 tw_251 ⟨by decide +kernel, by decide +kernel, by decide +kernel⟩ hdc (by decide) (As := [.ref (X.kad 100)]) rfl rfl (by decide) ⟨_, _, _, rfl, rfl, rfl⟩ hst hd hq rfl (K := qI K) hw (kI kk)
theorem k_X1_118_X1_wordIs_1 {X : Cx} {cc : ByteArray} {nL d pc : Nat} {lv : List (Nat × Value)} {rest : List Value} {σ : St} {K : Int32 → St → Prop} (q : Nat) (hX : CxB X RX1 cc nL d) (hdc : 5 + 1 ≤ d) (hst : (rest.map fun v => v.category).sum ≤ 8) (hd : decode cc pc = .ok (.invokevirtual 118, 3)) (hq : pc + 3 = q) (hw : wp_X1_wordIs_1  K σ) (kk : ∀ (r : Int32) (τ : St), K r τ → At X nL q lv (.int r :: rest) τ) : At X nL pc lv (.ref (X.kad 101) :: .ref (X.kad 2) :: rest) σ := r_callV (n := 1) q hX (k0 := 2) (c_X1_wordIs_1 ) tw_248 tw_249 tw_250 tw_244 tw_251 ⟨by decide +kernel, by decide +kernel, by decide +kernel⟩ hdc (by decide) (As := [.ref (X.kad 101)]) rfl rfl (by decide) ⟨_, _, _, rfl, rfl, rfl⟩ hst hd hq rfl (K := qI K) hw (kI kk)
theorem k_X1_118_X1_wordIs_2 {X : Cx} {cc : ByteArray} {nL d pc : Nat} {lv : List (Nat × Value)} {rest : List Value} {σ : St} {K : Int32 → St → Prop} (q : Nat) (hX : CxB X RX1 cc nL d) (hdc : 5 + 1 ≤ d) (hst : (rest.map fun v => v.category).sum ≤ 8) (hd : decode cc pc = .ok (.invokevirtual 118, 3)) (hq : pc + 3 = q) (hw : wp_X1_wordIs_2  K σ) (kk : ∀ (r : Int32) (τ : St), K r τ → At X nL q lv (.int r :: rest) τ) : At X nL pc lv (.ref (X.kad 102) :: .ref (X.kad 2) :: rest) σ := r_callV (n := 1) q hX (k0 := 2) (c_X1_wordIs_2 ) tw_248 tw_249 tw_250 tw_244 tw_251 ⟨by decide +kernel, by decide +kernel, by decide +kernel⟩ hdc (by decide) (As := [.ref (X.kad 102)]) rfl rfl (by decide) ⟨_, _, _, rfl, rfl, rfl⟩ hst hd hq rfl (K := qI K) hw (kI kk)
theorem k_X1_118_X1_wordIs_3 {X : Cx} {cc : ByteArray} {nL d pc : Nat} {lv : List (Nat × Value)} {rest : List Value} {σ : St} {K : Int32 → St → Prop} (q : Nat) (hX : CxB X RX1 cc nL d) (hdc : 5 + 1 ≤ d) (hst : (rest.map fun v => v.category).sum ≤ 8) (hd : decode cc pc = .ok (.invokevirtual 118, 3)) (hq : pc + 3 = q) (hw : wp_X1_wordIs_3  K σ) (kk : ∀ (r : Int32) (τ : St), K r τ → At X nL q lv (.int r :: rest) τ) : At X nL pc lv (.ref (X.kad 103) :: .ref (X.kad 2) :: rest) σ := r_callV (n := 1) q hX (k0 := 2) (c_X1_wordIs_3 ) tw_248 tw_249 tw_250 tw_244 tw_251 ⟨by decide +kernel, by decide +kernel, by decide +kernel⟩ hdc (by decide) (As := [.ref (X.kad 103)]) rfl rfl (by decide) ⟨_, _, _, rfl, rfl, rfl⟩ hst hd hq rfl (K := qI K) hw (kI kk)
theorem k_X1_103_X1_letterAt {X : Cx} {cc : ByteArray} {nL d pc : Nat} {lv : List (Nat × Value)} {rest : List Value} {σ : St} {K : Int32 → St → Prop} (q : Nat) (hX : CxB X RX1 cc nL d) (hdc : 2 + 1 ≤ d) (x1 : Int32) (hst : (rest.map fun v => v.category).sum ≤ 8) (hd : decode cc pc = .ok (.invokevirtual 103, 3)) (hq : pc + 3 = q) (hw : wp_X1_letterAt x1 K σ) (kk : ∀ (r : Int32) (τ : St), K r τ → At X nL q lv (.int r :: rest) τ) : At X nL pc lv (.int (x1) :: .ref (X.kad 2) :: rest) σ := r_callV (n := 1) q hX (k0 := 2) (c_X1_letterAt x1) tw_253 tw_254 tw_255 tw_244 tw_256 ⟨by decide +kernel, by decide +kernel, by decide +kernel⟩ hdc (by decide) (As := [.int (x1)]) rfl rfl (by decide) ⟨_, _, _, rfl, rfl, rfl⟩ hst hd hq rfl (K := qI K) hw (kI kk)
set_option maxRecDepth 20000 in
set_option maxHeartbeats 4000000 in
theorem w_X1_advanceWord_b35 {X : Cx} {Q : RV → St → Prop} (hX : CxB X RX1 cX1_advanceWord 1 (6)) (hR : CxR X (none) Q) (σ : St) (hw : wp_X1_advanceWord_b35 (aV Q)   σ) : At X 1 35 [(0, .ref (X.kad 2))] [] σ := by
  unfold wp_X1_advanceWord_b35 at hw
  refine r_aload_n 36 hX dX1_advanceWord_35 rfl rfl 0 rfl ?_
  refine k_str_0 38 hX dX1_advanceWord_36 rfl ?_
  refine k_X1_118_X1_wordIs_0 41 hX (by omega)  (Nat.le_of_ble_eq_true rfl) dX1_advanceWord_38 rfl hw (fun r38 σ38 hw => ?_)
  refine r_if_eq 52 44 hX dX1_advanceWord_41 (by decide) rfl hw (fun hw => ?_) (fun hw => ?_)
  · refine r_aload_n 53 hX dX1_advanceWord_52 rfl rfl 0 rfl ?_
    refine k_str_1 55 hX dX1_advanceWord_53 rfl ?_
    refine k_X1_118_X1_wordIs_1 58 hX (by omega)  (Nat.le_of_ble_eq_true rfl) dX1_advanceWord_55 rfl hw (fun r55 σ55 hw => ?_)
    refine r_if_eq 69 61 hX dX1_advanceWord_58 (by decide) rfl hw (fun hw => ?_) (fun hw => ?_)
    · refine r_aload_n 70 hX dX1_advanceWord_69 rfl rfl 0 rfl ?_
      refine k_str_2 72 hX dX1_advanceWord_70 rfl ?_
      refine k_X1_118_X1_wordIs_2 75 hX (by omega)  (Nat.le_of_ble_eq_true rfl) dX1_advanceWord_72 rfl hw (fun r72 σ72 hw => ?_)
      refine r_if_eq 86 78 hX dX1_advanceWord_75 (by decide) rfl hw (fun hw => ?_) (fun hw => ?_)
      · refine r_aload_n 87 hX dX1_advanceWord_86 rfl rfl 0 rfl ?_
        refine r_aload_n 88 hX dX1_advanceWord_87 rfl rfl 0 rfl ?_
        refine k_str_3 90 hX dX1_advanceWord_88 rfl ?_
        refine k_X1_118_X1_wordIs_3 93 hX (by omega)  (Nat.le_of_ble_eq_true rfl) dX1_advanceWord_90 rfl hw (fun r90 σ90 hw => ?_)
        refine r_if_eq 100 96 hX dX1_advanceWord_93 (by decide) rfl hw (fun hw => ?_) (fun hw => ?_)
        · refine r_iconst 101 hX dX1_advanceWord_100 rfl 0 ic_0 ?_
          refine p_X1_36_2 104 hX dX1_advanceWord_101 rfl ?_
          exact r_vret hX hR dX1_advanceWord_104 hw
        · refine r_iconst 97 hX dX1_advanceWord_96 rfl 4 ic_4 ?_
          refine r_goto 101 hX dX1_advanceWord_97 (by decide) ?_
          refine p_X1_36_2 104 hX dX1_advanceWord_101 rfl ?_
          exact r_vret hX hR dX1_advanceWord_104 hw
      · refine r_aload_n 79 hX dX1_advanceWord_78 rfl rfl 0 rfl ?_
        refine r_iconst 80 hX dX1_advanceWord_79 rfl 3 ic_3 ?_
        refine p_X1_36_2 83 hX dX1_advanceWord_80 rfl ?_
        refine r_goto 104 hX dX1_advanceWord_83 (by decide) ?_
        exact r_vret hX hR dX1_advanceWord_104 hw
    · refine r_aload_n 62 hX dX1_advanceWord_61 rfl rfl 0 rfl ?_
      refine r_iconst 63 hX dX1_advanceWord_62 rfl 2 ic_2 ?_
      refine p_X1_36_2 66 hX dX1_advanceWord_63 rfl ?_
      refine r_goto 104 hX dX1_advanceWord_66 (by decide) ?_
      exact r_vret hX hR dX1_advanceWord_104 hw
  · refine r_aload_n 45 hX dX1_advanceWord_44 rfl rfl 0 rfl ?_
    refine r_iconst 46 hX dX1_advanceWord_45 rfl 1 ic_1 ?_
    refine p_X1_36_2 49 hX dX1_advanceWord_46 rfl ?_
    refine r_goto 104 hX dX1_advanceWord_49 (by decide) ?_
    exact r_vret hX hR dX1_advanceWord_104 hw
set_option maxRecDepth 20000 in
set_option maxHeartbeats 4000000 in
theorem w_X1_advanceWord_b0 {X : Cx} {Q : RV → St → Prop} (hX : CxB X RX1 cX1_advanceWord 1 (6)) (hR : CxR X (none) Q) {K0 : St → Prop} (hK0 : ∀ (σ : St), K0  σ → At X 1 0 [(0, .ref (X.kad 2))] [] σ) (σ : St) (hw : wp_X1_advanceWord_b0 (aV Q) K0  σ) : At X 1 0 [(0, .ref (X.kad 2))] [] σ := by
  unfold wp_X1_advanceWord_b0 at hw
  refine r_aload_n 1 hX dX1_advanceWord_0 rfl rfl 0 rfl ?_
  refine g_X1_25_2 4 hX dX1_advanceWord_1 rfl ?_
  refine r_aload_n 5 hX dX1_advanceWord_4 rfl rfl 0 rfl ?_
  refine g_X1_21_2 8 hX dX1_advanceWord_5 rfl ?_
  refine r_icmp_ge 35 11 hX dX1_advanceWord_8 (by decide) rfl hw (fun hw => ?_) (fun hw => ?_)
  · exact w_X1_advanceWord_b35 hX hR _ hw
  · refine r_aload_n 12 hX dX1_advanceWord_11 rfl rfl 0 rfl ?_
    refine r_aload_n 13 hX dX1_advanceWord_12 rfl rfl 0 rfl ?_
    refine g_X1_25_2 16 hX dX1_advanceWord_13 rfl ?_
    refine k_X1_103_X1_letterAt 19 hX (by omega) (σ.1 2 2) (Nat.le_of_ble_eq_true rfl) dX1_advanceWord_16 rfl hw (fun r16 σ16 hw => ?_)
    refine r_if_eq 35 22 hX dX1_advanceWord_19 (by decide) rfl hw (fun hw => ?_) (fun hw => ?_)
    · exact w_X1_advanceWord_b35 hX hR _ hw
    · refine r_aload_n 23 hX dX1_advanceWord_22 rfl rfl 0 rfl ?_
      refine r_dup 24 hX dX1_advanceWord_23 rfl rfl ?_
      refine g_X1_25_2 27 hX dX1_advanceWord_24 rfl ?_
      refine r_iconst 28 hX dX1_advanceWord_27 rfl 1 ic_1 ?_
      refine r_iadd 29 hX dX1_advanceWord_28 rfl ?_
      refine p_X1_25_2 32 hX dX1_advanceWord_29 rfl ?_
      refine r_goto 0 hX dX1_advanceWord_32 (by decide) ?_
      exact hK0 _ hw
set_option maxRecDepth 20000 in
set_option maxHeartbeats 4000000 in
theorem w_X1_advanceWord_l0 {X : Cx} {Q : RV → St → Prop} (hX : CxB X RX1 cX1_advanceWord 1 (6)) (hR : CxR X (none) Q) (n : Nat) : ∀ (σ : St), wp_X1_advanceWord_l0 (aV Q)  n σ → At X 1 0 [(0, .ref (X.kad 2))] [] σ := by
  induction n with
  | zero => intro σ h; exact h.elim
  | succ n ih => intro σ h; exact w_X1_advanceWord_b0  hX hR ih σ h
set_option maxRecDepth 20000 in
set_option maxHeartbeats 4000000 in
theorem c_X1_advanceWord : Con yX1_advanceWord cX1_advanceWord 1 (none) (6) (fun ad => [.ref (ad 2)]) (fun Q σ => wp_X1_advanceWord  (aV Q) σ) := by
  refine con_intro (by decide +kernel) (fun _ => Nat.le_of_ble_eq_true rfl) (by omega) (fun X Q σ hX hR hw => ?_)
  have hX : CxB X RX1 cX1_advanceWord 1 (6) := hX
  unfold wp_X1_advanceWord at hw
  show At X 1 0 [(0, .ref (X.kad 2))] [] σ
  obtain ⟨n, hw⟩ := hw
  exact w_X1_advanceWord_l0 hX hR n _ hw
theorem k_X1_110_X1_digitAt {X : Cx} {cc : ByteArray} {nL d pc : Nat} {lv : List (Nat × Value)} {rest : List Value} {σ : St} {K : Int32 → St → Prop} (q : Nat) (hX : CxB X RX1 cc nL d) (hdc : 2 + 1 ≤ d) (x1 : Int32) (hst : (rest.map fun v => v.category).sum ≤ 8) (hd : decode cc pc = .ok (.invokevirtual 110, 3)) (hq : pc + 3 = q) (hw : wp_X1_digitAt x1 K σ) (kk : ∀ (r : Int32) (τ : St), K r τ → At X nL q lv (.int r :: rest) τ) : At X nL pc lv (.int (x1) :: .ref (X.kad 2) :: rest) σ := r_callV (n := 1) q hX (k0 := 2) (c_X1_digitAt x1) tw_258 tw_259 tw_260 tw_244 tw_261 ⟨by decide +kernel, by decide +kernel, by decide +kernel⟩ hdc (by decide) (As := [.int (x1)]) rfl rfl (by decide) ⟨_, _, _, rfl, rfl, rfl⟩ hst hd hq rfl (K := qI K) hw (kI kk)
set_option maxRecDepth 20000 in
set_option maxHeartbeats 4000000 in
theorem w_X1_advanceNumber_b114 {X : Cx} {Q : RV → St → Prop} (hX : CxB X RX1 cX1_advanceNumber 2 (3)) (hR : CxR X (none) Q) (σ : St) (hw : wp_X1_advanceNumber_b114 (aV Q)   σ) : At X 2 114 [] [.ref (X.kad 2)] σ := by
  unfold wp_X1_advanceNumber_b114 at hw
  refine r_iconst 115 hX dX1_advanceNumber_114 rfl 0 ic_0 ?_
  refine r_goto 119 hX dX1_advanceNumber_115 (by decide) ?_
  refine p_X1_36_2 122 hX dX1_advanceNumber_119 rfl ?_
  exact r_vret hX hR dX1_advanceNumber_122 hw
set_option maxRecDepth 20000 in
set_option maxHeartbeats 4000000 in
theorem w_X1_advanceNumber_b99 {X : Cx} {Q : RV → St → Prop} (hX : CxB X RX1 cX1_advanceNumber 2 (3)) (hR : CxR X (none) Q) (s0 : Int32) (σ : St) (hw : wp_X1_advanceNumber_b99 (aV Q)  s0 σ) : At X 2 99 [(0, .ref (X.kad 2))] [.int (s0)] σ := by
  unfold wp_X1_advanceNumber_b99 at hw
  refine r_istore_n (lv' := [(1, .int (s0)), (0, .ref (X.kad 2))]) 100 hX dX1_advanceNumber_99 rfl rfl (by decide) rfl ?_
  refine r_aload_n 101 hX dX1_advanceNumber_100 rfl rfl 1 rfl ?_
  refine r_iload_n 102 hX dX1_advanceNumber_101 rfl rfl 0 rfl ?_
  refine r_if_ne 114 105 hX dX1_advanceNumber_102 (by decide) rfl hw (fun hw => ?_) (fun hw => ?_)
  · refine r_sub [] rfl ?_
    exact w_X1_advanceNumber_b114 hX hR _ hw
  · refine r_aload_n 106 hX dX1_advanceNumber_105 rfl rfl 1 rfl ?_
    refine g_X1_70_2 109 hX dX1_advanceNumber_106 rfl ?_
    refine r_bipush 111 hX dX1_advanceNumber_109 rfl 99 bi_99 ?_
    refine r_icmp_le 118 114 hX dX1_advanceNumber_111 (by decide) rfl hw (fun hw => ?_) (fun hw => ?_)
    · refine r_iconst 119 hX dX1_advanceNumber_118 rfl 5 ic_5 ?_
      refine p_X1_36_2 122 hX dX1_advanceNumber_119 rfl ?_
      exact r_vret hX hR dX1_advanceNumber_122 hw
    · refine r_sub [] rfl ?_
      exact w_X1_advanceNumber_b114 hX hR _ hw
set_option maxRecDepth 20000 in
set_option maxHeartbeats 4000000 in
theorem w_X1_advanceNumber_b98 {X : Cx} {Q : RV → St → Prop} (hX : CxB X RX1 cX1_advanceNumber 2 (3)) (hR : CxR X (none) Q) (σ : St) (hw : wp_X1_advanceNumber_b98 (aV Q)   σ) : At X 2 98 [(0, .ref (X.kad 2))] [] σ := by
  unfold wp_X1_advanceNumber_b98 at hw
  refine r_iconst 99 hX dX1_advanceNumber_98 rfl 0 ic_0 ?_
  exact w_X1_advanceNumber_b99 hX hR _ _ hw
set_option maxRecDepth 20000 in
set_option maxHeartbeats 4000000 in
theorem w_X1_advanceNumber_b68 {X : Cx} {Q : RV → St → Prop} (hX : CxB X RX1 cX1_advanceNumber 2 (3)) (hR : CxR X (none) Q) (σ : St) (hw : wp_X1_advanceNumber_b68 (aV Q)   σ) : At X 2 68 [(0, .ref (X.kad 2))] [] σ := by
  unfold wp_X1_advanceNumber_b68 at hw
  refine r_aload_n 69 hX dX1_advanceNumber_68 rfl rfl 0 rfl ?_
  refine g_X1_25_2 72 hX dX1_advanceNumber_69 rfl ?_
  refine r_aload_n 73 hX dX1_advanceNumber_72 rfl rfl 0 rfl ?_
  refine g_X1_43_2 76 hX dX1_advanceNumber_73 rfl ?_
  refine r_isub 77 hX dX1_advanceNumber_76 rfl ?_
  refine r_iconst 78 hX dX1_advanceNumber_77 rfl 1 ic_1 ?_
  refine r_icmp_le 98 81 hX dX1_advanceNumber_78 (by decide) rfl hw (fun hw => ?_) (fun hw => ?_)
  · exact w_X1_advanceNumber_b98 hX hR _ hw
  · refine r_aload_n 82 hX dX1_advanceNumber_81 rfl rfl 0 rfl ?_
    refine r_aload_n 83 hX dX1_advanceNumber_82 rfl rfl 0 rfl ?_
    refine g_X1_43_2 86 hX dX1_advanceNumber_83 rfl ?_
    refine k_X1_99_X1_byteAt 89 hX (by omega) (σ.1 2 3) (Nat.le_of_ble_eq_true rfl) dX1_advanceNumber_86 rfl hw (fun r86 σ86 hw => ?_)
    refine r_bipush 91 hX dX1_advanceNumber_89 rfl 48 bi_48 ?_
    refine r_icmp_ne 98 94 hX dX1_advanceNumber_91 (by decide) rfl hw (fun hw => ?_) (fun hw => ?_)
    · exact w_X1_advanceNumber_b98 hX hR _ hw
    · refine r_iconst 95 hX dX1_advanceNumber_94 rfl 1 ic_1 ?_
      refine r_goto 99 hX dX1_advanceNumber_95 (by decide) ?_
      exact w_X1_advanceNumber_b99 hX hR _ _ hw
set_option maxRecDepth 20000 in
set_option maxHeartbeats 4000000 in
theorem w_X1_advanceNumber_b5 {X : Cx} {Q : RV → St → Prop} (hX : CxB X RX1 cX1_advanceNumber 2 (3)) (hR : CxR X (none) Q) {K5 : St → Prop} (hK5 : ∀ (σ : St), K5  σ → At X 2 5 [(0, .ref (X.kad 2))] [] σ) (σ : St) (hw : wp_X1_advanceNumber_b5 (aV Q) K5  σ) : At X 2 5 [(0, .ref (X.kad 2))] [] σ := by
  unfold wp_X1_advanceNumber_b5 at hw
  refine r_aload_n 6 hX dX1_advanceNumber_5 rfl rfl 0 rfl ?_
  refine g_X1_25_2 9 hX dX1_advanceNumber_6 rfl ?_
  refine r_aload_n 10 hX dX1_advanceNumber_9 rfl rfl 0 rfl ?_
  refine g_X1_21_2 13 hX dX1_advanceNumber_10 rfl ?_
  refine r_icmp_ge 68 16 hX dX1_advanceNumber_13 (by decide) rfl hw (fun hw => ?_) (fun hw => ?_)
  · exact w_X1_advanceNumber_b68 hX hR _ hw
  · refine r_aload_n 17 hX dX1_advanceNumber_16 rfl rfl 0 rfl ?_
    refine r_aload_n 18 hX dX1_advanceNumber_17 rfl rfl 0 rfl ?_
    refine g_X1_25_2 21 hX dX1_advanceNumber_18 rfl ?_
    refine k_X1_110_X1_digitAt 24 hX (by omega) (σ.1 2 2) (Nat.le_of_ble_eq_true rfl) dX1_advanceNumber_21 rfl hw (fun r21 σ21 hw => ?_)
    refine r_if_eq 68 27 hX dX1_advanceNumber_24 (by decide) rfl hw (fun hw => ?_) (fun hw => ?_)
    · exact w_X1_advanceNumber_b68 hX hR _ hw
    · refine r_aload_n 28 hX dX1_advanceNumber_27 rfl rfl 0 rfl ?_
      refine r_aload_n 29 hX dX1_advanceNumber_28 rfl rfl 0 rfl ?_
      refine g_X1_70_2 32 hX dX1_advanceNumber_29 rfl ?_
      refine r_bipush 34 hX dX1_advanceNumber_32 rfl 10 bi_10 ?_
      refine r_imul 35 hX dX1_advanceNumber_34 rfl ?_
      refine r_aload_n 36 hX dX1_advanceNumber_35 rfl rfl 0 rfl ?_
      refine r_aload_n 37 hX dX1_advanceNumber_36 rfl rfl 0 rfl ?_
      refine g_X1_25_2 40 hX dX1_advanceNumber_37 rfl ?_
      refine k_X1_99_X1_byteAt 43 hX (by omega) (σ21.1 2 2) (Nat.le_of_ble_eq_true rfl) dX1_advanceNumber_40 rfl hw (fun r40 σ40 hw => ?_)
      refine r_iadd 44 hX dX1_advanceNumber_43 rfl ?_
      refine r_bipush 46 hX dX1_advanceNumber_44 rfl 48 bi_48 ?_
      refine r_isub 47 hX dX1_advanceNumber_46 rfl ?_
      refine r_bipush 49 hX dX1_advanceNumber_47 rfl 100 bi_100 ?_
      refine r_mmin 52 hX tw_262 tw_105 tw_77 tw_106 (Nat.le_of_ble_eq_true rfl) dX1_advanceNumber_49 rfl ?_
      refine r_topi hw (fun v49 hw => ?_)
      refine p_X1_70_2 55 hX dX1_advanceNumber_52 rfl ?_
      refine r_aload_n 56 hX dX1_advanceNumber_55 rfl rfl 0 rfl ?_
      refine r_dup 57 hX dX1_advanceNumber_56 rfl rfl ?_
      refine g_X1_25_2 60 hX dX1_advanceNumber_57 rfl ?_
      refine r_iconst 61 hX dX1_advanceNumber_60 rfl 1 ic_1 ?_
      refine r_iadd 62 hX dX1_advanceNumber_61 rfl ?_
      refine p_X1_25_2 65 hX dX1_advanceNumber_62 rfl ?_
      refine r_goto 5 hX dX1_advanceNumber_65 (by decide) ?_
      exact hK5 _ hw
set_option maxRecDepth 20000 in
set_option maxHeartbeats 4000000 in
theorem w_X1_advanceNumber_l5 {X : Cx} {Q : RV → St → Prop} (hX : CxB X RX1 cX1_advanceNumber 2 (3)) (hR : CxR X (none) Q) (n : Nat) : ∀ (σ : St), wp_X1_advanceNumber_l5 (aV Q)  n σ → At X 2 5 [(0, .ref (X.kad 2))] [] σ := by
  induction n with
  | zero => intro σ h; exact h.elim
  | succ n ih => intro σ h; exact w_X1_advanceNumber_b5  hX hR ih σ h
set_option maxRecDepth 20000 in
set_option maxHeartbeats 4000000 in
theorem c_X1_advanceNumber : Con yX1_advanceNumber cX1_advanceNumber 2 (none) (3) (fun ad => [.ref (ad 2)]) (fun Q σ => wp_X1_advanceNumber  (aV Q) σ) := by
  refine con_intro (by decide +kernel) (fun _ => Nat.le_of_ble_eq_true rfl) (by omega) (fun X Q σ hX hR hw => ?_)
  have hX : CxB X RX1 cX1_advanceNumber 2 (3) := hX
  unfold wp_X1_advanceNumber at hw
  show At X 2 0 [(0, .ref (X.kad 2))] [] σ
  refine r_aload_n 1 hX dX1_advanceNumber_0 rfl rfl 0 rfl ?_
  refine r_iconst 2 hX dX1_advanceNumber_1 rfl 0 ic_0 ?_
  refine p_X1_70_2 5 hX dX1_advanceNumber_2 rfl ?_
  obtain ⟨n, hw⟩ := hw
  exact w_X1_advanceNumber_l5 hX hR n _ hw
theorem k_X1_113_X1_advanceNumber {X : Cx} {cc : ByteArray} {nL d pc : Nat} {lv : List (Nat × Value)} {rest : List Value} {σ : St} {K : St → Prop} (q : Nat) (hX : CxB X RX1 cc nL d) (hdc : 3 + 1 ≤ d) (hst : (rest.map fun v => v.category).sum ≤ 8) (hd : decode cc pc = .ok (.invokevirtual 113, 3)) (hq : pc + 3 = q) (hw : wp_X1_advanceNumber  K σ) (kk : ∀ (τ : St), K τ → At X nL q lv (rest) τ) : At X nL pc lv (.ref (X.kad 2) :: rest) σ := r_callV (n := 0) q hX (k0 := 2) (c_X1_advanceNumber ) tw_263 tw_264 tw_265 tw_244 tw_266 ⟨by decide +kernel, by decide +kernel, by decide +kernel⟩ hdc (by decide) (As := []) rfl rfl (by decide) ⟨_, _, _, rfl, rfl, rfl⟩ hst hd hq rfl (K := qV K) hw (kV kk)
theorem k_X1_107_X1_advanceWord {X : Cx} {cc : ByteArray} {nL d pc : Nat} {lv : List (Nat × Value)} {rest : List Value} {σ : St} {K : St → Prop} (q : Nat) (hX : CxB X RX1 cc nL d) (hdc : 6 + 1 ≤ d) (hst : (rest.map fun v => v.category).sum ≤ 8) (hd : decode cc pc = .ok (.invokevirtual 107, 3)) (hq : pc + 3 = q) (hw : wp_X1_advanceWord  K σ) (kk : ∀ (τ : St), K τ → At X nL q lv (rest) τ) : At X nL pc lv (.ref (X.kad 2) :: rest) σ := r_callV (n := 0) q hX (k0 := 2) (c_X1_advanceWord ) tw_267 tw_268 tw_269 tw_244 tw_270 ⟨by decide +kernel, by decide +kernel, by decide +kernel⟩ hdc (by decide) (As := []) rfl rfl (by decide) ⟨_, _, _, rfl, rfl, rfl⟩ hst hd hq rfl (K := qV K) hw (kV kk)
set_option maxRecDepth 20000 in
set_option maxHeartbeats 4000000 in
theorem w_X1_advance_b121 {X : Cx} {Q : RV → St → Prop} (hX : CxB X RX1 cX1_advance 1 (7)) (hR : CxR X (none) Q) (s0 : Int32) (σ : St) (hw : wp_X1_advance_b121 (aV Q)  s0 σ) : At X 1 121 [(0, .ref (X.kad 2))] [.int (s0), .ref (X.kad 2)] σ := by
  unfold wp_X1_advance_b121 at hw
  refine p_X1_36_2 124 hX dX1_advance_121 rfl ?_
  refine r_aload_n 125 hX dX1_advance_124 rfl rfl 0 rfl ?_
  refine r_dup 126 hX dX1_advance_125 rfl rfl ?_
  refine g_X1_25_2 129 hX dX1_advance_126 rfl ?_
  refine r_iconst 130 hX dX1_advance_129 rfl 1 ic_1 ?_
  refine r_iadd 131 hX dX1_advance_130 rfl ?_
  refine p_X1_25_2 134 hX dX1_advance_131 rfl ?_
  exact r_vret hX hR dX1_advance_134 hw
set_option maxRecDepth 20000 in
set_option maxHeartbeats 4000000 in
theorem w_X1_advance_b37 {X : Cx} {Q : RV → St → Prop} (hX : CxB X RX1 cX1_advance 1 (7)) (hR : CxR X (none) Q) (σ : St) (hw : wp_X1_advance_b37 (aV Q)   σ) : At X 1 37 [(0, .ref (X.kad 2))] [] σ := by
  unfold wp_X1_advance_b37 at hw
  refine r_aload_n 38 hX dX1_advance_37 rfl rfl 0 rfl ?_
  refine r_aload_n 39 hX dX1_advance_38 rfl rfl 0 rfl ?_
  refine g_X1_25_2 42 hX dX1_advance_39 rfl ?_
  refine p_X1_43_2 45 hX dX1_advance_42 rfl ?_
  refine r_aload_n 46 hX dX1_advance_45 rfl rfl 0 rfl ?_
  refine g_X1_25_2 49 hX dX1_advance_46 rfl ?_
  refine r_aload_n 50 hX dX1_advance_49 rfl rfl 0 rfl ?_
  refine g_X1_21_2 53 hX dX1_advance_50 rfl ?_
  refine r_icmp_lt 65 56 hX dX1_advance_53 (by decide) rfl hw (fun hw => ?_) (fun hw => ?_)
  · refine r_aload_n 66 hX dX1_advance_65 rfl rfl 0 rfl ?_
    refine r_aload_n 67 hX dX1_advance_66 rfl rfl 0 rfl ?_
    refine g_X1_25_2 70 hX dX1_advance_67 rfl ?_
    refine k_X1_103_X1_letterAt 73 hX (by omega) ((sI σ 2 3 (σ.1 2 2)).1 2 2) (Nat.le_of_ble_eq_true rfl) dX1_advance_70 rfl hw (fun r70 σ70 hw => ?_)
    refine r_if_eq 83 76 hX dX1_advance_73 (by decide) rfl hw (fun hw => ?_) (fun hw => ?_)
    · refine r_aload_n 84 hX dX1_advance_83 rfl rfl 0 rfl ?_
      refine r_aload_n 85 hX dX1_advance_84 rfl rfl 0 rfl ?_
      refine g_X1_25_2 88 hX dX1_advance_85 rfl ?_
      refine k_X1_110_X1_digitAt 91 hX (by omega) (σ70.1 2 2) (Nat.le_of_ble_eq_true rfl) dX1_advance_88 rfl hw (fun r88 σ88 hw => ?_)
      refine r_if_eq 101 94 hX dX1_advance_91 (by decide) rfl hw (fun hw => ?_) (fun hw => ?_)
      · refine r_aload_n 102 hX dX1_advance_101 rfl rfl 0 rfl ?_
        refine r_aload_n 103 hX dX1_advance_102 rfl rfl 0 rfl ?_
        refine r_aload_n 104 hX dX1_advance_103 rfl rfl 0 rfl ?_
        refine g_X1_25_2 107 hX dX1_advance_104 rfl ?_
        refine k_X1_99_X1_byteAt 110 hX (by omega) (σ88.1 2 2) (Nat.le_of_ble_eq_true rfl) dX1_advance_107 rfl hw (fun r107 σ107 hw => ?_)
        refine r_bipush 112 hX dX1_advance_110 rfl 59 bi_59 ?_
        refine r_icmp_ne 120 115 hX dX1_advance_112 (by decide) rfl hw (fun hw => ?_) (fun hw => ?_)
        · refine r_iconst 121 hX dX1_advance_120 rfl 0 ic_0 ?_
          exact w_X1_advance_b121 hX hR _ _ hw
        · refine r_bipush 117 hX dX1_advance_115 rfl 6 bi_6 ?_
          refine r_goto 121 hX dX1_advance_117 (by decide) ?_
          exact w_X1_advance_b121 hX hR _ _ hw
      · refine r_aload_n 95 hX dX1_advance_94 rfl rfl 0 rfl ?_
        refine k_X1_113_X1_advanceNumber 98 hX (by omega)  (Nat.le_of_ble_eq_true rfl) dX1_advance_95 rfl hw (fun σ95 hw => ?_)
        refine r_goto 134 hX dX1_advance_98 (by decide) ?_
        exact r_vret hX hR dX1_advance_134 hw
    · refine r_aload_n 77 hX dX1_advance_76 rfl rfl 0 rfl ?_
      refine k_X1_107_X1_advanceWord 80 hX (by omega)  (Nat.le_of_ble_eq_true rfl) dX1_advance_77 rfl hw (fun σ77 hw => ?_)
      refine r_goto 134 hX dX1_advance_80 (by decide) ?_
      exact r_vret hX hR dX1_advance_134 hw
  · refine r_aload_n 57 hX dX1_advance_56 rfl rfl 0 rfl ?_
    refine r_bipush 59 hX dX1_advance_57 rfl 7 bi_7 ?_
    refine p_X1_36_2 62 hX dX1_advance_59 rfl ?_
    refine r_goto 134 hX dX1_advance_62 (by decide) ?_
    exact r_vret hX hR dX1_advance_134 hw
set_option maxRecDepth 20000 in
set_option maxHeartbeats 4000000 in
theorem w_X1_advance_b0 {X : Cx} {Q : RV → St → Prop} (hX : CxB X RX1 cX1_advance 1 (7)) (hR : CxR X (none) Q) {K0 : St → Prop} (hK0 : ∀ (σ : St), K0  σ → At X 1 0 [(0, .ref (X.kad 2))] [] σ) (σ : St) (hw : wp_X1_advance_b0 (aV Q) K0  σ) : At X 1 0 [(0, .ref (X.kad 2))] [] σ := by
  unfold wp_X1_advance_b0 at hw
  refine r_aload_n 1 hX dX1_advance_0 rfl rfl 0 rfl ?_
  refine g_X1_25_2 4 hX dX1_advance_1 rfl ?_
  refine r_aload_n 5 hX dX1_advance_4 rfl rfl 0 rfl ?_
  refine g_X1_21_2 8 hX dX1_advance_5 rfl ?_
  refine r_icmp_ge 37 11 hX dX1_advance_8 (by decide) rfl hw (fun hw => ?_) (fun hw => ?_)
  · exact w_X1_advance_b37 hX hR _ hw
  · refine r_aload_n 12 hX dX1_advance_11 rfl rfl 0 rfl ?_
    refine r_aload_n 13 hX dX1_advance_12 rfl rfl 0 rfl ?_
    refine g_X1_25_2 16 hX dX1_advance_13 rfl ?_
    refine k_X1_99_X1_byteAt 19 hX (by omega) (σ.1 2 2) (Nat.le_of_ble_eq_true rfl) dX1_advance_16 rfl hw (fun r16 σ16 hw => ?_)
    refine r_bipush 21 hX dX1_advance_19 rfl 32 bi_32 ?_
    refine r_icmp_ne 37 24 hX dX1_advance_21 (by decide) rfl hw (fun hw => ?_) (fun hw => ?_)
    · exact w_X1_advance_b37 hX hR _ hw
    · refine r_aload_n 25 hX dX1_advance_24 rfl rfl 0 rfl ?_
      refine r_dup 26 hX dX1_advance_25 rfl rfl ?_
      refine g_X1_25_2 29 hX dX1_advance_26 rfl ?_
      refine r_iconst 30 hX dX1_advance_29 rfl 1 ic_1 ?_
      refine r_iadd 31 hX dX1_advance_30 rfl ?_
      refine p_X1_25_2 34 hX dX1_advance_31 rfl ?_
      refine r_goto 0 hX dX1_advance_34 (by decide) ?_
      exact hK0 _ hw
set_option maxRecDepth 20000 in
set_option maxHeartbeats 4000000 in
theorem w_X1_advance_l0 {X : Cx} {Q : RV → St → Prop} (hX : CxB X RX1 cX1_advance 1 (7)) (hR : CxR X (none) Q) (n : Nat) : ∀ (σ : St), wp_X1_advance_l0 (aV Q)  n σ → At X 1 0 [(0, .ref (X.kad 2))] [] σ := by
  induction n with
  | zero => intro σ h; exact h.elim
  | succ n ih => intro σ h; exact w_X1_advance_b0  hX hR ih σ h
set_option maxRecDepth 20000 in
set_option maxHeartbeats 4000000 in
theorem c_X1_advance : Con yX1_advance cX1_advance 1 (none) (7) (fun ad => [.ref (ad 2)]) (fun Q σ => wp_X1_advance  (aV Q) σ) := by
  refine con_intro (by decide +kernel) (fun _ => Nat.le_of_ble_eq_true rfl) (by omega) (fun X Q σ hX hR hw => ?_)
  have hX : CxB X RX1 cX1_advance 1 (7) := hX
  unfold wp_X1_advance at hw
  show At X 1 0 [(0, .ref (X.kad 2))] [] σ
  obtain ⟨n, hw⟩ := hw
  exact w_X1_advance_l0 hX hR n _ hw
theorem k_X1_33_X1_advance {X : Cx} {cc : ByteArray} {nL d pc : Nat} {lv : List (Nat × Value)} {rest : List Value} {σ : St} {K : St → Prop} (q : Nat) (hX : CxB X RX1 cc nL d) (hdc : 7 + 1 ≤ d) (hst : (rest.map fun v => v.category).sum ≤ 8) (hd : decode cc pc = .ok (.invokevirtual 33, 3)) (hq : pc + 3 = q) (hw : wp_X1_advance  K σ) (kk : ∀ (τ : St), K τ → At X nL q lv (rest) τ) : At X nL pc lv (.ref (X.kad 2) :: rest) σ := r_callV (n := 0) q hX (k0 := 2) (c_X1_advance ) tw_271 tw_272 tw_273 tw_244 tw_274 ⟨by decide +kernel, by decide +kernel, by decide +kernel⟩ hdc (by decide) (As := []) rfl rfl (by decide) ⟨_, _, _, rfl, rfl, rfl⟩ hst hd hq rfl (K := qV K) hw (kV kk)
set_option maxRecDepth 20000 in
set_option maxHeartbeats 4000000 in
theorem c_X1_readNumber (x1 : Int32) (x2 : Int32) : Con yX1_readNumber cX1_readNumber 3 (some .boolean) (8) (fun ad => [.ref (ad 2), .int (x1), .int (x2)]) (fun Q σ => wp_X1_readNumber x1 x2 (aI Q) σ) := by
  refine con_intro (by decide +kernel) (fun _ => Nat.le_of_ble_eq_true rfl) (by omega) (fun X Q σ hX hR hw => ?_)
  have hX : CxB X RX1 cX1_readNumber 3 (8) := hX
  unfold wp_X1_readNumber at hw
  show At X 3 0 [(0, .ref (X.kad 2)), (1, .int (x1)), (2, .int (x2))] [] σ
  refine r_aload_n 1 hX dX1_readNumber_0 rfl rfl 0 rfl ?_
  refine k_X1_33_X1_advance 4 hX (by omega)  (Nat.le_of_ble_eq_true rfl) dX1_readNumber_1 rfl hw (fun σ1 hw => ?_)
  refine r_aload_n 5 hX dX1_readNumber_4 rfl rfl 0 rfl ?_
  refine g_X1_36_2 8 hX dX1_readNumber_5 rfl ?_
  refine r_iconst 9 hX dX1_readNumber_8 rfl 5 ic_5 ?_
  refine r_icmp_ne 32 12 hX dX1_readNumber_9 (by decide) rfl hw (fun hw => ?_) (fun hw => ?_)
  · refine r_iconst 33 hX dX1_readNumber_32 rfl 0 ic_0 ?_
    exact r_zret hX hR narrow_b0 dX1_readNumber_33 hw
  · refine r_aload_n 13 hX dX1_readNumber_12 rfl rfl 0 rfl ?_
    refine g_X1_70_2 16 hX dX1_readNumber_13 rfl ?_
    refine r_iload_n 17 hX dX1_readNumber_16 rfl rfl 1 rfl ?_
    refine r_icmp_lt 32 20 hX dX1_readNumber_17 (by decide) rfl hw (fun hw => ?_) (fun hw => ?_)
    · refine r_iconst 33 hX dX1_readNumber_32 rfl 0 ic_0 ?_
      exact r_zret hX hR narrow_b0 dX1_readNumber_33 hw
    · refine r_aload_n 21 hX dX1_readNumber_20 rfl rfl 0 rfl ?_
      refine g_X1_70_2 24 hX dX1_readNumber_21 rfl ?_
      refine r_iload_n 25 hX dX1_readNumber_24 rfl rfl 2 rfl ?_
      refine r_icmp_gt 32 28 hX dX1_readNumber_25 (by decide) rfl hw (fun hw => ?_) (fun hw => ?_)
      · refine r_iconst 33 hX dX1_readNumber_32 rfl 0 ic_0 ?_
        exact r_zret hX hR narrow_b0 dX1_readNumber_33 hw
      · refine r_iconst 29 hX dX1_readNumber_28 rfl 1 ic_1 ?_
        refine r_goto 33 hX dX1_readNumber_29 (by decide) ?_
        exact r_zret hX hR narrow_b1 dX1_readNumber_33 hw
set_option maxRecDepth 20000 in
set_option maxHeartbeats 4000000 in
theorem c_X1_readClose : Con yX1_readClose cX1_readClose 1 (some .boolean) (8) (fun ad => [.ref (ad 2)]) (fun Q σ => wp_X1_readClose  (aI Q) σ) := by
  refine con_intro (by decide +kernel) (fun _ => Nat.le_of_ble_eq_true rfl) (by omega) (fun X Q σ hX hR hw => ?_)
  have hX : CxB X RX1 cX1_readClose 1 (8) := hX
  unfold wp_X1_readClose at hw
  show At X 1 0 [(0, .ref (X.kad 2))] [] σ
  refine r_aload_n 1 hX dX1_readClose_0 rfl rfl 0 rfl ?_
  refine k_X1_33_X1_advance 4 hX (by omega)  (Nat.le_of_ble_eq_true rfl) dX1_readClose_1 rfl hw (fun σ1 hw => ?_)
  refine r_aload_n 5 hX dX1_readClose_4 rfl rfl 0 rfl ?_
  refine g_X1_36_2 8 hX dX1_readClose_5 rfl ?_
  refine r_bipush 10 hX dX1_readClose_8 rfl 6 bi_6 ?_
  refine r_icmp_ne 17 13 hX dX1_readClose_10 (by decide) rfl hw (fun hw => ?_) (fun hw => ?_)
  · refine r_iconst 18 hX dX1_readClose_17 rfl 0 ic_0 ?_
    exact r_zret hX hR narrow_b0 dX1_readClose_18 hw
  · refine r_iconst 14 hX dX1_readClose_13 rfl 1 ic_1 ?_
    refine r_goto 18 hX dX1_readClose_14 (by decide) ?_
    exact r_zret hX hR narrow_b1 dX1_readClose_18 hw
theorem k_X1_66_X1_readNumber {X : Cx} {cc : ByteArray} {nL d pc : Nat} {lv : List (Nat × Value)} {rest : List Value} {σ : St} {K : Int32 → St → Prop} (q : Nat) (hX : CxB X RX1 cc nL d) (hdc : 8 + 1 ≤ d) (x1 : Int32) (x2 : Int32) (hst : (rest.map fun v => v.category).sum ≤ 8) (hd : decode cc pc = .ok (.invokevirtual 66, 3)) (hq : pc + 3 = q) (hw : wp_X1_readNumber x1 x2 K σ) (kk : ∀ (r : Int32) (τ : St), K r τ → At X nL q lv (.int r :: rest) τ) : At X nL pc lv (.int (x2) :: .int (x1) :: .ref (X.kad 2) :: rest) σ := r_callV (n := 2) q hX (k0 := 2) (c_X1_readNumber x1 x2) tw_276 tw_277 tw_278 tw_244 tw_279 ⟨by decide +kernel, by decide +kernel, by decide +kernel⟩ hdc (by decide) (As := [.int (x1), .int (x2)]) rfl rfl (by decide) ⟨_, _, _, rfl, rfl, rfl⟩ hst hd hq rfl (K := qI K) hw (kI kk)
set_option maxRecDepth 20000 in
set_option maxHeartbeats 4000000 in
theorem c_X1_readSpan : Con yX1_readSpan cX1_readSpan 3 (some .int) (9) (fun ad => [.ref (ad 2), .ref (ad 9)]) (fun Q σ => wp_X1_readSpan  (aI Q) σ) := by
  refine con_intro (by decide +kernel) (fun _ => Nat.le_of_ble_eq_true rfl) (by omega) (fun X Q σ hX hR hw => ?_)
  have hX : CxB X RX1 cX1_readSpan 3 (9) := hX
  unfold wp_X1_readSpan at hw
  show At X 3 0 [(0, .ref (X.kad 2)), (1, .ref (X.kad 9))] [] σ
  refine r_aload_n 1 hX dX1_readSpan_0 rfl rfl 0 rfl ?_
  refine r_iconst 2 hX dX1_readSpan_1 rfl 0 ic_0 ?_
  refine r_aload_n 3 hX dX1_readSpan_2 rfl rfl 1 rfl ?_
  refine g_X1_73_9 6 hX dX1_readSpan_3 rfl ?_
  refine r_iconst 7 hX dX1_readSpan_6 rfl 1 ic_1 ?_
  refine r_isub 8 hX dX1_readSpan_7 rfl ?_
  refine k_X1_66_X1_readNumber 11 hX (by omega) (0) ((σ.1 9 0) - 1) (Nat.le_of_ble_eq_true rfl) dX1_readSpan_8 rfl hw (fun r8 σ8 hw => ?_)
  refine r_if_ne 16 14 hX dX1_readSpan_11 (by decide) rfl hw (fun hw => ?_) (fun hw => ?_)
  · refine r_aload_n 17 hX dX1_readSpan_16 rfl rfl 0 rfl ?_
    refine g_X1_70_2 20 hX dX1_readSpan_17 rfl ?_
    refine r_istore_n (lv' := [(2, .int (σ8.1 2 5)), (0, .ref (X.kad 2)), (1, .ref (X.kad 9))]) 21 hX dX1_readSpan_20 rfl rfl (by decide) rfl ?_
    refine r_aload_n 22 hX dX1_readSpan_21 rfl rfl 1 rfl ?_
    refine r_iload_n 23 hX dX1_readSpan_22 rfl rfl 0 rfl ?_
    refine r_aload_n 24 hX dX1_readSpan_23 rfl rfl 2 rfl ?_
    refine g_X1_73_9 27 hX dX1_readSpan_24 rfl ?_
    refine r_iconst 28 hX dX1_readSpan_27 rfl 1 ic_1 ?_
    refine r_isub 29 hX dX1_readSpan_28 rfl ?_
    refine k_X1_66_X1_readNumber 32 hX (by omega) (σ8.1 2 5) ((σ8.1 9 0) - 1) (Nat.le_of_ble_eq_true rfl) dX1_readSpan_29 rfl hw (fun r29 σ29 hw => ?_)
    refine r_if_ne 37 35 hX dX1_readSpan_32 (by decide) rfl hw (fun hw => ?_) (fun hw => ?_)
    · refine r_iconst 38 hX dX1_readSpan_37 rfl 1 ic_1 ?_
      refine r_aload_n 39 hX dX1_readSpan_38 rfl rfl 1 rfl ?_
      refine g_X1_70_2 42 hX dX1_readSpan_39 rfl ?_
      refine r_iconst 43 hX dX1_readSpan_42 rfl 1 ic_1 ?_
      refine r_iadd 44 hX dX1_readSpan_43 rfl ?_
      refine r_ishl 45 hX dX1_readSpan_44 rfl ?_
      refine r_iconst 46 hX dX1_readSpan_45 rfl 1 ic_1 ?_
      refine r_isub 47 hX dX1_readSpan_46 rfl ?_
      refine r_iconst 48 hX dX1_readSpan_47 rfl 1 ic_1 ?_
      refine r_iload_n 49 hX dX1_readSpan_48 rfl rfl 0 rfl ?_
      refine r_ishl 50 hX dX1_readSpan_49 rfl ?_
      refine r_iconst 51 hX dX1_readSpan_50 rfl 1 ic_1 ?_
      refine r_isub 52 hX dX1_readSpan_51 rfl ?_
      refine r_iconst 53 hX dX1_readSpan_52 rfl (-1) ic_m1 ?_
      refine r_ixor 54 hX dX1_readSpan_53 rfl ?_
      refine r_iand 55 hX dX1_readSpan_54 rfl ?_
      exact r_iret hX hR dX1_readSpan_55 hw
    · refine r_iconst 36 hX dX1_readSpan_35 rfl 0 ic_0 ?_
      exact r_iret hX hR dX1_readSpan_36 hw
  · refine r_iconst 15 hX dX1_readSpan_14 rfl 0 ic_0 ?_
    exact r_iret hX hR dX1_readSpan_15 hw
set_option maxRecDepth 20000 in
set_option maxHeartbeats 4000000 in
theorem c_X1_readSize : Con yX1_readSize cX1_readSize 2 (some .boolean) (9) (fun ad => [.ref (ad 2), .ref (ad 9)]) (fun Q σ => wp_X1_readSize  (aI Q) σ) := by
  refine con_intro (by decide +kernel) (fun _ => Nat.le_of_ble_eq_true rfl) (by omega) (fun X Q σ hX hR hw => ?_)
  have hX : CxB X RX1 cX1_readSize 2 (9) := hX
  unfold wp_X1_readSize at hw
  show At X 2 0 [(0, .ref (X.kad 2)), (1, .ref (X.kad 9))] [] σ
  refine r_aload_n 1 hX dX1_readSize_0 rfl rfl 0 rfl ?_
  refine r_iconst 2 hX dX1_readSize_1 rfl 2 ic_2 ?_
  refine r_bipush 4 hX dX1_readSize_2 rfl 10 bi_10 ?_
  refine k_X1_66_X1_readNumber 7 hX (by omega) (2) (10) (Nat.le_of_ble_eq_true rfl) dX1_readSize_4 rfl hw (fun r4 σ4 hw => ?_)
  refine r_if_ne 12 10 hX dX1_readSize_7 (by decide) rfl hw (fun hw => ?_) (fun hw => ?_)
  · refine r_aload_n 13 hX dX1_readSize_12 rfl rfl 1 rfl ?_
    refine r_aload_n 14 hX dX1_readSize_13 rfl rfl 0 rfl ?_
    refine g_X1_70_2 17 hX dX1_readSize_14 rfl ?_
    refine p_X1_73_9 20 hX dX1_readSize_17 rfl ?_
    refine r_aload_n 21 hX dX1_readSize_20 rfl rfl 0 rfl ?_
    refine r_iconst 22 hX dX1_readSize_21 rfl 2 ic_2 ?_
    refine r_bipush 24 hX dX1_readSize_22 rfl 16 bi_16 ?_
    refine k_X1_66_X1_readNumber 27 hX (by omega) (2) (16) (Nat.le_of_ble_eq_true rfl) dX1_readSize_24 rfl hw (fun r24 σ24 hw => ?_)
    refine r_if_ne 32 30 hX dX1_readSize_27 (by decide) rfl hw (fun hw => ?_) (fun hw => ?_)
    · refine r_aload_n 33 hX dX1_readSize_32 rfl rfl 1 rfl ?_
      refine r_aload_n 34 hX dX1_readSize_33 rfl rfl 0 rfl ?_
      refine g_X1_70_2 37 hX dX1_readSize_34 rfl ?_
      refine p_X1_76_9 40 hX dX1_readSize_37 rfl ?_
      refine r_iconst 41 hX dX1_readSize_40 rfl 1 ic_1 ?_
      exact r_zret hX hR narrow_b1 dX1_readSize_41 hw
    · refine r_iconst 31 hX dX1_readSize_30 rfl 0 ic_0 ?_
      exact r_zret hX hR narrow_b0 dX1_readSize_31 hw
  · refine r_iconst 11 hX dX1_readSize_10 rfl 0 ic_0 ?_
    exact r_zret hX hR narrow_b0 dX1_readSize_11 hw
theorem k_X1_79_X1_readSpan {X : Cx} {cc : ByteArray} {nL d pc : Nat} {lv : List (Nat × Value)} {rest : List Value} {σ : St} {K : Int32 → St → Prop} (q : Nat) (hX : CxB X RX1 cc nL d) (hdc : 9 + 1 ≤ d) (hst : (rest.map fun v => v.category).sum ≤ 8) (hd : decode cc pc = .ok (.invokevirtual 79, 3)) (hq : pc + 3 = q) (hw : wp_X1_readSpan  K σ) (kk : ∀ (r : Int32) (τ : St), K r τ → At X nL q lv (.int r :: rest) τ) : At X nL pc lv (.ref (X.kad 9) :: .ref (X.kad 2) :: rest) σ := r_callV (n := 1) q hX (k0 := 2) (c_X1_readSpan ) tw_281 tw_282 tw_283 tw_244 tw_284 ⟨by decide +kernel, by decide +kernel, by decide +kernel⟩ hdc (by decide) (As := [.ref (X.kad 9)]) rfl rfl (by decide) ⟨_, _, _, rfl, rfl, rfl⟩ hst hd hq rfl (K := qI K) hw (kI kk)
set_option maxRecDepth 20000 in
set_option maxHeartbeats 4000000 in
theorem c_X1_readBeam : Con yX1_readBeam cX1_readBeam 4 (some .boolean) (10) (fun ad => [.ref (ad 2), .ref (ad 9)]) (fun Q σ => wp_X1_readBeam  (aI Q) σ) := by
  refine con_intro (by decide +kernel) (fun _ => Nat.le_of_ble_eq_true rfl) (by omega) (fun X Q σ hX hR hw => ?_)
  have hX : CxB X RX1 cX1_readBeam 4 (10) := hX
  unfold wp_X1_readBeam at hw
  show At X 4 0 [(0, .ref (X.kad 2)), (1, .ref (X.kad 9))] [] σ
  refine r_aload_n 1 hX dX1_readBeam_0 rfl rfl 0 rfl ?_
  refine r_iconst 2 hX dX1_readBeam_1 rfl 0 ic_0 ?_
  refine r_aload_n 3 hX dX1_readBeam_2 rfl rfl 1 rfl ?_
  refine g_X1_76_9 6 hX dX1_readBeam_3 rfl ?_
  refine r_iconst 7 hX dX1_readBeam_6 rfl 1 ic_1 ?_
  refine r_isub 8 hX dX1_readBeam_7 rfl ?_
  refine k_X1_66_X1_readNumber 11 hX (by omega) (0) ((σ.1 9 1) - 1) (Nat.le_of_ble_eq_true rfl) dX1_readBeam_8 rfl hw (fun r8 σ8 hw => ?_)
  refine r_if_ne 16 14 hX dX1_readBeam_11 (by decide) rfl hw (fun hw => ?_) (fun hw => ?_)
  · refine r_aload_n 17 hX dX1_readBeam_16 rfl rfl 0 rfl ?_
    refine g_X1_70_2 20 hX dX1_readBeam_17 rfl ?_
    refine r_istore_n (lv' := [(2, .int (σ8.1 2 5)), (0, .ref (X.kad 2)), (1, .ref (X.kad 9))]) 21 hX dX1_readBeam_20 rfl rfl (by decide) rfl ?_
    refine r_aload_n 22 hX dX1_readBeam_21 rfl rfl 1 rfl ?_
    refine r_aload_n 23 hX dX1_readBeam_22 rfl rfl 2 rfl ?_
    refine k_X1_79_X1_readSpan 26 hX (by omega)  (Nat.le_of_ble_eq_true rfl) dX1_readBeam_23 rfl hw (fun r23 σ23 hw => ?_)
    refine r_istore_n (lv' := [(3, .int (r23)), (2, .int (σ8.1 2 5)), (0, .ref (X.kad 2)), (1, .ref (X.kad 9))]) 27 hX dX1_readBeam_26 rfl rfl (by decide) rfl ?_
    refine r_iload_n 28 hX dX1_readBeam_27 rfl rfl 0 rfl ?_
    refine r_if_ne 33 31 hX dX1_readBeam_28 (by decide) rfl hw (fun hw => ?_) (fun hw => ?_)
    · refine r_aload_n 34 hX dX1_readBeam_33 rfl rfl 3 rfl ?_
      refine g_X1_83_9 37 hX dX1_readBeam_34 rfl ?_
      refine r_iload_n 38 hX dX1_readBeam_37 rfl rfl 1 rfl ?_
      refine r_dup2 39 hX dX1_readBeam_38 rfl rfl rfl ?_
      refine r_iald 40 hX sh_10 dX1_readBeam_39 rfl hw (fun hw => ?_)
      refine r_iload_n 41 hX dX1_readBeam_40 rfl rfl 0 rfl ?_
      refine r_ior 42 hX dX1_readBeam_41 rfl ?_
      refine r_iast 43 hX sh_10 dX1_readBeam_42 rfl hw (fun hw => ?_)
      refine r_iconst 44 hX dX1_readBeam_43 rfl 1 ic_1 ?_
      exact r_zret hX hR narrow_b1 dX1_readBeam_44 hw
    · refine r_iconst 32 hX dX1_readBeam_31 rfl 0 ic_0 ?_
      exact r_zret hX hR narrow_b0 dX1_readBeam_32 hw
  · refine r_iconst 15 hX dX1_readBeam_14 rfl 0 ic_0 ?_
    exact r_zret hX hR narrow_b0 dX1_readBeam_15 hw
set_option maxRecDepth 20000 in
set_option maxHeartbeats 4000000 in
theorem c_X1_readCold : Con yX1_readCold cX1_readCold 3 (some .boolean) (10) (fun ad => [.ref (ad 2), .ref (ad 9)]) (fun Q σ => wp_X1_readCold  (aI Q) σ) := by
  refine con_intro (by decide +kernel) (fun _ => Nat.le_of_ble_eq_true rfl) (by omega) (fun X Q σ hX hR hw => ?_)
  have hX : CxB X RX1 cX1_readCold 3 (10) := hX
  unfold wp_X1_readCold at hw
  show At X 3 0 [(0, .ref (X.kad 2)), (1, .ref (X.kad 9))] [] σ
  refine r_aload_n 1 hX dX1_readCold_0 rfl rfl 0 rfl ?_
  refine r_aload_n 2 hX dX1_readCold_1 rfl rfl 1 rfl ?_
  refine k_X1_79_X1_readSpan 5 hX (by omega)  (Nat.le_of_ble_eq_true rfl) dX1_readCold_2 rfl hw (fun r2 σ2 hw => ?_)
  refine r_istore_n (lv' := [(2, .int (r2)), (0, .ref (X.kad 2)), (1, .ref (X.kad 9))]) 6 hX dX1_readCold_5 rfl rfl (by decide) rfl ?_
  refine r_aload_n 7 hX dX1_readCold_6 rfl rfl 2 rfl ?_
  refine r_dup 8 hX dX1_readCold_7 rfl rfl ?_
  refine g_X1_87_9 11 hX dX1_readCold_8 rfl ?_
  refine r_iload_n 12 hX dX1_readCold_11 rfl rfl 0 rfl ?_
  refine r_ior 13 hX dX1_readCold_12 rfl ?_
  refine p_X1_87_9 16 hX dX1_readCold_13 rfl ?_
  refine r_iload_n 17 hX dX1_readCold_16 rfl rfl 0 rfl ?_
  refine r_if_eq 24 20 hX dX1_readCold_17 (by decide) rfl hw (fun hw => ?_) (fun hw => ?_)
  · refine r_iconst 25 hX dX1_readCold_24 rfl 0 ic_0 ?_
    exact r_zret hX hR narrow_b0 dX1_readCold_25 hw
  · refine r_iconst 21 hX dX1_readCold_20 rfl 1 ic_1 ?_
    refine r_goto 25 hX dX1_readCold_21 (by decide) ?_
    exact r_zret hX hR narrow_b1 dX1_readCold_25 hw
set_option maxRecDepth 20000 in
set_option maxHeartbeats 4000000 in
theorem c_X1_readHearth : Con yX1_readHearth cX1_readHearth 3 (some .boolean) (9) (fun ad => [.ref (ad 2), .ref (ad 9)]) (fun Q σ => wp_X1_readHearth  (aI Q) σ) := by
  refine con_intro (by decide +kernel) (fun _ => Nat.le_of_ble_eq_true rfl) (by omega) (fun X Q σ hX hR hw => ?_)
  have hX : CxB X RX1 cX1_readHearth 3 (9) := hX
  unfold wp_X1_readHearth at hw
  show At X 3 0 [(0, .ref (X.kad 2)), (1, .ref (X.kad 9))] [] σ
  refine r_aload_n 1 hX dX1_readHearth_0 rfl rfl 1 rfl ?_
  refine g_X1_60_9 4 hX dX1_readHearth_1 rfl ?_
  refine r_istore_n (lv' := [(2, .int (σ.1 9 3)), (0, .ref (X.kad 2)), (1, .ref (X.kad 9))]) 5 hX dX1_readHearth_4 rfl rfl (by decide) rfl ?_
  refine r_aload_n 6 hX dX1_readHearth_5 rfl rfl 1 rfl ?_
  refine r_iconst 7 hX dX1_readHearth_6 rfl 0 ic_0 ?_
  refine r_aload_n 8 hX dX1_readHearth_7 rfl rfl 2 rfl ?_
  refine g_X1_76_9 11 hX dX1_readHearth_8 rfl ?_
  refine r_iconst 12 hX dX1_readHearth_11 rfl 2 ic_2 ?_
  refine r_isub 13 hX dX1_readHearth_12 rfl ?_
  refine k_X1_66_X1_readNumber 16 hX (by omega) (0) ((σ.1 9 1) - 2) (Nat.le_of_ble_eq_true rfl) dX1_readHearth_13 rfl hw (fun r13 σ13 hw => ?_)
  refine r_if_ne 21 19 hX dX1_readHearth_16 (by decide) rfl hw (fun hw => ?_) (fun hw => ?_)
  · refine r_aload_n 22 hX dX1_readHearth_21 rfl rfl 2 rfl ?_
    refine g_X1_90_9 25 hX dX1_readHearth_22 rfl ?_
    refine r_iload_n 26 hX dX1_readHearth_25 rfl rfl 0 rfl ?_
    refine r_aload_n 27 hX dX1_readHearth_26 rfl rfl 1 rfl ?_
    refine g_X1_70_2 30 hX dX1_readHearth_27 rfl ?_
    refine r_iast 31 hX sh_11 dX1_readHearth_30 rfl hw (fun hw => ?_)
    refine r_aload_n 32 hX dX1_readHearth_31 rfl rfl 1 rfl ?_
    refine r_iconst 33 hX dX1_readHearth_32 rfl 0 ic_0 ?_
    refine r_aload_n 34 hX dX1_readHearth_33 rfl rfl 2 rfl ?_
    refine g_X1_73_9 37 hX dX1_readHearth_34 rfl ?_
    refine r_iconst 38 hX dX1_readHearth_37 rfl 1 ic_1 ?_
    refine r_isub 39 hX dX1_readHearth_38 rfl ?_
    refine k_X1_66_X1_readNumber 42 hX (by omega) (0) (((sI σ13 11 (σ.1 9 3).toNatClampNeg (σ13.1 2 5)).1 9 0) - 1) (Nat.le_of_ble_eq_true rfl) dX1_readHearth_39 rfl hw (fun r39 σ39 hw => ?_)
    refine r_if_ne 47 45 hX dX1_readHearth_42 (by decide) rfl hw (fun hw => ?_) (fun hw => ?_)
    · refine r_aload_n 48 hX dX1_readHearth_47 rfl rfl 2 rfl ?_
      refine g_X1_93_9 51 hX dX1_readHearth_48 rfl ?_
      refine r_iload_n 52 hX dX1_readHearth_51 rfl rfl 0 rfl ?_
      refine r_aload_n 53 hX dX1_readHearth_52 rfl rfl 1 rfl ?_
      refine g_X1_70_2 56 hX dX1_readHearth_53 rfl ?_
      refine r_iast 57 hX sh_12 dX1_readHearth_56 rfl hw (fun hw => ?_)
      refine r_aload_n 58 hX dX1_readHearth_57 rfl rfl 1 rfl ?_
      refine r_iconst 59 hX dX1_readHearth_58 rfl 0 ic_0 ?_
      refine r_bipush 61 hX dX1_readHearth_59 rfl 99 bi_99 ?_
      refine k_X1_66_X1_readNumber 64 hX (by omega) (0) (99) (Nat.le_of_ble_eq_true rfl) dX1_readHearth_61 rfl hw (fun r61 σ61 hw => ?_)
      refine r_if_ne 69 67 hX dX1_readHearth_64 (by decide) rfl hw (fun hw => ?_) (fun hw => ?_)
      · refine r_aload_n 70 hX dX1_readHearth_69 rfl rfl 2 rfl ?_
        refine g_X1_96_9 73 hX dX1_readHearth_70 rfl ?_
        refine r_iload_n 74 hX dX1_readHearth_73 rfl rfl 0 rfl ?_
        refine r_aload_n 75 hX dX1_readHearth_74 rfl rfl 1 rfl ?_
        refine g_X1_70_2 78 hX dX1_readHearth_75 rfl ?_
        refine r_iast 79 hX sh_13 dX1_readHearth_78 rfl hw (fun hw => ?_)
        refine r_aload_n 80 hX dX1_readHearth_79 rfl rfl 2 rfl ?_
        refine r_dup 81 hX dX1_readHearth_80 rfl rfl ?_
        refine g_X1_60_9 84 hX dX1_readHearth_81 rfl ?_
        refine r_iconst 85 hX dX1_readHearth_84 rfl 1 ic_1 ?_
        refine r_iadd 86 hX dX1_readHearth_85 rfl ?_
        refine p_X1_60_9 89 hX dX1_readHearth_86 rfl ?_
        refine r_iconst 90 hX dX1_readHearth_89 rfl 1 ic_1 ?_
        exact r_zret hX hR narrow_b1 dX1_readHearth_90 hw
      · refine r_iconst 68 hX dX1_readHearth_67 rfl 0 ic_0 ?_
        exact r_zret hX hR narrow_b0 dX1_readHearth_68 hw
    · refine r_iconst 46 hX dX1_readHearth_45 rfl 0 ic_0 ?_
      exact r_zret hX hR narrow_b0 dX1_readHearth_46 hw
  · refine r_iconst 20 hX dX1_readHearth_19 rfl 0 ic_0 ?_
    exact r_zret hX hR narrow_b0 dX1_readHearth_20 hw
theorem k_X1_46_X1_readSize {X : Cx} {cc : ByteArray} {nL d pc : Nat} {lv : List (Nat × Value)} {rest : List Value} {σ : St} {K : Int32 → St → Prop} (q : Nat) (hX : CxB X RX1 cc nL d) (hdc : 9 + 1 ≤ d) (hst : (rest.map fun v => v.category).sum ≤ 8) (hd : decode cc pc = .ok (.invokevirtual 46, 3)) (hq : pc + 3 = q) (hw : wp_X1_readSize  K σ) (kk : ∀ (r : Int32) (τ : St), K r τ → At X nL q lv (.int r :: rest) τ) : At X nL pc lv (.ref (X.kad 9) :: .ref (X.kad 2) :: rest) σ := r_callV (n := 1) q hX (k0 := 2) (c_X1_readSize ) tw_291 tw_292 tw_293 tw_244 tw_294 ⟨by decide +kernel, by decide +kernel, by decide +kernel⟩ hdc (by decide) (As := [.ref (X.kad 9)]) rfl rfl (by decide) ⟨_, _, _, rfl, rfl, rfl⟩ hst hd hq rfl (K := qI K) hw (kI kk)
theorem k_X1_50_X1_readClose {X : Cx} {cc : ByteArray} {nL d pc : Nat} {lv : List (Nat × Value)} {rest : List Value} {σ : St} {K : Int32 → St → Prop} (q : Nat) (hX : CxB X RX1 cc nL d) (hdc : 8 + 1 ≤ d) (hst : (rest.map fun v => v.category).sum ≤ 8) (hd : decode cc pc = .ok (.invokevirtual 50, 3)) (hq : pc + 3 = q) (hw : wp_X1_readClose  K σ) (kk : ∀ (r : Int32) (τ : St), K r τ → At X nL q lv (.int r :: rest) τ) : At X nL pc lv (.ref (X.kad 2) :: rest) σ := r_callV (n := 0) q hX (k0 := 2) (c_X1_readClose ) tw_295 tw_296 tw_297 tw_244 tw_298 ⟨by decide +kernel, by decide +kernel, by decide +kernel⟩ hdc (by decide) (As := []) rfl rfl (by decide) ⟨_, _, _, rfl, rfl, rfl⟩ hst hd hq rfl (K := qI K) hw (kI kk)
theorem k_X1_54_X1_readBeam {X : Cx} {cc : ByteArray} {nL d pc : Nat} {lv : List (Nat × Value)} {rest : List Value} {σ : St} {K : Int32 → St → Prop} (q : Nat) (hX : CxB X RX1 cc nL d) (hdc : 10 + 1 ≤ d) (hst : (rest.map fun v => v.category).sum ≤ 8) (hd : decode cc pc = .ok (.invokevirtual 54, 3)) (hq : pc + 3 = q) (hw : wp_X1_readBeam  K σ) (kk : ∀ (r : Int32) (τ : St), K r τ → At X nL q lv (.int r :: rest) τ) : At X nL pc lv (.ref (X.kad 9) :: .ref (X.kad 2) :: rest) σ := r_callV (n := 1) q hX (k0 := 2) (c_X1_readBeam ) tw_299 tw_300 tw_301 tw_244 tw_302 ⟨by decide +kernel, by decide +kernel, by decide +kernel⟩ hdc (by decide) (As := [.ref (X.kad 9)]) rfl rfl (by decide) ⟨_, _, _, rfl, rfl, rfl⟩ hst hd hq rfl (K := qI K) hw (kI kk)
theorem k_X1_57_X1_readCold {X : Cx} {cc : ByteArray} {nL d pc : Nat} {lv : List (Nat × Value)} {rest : List Value} {σ : St} {K : Int32 → St → Prop} (q : Nat) (hX : CxB X RX1 cc nL d) (hdc : 10 + 1 ≤ d) (hst : (rest.map fun v => v.category).sum ≤ 8) (hd : decode cc pc = .ok (.invokevirtual 57, 3)) (hq : pc + 3 = q) (hw : wp_X1_readCold  K σ) (kk : ∀ (r : Int32) (τ : St), K r τ → At X nL q lv (.int r :: rest) τ) : At X nL pc lv (.ref (X.kad 9) :: .ref (X.kad 2) :: rest) σ := r_callV (n := 1) q hX (k0 := 2) (c_X1_readCold ) tw_303 tw_304 tw_305 tw_244 tw_306 ⟨by decide +kernel, by decide +kernel, by decide +kernel⟩ hdc (by decide) (As := [.ref (X.kad 9)]) rfl rfl (by decide) ⟨_, _, _, rfl, rfl, rfl⟩ hst hd hq rfl (K := qI K) hw (kI kk)
theorem k_X1_63_X1_readHearth {X : Cx} {cc : ByteArray} {nL d pc : Nat} {lv : List (Nat × Value)} {rest : List Value} {σ : St} {K : Int32 → St → Prop} (q : Nat) (hX : CxB X RX1 cc nL d) (hdc : 9 + 1 ≤ d) (hst : (rest.map fun v => v.category).sum ≤ 8) (hd : decode cc pc = .ok (.invokevirtual 63, 3)) (hq : pc + 3 = q) (hw : wp_X1_readHearth  K σ) (kk : ∀ (r : Int32) (τ : St), K r τ → At X nL q lv (.int r :: rest) τ) : At X nL pc lv (.ref (X.kad 9) :: .ref (X.kad 2) :: rest) σ := r_callV (n := 1) q hX (k0 := 2) (c_X1_readHearth ) tw_307 tw_308 tw_309 tw_244 tw_310 ⟨by decide +kernel, by decide +kernel, by decide +kernel⟩ hdc (by decide) (As := [.ref (X.kad 9)]) rfl rfl (by decide) ⟨_, _, _, rfl, rfl, rfl⟩ hst hd hq rfl (K := qI K) hw (kI kk)
set_option maxRecDepth 20000 in
set_option maxHeartbeats 4000000 in
theorem c_X1_readItem (x2 : Int32) : Con yX1_readItem cX1_readItem 3 (some .boolean) (11) (fun ad => [.ref (ad 2), .ref (ad 9), .int (x2)]) (fun Q σ => wp_X1_readItem x2 (aI Q) σ) := by
  refine con_intro (by decide +kernel) (fun _ => Nat.le_of_ble_eq_true rfl) (by omega) (fun X Q σ hX hR hw => ?_)
  have hX : CxB X RX1 cX1_readItem 3 (11) := hX
  unfold wp_X1_readItem at hw
  show At X 3 0 [(0, .ref (X.kad 2)), (1, .ref (X.kad 9)), (2, .int (x2))] [] σ
  refine r_aload_n 1 hX dX1_readItem_0 rfl rfl 0 rfl ?_
  refine g_X1_36_2 4 hX dX1_readItem_1 rfl ?_
  -- switch
  refine r_case hw (fun hc hw => ?_) (fun hc1 hw => ?_)
  · refine r_tabIn 36 hX dX1_readItem_4 (by rw [hc]; decide) (by rw [hc]; decide) (off := 32) (by rw [hc]; decide) (by decide) ?_
    refine r_iload_n 37 hX dX1_readItem_36 rfl rfl 2 rfl ?_
    refine r_if_eq 59 40 hX dX1_readItem_37 (by decide) rfl hw (fun hw => ?_) (fun hw => ?_)
    · refine r_iconst 60 hX dX1_readItem_59 rfl 0 ic_0 ?_
      exact r_zret hX hR narrow_b0 dX1_readItem_60 hw
    · refine r_aload_n 41 hX dX1_readItem_40 rfl rfl 0 rfl ?_
      refine r_aload_n 42 hX dX1_readItem_41 rfl rfl 1 rfl ?_
      refine k_X1_46_X1_readSize 45 hX (by omega)  (Nat.le_of_ble_eq_true rfl) dX1_readItem_42 rfl hw (fun r42 σ42 hw => ?_)
      refine r_if_eq 59 48 hX dX1_readItem_45 (by decide) rfl hw (fun hw => ?_) (fun hw => ?_)
      · refine r_iconst 60 hX dX1_readItem_59 rfl 0 ic_0 ?_
        exact r_zret hX hR narrow_b0 dX1_readItem_60 hw
      · refine r_aload_n 49 hX dX1_readItem_48 rfl rfl 0 rfl ?_
        refine k_X1_50_X1_readClose 52 hX (by omega)  (Nat.le_of_ble_eq_true rfl) dX1_readItem_49 rfl hw (fun r49 σ49 hw => ?_)
        refine r_if_eq 59 55 hX dX1_readItem_52 (by decide) rfl hw (fun hw => ?_) (fun hw => ?_)
        · refine r_iconst 60 hX dX1_readItem_59 rfl 0 ic_0 ?_
          exact r_zret hX hR narrow_b0 dX1_readItem_60 hw
        · refine r_iconst 56 hX dX1_readItem_55 rfl 1 ic_1 ?_
          refine r_goto 60 hX dX1_readItem_56 (by decide) ?_
          exact r_zret hX hR narrow_b1 dX1_readItem_60 hw
  refine r_case hw (fun hc hw => ?_) (fun hc2 hw => ?_)
  · refine r_tabIn 61 hX dX1_readItem_4 (by rw [hc]; decide) (by rw [hc]; decide) (off := 57) (by rw [hc]; decide) (by decide) ?_
    refine r_aload_n 62 hX dX1_readItem_61 rfl rfl 0 rfl ?_
    refine r_aload_n 63 hX dX1_readItem_62 rfl rfl 1 rfl ?_
    refine k_X1_54_X1_readBeam 66 hX (by omega)  (Nat.le_of_ble_eq_true rfl) dX1_readItem_63 rfl hw (fun r63 σ63 hw => ?_)
    refine r_if_eq 80 69 hX dX1_readItem_66 (by decide) rfl hw (fun hw => ?_) (fun hw => ?_)
    · refine r_iconst 81 hX dX1_readItem_80 rfl 0 ic_0 ?_
      exact r_zret hX hR narrow_b0 dX1_readItem_81 hw
    · refine r_aload_n 70 hX dX1_readItem_69 rfl rfl 0 rfl ?_
      refine k_X1_50_X1_readClose 73 hX (by omega)  (Nat.le_of_ble_eq_true rfl) dX1_readItem_70 rfl hw (fun r70 σ70 hw => ?_)
      refine r_if_eq 80 76 hX dX1_readItem_73 (by decide) rfl hw (fun hw => ?_) (fun hw => ?_)
      · refine r_iconst 81 hX dX1_readItem_80 rfl 0 ic_0 ?_
        exact r_zret hX hR narrow_b0 dX1_readItem_81 hw
      · refine r_iconst 77 hX dX1_readItem_76 rfl 1 ic_1 ?_
        refine r_goto 81 hX dX1_readItem_77 (by decide) ?_
        exact r_zret hX hR narrow_b1 dX1_readItem_81 hw
  refine r_case hw (fun hc hw => ?_) (fun hc3 hw => ?_)
  · refine r_tabIn 82 hX dX1_readItem_4 (by rw [hc]; decide) (by rw [hc]; decide) (off := 78) (by rw [hc]; decide) (by decide) ?_
    refine r_aload_n 83 hX dX1_readItem_82 rfl rfl 0 rfl ?_
    refine r_aload_n 84 hX dX1_readItem_83 rfl rfl 1 rfl ?_
    refine k_X1_57_X1_readCold 87 hX (by omega)  (Nat.le_of_ble_eq_true rfl) dX1_readItem_84 rfl hw (fun r84 σ84 hw => ?_)
    refine r_if_eq 101 90 hX dX1_readItem_87 (by decide) rfl hw (fun hw => ?_) (fun hw => ?_)
    · refine r_iconst 102 hX dX1_readItem_101 rfl 0 ic_0 ?_
      exact r_zret hX hR narrow_b0 dX1_readItem_102 hw
    · refine r_aload_n 91 hX dX1_readItem_90 rfl rfl 0 rfl ?_
      refine k_X1_50_X1_readClose 94 hX (by omega)  (Nat.le_of_ble_eq_true rfl) dX1_readItem_91 rfl hw (fun r91 σ91 hw => ?_)
      refine r_if_eq 101 97 hX dX1_readItem_94 (by decide) rfl hw (fun hw => ?_) (fun hw => ?_)
      · refine r_iconst 102 hX dX1_readItem_101 rfl 0 ic_0 ?_
        exact r_zret hX hR narrow_b0 dX1_readItem_102 hw
      · refine r_iconst 98 hX dX1_readItem_97 rfl 1 ic_1 ?_
        refine r_goto 102 hX dX1_readItem_98 (by decide) ?_
        exact r_zret hX hR narrow_b1 dX1_readItem_102 hw
  refine r_case hw (fun hc hw => ?_) (fun hc4 hw => ?_)
  · refine r_tabIn 103 hX dX1_readItem_4 (by rw [hc]; decide) (by rw [hc]; decide) (off := 99) (by rw [hc]; decide) (by decide) ?_
    refine r_aload_n 104 hX dX1_readItem_103 rfl rfl 1 rfl ?_
    refine g_X1_60_9 107 hX dX1_readItem_104 rfl ?_
    refine r_iconst 108 hX dX1_readItem_107 rfl 3 ic_3 ?_
    refine r_icmp_ge 130 111 hX dX1_readItem_108 (by decide) rfl hw (fun hw => ?_) (fun hw => ?_)
    · refine r_iconst 131 hX dX1_readItem_130 rfl 0 ic_0 ?_
      exact r_zret hX hR narrow_b0 dX1_readItem_131 hw
    · refine r_aload_n 112 hX dX1_readItem_111 rfl rfl 0 rfl ?_
      refine r_aload_n 113 hX dX1_readItem_112 rfl rfl 1 rfl ?_
      refine k_X1_63_X1_readHearth 116 hX (by omega)  (Nat.le_of_ble_eq_true rfl) dX1_readItem_113 rfl hw (fun r113 σ113 hw => ?_)
      refine r_if_eq 130 119 hX dX1_readItem_116 (by decide) rfl hw (fun hw => ?_) (fun hw => ?_)
      · refine r_iconst 131 hX dX1_readItem_130 rfl 0 ic_0 ?_
        exact r_zret hX hR narrow_b0 dX1_readItem_131 hw
      · refine r_aload_n 120 hX dX1_readItem_119 rfl rfl 0 rfl ?_
        refine k_X1_50_X1_readClose 123 hX (by omega)  (Nat.le_of_ble_eq_true rfl) dX1_readItem_120 rfl hw (fun r120 σ120 hw => ?_)
        refine r_if_eq 130 126 hX dX1_readItem_123 (by decide) rfl hw (fun hw => ?_) (fun hw => ?_)
        · refine r_iconst 131 hX dX1_readItem_130 rfl 0 ic_0 ?_
          exact r_zret hX hR narrow_b0 dX1_readItem_131 hw
        · refine r_iconst 127 hX dX1_readItem_126 rfl 1 ic_1 ?_
          refine r_goto 131 hX dX1_readItem_127 (by decide) ?_
          exact r_zret hX hR narrow_b1 dX1_readItem_131 hw
  refine r_tabOut 132 hX dX1_readItem_4 (sw_out1_4 hc1 hc2 hc3 hc4) (by decide) ?_
  refine r_iconst 133 hX dX1_readItem_132 rfl 0 ic_0 ?_
  exact r_zret hX hR narrow_b0 dX1_readItem_133 hw
theorem k_X1_28_X4_reset {X : Cx} {cc : ByteArray} {nL d pc : Nat} {lv : List (Nat × Value)} {rest : List Value} {σ : St} {K : St → Prop} (q : Nat) (hX : CxB X RX1 cc nL d) (hdc : 2 + 1 ≤ d) (hst : (rest.map fun v => v.category).sum ≤ 8) (hd : decode cc pc = .ok (.invokevirtual 28, 3)) (hq : pc + 3 = q) (hw : wp_X4_reset  K σ) (kk : ∀ (τ : St), K τ → At X nL q lv (rest) τ) : At X nL pc lv (.ref (X.kad 9) :: rest) σ := r_callV (n := 0) q hX (k0 := 9) (c_X4_reset ) tw_311 tw_312 tw_313 tw_8 tw_314 ⟨by decide +kernel, by decide +kernel, by decide +kernel⟩ hdc (by decide) (As := []) rfl rfl (by decide) ⟨_, _, _, rfl, rfl, rfl⟩ hst hd hq rfl (K := qV K) hw (kV kk)
theorem k_X1_39_X1_readItem {X : Cx} {cc : ByteArray} {nL d pc : Nat} {lv : List (Nat × Value)} {rest : List Value} {σ : St} {K : Int32 → St → Prop} (q : Nat) (hX : CxB X RX1 cc nL d) (hdc : 11 + 1 ≤ d) (x2 : Int32) (hst : (rest.map fun v => v.category).sum ≤ 8) (hd : decode cc pc = .ok (.invokevirtual 39, 3)) (hq : pc + 3 = q) (hw : wp_X1_readItem x2 K σ) (kk : ∀ (r : Int32) (τ : St), K r τ → At X nL q lv (.int r :: rest) τ) : At X nL pc lv (.int (x2) :: .ref (X.kad 9) :: .ref (X.kad 2) :: rest) σ := r_callV (n := 2) q hX (k0 := 2) (c_X1_readItem x2) tw_315 tw_316 tw_317 tw_244 tw_318 ⟨by decide +kernel, by decide +kernel, by decide +kernel⟩ hdc (by decide) (As := [.ref (X.kad 9), .int (x2)]) rfl rfl (by decide) ⟨_, _, _, rfl, rfl, rfl⟩ hst hd hq rfl (K := qI K) hw (kI kk)
set_option maxRecDepth 20000 in
set_option maxHeartbeats 4000000 in
theorem w_X1_read_b61 {X : Cx} {Q : RV → St → Prop} (hX : CxB X RX1 cX1_read 5 (12)) (hR : CxR X (some .int) Q) {K31 : Int32 → St → Prop} (hK31 : ∀ (x4 : Int32) (σ : St), K31 x4 σ → At X 5 31 [(0, .ref (X.kad 2)), (3, .ref (X.kad 9)), (4, .int (x4))] [] σ) (x4 : Int32) (s0 : Int32) (σ : St) (hw : wp_X1_read_b61 (aI Q) K31 x4 s0 σ) : At X 5 61 [(0, .ref (X.kad 2)), (3, .ref (X.kad 9)), (4, .int (x4))] [.int (s0), .ref (X.kad 9), .ref (X.kad 2)] σ := by
  unfold wp_X1_read_b61 at hw
  refine k_X1_39_X1_readItem 64 hX (by omega) (s0) (Nat.le_of_ble_eq_true rfl) dX1_read_61 rfl hw (fun r61 σ61 hw => ?_)
  refine r_if_ne 72 67 hX dX1_read_64 (by decide) rfl hw (fun hw => ?_) (fun hw => ?_)
  · refine r_aload_n 73 hX dX1_read_72 rfl rfl 0 rfl ?_
    refine k_X1_33_X1_advance 76 hX (by omega)  (Nat.le_of_ble_eq_true rfl) dX1_read_73 rfl hw (fun σ73 hw => ?_)
    refine r_iinc (lv' := [(4, .int (x4 + 1)), (0, .ref (X.kad 2)), (3, .ref (X.kad 9))]) 79 hX dX1_read_76 rfl 2 rfl (x4 + 1) (ici_1 _) (by decide) rfl ?_
    refine r_goto 31 hX dX1_read_79 (by decide) ?_
    refine r_sub [1, 2, 0] rfl ?_
    exact hK31 _ _ hw
  · refine r_aload_n 68 hX dX1_read_67 rfl rfl 0 rfl ?_
    refine g_X1_43_2 71 hX dX1_read_68 rfl ?_
    exact r_iret hX hR dX1_read_71 hw
set_option maxRecDepth 20000 in
set_option maxHeartbeats 4000000 in
theorem w_X1_read_b31 {X : Cx} {Q : RV → St → Prop} (hX : CxB X RX1 cX1_read 5 (12)) (hR : CxR X (some .int) Q) {K31 : Int32 → St → Prop} (hK31 : ∀ (x4 : Int32) (σ : St), K31 x4 σ → At X 5 31 [(0, .ref (X.kad 2)), (3, .ref (X.kad 9)), (4, .int (x4))] [] σ) (x4 : Int32) (σ : St) (hw : wp_X1_read_b31 (aI Q) K31 x4 σ) : At X 5 31 [(0, .ref (X.kad 2)), (3, .ref (X.kad 9)), (4, .int (x4))] [] σ := by
  unfold wp_X1_read_b31 at hw
  refine r_iload 33 hX dX1_read_31 rfl 2 rfl ?_
  refine r_aload_n 34 hX dX1_read_33 rfl rfl 0 rfl ?_
  refine g_X1_21_2 37 hX dX1_read_34 rfl ?_
  refine r_icmp_gt 82 40 hX dX1_read_37 (by decide) rfl hw (fun hw => ?_) (fun hw => ?_)
  · refine r_bipush 84 hX dX1_read_82 rfl (-9) bi_m9 ?_
    exact r_iret hX hR dX1_read_84 hw
  · refine r_aload_n 41 hX dX1_read_40 rfl rfl 0 rfl ?_
    refine g_X1_36_2 44 hX dX1_read_41 rfl ?_
    refine r_bipush 46 hX dX1_read_44 rfl 7 bi_7 ?_
    refine r_icmp_eq 82 49 hX dX1_read_46 (by decide) rfl hw (fun hw => ?_) (fun hw => ?_)
    · refine r_bipush 84 hX dX1_read_82 rfl (-9) bi_m9 ?_
      exact r_iret hX hR dX1_read_84 hw
    · refine r_aload_n 50 hX dX1_read_49 rfl rfl 0 rfl ?_
      refine r_aload_n 51 hX dX1_read_50 rfl rfl 1 rfl ?_
      refine r_iload 53 hX dX1_read_51 rfl 2 rfl ?_
      refine r_if_ne 60 56 hX dX1_read_53 (by decide) rfl hw (fun hw => ?_) (fun hw => ?_)
      · refine r_iconst 61 hX dX1_read_60 rfl 0 ic_0 ?_
        exact w_X1_read_b61 hX hR hK31 _ _ _ hw
      · refine r_iconst 57 hX dX1_read_56 rfl 1 ic_1 ?_
        refine r_goto 61 hX dX1_read_57 (by decide) ?_
        exact w_X1_read_b61 hX hR hK31 _ _ _ hw
set_option maxRecDepth 20000 in
set_option maxHeartbeats 4000000 in
theorem w_X1_read_l31 {X : Cx} {Q : RV → St → Prop} (hX : CxB X RX1 cX1_read 5 (12)) (hR : CxR X (some .int) Q) (n : Nat) : ∀ (x4 : Int32) (σ : St), wp_X1_read_l31 (aI Q)  n x4 σ → At X 5 31 [(0, .ref (X.kad 2)), (3, .ref (X.kad 9)), (4, .int (x4))] [] σ := by
  induction n with
  | zero => intro x4 σ h; exact h.elim
  | succ n ih => intro x4 σ h; exact w_X1_read_b31  hX hR ih x4 σ h
set_option maxRecDepth 20000 in
set_option maxHeartbeats 4000000 in
theorem c_X1_read (x2 : Int32) : Con yX1_read cX1_read 5 (some .int) (12) (fun ad => [.ref (ad 2), .ref (ad 1), .int (x2), .ref (ad 9)]) (fun Q σ => wp_X1_read x2 (aI Q) σ) := by
  refine con_intro (by decide +kernel) (fun _ => Nat.le_of_ble_eq_true rfl) (by omega) (fun X Q σ hX hR hw => ?_)
  have hX : CxB X RX1 cX1_read 5 (12) := hX
  unfold wp_X1_read at hw
  show At X 5 0 [(0, .ref (X.kad 2)), (1, .ref (X.kad 1)), (2, .int (x2)), (3, .ref (X.kad 9))] [] σ
  refine r_aload_n 1 hX dX1_read_0 rfl rfl 0 rfl ?_
  refine r_aload_n 2 hX dX1_read_1 rfl rfl 1 rfl ?_
  refine p_bytes 5 hX dX1_read_2 rfl ?_
  refine r_aload_n 6 hX dX1_read_5 rfl rfl 0 rfl ?_
  refine r_iload_n 7 hX dX1_read_6 rfl rfl 2 rfl ?_
  refine r_aload_n 8 hX dX1_read_7 rfl rfl 1 rfl ?_
  refine r_alen 9 hX sh_1 (by decide) dX1_read_8 rfl ?_
  refine r_mmin 12 hX tw_262 tw_105 tw_77 tw_106 (Nat.le_of_ble_eq_true rfl) dX1_read_9 rfl ?_
  refine r_topi hw (fun v9 hw => ?_)
  refine p_X1_21_2 15 hX dX1_read_12 rfl ?_
  refine r_aload_n 16 hX dX1_read_15 rfl rfl 0 rfl ?_
  refine r_iconst 17 hX dX1_read_16 rfl 0 ic_0 ?_
  refine p_X1_25_2 20 hX dX1_read_17 rfl ?_
  refine r_aload_n 21 hX dX1_read_20 rfl rfl 3 rfl ?_
  refine k_X1_28_X4_reset 24 hX (by omega)  (Nat.le_of_ble_eq_true rfl) dX1_read_21 rfl hw (fun σ21 hw => ?_)
  refine r_aload_n 25 hX dX1_read_24 rfl rfl 0 rfl ?_
  refine k_X1_33_X1_advance 28 hX (by omega)  (Nat.le_of_ble_eq_true rfl) dX1_read_25 rfl hw (fun σ25 hw => ?_)
  refine r_iconst 29 hX dX1_read_28 rfl 0 ic_0 ?_
  refine r_istore (lv' := [(4, .int (0)), (0, .ref (X.kad 2)), (1, .ref (X.kad 1)), (2, .int (x2)), (3, .ref (X.kad 9))]) 31 hX dX1_read_29 rfl (by decide) rfl ?_
  refine r_sub [1, 4, 0] rfl ?_
  obtain ⟨n, hw⟩ := hw
  exact w_X1_read_l31 hX hR n _ _ hw
