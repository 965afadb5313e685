set_option maxRecDepth 20000 in
set_option maxHeartbeats 4000000 in
theorem c_X6_hasQuarter (x0 : Int32) : Con yX6_hasQuarter cX6_hasQuarter 1 (some .boolean) (1) (fun ad => [.int (x0)]) (fun Q σ => wp_X6_hasQuarter x0 (aI Q) σ) := by
  refine con_intro (by decide +kernel) (fun _ => Nat.le_of_ble_eq_true rfl) (by omega) (fun X Q σ hX hR hw => ?_)
  have hX : CxB X RX6 cX6_hasQuarter 1 (1) := hX
  unfold wp_X6_hasQuarter at hw
  show At X 1 0 [(0, .int (x0))] [] σ
  refine r_iload_n 1 hX dX6_hasQuarter_0 rfl rfl 0 rfl ?_
  refine r_if_lt 13 4 hX dX6_hasQuarter_1 (by decide) rfl hw (fun hw => ?_) (fun hw => ?_)
  · refine r_iconst 14 hX dX6_hasQuarter_13 rfl 0 ic_0 ?_
    exact r_zret hX hR narrow_b0 dX6_hasQuarter_14 hw
  · refine r_iload_n 5 hX dX6_hasQuarter_4 rfl rfl 0 rfl ?_
    refine r_iconst 6 hX dX6_hasQuarter_5 rfl 4 ic_4 ?_
    refine r_icmp_ge 13 9 hX dX6_hasQuarter_6 (by decide) rfl hw (fun hw => ?_) (fun hw => ?_)
    · refine r_iconst 14 hX dX6_hasQuarter_13 rfl 0 ic_0 ?_
      exact r_zret hX hR narrow_b0 dX6_hasQuarter_14 hw
    · refine r_iconst 10 hX dX6_hasQuarter_9 rfl 1 ic_1 ?_
      refine r_goto 14 hX dX6_hasQuarter_10 (by decide) ?_
      exact r_zret hX hR narrow_b1 dX6_hasQuarter_14 hw
set_option maxRecDepth 20000 in
set_option maxHeartbeats 4000000 in
theorem c_X6_isSet (x1 : Int32) : Con yX6_isSet cX6_isSet 2 (some .boolean) (1) (fun ad => [.ref (ad 0), .int (x1)]) (fun Q σ => wp_X6_isSet x1 (aI Q) σ) := by
  refine con_intro (by decide +kernel) (fun _ => Nat.le_of_ble_eq_true rfl) (by omega) (fun X Q σ hX hR hw => ?_)
  have hX : CxB X RX6 cX6_isSet 2 (1) := hX
  unfold wp_X6_isSet at hw
  show At X 2 0 [(0, .ref (X.kad 0)), (1, .int (x1))] [] σ
  refine r_iload_n 1 hX dX6_isSet_0 rfl rfl 1 rfl ?_
  refine r_iconst 2 hX dX6_isSet_1 rfl 1 ic_1 ?_
  refine r_icmp_lt 22 5 hX dX6_isSet_2 (by decide) rfl hw (fun hw => ?_) (fun hw => ?_)
  · refine r_iconst 23 hX dX6_isSet_22 rfl 0 ic_0 ?_
    exact r_zret hX hR narrow_b0 dX6_isSet_23 hw
  · refine r_iload_n 6 hX dX6_isSet_5 rfl rfl 1 rfl ?_
    refine r_iconst 7 hX dX6_isSet_6 rfl 1 ic_1 ?_
    refine r_aload_n 8 hX dX6_isSet_7 rfl rfl 0 rfl ?_
    refine g_X6_23_0 11 hX dX6_isSet_8 rfl ?_
    refine g_X6_101_4 14 hX dX6_isSet_11 rfl ?_
    refine r_ishl 15 hX dX6_isSet_14 rfl ?_
    refine r_icmp_ge 22 18 hX dX6_isSet_15 (by decide) rfl hw (fun hw => ?_) (fun hw => ?_)
    · refine r_iconst 23 hX dX6_isSet_22 rfl 0 ic_0 ?_
      exact r_zret hX hR narrow_b0 dX6_isSet_23 hw
    · refine r_iconst 19 hX dX6_isSet_18 rfl 1 ic_1 ?_
      refine r_goto 23 hX dX6_isSet_19 (by decide) ?_
      exact r_zret hX hR narrow_b1 dX6_isSet_23 hw
set_option maxRecDepth 20000 in
set_option maxHeartbeats 4000000 in
theorem c_X6_placeBeside (x0 : Int32) : Con yX6_placeBeside cX6_placeBeside 1 (some .int) (1) (fun ad => [.int (x0)]) (fun Q σ => wp_X6_placeBeside x0 (aI Q) σ) := by
  refine con_intro (by decide +kernel) (fun _ => Nat.le_of_ble_eq_true rfl) (by omega) (fun X Q σ hX hR hw => ?_)
  have hX : CxB X RX6 cX6_placeBeside 1 (1) := hX
  unfold wp_X6_placeBeside at hw
  show At X 1 0 [(0, .int (x0))] [] σ
  refine r_iload_n 1 hX dX6_placeBeside_0 rfl rfl 0 rfl ?_
  refine r_iconst 2 hX dX6_placeBeside_1 rfl 1 ic_1 ?_
  refine r_iand 3 hX dX6_placeBeside_2 rfl ?_
  refine r_if_ne 8 6 hX dX6_placeBeside_3 (by decide) rfl hw (fun hw => ?_) (fun hw => ?_)
  · refine r_iload_n 9 hX dX6_placeBeside_8 rfl rfl 0 rfl ?_
    refine r_iconst 10 hX dX6_placeBeside_9 rfl 2 ic_2 ?_
    refine r_iand 11 hX dX6_placeBeside_10 rfl ?_
    refine r_if_ne 18 14 hX dX6_placeBeside_11 (by decide) rfl hw (fun hw => ?_) (fun hw => ?_)
    · refine r_iconst 19 hX dX6_placeBeside_18 rfl 2 ic_2 ?_
      exact r_iret hX hR dX6_placeBeside_19 hw
    · refine r_iconst 15 hX dX6_placeBeside_14 rfl 1 ic_1 ?_
      refine r_goto 19 hX dX6_placeBeside_15 (by decide) ?_
      exact r_iret hX hR dX6_placeBeside_19 hw
  · refine r_iconst 7 hX dX6_placeBeside_6 rfl 0 ic_0 ?_
    exact r_iret hX hR dX6_placeBeside_7 hw
theorem k_X6_211_X3_prepare {X : Cx} {cc : ByteArray} {nL d pc : Nat} {lv : List (Nat × Value)} {rest : List Value} {σ : St} {K : St → Prop} (q : Nat) (hX : CxB X RX6 cc nL d) (hdc : 3 + 1 ≤ d) (x2 : Int32) (x3 : Int32) (hst : (rest.map fun v => v.category).sum ≤ 8) (hd : decode cc pc = .ok (.invokevirtual 211, 3)) (hq : pc + 3 = q) (hw : wp_X3_prepare x2 x3 K σ) (kk : ∀ (τ : St), K τ → At X nL q lv (rest) τ) : At X nL pc lv (.int (x3) :: .int (x2) :: .ref (X.kad 4) :: .ref (X.kad 49) :: rest) σ := r_callV (n := 3) q hX (k0 := 49) (c_X3_prepare x2 x3) tw_314 tw_315 tw_316 tw_144 tw_317 ⟨by decide +kernel, by decide +kernel, by decide +kernel⟩ hdc (by decide) (As := [.ref (X.kad 4), .int (x2), .int (x3)]) rfl rfl (by decide) ⟨_, _, _, rfl, rfl, rfl⟩ hst hd hq rfl (K := qV K) hw (kV kk)
theorem k_X6_201_X3_put {X : Cx} {cc : ByteArray} {nL d pc : Nat} {lv : List (Nat × Value)} {rest : List Value} {σ : St} {K : St → Prop} (q : Nat) (hX : CxB X RX6 cc nL d) (hdc : 1 + 1 ≤ d) (x1 : Int32) (x2 : Int32) (x3 : Int32) (hst : (rest.map fun v => v.category).sum ≤ 8) (hd : decode cc pc = .ok (.invokevirtual 201, 3)) (hq : pc + 3 = q) (hw : wp_X3_put x1 x2 x3 K σ) (kk : ∀ (τ : St), K τ → At X nL q lv (rest) τ) : At X nL pc lv (.int (x3) :: .int (x2) :: .int (x1) :: .ref (X.kad 49) :: rest) σ := r_callV (n := 3) q hX (k0 := 49) (c_X3_put x1 x2 x3) tw_320 tw_321 tw_322 tw_144 tw_323 ⟨by decide +kernel, by decide +kernel, by decide +kernel⟩ hdc (by decide) (As := [.int (x1), .int (x2), .int (x3)]) rfl rfl (by decide) ⟨_, _, _, rfl, rfl, rfl⟩ hst hd hq rfl (K := qV K) hw (kV kk)
set_option maxRecDepth 20000 in
set_option maxHeartbeats 4000000 in
theorem w_X6_putSet_b20 {X : Cx} {Q : RV → St → Prop} (hX : CxB X RX6 cX6_putSet 3 (4)) (hR : CxR X (none) Q) {K20 : Int32 → Int32 → St → Prop} (hK20 : ∀ (x1 : Int32) (x2 : Int32) (σ : St), K20 x1 x2 σ → At X 3 20 [(0, .ref (X.kad 0)), (1, .int (x1)), (2, .int (x2))] [] σ) (x1 : Int32) (x2 : Int32) (σ : St) (hw : wp_X6_putSet_b20 (aV Q) K20 x1 x2 σ) : At X 3 20 [(0, .ref (X.kad 0)), (1, .int (x1)), (2, .int (x2))] [] σ := by
  unfold wp_X6_putSet_b20 at hw
  refine r_iload_n 21 hX dX6_putSet_20 rfl rfl 2 rfl ?_
  refine r_aload_n 22 hX dX6_putSet_21 rfl rfl 0 rfl ?_
  refine g_X6_23_0 25 hX dX6_putSet_22 rfl ?_
  refine g_X6_101_4 28 hX dX6_putSet_25 rfl ?_
  refine r_icmp_ge 71 31 hX dX6_putSet_28 (by decide) rfl hw (fun hw => ?_) (fun hw => ?_)
  · exact r_vret hX hR dX6_putSet_71 hw
  · refine r_iload_n 32 hX dX6_putSet_31 rfl rfl 1 rfl ?_
    refine r_iload_n 33 hX dX6_putSet_32 rfl rfl 2 rfl ?_
    refine r_ishr 34 hX dX6_putSet_33 rfl ?_
    refine r_iconst 35 hX dX6_putSet_34 rfl 1 ic_1 ?_
    refine r_iand 36 hX dX6_putSet_35 rfl ?_
    refine r_if_eq 65 39 hX dX6_putSet_36 (by decide) rfl hw (fun hw => ?_) (fun hw => ?_)
    · refine r_iinc (lv' := [(2, .int (x2 + 1)), (0, .ref (X.kad 0)), (1, .int (x1))]) 68 hX dX6_putSet_65 rfl 2 rfl (x2 + 1) (ici_1 _) (by decide) rfl ?_
      refine r_goto 20 hX dX6_putSet_68 (by decide) ?_
      refine r_sub [1, 2, 0] rfl ?_
      exact hK20 _ _ _ hw
    · refine r_aload_n 40 hX dX6_putSet_39 rfl rfl 0 rfl ?_
      refine g_X6_73_0 43 hX dX6_putSet_40 rfl ?_
      refine r_iload_n 44 hX dX6_putSet_43 rfl rfl 2 rfl ?_
      refine r_aload_n 45 hX dX6_putSet_44 rfl rfl 0 rfl ?_
      refine g_X6_23_0 48 hX dX6_putSet_45 rfl ?_
      refine g_X6_118_4 51 hX dX6_putSet_48 rfl ?_
      refine r_iload_n 52 hX dX6_putSet_51 rfl rfl 2 rfl ?_
      refine r_iald 53 hX sh_6 dX6_putSet_52 rfl hw (fun hw => ?_)
      refine r_aload_n 54 hX dX6_putSet_53 rfl rfl 0 rfl ?_
      refine g_X6_23_0 57 hX dX6_putSet_54 rfl ?_
      refine g_X6_121_4 60 hX dX6_putSet_57 rfl ?_
      refine r_iload_n 61 hX dX6_putSet_60 rfl rfl 2 rfl ?_
      refine r_iald 62 hX sh_7 dX6_putSet_61 rfl hw (fun hw => ?_)
      refine k_X6_201_X3_put 65 hX (by omega) (x2) (σ.1 6 x2.toNatClampNeg) (σ.1 7 x2.toNatClampNeg) (Nat.le_of_ble_eq_true rfl) dX6_putSet_62 rfl hw (fun σ62 hw => ?_)
      refine r_iinc (lv' := [(2, .int (x2 + 1)), (0, .ref (X.kad 0)), (1, .int (x1))]) 68 hX dX6_putSet_65 rfl 2 rfl (x2 + 1) (ici_1 _) (by decide) rfl ?_
      refine r_goto 20 hX dX6_putSet_68 (by decide) ?_
      refine r_sub [1, 2, 0] rfl ?_
      exact hK20 _ _ _ hw
set_option maxRecDepth 20000 in
set_option maxHeartbeats 4000000 in
theorem w_X6_putSet_l20 {X : Cx} {Q : RV → St → Prop} (hX : CxB X RX6 cX6_putSet 3 (4)) (hR : CxR X (none) Q) (n : Nat) : ∀ (x1 : Int32) (x2 : Int32) (σ : St), wp_X6_putSet_l20 (aV Q)  n x1 x2 σ → At X 3 20 [(0, .ref (X.kad 0)), (1, .int (x1)), (2, .int (x2))] [] σ := by
  induction n with
  | zero => intro x1 x2 σ h; exact h.elim
  | succ n ih => intro x1 x2 σ h; exact w_X6_putSet_b20  hX hR ih x1 x2 σ h
set_option maxRecDepth 20000 in
set_option maxHeartbeats 4000000 in
theorem c_X6_putSet (x1 : Int32) : Con yX6_putSet cX6_putSet 3 (none) (4) (fun ad => [.ref (ad 0), .int (x1)]) (fun Q σ => wp_X6_putSet x1 (aV Q) σ) := by
  refine con_intro (by decide +kernel) (fun _ => Nat.le_of_ble_eq_true rfl) (by omega) (fun X Q σ hX hR hw => ?_)
  have hX : CxB X RX6 cX6_putSet 3 (4) := hX
  unfold wp_X6_putSet at hw
  show At X 3 0 [(0, .ref (X.kad 0)), (1, .int (x1))] [] σ
  refine r_aload_n 1 hX dX6_putSet_0 rfl rfl 0 rfl ?_
  refine g_X6_73_0 4 hX dX6_putSet_1 rfl ?_
  refine r_aload_n 5 hX dX6_putSet_4 rfl rfl 0 rfl ?_
  refine g_X6_23_0 8 hX dX6_putSet_5 rfl ?_
  refine r_aload_n 9 hX dX6_putSet_8 rfl rfl 0 rfl ?_
  refine g_X6_30_0 12 hX dX6_putSet_9 rfl ?_
  refine r_iconst 13 hX dX6_putSet_12 rfl 0 ic_0 ?_
  refine r_iald 14 hX sh_14 dX6_putSet_13 rfl hw (fun hw => ?_)
  refine r_iconst 15 hX dX6_putSet_14 rfl 0 ic_0 ?_
  refine k_X6_211_X3_prepare 18 hX (by omega) (σ.1 14 (0 : Int32).toNatClampNeg) (0) (Nat.le_of_ble_eq_true rfl) dX6_putSet_15 rfl hw (fun σ15 hw => ?_)
  refine r_iconst 19 hX dX6_putSet_18 rfl 0 ic_0 ?_
  refine r_istore_n (lv' := [(2, .int (0)), (0, .ref (X.kad 0)), (1, .int (x1))]) 20 hX dX6_putSet_19 rfl rfl (by decide) rfl ?_
  refine r_sub [1, 2, 0] rfl ?_
  obtain ⟨n, hw⟩ := hw
  exact w_X6_putSet_l20 hX hR n _ _ _ hw
theorem k_X6_186_J6_bitCount_0f7a4 {X : Cx} {cc : ByteArray} {nL d pc : Nat} {lv : List (Nat × Value)} {rest : List Value} {σ : St} {K : Int32 → St → Prop} (q : Nat) (hX : CxB X RX6 cc nL d) (hdc : 1 + 1 ≤ d) (x0 : Int32) (hst : (rest.map fun v => v.category).sum ≤ 8) (hd : decode cc pc = .ok (.invokestatic 186, 3)) (hq : pc + 3 = q) (hw : wp_J6_bitCount_0f7a4 x0 K σ) (kk : ∀ (r : Int32) (τ : St), K r τ → At X nL q lv (.int r :: rest) τ) : At X nL pc lv (.int (x0) :: rest) σ := r_callS (n := 1) q hX (c_J6_bitCount_0f7a4 x0) tw_324 tw_27 tw_28 tw_29 ⟨by decide +kernel, by decide +kernel, by decide +kernel⟩ hdc (by decide) (As := [.int (x0)]) rfl rfl hst hd hq rfl (K := qI K) hw (kI kk)
theorem k_X6_170_X6_putSet {X : Cx} {cc : ByteArray} {nL d pc : Nat} {lv : List (Nat × Value)} {rest : List Value} {σ : St} {K : St → Prop} (q : Nat) (hX : CxB X RX6 cc nL d) (hdc : 4 + 1 ≤ d) (x1 : Int32) (hst : (rest.map fun v => v.category).sum ≤ 8) (hd : decode cc pc = .ok (.invokevirtual 170, 3)) (hq : pc + 3 = q) (hw : wp_X6_putSet x1 K σ) (kk : ∀ (τ : St), K τ → At X nL q lv (rest) τ) : At X nL pc lv (.int (x1) :: .ref (X.kad 0) :: rest) σ := r_callV (n := 1) q hX (k0 := 0) (c_X6_putSet x1) tw_325 tw_326 tw_327 tw_328 tw_329 ⟨by decide +kernel, by decide +kernel, by decide +kernel⟩ hdc (by decide) (As := [.int (x1)]) rfl rfl (by decide) ⟨_, _, _, rfl, rfl, rfl⟩ hst hd hq rfl (K := qV K) hw (kV kk)
theorem k_X6_205_X3_findsAny {X : Cx} {cc : ByteArray} {nL d pc : Nat} {lv : List (Nat × Value)} {rest : List Value} {σ : St} {K : Int32 → St → Prop} (q : Nat) (hX : CxB X RX6 cc nL d) (hdc : 122 + 1 ≤ d) (hst : (rest.map fun v => v.category).sum ≤ 8) (hd : decode cc pc = .ok (.invokevirtual 205, 3)) (hq : pc + 3 = q) (hw : wp_X3_findsAny  K σ) (kk : ∀ (r : Int32) (τ : St), K r τ → At X nL q lv (.int r :: rest) τ) : At X nL pc lv (.ref (X.kad 49) :: rest) σ := r_callV (n := 0) q hX (k0 := 49) (c_X3_findsAny ) tw_330 tw_331 tw_332 tw_144 tw_333 ⟨by decide +kernel, by decide +kernel, by decide +kernel⟩ hdc (by decide) (As := []) rfl rfl (by decide) ⟨_, _, _, rfl, rfl, rfl⟩ hst hd hq rfl (K := qI K) hw (kI kk)
set_option maxRecDepth 20000 in
set_option maxHeartbeats 4000000 in
theorem w_X6_sharedSet_b15 {X : Cx} {Q : RV → St → Prop} (hX : CxB X RX6 cX6_sharedSet 3 (123)) (hR : CxR X (some .int) Q) {K8 : Int32 → St → Prop} (hK8 : ∀ (x1 : Int32) (σ : St), K8 x1 σ → At X 3 8 [(0, .ref (X.kad 0)), (1, .int (x1))] [] σ) {K15 : Int32 → Int32 → St → Prop} (hK15 : ∀ (x1 : Int32) (x2 : Int32) (σ : St), K15 x1 x2 σ → At X 3 15 [(0, .ref (X.kad 0)), (1, .int (x1)), (2, .int (x2))] [] σ) (x1 : Int32) (x2 : Int32) (σ : St) (hw : wp_X6_sharedSet_b15 (aI Q) K8 K15 x1 x2 σ) : At X 3 15 [(0, .ref (X.kad 0)), (1, .int (x1)), (2, .int (x2))] [] σ := by
  unfold wp_X6_sharedSet_b15 at hw
  refine r_iload_n 16 hX dX6_sharedSet_15 rfl rfl 2 rfl ?_
  refine r_iconst 17 hX dX6_sharedSet_16 rfl 1 ic_1 ?_
  refine r_aload_n 18 hX dX6_sharedSet_17 rfl rfl 0 rfl ?_
  refine g_X6_23_0 21 hX dX6_sharedSet_18 rfl ?_
  refine g_X6_101_4 24 hX dX6_sharedSet_21 rfl ?_
  refine r_ishl 25 hX dX6_sharedSet_24 rfl ?_
  refine r_icmp_ge 59 28 hX dX6_sharedSet_25 (by decide) rfl hw (fun hw => ?_) (fun hw => ?_)
  · refine r_iinc (lv' := [(1, .int (x1 + (-1))), (0, .ref (X.kad 0)), (2, .int (x2))]) 62 hX dX6_sharedSet_59 rfl 1 rfl (x1 + (-1)) (ici_m1 _) (by decide) rfl ?_
    refine r_goto 8 hX dX6_sharedSet_62 (by decide) ?_
    refine r_sub [1, 0] rfl ?_
    exact hK8 _ _ hw
  · refine r_iload_n 29 hX dX6_sharedSet_28 rfl rfl 2 rfl ?_
    refine k_X6_186_J6_bitCount_0f7a4 32 hX (by omega) (x2) (Nat.le_of_ble_eq_true rfl) dX6_sharedSet_29 rfl hw (fun r29 σ29 hw => ?_)
    refine r_iload_n 33 hX dX6_sharedSet_32 rfl rfl 1 rfl ?_
    refine r_icmp_ne 53 36 hX dX6_sharedSet_33 (by decide) rfl hw (fun hw => ?_) (fun hw => ?_)
    · refine r_iinc (lv' := [(2, .int (x2 + 1)), (0, .ref (X.kad 0)), (1, .int (x1))]) 56 hX dX6_sharedSet_53 rfl 2 rfl (x2 + 1) (ici_1 _) (by decide) rfl ?_
      refine r_goto 15 hX dX6_sharedSet_56 (by decide) ?_
      refine r_sub [1, 2, 0] rfl ?_
      exact hK15 _ _ _ hw
    · refine r_aload_n 37 hX dX6_sharedSet_36 rfl rfl 0 rfl ?_
      refine r_iload_n 38 hX dX6_sharedSet_37 rfl rfl 2 rfl ?_
      refine k_X6_170_X6_putSet 41 hX (by omega) (x2) (Nat.le_of_ble_eq_true rfl) dX6_sharedSet_38 rfl hw (fun σ38 hw => ?_)
      refine r_aload_n 42 hX dX6_sharedSet_41 rfl rfl 0 rfl ?_
      refine g_X6_73_0 45 hX dX6_sharedSet_42 rfl ?_
      refine k_X6_205_X3_findsAny 48 hX (by omega)  (Nat.le_of_ble_eq_true rfl) dX6_sharedSet_45 rfl hw (fun r45 σ45 hw => ?_)
      refine r_if_eq 53 51 hX dX6_sharedSet_48 (by decide) rfl hw (fun hw => ?_) (fun hw => ?_)
      · refine r_iinc (lv' := [(2, .int (x2 + 1)), (0, .ref (X.kad 0)), (1, .int (x1))]) 56 hX dX6_sharedSet_53 rfl 2 rfl (x2 + 1) (ici_1 _) (by decide) rfl ?_
        refine r_goto 15 hX dX6_sharedSet_56 (by decide) ?_
        refine r_sub [1, 2, 0] rfl ?_
        exact hK15 _ _ _ hw
      · refine r_iload_n 52 hX dX6_sharedSet_51 rfl rfl 2 rfl ?_
        exact r_iret hX hR dX6_sharedSet_52 hw
set_option maxRecDepth 20000 in
set_option maxHeartbeats 4000000 in
theorem w_X6_sharedSet_l15 {X : Cx} {Q : RV → St → Prop} (hX : CxB X RX6 cX6_sharedSet 3 (123)) (hR : CxR X (some .int) Q) {K8 : Int32 → St → Prop} (hK8 : ∀ (x1 : Int32) (σ : St), K8 x1 σ → At X 3 8 [(0, .ref (X.kad 0)), (1, .int (x1))] [] σ) (n : Nat) : ∀ (x1 : Int32) (x2 : Int32) (σ : St), wp_X6_sharedSet_l15 (aI Q) K8 n x1 x2 σ → At X 3 15 [(0, .ref (X.kad 0)), (1, .int (x1)), (2, .int (x2))] [] σ := by
  induction n with
  | zero => intro x1 x2 σ h; exact h.elim
  | succ n ih => intro x1 x2 σ h; exact w_X6_sharedSet_b15  hX hR hK8 ih x1 x2 σ h
set_option maxRecDepth 20000 in
set_option maxHeartbeats 4000000 in
theorem w_X6_sharedSet_b8 {X : Cx} {Q : RV → St → Prop} (hX : CxB X RX6 cX6_sharedSet 3 (123)) (hR : CxR X (some .int) Q) {K8 : Int32 → St → Prop} (hK8 : ∀ (x1 : Int32) (σ : St), K8 x1 σ → At X 3 8 [(0, .ref (X.kad 0)), (1, .int (x1))] [] σ) (x1 : Int32) (σ : St) (hw : wp_X6_sharedSet_b8 (aI Q) K8 x1 σ) : At X 3 8 [(0, .ref (X.kad 0)), (1, .int (x1))] [] σ := by
  unfold wp_X6_sharedSet_b8 at hw
  refine r_iload_n 9 hX dX6_sharedSet_8 rfl rfl 1 rfl ?_
  refine r_iconst 10 hX dX6_sharedSet_9 rfl 1 ic_1 ?_
  refine r_icmp_lt 65 13 hX dX6_sharedSet_10 (by decide) rfl hw (fun hw => ?_) (fun hw => ?_)
  · refine r_iconst 66 hX dX6_sharedSet_65 rfl 0 ic_0 ?_
    exact r_iret hX hR dX6_sharedSet_66 hw
  · refine r_iconst 14 hX dX6_sharedSet_13 rfl 1 ic_1 ?_
    refine r_istore_n (lv' := [(2, .int (1)), (0, .ref (X.kad 0)), (1, .int (x1))]) 15 hX dX6_sharedSet_14 rfl rfl (by decide) rfl ?_
    refine r_sub [1, 2, 0] rfl ?_
    obtain ⟨n, hw⟩ := hw
    exact w_X6_sharedSet_l15 hX hR hK8 n _ _ _ hw
set_option maxRecDepth 20000 in
set_option maxHeartbeats 4000000 in
theorem w_X6_sharedSet_l8 {X : Cx} {Q : RV → St → Prop} (hX : CxB X RX6 cX6_sharedSet 3 (123)) (hR : CxR X (some .int) Q) (n : Nat) : ∀ (x1 : Int32) (σ : St), wp_X6_sharedSet_l8 (aI Q)  n x1 σ → At X 3 8 [(0, .ref (X.kad 0)), (1, .int (x1))] [] σ := by
  induction n with
  | zero => intro x1 σ h; exact h.elim
  | succ n ih => intro x1 σ h; exact w_X6_sharedSet_b8  hX hR ih x1 σ h
set_option maxRecDepth 20000 in
set_option maxHeartbeats 4000000 in
theorem c_X6_sharedSet : Con yX6_sharedSet cX6_sharedSet 3 (some .int) (123) (fun ad => [.ref (ad 0)]) (fun Q σ => wp_X6_sharedSet  (aI Q) σ) := by
  refine con_intro (by decide +kernel) (fun _ => Nat.le_of_ble_eq_true rfl) (by omega) (fun X Q σ hX hR hw => ?_)
  have hX : CxB X RX6 cX6_sharedSet 3 (123) := hX
  unfold wp_X6_sharedSet at hw
  show At X 3 0 [(0, .ref (X.kad 0))] [] σ
  refine r_aload_n 1 hX dX6_sharedSet_0 rfl rfl 0 rfl ?_
  refine g_X6_23_0 4 hX dX6_sharedSet_1 rfl ?_
  refine g_X6_101_4 7 hX dX6_sharedSet_4 rfl ?_
  refine r_istore_n (lv' := [(1, .int (σ.1 4 3)), (0, .ref (X.kad 0))]) 8 hX dX6_sharedSet_7 rfl rfl (by decide) rfl ?_
  refine r_sub [1, 0] rfl ?_
  obtain ⟨n, hw⟩ := hw
  exact w_X6_sharedSet_l8 hX hR n _ _ hw
set_option maxRecDepth 20000 in
set_option maxHeartbeats 4000000 in
theorem c_X6_doors (x1 : Int32) : Con yX6_doors cX6_doors 5 (some .int) (1) (fun ad => [.ref (ad 0), .int (x1)]) (fun Q σ => wp_X6_doors x1 (aI Q) σ) := by
  refine con_intro (by decide +kernel) (fun _ => Nat.le_of_ble_eq_true rfl) (by omega) (fun X Q σ hX hR hw => ?_)
  have hX : CxB X RX6 cX6_doors 5 (1) := hX
  unfold wp_X6_doors at hw
  show At X 5 0 [(0, .ref (X.kad 0)), (1, .int (x1))] [] σ
  refine r_aload_n 1 hX dX6_doors_0 rfl rfl 0 rfl ?_
  refine g_X6_30_0 4 hX dX6_doors_1 rfl ?_
  refine r_iconst 5 hX dX6_doors_4 rfl 4 ic_4 ?_
  refine r_iald 6 hX sh_14 dX6_doors_5 rfl hw (fun hw => ?_)
  refine r_istore_n (lv' := [(2, .int (σ.1 14 (4 : Int32).toNatClampNeg)), (0, .ref (X.kad 0)), (1, .int (x1))]) 7 hX dX6_doors_6 rfl rfl (by decide) rfl ?_
  refine r_iload_n 8 hX dX6_doors_7 rfl rfl 2 rfl ?_
  refine r_iconst 9 hX dX6_doors_8 rfl 1 ic_1 ?_
  refine r_iadd 10 hX dX6_doors_9 rfl ?_
  refine r_iconst 11 hX dX6_doors_10 rfl 2 ic_2 ?_
  refine r_iload_n 12 hX dX6_doors_11 rfl rfl 0 rfl ?_
  refine r_iconst 13 hX dX6_doors_12 rfl 1 ic_1 ?_
  refine r_iadd 14 hX dX6_doors_13 rfl ?_
  refine r_imul 15 hX dX6_doors_14 rfl ?_
  refine r_isub 16 hX dX6_doors_15 rfl ?_
  refine r_topi hw (fun v16 hw => ?_)
  refine r_istore_n (lv' := [(3, .int (v16)), (2, .int (σ.1 14 (4 : Int32).toNatClampNeg)), (0, .ref (X.kad 0)), (1, .int (x1))]) 17 hX dX6_doors_16 rfl rfl (by decide) rfl ?_
  refine r_iconst 18 hX dX6_doors_17 rfl 2 ic_2 ?_
  refine r_iload_n 19 hX dX6_doors_18 rfl rfl 1 rfl ?_
  refine r_imul 20 hX dX6_doors_19 rfl ?_
  refine r_iconst 21 hX dX6_doors_20 rfl 1 ic_1 ?_
  refine r_iadd 22 hX dX6_doors_21 rfl ?_
  refine r_topi hw (fun v22 hw => ?_)
  refine r_istore (lv' := [(4, .int (v22)), (3, .int (v16)), (2, .int (σ.1 14 (4 : Int32).toNatClampNeg)), (0, .ref (X.kad 0)), (1, .int (x1))]) 24 hX dX6_doors_22 rfl (by decide) rfl ?_
  refine r_iload_n 25 hX dX6_doors_24 rfl rfl 1 rfl ?_
  refine r_if_le 33 28 hX dX6_doors_25 (by decide) rfl hw (fun hw => ?_) (fun hw => ?_)
  · refine r_iconst 34 hX dX6_doors_33 rfl 0 ic_0 ?_
    refine r_goto 46 hX dX6_doors_34 (by decide) ?_
    exact r_iret hX hR dX6_doors_46 hw
  · refine r_iload 30 hX dX6_doors_28 rfl 0 rfl ?_
    refine r_if_gt 37 33 hX dX6_doors_30 (by decide) rfl hw (fun hw => ?_) (fun hw => ?_)
    · refine r_iload_n 38 hX dX6_doors_37 rfl rfl 1 rfl ?_
      refine r_iload 40 hX dX6_doors_38 rfl 0 rfl ?_
      refine r_iadd 41 hX dX6_doors_40 rfl ?_
      refine r_iconst 42 hX dX6_doors_41 rfl 1 ic_1 ?_
      refine r_isub 43 hX dX6_doors_42 rfl ?_
      refine r_iload 45 hX dX6_doors_43 rfl 0 rfl ?_
      refine r_idiv 46 hX dX6_doors_45 rfl hw (fun hw => ?_)
      exact r_iret hX hR dX6_doors_46 hw
    · refine r_iconst 34 hX dX6_doors_33 rfl 0 ic_0 ?_
      refine r_goto 46 hX dX6_doors_34 (by decide) ?_
      exact r_iret hX hR dX6_doors_46 hw
theorem k_X6_136_X4_hasColumn {X : Cx} {cc : ByteArray} {nL d pc : Nat} {lv : List (Nat × Value)} {rest : List Value} {σ : St} {K : Int32 → St → Prop} (q : Nat) (hX : CxB X RX6 cc nL d) (hdc : 1 + 1 ≤ d) (x1 : Int32) (hst : (rest.map fun v => v.category).sum ≤ 8) (hd : decode cc pc = .ok (.invokevirtual 136, 3)) (hq : pc + 3 = q) (hw : wp_X4_hasColumn x1 K σ) (kk : ∀ (r : Int32) (τ : St), K r τ → At X nL q lv (.int r :: rest) τ) : At X nL pc lv (.int (x1) :: .ref (X.kad 4) :: rest) σ := r_callV (n := 1) q hX (k0 := 4) (c_X4_hasColumn x1) tw_337 tw_11 tw_12 tw_8 tw_13 ⟨by decide +kernel, by decide +kernel, by decide +kernel⟩ hdc (by decide) (As := [.int (x1)]) rfl rfl (by decide) ⟨_, _, _, rfl, rfl, rfl⟩ hst hd hq rfl (K := qI K) hw (kI kk)
theorem k_X6_263_X4_above {X : Cx} {cc : ByteArray} {nL d pc : Nat} {lv : List (Nat × Value)} {rest : List Value} {σ : St} {K : Int32 → St → Prop} (q : Nat) (hX : CxB X RX6 cc nL d) (hdc : 1 + 1 ≤ d) (x1 : Int32) (hst : (rest.map fun v => v.category).sum ≤ 8) (hd : decode cc pc = .ok (.invokevirtual 263, 3)) (hq : pc + 3 = q) (hw : wp_X4_above x1 K σ) (kk : ∀ (r : Int32) (τ : St), K r τ → At X nL q lv (.int r :: rest) τ) : At X nL pc lv (.int (x1) :: .ref (X.kad 4) :: rest) σ := r_callV (n := 1) q hX (k0 := 4) (c_X4_above x1) tw_338 tw_339 tw_340 tw_8 tw_341 ⟨by decide +kernel, by decide +kernel, by decide +kernel⟩ hdc (by decide) (As := [.int (x1)]) rfl rfl (by decide) ⟨_, _, _, rfl, rfl, rfl⟩ hst hd hq rfl (K := qI K) hw (kI kk)
theorem k_X6_236_X2_bends {X : Cx} {cc : ByteArray} {nL d pc : Nat} {lv : List (Nat × Value)} {rest : List Value} {σ : St} {K : Int32 → St → Prop} (q : Nat) (hX : CxB X RX6 cc nL d) (hdc : 1 + 1 ≤ d) (x2 : Int32) (hst : (rest.map fun v => v.category).sum ≤ 8) (hd : decode cc pc = .ok (.invokevirtual 236, 3)) (hq : pc + 3 = q) (hw : wp_X2_bends x2 K σ) (kk : ∀ (r : Int32) (τ : St), K r τ → At X nL q lv (.int r :: rest) τ) : At X nL pc lv (.int (x2) :: .ref (X.kad 4) :: .ref (X.kad 20) :: rest) σ := r_callV (n := 2) q hX (k0 := 20) (c_X2_bends x2) tw_342 tw_343 tw_344 tw_345 tw_346 ⟨by decide +kernel, by decide +kernel, by decide +kernel⟩ hdc (by decide) (As := [.ref (X.kad 4), .int (x2)]) rfl rfl (by decide) ⟨_, _, _, rfl, rfl, rfl⟩ hst hd hq rfl (K := qI K) hw (kI kk)
theorem k_X6_241_X2_coldCourses {X : Cx} {cc : ByteArray} {nL d pc : Nat} {lv : List (Nat × Value)} {rest : List Value} {σ : St} {K : Int32 → St → Prop} (q : Nat) (hX : CxB X RX6 cc nL d) (hdc : 3 + 1 ≤ d) (x2 : Int32) (hst : (rest.map fun v => v.category).sum ≤ 8) (hd : decode cc pc = .ok (.invokevirtual 241, 3)) (hq : pc + 3 = q) (hw : wp_X2_coldCourses x2 K σ) (kk : ∀ (r : Int32) (τ : St), K r τ → At X nL q lv (.int r :: rest) τ) : At X nL pc lv (.int (x2) :: .ref (X.kad 4) :: .ref (X.kad 20) :: rest) σ := r_callV (n := 2) q hX (k0 := 20) (c_X2_coldCourses x2) tw_347 tw_348 tw_349 tw_345 tw_350 ⟨by decide +kernel, by decide +kernel, by decide +kernel⟩ hdc (by decide) (As := [.ref (X.kad 4), .int (x2)]) rfl rfl (by decide) ⟨_, _, _, rfl, rfl, rfl⟩ hst hd hq rfl (K := qI K) hw (kI kk)
set_option maxRecDepth 20000 in
set_option maxHeartbeats 4000000 in
theorem w_X6_strength_b48 {X : Cx} {Q : RV → St → Prop} (hX : CxB X RX6 cX6_strength 6 (4)) (hR : CxR X (some .int) Q) (x1 : Int32) (s0 : Int32) (σ : St) (hw : wp_X6_strength_b48 (aI Q)  x1 s0 σ) : At X 6 48 [(0, .ref (X.kad 0)), (1, .int (x1))] [.int (s0)] σ := by
  unfold wp_X6_strength_b48 at hw
  refine r_istore (lv' := [(5, .int (s0)), (0, .ref (X.kad 0)), (1, .int (x1))]) 50 hX dX6_strength_48 rfl (by decide) rfl ?_
  refine r_aload_n 51 hX dX6_strength_50 rfl rfl 1 rfl ?_
  refine g_X6_30_0 54 hX dX6_strength_51 rfl ?_
  refine r_iconst 55 hX dX6_strength_54 rfl 3 ic_3 ?_
  refine r_iald 56 hX sh_14 dX6_strength_55 rfl hw (fun hw => ?_)
  refine r_aload_n 57 hX dX6_strength_56 rfl rfl 1 rfl ?_
  refine g_X6_23_0 60 hX dX6_strength_57 rfl ?_
  refine r_iload_n 61 hX dX6_strength_60 rfl rfl 2 rfl ?_
  refine k_X6_263_X4_above 64 hX (by omega) (x1) (Nat.le_of_ble_eq_true rfl) dX6_strength_61 rfl hw (fun r61 σ61 hw => ?_)
  refine r_imul 65 hX dX6_strength_64 rfl ?_
  refine r_aload_n 66 hX dX6_strength_65 rfl rfl 1 rfl ?_
  refine g_X6_30_0 69 hX dX6_strength_66 rfl ?_
  refine r_iconst 70 hX dX6_strength_69 rfl 1 ic_1 ?_
  refine r_iald 71 hX sh_14 dX6_strength_70 rfl hw (fun hw => ?_)
  refine r_aload_n 72 hX dX6_strength_71 rfl rfl 1 rfl ?_
  refine g_X6_42_0 75 hX dX6_strength_72 rfl ?_
  refine r_aload_n 76 hX dX6_strength_75 rfl rfl 1 rfl ?_
  refine g_X6_23_0 79 hX dX6_strength_76 rfl ?_
  refine r_iload_n 80 hX dX6_strength_79 rfl rfl 2 rfl ?_
  refine k_X6_236_X2_bends 83 hX (by omega) (x1) (Nat.le_of_ble_eq_true rfl) dX6_strength_80 rfl hw (fun r80 σ80 hw => ?_)
  refine r_imul 84 hX dX6_strength_83 rfl ?_
  refine r_isub 85 hX dX6_strength_84 rfl ?_
  refine r_aload_n 86 hX dX6_strength_85 rfl rfl 1 rfl ?_
  refine g_X6_30_0 89 hX dX6_strength_86 rfl ?_
  refine r_iconst 90 hX dX6_strength_89 rfl 2 ic_2 ?_
  refine r_iald 91 hX sh_14 dX6_strength_90 rfl hw (fun hw => ?_)
  refine r_aload_n 92 hX dX6_strength_91 rfl rfl 1 rfl ?_
  refine g_X6_42_0 95 hX dX6_strength_92 rfl ?_
  refine r_aload_n 96 hX dX6_strength_95 rfl rfl 1 rfl ?_
  refine g_X6_23_0 99 hX dX6_strength_96 rfl ?_
  refine r_iload_n 100 hX dX6_strength_99 rfl rfl 2 rfl ?_
  refine k_X6_241_X2_coldCourses 103 hX (by omega) (x1) (Nat.le_of_ble_eq_true rfl) dX6_strength_100 rfl hw (fun r100 σ100 hw => ?_)
  refine r_imul 104 hX dX6_strength_103 rfl ?_
  refine r_isub 105 hX dX6_strength_104 rfl ?_
  refine r_iload 107 hX dX6_strength_105 rfl 0 rfl ?_
  refine r_iadd 108 hX dX6_strength_107 rfl ?_
  exact r_iret hX hR dX6_strength_108 hw
set_option maxRecDepth 20000 in
set_option maxHeartbeats 4000000 in
theorem c_X6_strength (x1 : Int32) (x2 : Int32) : Con yX6_strength cX6_strength 6 (some .int) (4) (fun ad => [.ref (ad 0), .int (x1), .int (x2)]) (fun Q σ => wp_X6_strength x1 x2 (aI Q) σ) := by
  refine con_intro (by decide +kernel) (fun _ => Nat.le_of_ble_eq_true rfl) (by omega) (fun X Q σ hX hR hw => ?_)
  have hX : CxB X RX6 cX6_strength 6 (4) := hX
  unfold wp_X6_strength at hw
  show At X 6 0 [(0, .ref (X.kad 0)), (1, .int (x1)), (2, .int (x2))] [] σ
  refine r_aload_n 1 hX dX6_strength_0 rfl rfl 0 rfl ?_
  refine g_X6_23_0 4 hX dX6_strength_1 rfl ?_
  refine g_X6_192_4 7 hX dX6_strength_4 rfl ?_
  refine r_iconst 8 hX dX6_strength_7 rfl 1 ic_1 ?_
  refine r_isub 9 hX dX6_strength_8 rfl ?_
  refine r_istore_n (lv' := [(3, .int ((σ.1 4 1) - 1)), (0, .ref (X.kad 0)), (1, .int (x1)), (2, .int (x2))]) 10 hX dX6_strength_9 rfl rfl (by decide) rfl ?_
  refine r_aload_n 11 hX dX6_strength_10 rfl rfl 1 rfl ?_
  refine g_X6_42_0 14 hX dX6_strength_11 rfl ?_
  refine g_X6_218_20 17 hX dX6_strength_14 rfl ?_
  refine r_iload_n 18 hX dX6_strength_17 rfl rfl 2 rfl ?_
  refine r_aald 19 hX sh_21 dX6_strength_18 rfl hw (fun hv18 hw => ?_)
  refine r_iload_n 20 hX dX6_strength_19 rfl rfl 0 rfl ?_
  refine r_iald 21 hX (shr_21 hv18) dX6_strength_20 rfl hw (fun hw => ?_)
  refine r_topi hw (fun v21 hw => ?_)
  refine r_istore (lv' := [(4, .int (v21)), (3, .int ((σ.1 4 1) - 1)), (0, .ref (X.kad 0)), (1, .int (x1)), (2, .int (x2))]) 23 hX dX6_strength_21 rfl (by decide) rfl ?_
  refine r_aload_n 24 hX dX6_strength_23 rfl rfl 2 rfl ?_
  refine g_X6_23_0 27 hX dX6_strength_24 rfl ?_
  refine r_iload 29 hX dX6_strength_27 rfl 0 rfl ?_
  refine k_X6_136_X4_hasColumn 32 hX (by omega) (v21) (Nat.le_of_ble_eq_true rfl) dX6_strength_29 rfl hw (fun r29 σ29 hw => ?_)
  refine r_if_eq 47 35 hX dX6_strength_32 (by decide) rfl hw (fun hw => ?_) (fun hw => ?_)
  · refine r_iconst 48 hX dX6_strength_47 rfl 0 ic_0 ?_
    refine r_sub [2, 3] rfl ?_
    exact w_X6_strength_b48 hX hR _ _ _ hw
  · refine r_aload_n 36 hX dX6_strength_35 rfl rfl 2 rfl ?_
    refine g_X6_36_0 39 hX dX6_strength_36 rfl ?_
    refine r_iload_n 40 hX dX6_strength_39 rfl rfl 4 rfl ?_
    refine r_aald 41 hX sh_15 dX6_strength_40 rfl hw (fun hv40 hw => ?_)
    refine r_iload 43 hX dX6_strength_41 rfl 0 rfl ?_
    refine r_iald 44 hX (shr_15 hv40) dX6_strength_43 rfl hw (fun hw => ?_)
    refine r_goto 48 hX dX6_strength_44 (by decide) ?_
    refine r_sub [2, 3] rfl ?_
    exact w_X6_strength_b48 hX hR _ _ _ hw
theorem k_X6_247_X6_strength {X : Cx} {cc : ByteArray} {nL d pc : Nat} {lv : List (Nat × Value)} {rest : List Value} {σ : St} {K : Int32 → St → Prop} (q : Nat) (hX : CxB X RX6 cc nL d) (hdc : 4 + 1 ≤ d) (x1 : Int32) (x2 : Int32) (hst : (rest.map fun v => v.category).sum ≤ 8) (hd : decode cc pc = .ok (.invokevirtual 247, 3)) (hq : pc + 3 = q) (hw : wp_X6_strength x1 x2 K σ) (kk : ∀ (r : Int32) (τ : St), K r τ → At X nL q lv (.int r :: rest) τ) : At X nL pc lv (.int (x2) :: .int (x1) :: .ref (X.kad 0) :: rest) σ := r_callV (n := 2) q hX (k0 := 0) (c_X6_strength x1 x2) tw_353 tw_354 tw_355 tw_328 tw_356 ⟨by decide +kernel, by decide +kernel, by decide +kernel⟩ hdc (by decide) (As := [.int (x1), .int (x2)]) rfl rfl (by decide) ⟨_, _, _, rfl, rfl, rfl⟩ hst hd hq rfl (K := qI K) hw (kI kk)
set_option maxRecDepth 20000 in
set_option maxHeartbeats 4000000 in
theorem c_X6_wanted (x1 : Int32) (x2 : Int32) (x3 : Int32) : Con yX6_wanted cX6_wanted 5 (some .int) (5) (fun ad => [.ref (ad 0), .int (x1), .int (x2), .int (x3)]) (fun Q σ => wp_X6_wanted x1 x2 x3 (aI Q) σ) := by
  refine con_intro (by decide +kernel) (fun _ => Nat.le_of_ble_eq_true rfl) (by omega) (fun X Q σ hX hR hw => ?_)
  have hX : CxB X RX6 cX6_wanted 5 (5) := hX
  unfold wp_X6_wanted at hw
  show At X 5 0 [(0, .ref (X.kad 0)), (1, .int (x1)), (2, .int (x2)), (3, .int (x3))] [] σ
  refine r_aload_n 1 hX dX6_wanted_0 rfl rfl 0 rfl ?_
  refine g_X6_23_0 4 hX dX6_wanted_1 rfl ?_
  refine g_X6_124_4 7 hX dX6_wanted_4 rfl ?_
  refine r_iload_n 8 hX dX6_wanted_7 rfl rfl 1 rfl ?_
  refine r_iald 9 hX sh_8 dX6_wanted_8 rfl hw (fun hw => ?_)
  refine r_istore (lv' := [(4, .int (σ.1 8 x1.toNatClampNeg)), (0, .ref (X.kad 0)), (1, .int (x1)), (2, .int (x2)), (3, .int (x3))]) 11 hX dX6_wanted_9 rfl (by decide) rfl ?_
  refine r_iload_n 12 hX dX6_wanted_11 rfl rfl 3 rfl ?_
  refine r_iload_n 13 hX dX6_wanted_12 rfl rfl 2 rfl ?_
  refine r_icmp_ne 21 16 hX dX6_wanted_13 (by decide) rfl hw (fun hw => ?_) (fun hw => ?_)
  · refine r_iload 23 hX dX6_wanted_21 rfl 0 rfl ?_
    refine r_aload_n 24 hX dX6_wanted_23 rfl rfl 1 rfl ?_
    refine r_iload_n 25 hX dX6_wanted_24 rfl rfl 3 rfl ?_
    refine r_iload_n 26 hX dX6_wanted_25 rfl rfl 4 rfl ?_
    refine k_X6_247_X6_strength 29 hX (by omega) (x2) (x3) (Nat.le_of_ble_eq_true rfl) dX6_wanted_26 rfl hw (fun r26 σ26 hw => ?_)
    refine r_aload_n 30 hX dX6_wanted_29 rfl rfl 1 rfl ?_
    refine g_X6_30_0 33 hX dX6_wanted_30 rfl ?_
    refine r_iconst 34 hX dX6_wanted_33 rfl 5 ic_5 ?_
    refine r_iald 35 hX sh_14 dX6_wanted_34 rfl hw (fun hw => ?_)
    refine r_isub 36 hX dX6_wanted_35 rfl ?_
    refine r_mmax 39 hX tw_357 tw_137 tw_74 tw_138 (Nat.le_of_ble_eq_true rfl) dX6_wanted_36 rfl ?_
    refine r_topi hw (fun v36 hw => ?_)
    exact r_iret hX hR dX6_wanted_39 hw
  · refine r_iload 18 hX dX6_wanted_16 rfl 0 rfl ?_
    refine r_goto 39 hX dX6_wanted_18 (by decide) ?_
    exact r_iret hX hR dX6_wanted_39 hw
theorem k_X6_270_X3_fix {X : Cx} {cc : ByteArray} {nL d pc : Nat} {lv : List (Nat × Value)} {rest : List Value} {σ : St} {K : St → Prop} (q : Nat) (hX : CxB X RX6 cc nL d) (hdc : 1 + 1 ≤ d) (x1 : Int32) (hst : (rest.map fun v => v.category).sum ≤ 8) (hd : decode cc pc = .ok (.invokevirtual 270, 3)) (hq : pc + 3 = q) (hw : wp_X3_fix x1 K σ) (kk : ∀ (τ : St), K τ → At X nL q lv (rest) τ) : At X nL pc lv (.ref (X.kad 20) :: .int (x1) :: .ref (X.kad 49) :: rest) σ := r_callV (n := 2) q hX (k0 := 49) (c_X3_fix x1) tw_358 tw_359 tw_360 tw_144 tw_361 ⟨by decide +kernel, by decide +kernel, by decide +kernel⟩ hdc (by decide) (As := [.int (x1), .ref (X.kad 20)]) rfl rfl (by decide) ⟨_, _, _, rfl, rfl, rfl⟩ hst hd hq rfl (K := qV K) hw (kV kk)
set_option maxRecDepth 20000 in
set_option maxHeartbeats 4000000 in
theorem w_X6_putAllMoving_b20 {X : Cx} {Q : RV → St → Prop} (hX : CxB X RX6 cX6_putAllMoving 4 (4)) (hR : CxR X (none) Q) {K20 : Int32 → Int32 → St → Prop} (hK20 : ∀ (x1 : Int32) (x3 : Int32) (σ : St), K20 x1 x3 σ → At X 4 20 [(0, .ref (X.kad 0)), (1, .int (x1)), (3, .int (x3))] [] σ) (x1 : Int32) (x3 : Int32) (σ : St) (hw : wp_X6_putAllMoving_b20 (aV Q) K20 x1 x3 σ) : At X 4 20 [(0, .ref (X.kad 0)), (1, .int (x1)), (3, .int (x3))] [] σ := by
  unfold wp_X6_putAllMoving_b20 at hw
  refine r_iload_n 21 hX dX6_putAllMoving_20 rfl rfl 2 rfl ?_
  refine r_aload_n 22 hX dX6_putAllMoving_21 rfl rfl 0 rfl ?_
  refine g_X6_23_0 25 hX dX6_putAllMoving_22 rfl ?_
  refine g_X6_101_4 28 hX dX6_putAllMoving_25 rfl ?_
  refine r_icmp_ge 83 31 hX dX6_putAllMoving_28 (by decide) rfl hw (fun hw => ?_) (fun hw => ?_)
  · exact r_vret hX hR dX6_putAllMoving_83 hw
  · refine r_aload_n 32 hX dX6_putAllMoving_31 rfl rfl 0 rfl ?_
    refine g_X6_73_0 35 hX dX6_putAllMoving_32 rfl ?_
    refine r_iload_n 36 hX dX6_putAllMoving_35 rfl rfl 2 rfl ?_
    refine r_aload_n 37 hX dX6_putAllMoving_36 rfl rfl 0 rfl ?_
    refine g_X6_23_0 40 hX dX6_putAllMoving_37 rfl ?_
    refine g_X6_118_4 43 hX dX6_putAllMoving_40 rfl ?_
    refine r_iload_n 44 hX dX6_putAllMoving_43 rfl rfl 2 rfl ?_
    refine r_iald 45 hX sh_6 dX6_putAllMoving_44 rfl hw (fun hw => ?_)
    refine r_aload_n 46 hX dX6_putAllMoving_45 rfl rfl 0 rfl ?_
    refine g_X6_23_0 49 hX dX6_putAllMoving_46 rfl ?_
    refine g_X6_121_4 52 hX dX6_putAllMoving_49 rfl ?_
    refine r_iload_n 53 hX dX6_putAllMoving_52 rfl rfl 2 rfl ?_
    refine r_iald 54 hX sh_7 dX6_putAllMoving_53 rfl hw (fun hw => ?_)
    refine k_X6_201_X3_put 57 hX (by omega) (x3) (σ.1 6 x3.toNatClampNeg) (σ.1 7 x3.toNatClampNeg) (Nat.le_of_ble_eq_true rfl) dX6_putAllMoving_54 rfl hw (fun σ54 hw => ?_)
    refine r_iload_n 58 hX dX6_putAllMoving_57 rfl rfl 1 rfl ?_
    refine r_iload_n 59 hX dX6_putAllMoving_58 rfl rfl 2 rfl ?_
    refine r_ishr 60 hX dX6_putAllMoving_59 rfl ?_
    refine r_iconst 61 hX dX6_putAllMoving_60 rfl 1 ic_1 ?_
    refine r_iand 62 hX dX6_putAllMoving_61 rfl ?_
    refine r_if_ne 77 65 hX dX6_putAllMoving_62 (by decide) rfl hw (fun hw => ?_) (fun hw => ?_)
    · refine r_iinc (lv' := [(3, .int (x3 + 1)), (0, .ref (X.kad 0)), (1, .int (x1))]) 80 hX dX6_putAllMoving_77 rfl 2 rfl (x3 + 1) (ici_1 _) (by decide) rfl ?_
      refine r_goto 20 hX dX6_putAllMoving_80 (by decide) ?_
      refine r_sub [1, 2, 0] rfl ?_
      exact hK20 _ _ _ hw
    · refine r_aload_n 66 hX dX6_putAllMoving_65 rfl rfl 0 rfl ?_
      refine g_X6_73_0 69 hX dX6_putAllMoving_66 rfl ?_
      refine r_iload_n 70 hX dX6_putAllMoving_69 rfl rfl 2 rfl ?_
      refine r_aload_n 71 hX dX6_putAllMoving_70 rfl rfl 0 rfl ?_
      refine g_X6_42_0 74 hX dX6_putAllMoving_71 rfl ?_
      refine k_X6_270_X3_fix 77 hX (by omega) (x3) (Nat.le_of_ble_eq_true rfl) dX6_putAllMoving_74 rfl hw (fun σ74 hw => ?_)
      refine r_iinc (lv' := [(3, .int (x3 + 1)), (0, .ref (X.kad 0)), (1, .int (x1))]) 80 hX dX6_putAllMoving_77 rfl 2 rfl (x3 + 1) (ici_1 _) (by decide) rfl ?_
      refine r_goto 20 hX dX6_putAllMoving_80 (by decide) ?_
      refine r_sub [1, 2, 0] rfl ?_
      exact hK20 _ _ _ hw
set_option maxRecDepth 20000 in
set_option maxHeartbeats 4000000 in
theorem w_X6_putAllMoving_l20 {X : Cx} {Q : RV → St → Prop} (hX : CxB X RX6 cX6_putAllMoving 4 (4)) (hR : CxR X (none) Q) (n : Nat) : ∀ (x1 : Int32) (x3 : Int32) (σ : St), wp_X6_putAllMoving_l20 (aV Q)  n x1 x3 σ → At X 4 20 [(0, .ref (X.kad 0)), (1, .int (x1)), (3, .int (x3))] [] σ := by
  induction n with
  | zero => intro x1 x3 σ h; exact h.elim
  | succ n ih => intro x1 x3 σ h; exact w_X6_putAllMoving_b20  hX hR ih x1 x3 σ h
set_option maxRecDepth 20000 in
set_option maxHeartbeats 4000000 in
theorem c_X6_putAllMoving (x1 : Int32) (x2 : Int32) : Con yX6_putAllMoving cX6_putAllMoving 4 (none) (4) (fun ad => [.ref (ad 0), .int (x1), .int (x2)]) (fun Q σ => wp_X6_putAllMoving x1 x2 (aV Q) σ) := by
  refine con_intro (by decide +kernel) (fun _ => Nat.le_of_ble_eq_true rfl) (by omega) (fun X Q σ hX hR hw => ?_)
  have hX : CxB X RX6 cX6_putAllMoving 4 (4) := hX
  unfold wp_X6_putAllMoving at hw
  show At X 4 0 [(0, .ref (X.kad 0)), (1, .int (x1)), (2, .int (x2))] [] σ
  refine r_aload_n 1 hX dX6_putAllMoving_0 rfl rfl 0 rfl ?_
  refine g_X6_73_0 4 hX dX6_putAllMoving_1 rfl ?_
  refine r_aload_n 5 hX dX6_putAllMoving_4 rfl rfl 0 rfl ?_
  refine g_X6_23_0 8 hX dX6_putAllMoving_5 rfl ?_
  refine r_aload_n 9 hX dX6_putAllMoving_8 rfl rfl 0 rfl ?_
  refine g_X6_30_0 12 hX dX6_putAllMoving_9 rfl ?_
  refine r_iconst 13 hX dX6_putAllMoving_12 rfl 0 ic_0 ?_
  refine r_iald 14 hX sh_14 dX6_putAllMoving_13 rfl hw (fun hw => ?_)
  refine r_iload_n 15 hX dX6_putAllMoving_14 rfl rfl 2 rfl ?_
  refine k_X6_211_X3_prepare 18 hX (by omega) (σ.1 14 (0 : Int32).toNatClampNeg) (x2) (Nat.le_of_ble_eq_true rfl) dX6_putAllMoving_15 rfl hw (fun σ15 hw => ?_)
  refine r_iconst 19 hX dX6_putAllMoving_18 rfl 0 ic_0 ?_
  refine r_istore_n (lv' := [(3, .int (0)), (0, .ref (X.kad 0)), (1, .int (x1)), (2, .int (x2))]) 20 hX dX6_putAllMoving_19 rfl rfl (by decide) rfl ?_
  refine r_sub [1, 2, 0] rfl ?_
  obtain ⟨n, hw⟩ := hw
  exact w_X6_putAllMoving_l20 hX hR n _ _ _ hw
theorem k_X6_266_X6_putAllMoving {X : Cx} {cc : ByteArray} {nL d pc : Nat} {lv : List (Nat × Value)} {rest : List Value} {σ : St} {K : St → Prop} (q : Nat) (hX : CxB X RX6 cc nL d) (hdc : 4 + 1 ≤ d) (x1 : Int32) (x2 : Int32) (hst : (rest.map fun v => v.category).sum ≤ 8) (hd : decode cc pc = .ok (.invokevirtual 266, 3)) (hq : pc + 3 = q) (hw : wp_X6_putAllMoving x1 x2 K σ) (kk : ∀ (τ : St), K τ → At X nL q lv (rest) τ) : At X nL pc lv (.int (x2) :: .int (x1) :: .ref (X.kad 0) :: rest) σ := r_callV (n := 2) q hX (k0 := 0) (c_X6_putAllMoving x1 x2) tw_362 tw_363 tw_364 tw_328 tw_365 ⟨by decide +kernel, by decide +kernel, by decide +kernel⟩ hdc (by decide) (As := [.int (x1), .int (x2)]) rfl rfl (by decide) ⟨_, _, _, rfl, rfl, rfl⟩ hst hd hq rfl (K := qV K) hw (kV kk)
set_option maxRecDepth 20000 in
set_option maxHeartbeats 4000000 in
theorem w_X6_fewestMoved_b15 {X : Cx} {Q : RV → St → Prop} (hX : CxB X RX6 cX6_fewestMoved 4 (123)) (hR : CxR X (some .int) Q) {K2 : Int32 → Int32 → St → Prop} (hK2 : ∀ (x1 : Int32) (x2 : Int32) (σ : St), K2 x1 x2 σ → At X 4 2 [(0, .ref (X.kad 0)), (1, .int (x1)), (2, .int (x2))] [] σ) {K15 : Int32 → Int32 → Int32 → St → Prop} (hK15 : ∀ (x1 : Int32) (x2 : Int32) (x3 : Int32) (σ : St), K15 x1 x2 x3 σ → At X 4 15 [(0, .ref (X.kad 0)), (1, .int (x1)), (2, .int (x2)), (3, .int (x3))] [] σ) (x1 : Int32) (x2 : Int32) (x3 : Int32) (σ : St) (hw : wp_X6_fewestMoved_b15 (aI Q) K2 K15 x1 x2 x3 σ) : At X 4 15 [(0, .ref (X.kad 0)), (1, .int (x1)), (2, .int (x2)), (3, .int (x3))] [] σ := by
  unfold wp_X6_fewestMoved_b15 at hw
  refine r_iload_n 16 hX dX6_fewestMoved_15 rfl rfl 3 rfl ?_
  refine r_iconst 17 hX dX6_fewestMoved_16 rfl 1 ic_1 ?_
  refine r_aload_n 18 hX dX6_fewestMoved_17 rfl rfl 0 rfl ?_
  refine g_X6_23_0 21 hX dX6_fewestMoved_18 rfl ?_
  refine g_X6_101_4 24 hX dX6_fewestMoved_21 rfl ?_
  refine r_ishl 25 hX dX6_fewestMoved_24 rfl ?_
  refine r_icmp_ge 60 28 hX dX6_fewestMoved_25 (by decide) rfl hw (fun hw => ?_) (fun hw => ?_)
  · refine r_iinc (lv' := [(2, .int (x2 + 1)), (0, .ref (X.kad 0)), (1, .int (x1)), (3, .int (x3))]) 63 hX dX6_fewestMoved_60 rfl 2 rfl (x2 + 1) (ici_1 _) (by decide) rfl ?_
    refine r_goto 2 hX dX6_fewestMoved_63 (by decide) ?_
    refine r_sub [1, 2, 0] rfl ?_
    exact hK2 _ _ _ hw
  · refine r_iload_n 29 hX dX6_fewestMoved_28 rfl rfl 3 rfl ?_
    refine k_X6_186_J6_bitCount_0f7a4 32 hX (by omega) (x3) (Nat.le_of_ble_eq_true rfl) dX6_fewestMoved_29 rfl hw (fun r29 σ29 hw => ?_)
    refine r_iload_n 33 hX dX6_fewestMoved_32 rfl rfl 2 rfl ?_
    refine r_icmp_ne 54 36 hX dX6_fewestMoved_33 (by decide) rfl hw (fun hw => ?_) (fun hw => ?_)
    · refine r_iinc (lv' := [(3, .int (x3 + 1)), (0, .ref (X.kad 0)), (1, .int (x1)), (2, .int (x2))]) 57 hX dX6_fewestMoved_54 rfl 3 rfl (x3 + 1) (ici_1 _) (by decide) rfl ?_
      refine r_goto 15 hX dX6_fewestMoved_57 (by decide) ?_
      refine r_sub [1, 2, 3, 0] rfl ?_
      exact hK15 _ _ _ _ hw
    · refine r_aload_n 37 hX dX6_fewestMoved_36 rfl rfl 0 rfl ?_
      refine r_iload_n 38 hX dX6_fewestMoved_37 rfl rfl 3 rfl ?_
      refine r_iload_n 39 hX dX6_fewestMoved_38 rfl rfl 1 rfl ?_
      refine k_X6_266_X6_putAllMoving 42 hX (by omega) (x3) (x1) (Nat.le_of_ble_eq_true rfl) dX6_fewestMoved_39 rfl hw (fun σ39 hw => ?_)
      refine r_aload_n 43 hX dX6_fewestMoved_42 rfl rfl 0 rfl ?_
      refine g_X6_73_0 46 hX dX6_fewestMoved_43 rfl ?_
      refine k_X6_205_X3_findsAny 49 hX (by omega)  (Nat.le_of_ble_eq_true rfl) dX6_fewestMoved_46 rfl hw (fun r46 σ46 hw => ?_)
      refine r_if_eq 54 52 hX dX6_fewestMoved_49 (by decide) rfl hw (fun hw => ?_) (fun hw => ?_)
      · refine r_iinc (lv' := [(3, .int (x3 + 1)), (0, .ref (X.kad 0)), (1, .int (x1)), (2, .int (x2))]) 57 hX dX6_fewestMoved_54 rfl 3 rfl (x3 + 1) (ici_1 _) (by decide) rfl ?_
        refine r_goto 15 hX dX6_fewestMoved_57 (by decide) ?_
        refine r_sub [1, 2, 3, 0] rfl ?_
        exact hK15 _ _ _ _ hw
      · refine r_iload_n 53 hX dX6_fewestMoved_52 rfl rfl 3 rfl ?_
        exact r_iret hX hR dX6_fewestMoved_53 hw
set_option maxRecDepth 20000 in
set_option maxHeartbeats 4000000 in
theorem w_X6_fewestMoved_l15 {X : Cx} {Q : RV → St → Prop} (hX : CxB X RX6 cX6_fewestMoved 4 (123)) (hR : CxR X (some .int) Q) {K2 : Int32 → Int32 → St → Prop} (hK2 : ∀ (x1 : Int32) (x2 : Int32) (σ : St), K2 x1 x2 σ → At X 4 2 [(0, .ref (X.kad 0)), (1, .int (x1)), (2, .int (x2))] [] σ) (n : Nat) : ∀ (x1 : Int32) (x2 : Int32) (x3 : Int32) (σ : St), wp_X6_fewestMoved_l15 (aI Q) K2 n x1 x2 x3 σ → At X 4 15 [(0, .ref (X.kad 0)), (1, .int (x1)), (2, .int (x2)), (3, .int (x3))] [] σ := by
  induction n with
  | zero => intro x1 x2 x3 σ h; exact h.elim
  | succ n ih => intro x1 x2 x3 σ h; exact w_X6_fewestMoved_b15  hX hR hK2 ih x1 x2 x3 σ h
set_option maxRecDepth 20000 in
set_option maxHeartbeats 4000000 in
theorem w_X6_fewestMoved_b2 {X : Cx} {Q : RV → St → Prop} (hX : CxB X RX6 cX6_fewestMoved 4 (123)) (hR : CxR X (some .int) Q) {K2 : Int32 → Int32 → St → Prop} (hK2 : ∀ (x1 : Int32) (x2 : Int32) (σ : St), K2 x1 x2 σ → At X 4 2 [(0, .ref (X.kad 0)), (1, .int (x1)), (2, .int (x2))] [] σ) (x1 : Int32) (x2 : Int32) (σ : St) (hw : wp_X6_fewestMoved_b2 (aI Q) K2 x1 x2 σ) : At X 4 2 [(0, .ref (X.kad 0)), (1, .int (x1)), (2, .int (x2))] [] σ := by
  unfold wp_X6_fewestMoved_b2 at hw
  refine r_iload_n 3 hX dX6_fewestMoved_2 rfl rfl 2 rfl ?_
  refine r_aload_n 4 hX dX6_fewestMoved_3 rfl rfl 0 rfl ?_
  refine g_X6_23_0 7 hX dX6_fewestMoved_4 rfl ?_
  refine g_X6_101_4 10 hX dX6_fewestMoved_7 rfl ?_
  refine r_icmp_gt 66 13 hX dX6_fewestMoved_10 (by decide) rfl hw (fun hw => ?_) (fun hw => ?_)
  · refine r_bipush 68 hX dX6_fewestMoved_66 rfl (-9) bi_m9 ?_
    exact r_iret hX hR dX6_fewestMoved_68 hw
  · refine r_iconst 14 hX dX6_fewestMoved_13 rfl 0 ic_0 ?_
    refine r_istore_n (lv' := [(3, .int (0)), (0, .ref (X.kad 0)), (1, .int (x1)), (2, .int (x2))]) 15 hX dX6_fewestMoved_14 rfl rfl (by decide) rfl ?_
    refine r_sub [1, 2, 3, 0] rfl ?_
    obtain ⟨n, hw⟩ := hw
    exact w_X6_fewestMoved_l15 hX hR hK2 n _ _ _ _ hw
set_option maxRecDepth 20000 in
set_option maxHeartbeats 4000000 in
theorem w_X6_fewestMoved_l2 {X : Cx} {Q : RV → St → Prop} (hX : CxB X RX6 cX6_fewestMoved 4 (123)) (hR : CxR X (some .int) Q) (n : Nat) : ∀ (x1 : Int32) (x2 : Int32) (σ : St), wp_X6_fewestMoved_l2 (aI Q)  n x1 x2 σ → At X 4 2 [(0, .ref (X.kad 0)), (1, .int (x1)), (2, .int (x2))] [] σ := by
  induction n with
  | zero => intro x1 x2 σ h; exact h.elim
  | succ n ih => intro x1 x2 σ h; exact w_X6_fewestMoved_b2  hX hR ih x1 x2 σ h
set_option maxRecDepth 20000 in
set_option maxHeartbeats 4000000 in
theorem c_X6_fewestMoved (x1 : Int32) : Con yX6_fewestMoved cX6_fewestMoved 4 (some .int) (123) (fun ad => [.ref (ad 0), .int (x1)]) (fun Q σ => wp_X6_fewestMoved x1 (aI Q) σ) := by
  refine con_intro (by decide +kernel) (fun _ => Nat.le_of_ble_eq_true rfl) (by omega) (fun X Q σ hX hR hw => ?_)
  have hX : CxB X RX6 cX6_fewestMoved 4 (123) := hX
  unfold wp_X6_fewestMoved at hw
  show At X 4 0 [(0, .ref (X.kad 0)), (1, .int (x1))] [] σ
  refine r_iconst 1 hX dX6_fewestMoved_0 rfl 0 ic_0 ?_
  refine r_istore_n (lv' := [(2, .int (0)), (0, .ref (X.kad 0)), (1, .int (x1))]) 2 hX dX6_fewestMoved_1 rfl rfl (by decide) rfl ?_
  refine r_sub [1, 2, 0] rfl ?_
  obtain ⟨n, hw⟩ := hw
  exact w_X6_fewestMoved_l2 hX hR n _ _ _ hw
set_option maxRecDepth 20000 in
set_option maxHeartbeats 4000000 in
theorem c_X6_imageOf (x1 : Int32) : Con yX6_imageOf cX6_imageOf 2 (some (.object "FlueStack$Scheme")) (1) (fun ad => [.ref (ad 0), .int (x1)]) (fun Q σ => wp_X6_imageOf x1 (aR Q) σ) := by
  refine con_intro (by decide +kernel) (fun _ => Nat.le_of_ble_eq_true rfl) (by omega) (fun X Q σ hX hR hw => ?_)
  have hX : CxB X RX6 cX6_imageOf 2 (1) := hX
  unfold wp_X6_imageOf at hw
  show At X 2 0 [(0, .ref (X.kad 0)), (1, .int (x1))] [] σ
  refine r_iload_n 1 hX dX6_imageOf_0 rfl rfl 1 rfl ?_
  refine r_if_ne 11 4 hX dX6_imageOf_1 (by decide) rfl hw (fun hw => ?_) (fun hw => ?_)
  · refine r_aload_n 12 hX dX6_imageOf_11 rfl rfl 0 rfl ?_
    refine g_X6_56_0 15 hX dX6_imageOf_12 rfl ?_
    exact r_aret hX hR dX6_imageOf_15 hw
  · refine r_aload_n 5 hX dX6_imageOf_4 rfl rfl 0 rfl ?_
    refine g_X6_53_0 8 hX dX6_imageOf_5 rfl ?_
    refine r_goto 15 hX dX6_imageOf_8 (by decide) ?_
    exact r_aret hX hR dX6_imageOf_15 hw
set_option maxRecDepth 20000 in
set_option maxHeartbeats 4000000 in
theorem c_X6_rateFlue (x1 : Int32) : Con yX6_rateFlue cX6_rateFlue 2 (some .int) (2) (fun ad => [.ref (ad 0), .int (x1)]) (fun Q σ => wp_X6_rateFlue x1 (aI Q) σ) := by
  refine con_intro (by decide +kernel) (fun _ => Nat.le_of_ble_eq_true rfl) (by omega) (fun X Q σ hX hR hw => ?_)
  have hX : CxB X RX6 cX6_rateFlue 2 (2) := hX
  unfold wp_X6_rateFlue at hw
  show At X 2 0 [(0, .ref (X.kad 0)), (1, .int (x1))] [] σ
  refine r_aload_n 1 hX dX6_rateFlue_0 rfl rfl 0 rfl ?_
  refine r_dup 2 hX dX6_rateFlue_1 rfl rfl ?_
  refine g_X6_310_0 5 hX dX6_rateFlue_2 rfl ?_
  refine r_lconst 6 hX dX6_rateFlue_5 rfl 1 lc_1 ?_
  refine r_ladd 7 hX dX6_rateFlue_6 rfl ?_
  refine p_X6_310_0 10 hX dX6_rateFlue_7 rfl ?_
  refine r_aload_n 11 hX dX6_rateFlue_10 rfl rfl 0 rfl ?_
  refine g_X6_23_0 14 hX dX6_rateFlue_11 rfl ?_
  refine r_iload_n 15 hX dX6_rateFlue_14 rfl rfl 1 rfl ?_
  refine k_X6_263_X4_above 18 hX (by omega) (x1) (Nat.le_of_ble_eq_true rfl) dX6_rateFlue_15 rfl hw (fun r15 σ15 hw => ?_)
  exact r_iret hX hR dX6_rateFlue_18 hw
theorem k_X6_283_X6_rateFlue {X : Cx} {cc : ByteArray} {nL d pc : Nat} {lv : List (Nat × Value)} {rest : List Value} {σ : St} {K : Int32 → St → Prop} (q : Nat) (hX : CxB X RX6 cc nL d) (hdc : 2 + 1 ≤ d) (x1 : Int32) (hst : (rest.map fun v => v.category).sum ≤ 8) (hd : decode cc pc = .ok (.invokevirtual 283, 3)) (hq : pc + 3 = q) (hw : wp_X6_rateFlue x1 K σ) (kk : ∀ (r : Int32) (τ : St), K r τ → At X nL q lv (.int r :: rest) τ) : At X nL pc lv (.int (x1) :: .ref (X.kad 0) :: rest) σ := r_callV (n := 1) q hX (k0 := 0) (c_X6_rateFlue x1) tw_370 tw_371 tw_372 tw_328 tw_373 ⟨by decide +kernel, by decide +kernel, by decide +kernel⟩ hdc (by decide) (As := [.int (x1)]) rfl rfl (by decide) ⟨_, _, _, rfl, rfl, rfl⟩ hst hd hq rfl (K := qI K) hw (kI kk)
theorem k_X6_239_X2_leans {X : Cx} {cc : ByteArray} {nL d pc : Nat} {lv : List (Nat × Value)} {rest : List Value} {σ : St} {K : Int32 → St → Prop} (q : Nat) (hX : CxB X RX6 cc nL d) (hdc : 1 + 1 ≤ d) (x2 : Int32) (hst : (rest.map fun v => v.category).sum ≤ 8) (hd : decode cc pc = .ok (.invokevirtual 239, 3)) (hq : pc + 3 = q) (hw : wp_X2_leans x2 K σ) (kk : ∀ (r : Int32) (τ : St), K r τ → At X nL q lv (.int r :: rest) τ) : At X nL pc lv (.int (x2) :: .ref (X.kad 4) :: .ref (X.kad 20) :: rest) σ := r_callV (n := 2) q hX (k0 := 20) (c_X2_leans x2) tw_374 tw_375 tw_376 tw_345 tw_377 ⟨by decide +kernel, by decide +kernel, by decide +kernel⟩ hdc (by decide) (As := [.ref (X.kad 4), .int (x2)]) rfl rfl (by decide) ⟨_, _, _, rfl, rfl, rfl⟩ hst hd hq rfl (K := qI K) hw (kI kk)
set_option maxRecDepth 20000 in
set_option maxHeartbeats 4000000 in
theorem c_X6_rateStraight (x1 : Int32) : Con yX6_rateStraight cX6_rateStraight 2 (some .int) (3) (fun ad => [.ref (ad 0), .int (x1)]) (fun Q σ => wp_X6_rateStraight x1 (aI Q) σ) := by
  refine con_intro (by decide +kernel) (fun _ => Nat.le_of_ble_eq_true rfl) (by omega) (fun X Q σ hX hR hw => ?_)
  have hX : CxB X RX6 cX6_rateStraight 2 (3) := hX
  unfold wp_X6_rateStraight at hw
  show At X 2 0 [(0, .ref (X.kad 0)), (1, .int (x1))] [] σ
  refine r_aload_n 1 hX dX6_rateStraight_0 rfl rfl 0 rfl ?_
  refine r_dup 2 hX dX6_rateStraight_1 rfl rfl ?_
  refine g_X6_310_0 5 hX dX6_rateStraight_2 rfl ?_
  refine r_ldc2 8 hX 10 tw_369 dX6_rateStraight_5 rfl ?_
  refine r_ladd 9 hX dX6_rateStraight_8 rfl ?_
  refine p_X6_310_0 12 hX dX6_rateStraight_9 rfl ?_
  refine r_aload_n 13 hX dX6_rateStraight_12 rfl rfl 0 rfl ?_
  refine r_iload_n 14 hX dX6_rateStraight_13 rfl rfl 1 rfl ?_
  refine k_X6_283_X6_rateFlue 17 hX (by omega) (x1) (Nat.le_of_ble_eq_true rfl) dX6_rateStraight_14 rfl hw (fun r14 σ14 hw => ?_)
  refine r_aload_n 18 hX dX6_rateStraight_17 rfl rfl 0 rfl ?_
  refine g_X6_42_0 21 hX dX6_rateStraight_18 rfl ?_
  refine r_aload_n 22 hX dX6_rateStraight_21 rfl rfl 0 rfl ?_
  refine g_X6_23_0 25 hX dX6_rateStraight_22 rfl ?_
  refine r_iload_n 26 hX dX6_rateStraight_25 rfl rfl 1 rfl ?_
  refine k_X6_239_X2_leans 29 hX (by omega) (x1) (Nat.le_of_ble_eq_true rfl) dX6_rateStraight_26 rfl hw (fun r26 σ26 hw => ?_)
  refine r_isub 30 hX dX6_rateStraight_29 rfl ?_
  exact r_iret hX hR dX6_rateStraight_30 hw
set_option maxRecDepth 20000 in
set_option maxHeartbeats 4000000 in
theorem c_X6_rateLean (x1 : Int32) : Con yX6_rateLean cX6_rateLean 2 (some .int) (3) (fun ad => [.ref (ad 0), .int (x1)]) (fun Q σ => wp_X6_rateLean x1 (aI Q) σ) := by
  refine con_intro (by decide +kernel) (fun _ => Nat.le_of_ble_eq_true rfl) (by omega) (fun X Q σ hX hR hw => ?_)
  have hX : CxB X RX6 cX6_rateLean 2 (3) := hX
  unfold wp_X6_rateLean at hw
  show At X 2 0 [(0, .ref (X.kad 0)), (1, .int (x1))] [] σ
  refine r_aload_n 1 hX dX6_rateLean_0 rfl rfl 0 rfl ?_
  refine r_dup 2 hX dX6_rateLean_1 rfl rfl ?_
  refine g_X6_310_0 5 hX dX6_rateLean_2 rfl ?_
  refine r_ldc2 8 hX 100 tw_378 dX6_rateLean_5 rfl ?_
  refine r_ladd 9 hX dX6_rateLean_8 rfl ?_
  refine p_X6_310_0 12 hX dX6_rateLean_9 rfl ?_
  refine r_aload_n 13 hX dX6_rateLean_12 rfl rfl 0 rfl ?_
  refine r_iload_n 14 hX dX6_rateLean_13 rfl rfl 1 rfl ?_
  refine k_X6_283_X6_rateFlue 17 hX (by omega) (x1) (Nat.le_of_ble_eq_true rfl) dX6_rateLean_14 rfl hw (fun r14 σ14 hw => ?_)
  refine r_aload_n 18 hX dX6_rateLean_17 rfl rfl 0 rfl ?_
  refine g_X6_42_0 21 hX dX6_rateLean_18 rfl ?_
  refine r_aload_n 22 hX dX6_rateLean_21 rfl rfl 0 rfl ?_
  refine g_X6_23_0 25 hX dX6_rateLean_22 rfl ?_
  refine r_iload_n 26 hX dX6_rateLean_25 rfl rfl 1 rfl ?_
  refine k_X6_236_X2_bends 29 hX (by omega) (x1) (Nat.le_of_ble_eq_true rfl) dX6_rateLean_26 rfl hw (fun r26 σ26 hw => ?_)
  refine r_iadd 30 hX dX6_rateLean_29 rfl ?_
  exact r_iret hX hR dX6_rateLean_30 hw
theorem k_X6_289_X6_rateLean {X : Cx} {cc : ByteArray} {nL d pc : Nat} {lv : List (Nat × Value)} {rest : List Value} {σ : St} {K : Int32 → St → Prop} (q : Nat) (hX : CxB X RX6 cc nL d) (hdc : 3 + 1 ≤ d) (x1 : Int32) (hst : (rest.map fun v => v.category).sum ≤ 8) (hd : decode cc pc = .ok (.invokevirtual 289, 3)) (hq : pc + 3 = q) (hw : wp_X6_rateLean x1 K σ) (kk : ∀ (r : Int32) (τ : St), K r τ → At X nL q lv (.int r :: rest) τ) : At X nL pc lv (.int (x1) :: .ref (X.kad 0) :: rest) σ := r_callV (n := 1) q hX (k0 := 0) (c_X6_rateLean x1) tw_380 tw_381 tw_382 tw_328 tw_383 ⟨by decide +kernel, by decide +kernel, by decide +kernel⟩ hdc (by decide) (As := [.int (x1)]) rfl rfl (by decide) ⟨_, _, _, rfl, rfl, rfl⟩ hst hd hq rfl (K := qI K) hw (kI kk)
set_option maxRecDepth 20000 in
set_option maxHeartbeats 4000000 in
theorem c_X6_rateGather (x1 : Int32) : Con yX6_rateGather cX6_rateGather 2 (some .int) (4) (fun ad => [.ref (ad 0), .int (x1)]) (fun Q σ => wp_X6_rateGather x1 (aI Q) σ) := by
  refine con_intro (by decide +kernel) (fun _ => Nat.le_of_ble_eq_true rfl) (by omega) (fun X Q σ hX hR hw => ?_)
  have hX : CxB X RX6 cX6_rateGather 2 (4) := hX
  unfold wp_X6_rateGather at hw
  show At X 2 0 [(0, .ref (X.kad 0)), (1, .int (x1))] [] σ
  refine r_aload_n 1 hX dX6_rateGather_0 rfl rfl 0 rfl ?_
  refine r_dup 2 hX dX6_rateGather_1 rfl rfl ?_
  refine g_X6_310_0 5 hX dX6_rateGather_2 rfl ?_
  refine r_ldc2 8 hX 1000 tw_379 dX6_rateGather_5 rfl ?_
  refine r_ladd 9 hX dX6_rateGather_8 rfl ?_
  refine p_X6_310_0 12 hX dX6_rateGather_9 rfl ?_
  refine r_aload_n 13 hX dX6_rateGather_12 rfl rfl 0 rfl ?_
  refine r_iload_n 14 hX dX6_rateGather_13 rfl rfl 1 rfl ?_
  refine k_X6_289_X6_rateLean 17 hX (by omega) (x1) (Nat.le_of_ble_eq_true rfl) dX6_rateGather_14 rfl hw (fun r14 σ14 hw => ?_)
  refine r_iconst 18 hX dX6_rateGather_17 rfl 2 ic_2 ?_
  refine r_imul 19 hX dX6_rateGather_18 rfl ?_
  exact r_iret hX hR dX6_rateGather_19 hw
theorem k_X6_286_X6_rateStraight {X : Cx} {cc : ByteArray} {nL d pc : Nat} {lv : List (Nat × Value)} {rest : List Value} {σ : St} {K : Int32 → St → Prop} (q : Nat) (hX : CxB X RX6 cc nL d) (hdc : 3 + 1 ≤ d) (x1 : Int32) (hst : (rest.map fun v => v.category).sum ≤ 8) (hd : decode cc pc = .ok (.invokevirtual 286, 3)) (hq : pc + 3 = q) (hw : wp_X6_rateStraight x1 K σ) (kk : ∀ (r : Int32) (τ : St), K r τ → At X nL q lv (.int r :: rest) τ) : At X nL pc lv (.int (x1) :: .ref (X.kad 0) :: rest) σ := r_callV (n := 1) q hX (k0 := 0) (c_X6_rateStraight x1) tw_385 tw_386 tw_387 tw_328 tw_388 ⟨by decide +kernel, by decide +kernel, by decide +kernel⟩ hdc (by decide) (As := [.int (x1)]) rfl rfl (by decide) ⟨_, _, _, rfl, rfl, rfl⟩ hst hd hq rfl (K := qI K) hw (kI kk)
set_option maxRecDepth 20000 in
set_option maxHeartbeats 4000000 in
theorem c_X6_rateShared (x1 : Int32) : Con yX6_rateShared cX6_rateShared 2 (some .int) (4) (fun ad => [.ref (ad 0), .int (x1)]) (fun Q σ => wp_X6_rateShared x1 (aI Q) σ) := by
  refine con_intro (by decide +kernel) (fun _ => Nat.le_of_ble_eq_true rfl) (by omega) (fun X Q σ hX hR hw => ?_)
  have hX : CxB X RX6 cX6_rateShared 2 (4) := hX
  unfold wp_X6_rateShared at hw
  show At X 2 0 [(0, .ref (X.kad 0)), (1, .int (x1))] [] σ
  refine r_aload_n 1 hX dX6_rateShared_0 rfl rfl 0 rfl ?_
  refine r_dup 2 hX dX6_rateShared_1 rfl rfl ?_
  refine g_X6_310_0 5 hX dX6_rateShared_2 rfl ?_
  refine r_ldc2 8 hX 10000 tw_384 dX6_rateShared_5 rfl ?_
  refine r_ladd 9 hX dX6_rateShared_8 rfl ?_
  refine p_X6_310_0 12 hX dX6_rateShared_9 rfl ?_
  refine r_aload_n 13 hX dX6_rateShared_12 rfl rfl 0 rfl ?_
  refine r_iload_n 14 hX dX6_rateShared_13 rfl rfl 1 rfl ?_
  refine k_X6_286_X6_rateStraight 17 hX (by omega) (x1) (Nat.le_of_ble_eq_true rfl) dX6_rateShared_14 rfl hw (fun r14 σ14 hw => ?_)
  refine r_aload_n 18 hX dX6_rateShared_17 rfl rfl 0 rfl ?_
  refine g_X6_23_0 21 hX dX6_rateShared_18 rfl ?_
  refine g_X6_101_4 24 hX dX6_rateShared_21 rfl ?_
  refine r_iadd 25 hX dX6_rateShared_24 rfl ?_
  exact r_iret hX hR dX6_rateShared_25 hw
set_option maxRecDepth 20000 in
set_option maxHeartbeats 4000000 in
theorem c_X6_rateOld (x1 : Int32) : Con yX6_rateOld cX6_rateOld 2 (some .int) (3) (fun ad => [.ref (ad 0), .int (x1)]) (fun Q σ => wp_X6_rateOld x1 (aI Q) σ) := by
  refine con_intro (by decide +kernel) (fun _ => Nat.le_of_ble_eq_true rfl) (by omega) (fun X Q σ hX hR hw => ?_)
  have hX : CxB X RX6 cX6_rateOld 2 (3) := hX
  unfold wp_X6_rateOld at hw
  show At X 2 0 [(0, .ref (X.kad 0)), (1, .int (x1))] [] σ
  refine r_aload_n 1 hX dX6_rateOld_0 rfl rfl 0 rfl ?_
  refine r_dup 2 hX dX6_rateOld_1 rfl rfl ?_
  refine g_X6_310_0 5 hX dX6_rateOld_2 rfl ?_
  refine r_ldc2 8 hX 100000 tw_389 dX6_rateOld_5 rfl ?_
  refine r_ladd 9 hX dX6_rateOld_8 rfl ?_
  refine p_X6_310_0 12 hX dX6_rateOld_9 rfl ?_
  refine r_aload_n 13 hX dX6_rateOld_12 rfl rfl 0 rfl ?_
  refine r_iload_n 14 hX dX6_rateOld_13 rfl rfl 1 rfl ?_
  refine k_X6_283_X6_rateFlue 17 hX (by omega) (x1) (Nat.le_of_ble_eq_true rfl) dX6_rateOld_14 rfl hw (fun r14 σ14 hw => ?_)
  refine r_aload_n 18 hX dX6_rateOld_17 rfl rfl 0 rfl ?_
  refine g_X6_23_0 21 hX dX6_rateOld_18 rfl ?_
  refine g_X6_124_4 24 hX dX6_rateOld_21 rfl ?_
  refine r_iload_n 25 hX dX6_rateOld_24 rfl rfl 1 rfl ?_
  refine r_iald 26 hX sh_8 dX6_rateOld_25 rfl hw (fun hw => ?_)
  refine r_isub 27 hX dX6_rateOld_26 rfl ?_
  exact r_iret hX hR dX6_rateOld_27 hw
set_option maxRecDepth 20000 in
set_option maxHeartbeats 4000000 in
theorem c_X6_tune (x1 : Int32) (x2 : Int32) : Con yX6_tune cX6_tune 4 (some .int) (1) (fun ad => [.ref (ad 0), .int (x1), .int (x2)]) (fun Q σ => wp_X6_tune x1 x2 (aI Q) σ) := by
  refine con_intro (by decide +kernel) (fun _ => Nat.le_of_ble_eq_true rfl) (by omega) (fun X Q σ hX hR hw => ?_)
  have hX : CxB X RX6 cX6_tune 4 (1) := hX
  unfold wp_X6_tune at hw
  show At X 4 0 [(0, .ref (X.kad 0)), (1, .int (x1)), (2, .int (x2))] [] σ
  refine r_iload_n 1 hX dX6_tune_0 rfl rfl 1 rfl ?_
  refine r_if_lt 28 4 hX dX6_tune_1 (by decide) rfl hw (fun hw => ?_) (fun hw => ?_)
  · refine r_iconst 29 hX dX6_tune_28 rfl (-1) ic_m1 ?_
    exact r_iret hX hR dX6_tune_29 hw
  · refine r_iload_n 5 hX dX6_tune_4 rfl rfl 1 rfl ?_
    refine r_bipush 7 hX dX6_tune_5 rfl 6 bi_6 ?_
    refine r_icmp_ge 28 10 hX dX6_tune_7 (by decide) rfl hw (fun hw => ?_) (fun hw => ?_)
    · refine r_iconst 29 hX dX6_tune_28 rfl (-1) ic_m1 ?_
      exact r_iret hX hR dX6_tune_29 hw
    · refine r_iload_n 11 hX dX6_tune_10 rfl rfl 2 rfl ?_
      refine g_static_LEAST_TUNES 14 hX dX6_tune_11 rfl ?_
      refine r_iload_n 15 hX dX6_tune_14 rfl rfl 1 rfl ?_
      refine r_tab_LEAST_TUNES 16 hX dX6_tune_15 rfl hw (fun hw => ?_)
      refine r_icmp_lt 28 19 hX dX6_tune_16 (by decide) rfl hw (fun hw => ?_) (fun hw => ?_)
      · refine r_iconst 29 hX dX6_tune_28 rfl (-1) ic_m1 ?_
        exact r_iret hX hR dX6_tune_29 hw
      · refine r_iload_n 20 hX dX6_tune_19 rfl rfl 2 rfl ?_
        refine g_static_MOST_TUNES 23 hX dX6_tune_20 rfl ?_
        refine r_iload_n 24 hX dX6_tune_23 rfl rfl 1 rfl ?_
        refine r_tab_MOST_TUNES 25 hX dX6_tune_24 rfl hw (fun hw => ?_)
        refine r_icmp_le 30 28 hX dX6_tune_25 (by decide) rfl hw (fun hw => ?_) (fun hw => ?_)
        · refine r_aload_n 31 hX dX6_tune_30 rfl rfl 0 rfl ?_
          refine g_X6_30_0 34 hX dX6_tune_31 rfl ?_
          refine r_iload_n 35 hX dX6_tune_34 rfl rfl 1 rfl ?_
          refine r_iald 36 hX sh_14 dX6_tune_35 rfl hw (fun hw => ?_)
          refine r_istore_n (lv' := [(3, .int (σ.1 14 x1.toNatClampNeg)), (0, .ref (X.kad 0)), (1, .int (x1)), (2, .int (x2))]) 37 hX dX6_tune_36 rfl rfl (by decide) rfl ?_
          refine r_aload_n 38 hX dX6_tune_37 rfl rfl 1 rfl ?_
          refine g_X6_30_0 41 hX dX6_tune_38 rfl ?_
          refine r_iload_n 42 hX dX6_tune_41 rfl rfl 2 rfl ?_
          refine r_iload_n 43 hX dX6_tune_42 rfl rfl 3 rfl ?_
          refine r_iast 44 hX sh_14 dX6_tune_43 rfl hw (fun hw => ?_)
          refine r_iload_n 45 hX dX6_tune_44 rfl rfl 0 rfl ?_
          exact r_iret hX hR dX6_tune_45 hw
        · refine r_iconst 29 hX dX6_tune_28 rfl (-1) ic_m1 ?_
          exact r_iret hX hR dX6_tune_29 hw
theorem k_X6_81_X1_read {X : Cx} {cc : ByteArray} {nL d pc : Nat} {lv : List (Nat × Value)} {rest : List Value} {σ : St} {K : Int32 → St → Prop} (q : Nat) (hX : CxB X RX6 cc nL d) (hdc : 9 + 1 ≤ d) (x2 : Int32) (hst : (rest.map fun v => v.category).sum ≤ 8) (hd : decode cc pc = .ok (.invokevirtual 81, 3)) (hq : pc + 3 = q) (hw : wp_X1_read x2 K σ) (kk : ∀ (r : Int32) (τ : St), K r τ → At X nL q lv (.int r :: rest) τ) : At X nL pc lv (.ref (X.kad 9) :: .int (x2) :: .ref (X.kad 1) :: .ref (X.kad 2) :: rest) σ := r_callV (n := 3) q hX (k0 := 2) (c_X1_read x2) tw_394 tw_395 tw_396 tw_228 tw_397 ⟨by decide +kernel, by decide +kernel, by decide +kernel⟩ hdc (by decide) (As := [.ref (X.kad 1), .int (x2), .ref (X.kad 9)]) rfl rfl (by decide) ⟨_, _, _, rfl, rfl, rfl⟩ hst hd hq rfl (K := qI K) hw (kI kk)
theorem k_X6_85_X4_copyFrom {X : Cx} {cc : ByteArray} {nL d pc : Nat} {lv : List (Nat × Value)} {rest : List Value} {σ : St} {K : St → Prop} (q : Nat) (hX : CxB X RX6 cc nL d) (hdc : 1 + 1 ≤ d) (hst : (rest.map fun v => v.category).sum ≤ 8) (hd : decode cc pc = .ok (.invokevirtual 85, 3)) (hq : pc + 3 = q) (hw : wp_X4_copyFrom  K σ) (kk : ∀ (τ : St), K τ → At X nL q lv (rest) τ) : At X nL pc lv (.ref (X.kad 9) :: .ref (X.kad 4) :: rest) σ := r_callV (n := 1) q hX (k0 := 4) (c_X4_copyFrom ) tw_398 tw_399 tw_400 tw_8 tw_401 ⟨by decide +kernel, by decide +kernel, by decide +kernel⟩ hdc (by decide) (As := [.ref (X.kad 9)]) rfl rfl (by decide) ⟨_, _, _, rfl, rfl, rfl⟩ hst hd hq rfl (K := qV K) hw (kV kk)
theorem k_X6_89_X2_goStraightUp {X : Cx} {cc : ByteArray} {nL d pc : Nat} {lv : List (Nat × Value)} {rest : List Value} {σ : St} {K : St → Prop} (q : Nat) (hX : CxB X RX6 cc nL d) (hdc : 2 + 1 ≤ d) (hst : (rest.map fun v => v.category).sum ≤ 8) (hd : decode cc pc = .ok (.invokevirtual 89, 3)) (hq : pc + 3 = q) (hw : wp_X2_goStraightUp  K σ) (kk : ∀ (τ : St), K τ → At X nL q lv (rest) τ) : At X nL pc lv (.ref (X.kad 4) :: .ref (X.kad 20) :: rest) σ := r_callV (n := 1) q hX (k0 := 20) (c_X2_goStraightUp ) tw_402 tw_403 tw_404 tw_345 tw_405 ⟨by decide +kernel, by decide +kernel, by decide +kernel⟩ hdc (by decide) (As := [.ref (X.kad 4)]) rfl rfl (by decide) ⟨_, _, _, rfl, rfl, rfl⟩ hst hd hq rfl (K := qV K) hw (kV kk)
theorem k_X6_95_fillI {X : Cx} {cc : ByteArray} {nL d pc : Nat} {lv : List (Nat × Value)} {rest : List Value} {σ : St} {K : St → Prop} (q : Nat) (hX : CxB X RX6 cc nL d) (hdc : 1 + 1 ≤ d) {a n : Nat} (hs : wS a = (9, n)) (v : Int32) (hst : (rest.map fun v => v.category).sum ≤ 8) (hd : decode cc pc = .ok (.invokestatic 95, 3)) (hq : pc + 3 = q) (hw : wp_fillI a n v K σ) (kk : ∀ τ : St, K τ → At X nL q lv rest τ) : At X nL pc lv (.int v :: .ref (X.kad a) :: rest) σ := r_callS (n := 2) q hX (c_fillI a n hs v) tw_408 tw_31 tw_32 tw_33 ⟨by decide +kernel, by decide +kernel, by decide +kernel⟩ hdc (by decide) (As := [.ref (X.kad a), .int v]) rfl rfl hst hd hq rfl (K := qV K) hw (kV kk)
set_option maxRecDepth 20000 in
set_option maxHeartbeats 4000000 in
theorem w_X6_wall_b89 {X : Cx} {Q : RV → St → Prop} (hX : CxB X RX6 cX6_wall 3 (10)) (hR : CxR X (some .int) Q) {K89 : Int32 → St → Prop} (hK89 : ∀ (x2 : Int32) (σ : St), K89 x2 σ → At X 3 89 [(0, .ref (X.kad 0)), (2, .int (x2))] [] σ) (x2 : Int32) (σ : St) (hw : wp_X6_wall_b89 (aI Q) K89 x2 σ) : At X 3 89 [(0, .ref (X.kad 0)), (2, .int (x2))] [] σ := by
  unfold wp_X6_wall_b89 at hw
  refine r_iload_n 90 hX dX6_wall_89 rfl rfl 1 rfl ?_
  refine r_iconst 91 hX dX6_wall_90 rfl 2 ic_2 ?_
  refine r_icmp_ge 107 94 hX dX6_wall_91 (by decide) rfl hw (fun hw => ?_) (fun hw => ?_)
  · refine r_aload_n 108 hX dX6_wall_107 rfl rfl 0 rfl ?_
    refine g_X6_23_0 111 hX dX6_wall_108 rfl ?_
    refine g_X6_101_4 114 hX dX6_wall_111 rfl ?_
    exact r_iret hX hR dX6_wall_114 hw
  · refine r_aload_n 95 hX dX6_wall_94 rfl rfl 0 rfl ?_
    refine g_X6_59_0 98 hX dX6_wall_95 rfl ?_
    refine r_iload_n 99 hX dX6_wall_98 rfl rfl 1 rfl ?_
    refine r_iconst 100 hX dX6_wall_99 rfl 0 ic_0 ?_
    refine r_zast 101 hX sh_42 dX6_wall_100 rfl hw (fun hw => ?_)
    refine r_iinc (lv' := [(2, .int (x2 + 1)), (0, .ref (X.kad 0))]) 104 hX dX6_wall_101 rfl 1 rfl (x2 + 1) (ici_1 _) (by decide) rfl ?_
    refine r_goto 89 hX dX6_wall_104 (by decide) ?_
    refine r_sub [1, 0] rfl ?_
    exact hK89 _ _ hw
set_option maxRecDepth 20000 in
set_option maxHeartbeats 4000000 in
theorem w_X6_wall_l89 {X : Cx} {Q : RV → St → Prop} (hX : CxB X RX6 cX6_wall 3 (10)) (hR : CxR X (some .int) Q) (n : Nat) : ∀ (x2 : Int32) (σ : St), wp_X6_wall_l89 (aI Q)  n x2 σ → At X 3 89 [(0, .ref (X.kad 0)), (2, .int (x2))] [] σ := by
  induction n with
  | zero => intro x2 σ h; exact h.elim
  | succ n ih => intro x2 σ h; exact w_X6_wall_b89  hX hR ih x2 σ h
set_option maxRecDepth 20000 in
set_option maxHeartbeats 4000000 in
theorem w_X6_wall_b66 {X : Cx} {Q : RV → St → Prop} (hX : CxB X RX6 cX6_wall 3 (10)) (hR : CxR X (some .int) Q) {K66 : Int32 → St → Prop} (hK66 : ∀ (x2 : Int32) (σ : St), K66 x2 σ → At X 3 66 [(0, .ref (X.kad 0)), (2, .int (x2))] [] σ) (x2 : Int32) (σ : St) (hw : wp_X6_wall_b66 (aI Q) K66 x2 σ) : At X 3 66 [(0, .ref (X.kad 0)), (2, .int (x2))] [] σ := by
  unfold wp_X6_wall_b66 at hw
  refine r_iload_n 67 hX dX6_wall_66 rfl rfl 1 rfl ?_
  refine r_iconst 68 hX dX6_wall_67 rfl 4 ic_4 ?_
  refine r_icmp_ge 87 71 hX dX6_wall_68 (by decide) rfl hw (fun hw => ?_) (fun hw => ?_)
  · refine r_iconst 88 hX dX6_wall_87 rfl 0 ic_0 ?_
    refine r_istore_n (lv' := [(2, .int (0)), (0, .ref (X.kad 0))]) 89 hX dX6_wall_88 rfl rfl (by decide) rfl ?_
    refine r_sub [1, 0] rfl ?_
    obtain ⟨n, hw⟩ := hw
    exact w_X6_wall_l89 hX hR n _ _ hw
  · refine r_aload_n 72 hX dX6_wall_71 rfl rfl 0 rfl ?_
    refine g_X6_36_0 75 hX dX6_wall_72 rfl ?_
    refine r_iload_n 76 hX dX6_wall_75 rfl rfl 1 rfl ?_
    refine r_aald 77 hX sh_15 dX6_wall_76 rfl hw (fun hv76 hw => ?_)
    refine r_iconst 78 hX dX6_wall_77 rfl 0 ic_0 ?_
    refine k_X6_95_fillI 81 hX (by omega) (shr_15 hv76) (0) (Nat.le_of_ble_eq_true rfl) dX6_wall_78 rfl hw (fun σ78 hw => ?_)
    refine r_iinc (lv' := [(2, .int (x2 + 1)), (0, .ref (X.kad 0))]) 84 hX dX6_wall_81 rfl 1 rfl (x2 + 1) (ici_1 _) (by decide) rfl ?_
    refine r_goto 66 hX dX6_wall_84 (by decide) ?_
    refine r_sub [1, 0] rfl ?_
    exact hK66 _ _ hw
set_option maxRecDepth 20000 in
set_option maxHeartbeats 4000000 in
theorem w_X6_wall_l66 {X : Cx} {Q : RV → St → Prop} (hX : CxB X RX6 cX6_wall 3 (10)) (hR : CxR X (some .int) Q) (n : Nat) : ∀ (x2 : Int32) (σ : St), wp_X6_wall_l66 (aI Q)  n x2 σ → At X 3 66 [(0, .ref (X.kad 0)), (2, .int (x2))] [] σ := by
  induction n with
  | zero => intro x2 σ h; exact h.elim
  | succ n ih => intro x2 σ h; exact w_X6_wall_b66  hX hR ih x2 σ h
set_option maxRecDepth 20000 in
set_option maxHeartbeats 4000000 in
theorem c_X6_wall : Con yX6_wall cX6_wall 3 (some .int) (10) (fun ad => [.ref (ad 0)]) (fun Q σ => wp_X6_wall  (aI Q) σ) := by
  refine con_intro (by decide +kernel) (fun _ => Nat.le_of_ble_eq_true rfl) (by omega) (fun X Q σ hX hR hw => ?_)
  have hX : CxB X RX6 cX6_wall 3 (10) := hX
  unfold wp_X6_wall at hw
  show At X 3 0 [(0, .ref (X.kad 0))] [] σ
  refine r_aload_n 1 hX dX6_wall_0 rfl rfl 0 rfl ?_
  refine g_X6_16_0 4 hX dX6_wall_1 rfl ?_
  refine r_aload_n 5 hX dX6_wall_4 rfl rfl 0 rfl ?_
  refine g_X6_9_0 8 hX dX6_wall_5 rfl ?_
  refine r_aload_n 9 hX dX6_wall_8 rfl rfl 0 rfl ?_
  refine g_X6_77_0 12 hX dX6_wall_9 rfl ?_
  refine r_aload_n 13 hX dX6_wall_12 rfl rfl 0 rfl ?_
  refine g_X6_27_0 16 hX dX6_wall_13 rfl ?_
  refine k_X6_81_X1_read 19 hX (by omega) (σ.1 0 1) (Nat.le_of_ble_eq_true rfl) dX6_wall_16 rfl hw (fun r16 σ16 hw => ?_)
  refine r_istore_n (lv' := [(1, .int (r16)), (0, .ref (X.kad 0))]) 20 hX dX6_wall_19 rfl rfl (by decide) rfl ?_
  refine r_iload_n 21 hX dX6_wall_20 rfl rfl 0 rfl ?_
  refine r_if_lt 29 24 hX dX6_wall_21 (by decide) rfl hw (fun hw => ?_) (fun hw => ?_)
  · refine r_aload_n 30 hX dX6_wall_29 rfl rfl 1 rfl ?_
    refine g_X6_23_0 33 hX dX6_wall_30 rfl ?_
    refine r_aload_n 34 hX dX6_wall_33 rfl rfl 1 rfl ?_
    refine g_X6_27_0 37 hX dX6_wall_34 rfl ?_
    refine k_X6_85_X4_copyFrom 40 hX (by omega)  (Nat.le_of_ble_eq_true rfl) dX6_wall_37 rfl hw (fun σ37 hw => ?_)
    refine r_aload_n 41 hX dX6_wall_40 rfl rfl 1 rfl ?_
    refine r_iconst 42 hX dX6_wall_41 rfl 0 ic_0 ?_
    refine p_X6_77_0 45 hX dX6_wall_42 rfl ?_
    refine r_aload_n 46 hX dX6_wall_45 rfl rfl 1 rfl ?_
    refine g_X6_42_0 49 hX dX6_wall_46 rfl ?_
    refine r_aload_n 50 hX dX6_wall_49 rfl rfl 1 rfl ?_
    refine g_X6_23_0 53 hX dX6_wall_50 rfl ?_
    refine k_X6_89_X2_goStraightUp 56 hX (by omega)  (Nat.le_of_ble_eq_true rfl) dX6_wall_53 rfl hw (fun σ53 hw => ?_)
    refine r_aload_n 57 hX dX6_wall_56 rfl rfl 1 rfl ?_
    refine g_X6_42_0 60 hX dX6_wall_57 rfl ?_
    refine r_iconst 61 hX dX6_wall_60 rfl 0 ic_0 ?_
    refine p_X6_92_20 64 hX dX6_wall_61 rfl ?_
    refine r_iconst 65 hX dX6_wall_64 rfl 0 ic_0 ?_
    refine r_istore_n (lv' := [(2, .int (0)), (1, .int (r16)), (0, .ref (X.kad 0))]) 66 hX dX6_wall_65 rfl rfl (by decide) rfl ?_
    refine r_sub [2, 0] rfl ?_
    obtain ⟨n, hw⟩ := hw
    exact w_X6_wall_l66 hX hR n _ _ hw
  · refine r_bipush 26 hX dX6_wall_24 rfl (-10) bi_m10 ?_
    refine r_iload_n 27 hX dX6_wall_26 rfl rfl 0 rfl ?_
    refine r_isub 28 hX dX6_wall_27 rfl ?_
    exact r_iret hX hR dX6_wall_28 hw
set_option maxRecDepth 20000 in
set_option maxHeartbeats 4000000 in
theorem w_X6_type_b33 {X : Cx} {Q : RV → St → Prop} (hX : CxB X RX6 cX6_type 5 (1)) (hR : CxR X (some .int) Q) {K33 : Int64 → Int32 → St → Prop} (hK33 : ∀ (x1 : Int64) (x4 : Int32) (σ : St), K33 x1 x4 σ → At X 5 33 [(0, .ref (X.kad 0)), (1, .long (x1)), (4, .int (x4))] [] σ) (x1 : Int64) (x4 : Int32) (σ : St) (hw : wp_X6_type_b33 (aI Q) K33 x1 x4 σ) : At X 5 33 [(0, .ref (X.kad 0)), (1, .long (x1)), (4, .int (x4))] [] σ := by
  unfold wp_X6_type_b33 at hw
  refine r_iload 35 hX dX6_type_33 rfl 2 rfl ?_
  refine r_if_lt 72 38 hX dX6_type_35 (by decide) rfl hw (fun hw => ?_) (fun hw => ?_)
  · refine r_aload_n 73 hX dX6_type_72 rfl rfl 0 rfl ?_
    refine g_X6_77_0 76 hX dX6_type_73 rfl ?_
    exact r_iret hX hR dX6_type_76 hw
  · refine r_aload_n 39 hX dX6_type_38 rfl rfl 0 rfl ?_
    refine g_X6_9_0 42 hX dX6_type_39 rfl ?_
    refine r_aload_n 43 hX dX6_type_42 rfl rfl 0 rfl ?_
    refine g_X6_77_0 46 hX dX6_type_43 rfl ?_
    refine r_lload_n 47 hX dX6_type_46 rfl rfl 1 rfl ?_
    refine r_bipush 49 hX dX6_type_47 rfl 8 bi_8 ?_
    refine r_iload 51 hX dX6_type_49 rfl 2 rfl ?_
    refine r_imul 52 hX dX6_type_51 rfl ?_
    refine r_lushr 53 hX dX6_type_52 rfl ?_
    refine r_l2i 54 hX dX6_type_53 rfl ?_
    refine r_i2b 55 hX dX6_type_54 rfl ?_
    refine r_bast 56 hX sh_1 dX6_type_55 rfl hw (fun hw => ?_)
    refine r_aload_n 57 hX dX6_type_56 rfl rfl 0 rfl ?_
    refine r_dup 58 hX dX6_type_57 rfl rfl ?_
    refine g_X6_77_0 61 hX dX6_type_58 rfl ?_
    refine r_iconst 62 hX dX6_type_61 rfl 1 ic_1 ?_
    refine r_iadd 63 hX dX6_type_62 rfl ?_
    refine p_X6_77_0 66 hX dX6_type_63 rfl ?_
    refine r_iinc (lv' := [(4, .int (x4 + (-1))), (0, .ref (X.kad 0)), (1, .long (x1))]) 69 hX dX6_type_66 rfl 2 rfl (x4 + (-1)) (ici_m1 _) (by decide) rfl ?_
    refine r_goto 33 hX dX6_type_69 (by decide) ?_
    refine r_sub [1, 2, 0] rfl ?_
    exact hK33 _ _ _ hw
set_option maxRecDepth 20000 in
set_option maxHeartbeats 4000000 in
theorem w_X6_type_l33 {X : Cx} {Q : RV → St → Prop} (hX : CxB X RX6 cX6_type 5 (1)) (hR : CxR X (some .int) Q) (n : Nat) : ∀ (x1 : Int64) (x4 : Int32) (σ : St), wp_X6_type_l33 (aI Q)  n x1 x4 σ → At X 5 33 [(0, .ref (X.kad 0)), (1, .long (x1)), (4, .int (x4))] [] σ := by
  induction n with
  | zero => intro x1 x4 σ h; exact h.elim
  | succ n ih => intro x1 x4 σ h; exact w_X6_type_b33  hX hR ih x1 x4 σ h
set_option maxRecDepth 20000 in
set_option maxHeartbeats 4000000 in
theorem c_X6_type (x1 : Int64) (x3 : Int32) : Con yX6_type cX6_type 5 (some .int) (1) (fun ad => [.ref (ad 0), .long (x1), .int (x3)]) (fun Q σ => wp_X6_type x1 x3 (aI Q) σ) := by
  refine con_intro (by decide +kernel) (fun _ => Nat.le_of_ble_eq_true rfl) (by omega) (fun X Q σ hX hR hw => ?_)
  have hX : CxB X RX6 cX6_type 5 (1) := hX
  unfold wp_X6_type at hw
  show At X 5 0 [(0, .ref (X.kad 0)), (1, .long (x1)), (3, .int (x3))] [] σ
  refine r_iload_n 1 hX dX6_type_0 rfl rfl 2 rfl ?_
  refine r_iconst 2 hX dX6_type_1 rfl 1 ic_1 ?_
  refine r_icmp_lt 11 5 hX dX6_type_2 (by decide) rfl hw (fun hw => ?_) (fun hw => ?_)
  · refine r_iconst 12 hX dX6_type_11 rfl (-1) ic_m1 ?_
    exact r_iret hX hR dX6_type_12 hw
  · refine r_iload_n 6 hX dX6_type_5 rfl rfl 2 rfl ?_
    refine r_bipush 8 hX dX6_type_6 rfl 8 bi_8 ?_
    refine r_icmp_le 13 11 hX dX6_type_8 (by decide) rfl hw (fun hw => ?_) (fun hw => ?_)
    · refine r_aload_n 14 hX dX6_type_13 rfl rfl 0 rfl ?_
      refine g_X6_77_0 17 hX dX6_type_14 rfl ?_
      refine r_iload_n 18 hX dX6_type_17 rfl rfl 2 rfl ?_
      refine r_iadd 19 hX dX6_type_18 rfl ?_
      refine r_sipush 22 hX dX6_type_19 rfl 300 si_300 ?_
      refine r_icmp_le 28 25 hX dX6_type_22 (by decide) rfl hw (fun hw => ?_) (fun hw => ?_)
      · refine r_iload_n 29 hX dX6_type_28 rfl rfl 2 rfl ?_
        refine r_iconst 30 hX dX6_type_29 rfl 1 ic_1 ?_
        refine r_isub 31 hX dX6_type_30 rfl ?_
        refine r_istore (lv' := [(4, .int (x3 - 1)), (0, .ref (X.kad 0)), (1, .long (x1)), (3, .int (x3))]) 33 hX dX6_type_31 rfl (by decide) rfl ?_
        refine r_sub [1, 2, 0] rfl ?_
        obtain ⟨n, hw⟩ := hw
        exact w_X6_type_l33 hX hR n _ _ _ hw
      · refine r_bipush 27 hX dX6_type_25 rfl (-3) bi_m3 ?_
        exact r_iret hX hR dX6_type_27 hw
    · refine r_iconst 12 hX dX6_type_11 rfl (-1) ic_m1 ?_
      exact r_iret hX hR dX6_type_12 hw
set_option maxRecDepth 20000 in
set_option maxHeartbeats 4000000 in
theorem c_X6_clear : Con yX6_clear cX6_clear 2 (some .int) (1) (fun ad => [.ref (ad 0)]) (fun Q σ => wp_X6_clear  (aI Q) σ) := by
  refine con_intro (by decide +kernel) (fun _ => Nat.le_of_ble_eq_true rfl) (by omega) (fun X Q σ hX hR hw => ?_)
  have hX : CxB X RX6 cX6_clear 2 (1) := hX
  unfold wp_X6_clear at hw
  show At X 2 0 [(0, .ref (X.kad 0))] [] σ
  refine r_aload_n 1 hX dX6_clear_0 rfl rfl 0 rfl ?_
  refine g_X6_77_0 4 hX dX6_clear_1 rfl ?_
  refine r_istore_n (lv' := [(1, .int (σ.1 0 1)), (0, .ref (X.kad 0))]) 5 hX dX6_clear_4 rfl rfl (by decide) rfl ?_
  refine r_aload_n 6 hX dX6_clear_5 rfl rfl 1 rfl ?_
  refine r_iconst 7 hX dX6_clear_6 rfl 0 ic_0 ?_
  refine p_X6_77_0 10 hX dX6_clear_7 rfl ?_
  refine r_iload_n 11 hX dX6_clear_10 rfl rfl 0 rfl ?_
  exact r_iret hX hR dX6_clear_11 hw
theorem k_X6_104_X4_hasBrick {X : Cx} {cc : ByteArray} {nL d pc : Nat} {lv : List (Nat × Value)} {rest : List Value} {σ : St} {K : Int32 → St → Prop} (q : Nat) (hX : CxB X RX6 cc nL d) (hdc : 2 + 1 ≤ d) (x1 : Int32) (x2 : Int32) (hst : (rest.map fun v => v.category).sum ≤ 8) (hd : decode cc pc = .ok (.invokevirtual 104, 3)) (hq : pc + 3 = q) (hw : wp_X4_hasBrick x1 x2 K σ) (kk : ∀ (r : Int32) (τ : St), K r τ → At X nL q lv (.int r :: rest) τ) : At X nL pc lv (.int (x2) :: .int (x1) :: .ref (X.kad 4) :: rest) σ := r_callV (n := 2) q hX (k0 := 4) (c_X4_hasBrick x1 x2) tw_409 tw_16 tw_17 tw_8 tw_18 ⟨by decide +kernel, by decide +kernel, by decide +kernel⟩ hdc (by decide) (As := [.int (x1), .int (x2)]) rfl rfl (by decide) ⟨_, _, _, rfl, rfl, rfl⟩ hst hd hq rfl (K := qI K) hw (kI kk)
theorem k_X6_108_X4_isFree {X : Cx} {cc : ByteArray} {nL d pc : Nat} {lv : List (Nat × Value)} {rest : List Value} {σ : St} {K : Int32 → St → Prop} (q : Nat) (hX : CxB X RX6 cc nL d) (hdc : 3 + 1 ≤ d) (x1 : Int32) (x2 : Int32) (hst : (rest.map fun v => v.category).sum ≤ 8) (hd : decode cc pc = .ok (.invokevirtual 108, 3)) (hq : pc + 3 = q) (hw : wp_X4_isFree x1 x2 K σ) (kk : ∀ (r : Int32) (τ : St), K r τ → At X nL q lv (.int r :: rest) τ) : At X nL pc lv (.int (x2) :: .int (x1) :: .ref (X.kad 4) :: rest) σ := r_callV (n := 2) q hX (k0 := 4) (c_X4_isFree x1 x2) tw_410 tw_61 tw_62 tw_8 tw_63 ⟨by decide +kernel, by decide +kernel, by decide +kernel⟩ hdc (by decide) (As := [.int (x1), .int (x2)]) rfl rfl (by decide) ⟨_, _, _, rfl, rfl, rfl⟩ hst hd hq rfl (K := qI K) hw (kI kk)
theorem k_X6_111_X4_isCold {X : Cx} {cc : ByteArray} {nL d pc : Nat} {lv : List (Nat × Value)} {rest : List Value} {σ : St} {K : Int32 → St → Prop} (q : Nat) (hX : CxB X RX6 cc nL d) (hdc : 2 + 1 ≤ d) (x1 : Int32) (hst : (rest.map fun v => v.category).sum ≤ 8) (hd : decode cc pc = .ok (.invokevirtual 111, 3)) (hq : pc + 3 = q) (hw : wp_X4_isCold x1 K σ) (kk : ∀ (r : Int32) (τ : St), K r τ → At X nL q lv (.int r :: rest) τ) : At X nL pc lv (.int (x1) :: .ref (X.kad 4) :: rest) σ := r_callV (n := 1) q hX (k0 := 4) (c_X4_isCold x1) tw_411 tw_44 tw_45 tw_8 tw_46 ⟨by decide +kernel, by decide +kernel, by decide +kernel⟩ hdc (by decide) (As := [.int (x1)]) rfl rfl (by decide) ⟨_, _, _, rfl, rfl, rfl⟩ hst hd hq rfl (K := qI K) hw (kI kk)
set_option maxRecDepth 20000 in
set_option maxHeartbeats 4000000 in
theorem w_X6_brick_b31 {X : Cx} {Q : RV → St → Prop} (hX : CxB X RX6 cX6_brick 3 (4)) (hR : CxR X (some .int) Q) (x2 : Int32) (s0 : Int32) (σ : St) (hw : wp_X6_brick_b31 (aI Q)  x2 s0 σ) : At X 3 31 [(0, .ref (X.kad 0)), (2, .int (x2))] [.int (s0)] σ := by
  unfold wp_X6_brick_b31 at hw
  refine r_aload_n 32 hX dX6_brick_31 rfl rfl 0 rfl ?_
  refine g_X6_23_0 35 hX dX6_brick_32 rfl ?_
  refine r_iload_n 36 hX dX6_brick_35 rfl rfl 1 rfl ?_
  refine k_X6_111_X4_isCold 39 hX (by omega) (x2) (Nat.le_of_ble_eq_true rfl) dX6_brick_36 rfl hw (fun r36 σ36 hw => ?_)
  refine r_if_eq 46 42 hX dX6_brick_39 (by decide) rfl hw (fun hw => ?_) (fun hw => ?_)
  · refine r_iconst 47 hX dX6_brick_46 rfl 0 ic_0 ?_
    refine r_iadd 48 hX dX6_brick_47 rfl ?_
    exact r_iret hX hR dX6_brick_48 hw
  · refine r_iconst 43 hX dX6_brick_42 rfl 2 ic_2 ?_
    refine r_goto 47 hX dX6_brick_43 (by decide) ?_
    refine r_iadd 48 hX dX6_brick_47 rfl ?_
    exact r_iret hX hR dX6_brick_48 hw
set_option maxRecDepth 20000 in
set_option maxHeartbeats 4000000 in
theorem c_X6_brick (x1 : Int32) (x2 : Int32) : Con yX6_brick cX6_brick 3 (some .int) (4) (fun ad => [.ref (ad 0), .int (x1), .int (x2)]) (fun Q σ => wp_X6_brick x1 x2 (aI Q) σ) := by
  refine con_intro (by decide +kernel) (fun _ => Nat.le_of_ble_eq_true rfl) (by omega) (fun X Q σ hX hR hw => ?_)
  have hX : CxB X RX6 cX6_brick 3 (4) := hX
  unfold wp_X6_brick at hw
  show At X 3 0 [(0, .ref (X.kad 0)), (1, .int (x1)), (2, .int (x2))] [] σ
  refine r_aload_n 1 hX dX6_brick_0 rfl rfl 0 rfl ?_
  refine g_X6_23_0 4 hX dX6_brick_1 rfl ?_
  refine r_iload_n 5 hX dX6_brick_4 rfl rfl 1 rfl ?_
  refine r_iload_n 6 hX dX6_brick_5 rfl rfl 2 rfl ?_
  refine k_X6_104_X4_hasBrick 9 hX (by omega) (x1) (x2) (Nat.le_of_ble_eq_true rfl) dX6_brick_6 rfl hw (fun r6 σ6 hw => ?_)
  refine r_if_ne 14 12 hX dX6_brick_9 (by decide) rfl hw (fun hw => ?_) (fun hw => ?_)
  · refine r_aload_n 15 hX dX6_brick_14 rfl rfl 0 rfl ?_
    refine g_X6_23_0 18 hX dX6_brick_15 rfl ?_
    refine r_iload_n 19 hX dX6_brick_18 rfl rfl 1 rfl ?_
    refine r_iload_n 20 hX dX6_brick_19 rfl rfl 2 rfl ?_
    refine k_X6_108_X4_isFree 23 hX (by omega) (x1) (x2) (Nat.le_of_ble_eq_true rfl) dX6_brick_20 rfl hw (fun r20 σ20 hw => ?_)
    refine r_if_eq 30 26 hX dX6_brick_23 (by decide) rfl hw (fun hw => ?_) (fun hw => ?_)
    · refine r_iconst 31 hX dX6_brick_30 rfl 1 ic_1 ?_
      refine r_sub [0, 2] rfl ?_
      exact w_X6_brick_b31 hX hR _ _ _ hw
    · refine r_iconst 27 hX dX6_brick_26 rfl 0 ic_0 ?_
      refine r_goto 31 hX dX6_brick_27 (by decide) ?_
      refine r_sub [0, 2] rfl ?_
      exact w_X6_brick_b31 hX hR _ _ _ hw
  · refine r_iconst 13 hX dX6_brick_12 rfl (-1) ic_m1 ?_
    exact r_iret hX hR dX6_brick_13 hw
theorem k_X6_115_X4_hasHearth {X : Cx} {cc : ByteArray} {nL d pc : Nat} {lv : List (Nat × Value)} {rest : List Value} {σ : St} {K : Int32 → St → Prop} (q : Nat) (hX : CxB X RX6 cc nL d) (hdc : 1 + 1 ≤ d) (x1 : Int32) (hst : (rest.map fun v => v.category).sum ≤ 8) (hd : decode cc pc = .ok (.invokevirtual 115, 3)) (hq : pc + 3 = q) (hw : wp_X4_hasHearth x1 K σ) (kk : ∀ (r : Int32) (τ : St), K r τ → At X nL q lv (.int r :: rest) τ) : At X nL pc lv (.int (x1) :: .ref (X.kad 4) :: rest) σ := r_callV (n := 1) q hX (k0 := 4) (c_X4_hasHearth x1) tw_412 tw_48 tw_49 tw_8 tw_50 ⟨by decide +kernel, by decide +kernel, by decide +kernel⟩ hdc (by decide) (As := [.int (x1)]) rfl rfl (by decide) ⟨_, _, _, rfl, rfl, rfl⟩ hst hd hq rfl (K := qI K) hw (kI kk)
set_option maxRecDepth 20000 in
set_option maxHeartbeats 4000000 in
theorem c_X6_hearth (x1 : Int32) (x2 : Int32) : Con yX6_hearth cX6_hearth 3 (some .int) (2) (fun ad => [.ref (ad 0), .int (x1), .int (x2)]) (fun Q σ => wp_X6_hearth x1 x2 (aI Q) σ) := by
  refine con_intro (by decide +kernel) (fun _ => Nat.le_of_ble_eq_true rfl) (by omega) (fun X Q σ hX hR hw => ?_)
  have hX : CxB X RX6 cX6_hearth 3 (2) := hX
  unfold wp_X6_hearth at hw
  show At X 3 0 [(0, .ref (X.kad 0)), (1, .int (x1)), (2, .int (x2))] [] σ
  refine r_aload_n 1 hX dX6_hearth_0 rfl rfl 0 rfl ?_
  refine g_X6_23_0 4 hX dX6_hearth_1 rfl ?_
  refine r_iload_n 5 hX dX6_hearth_4 rfl rfl 1 rfl ?_
  refine k_X6_115_X4_hasHearth 8 hX (by omega) (x1) (Nat.le_of_ble_eq_true rfl) dX6_hearth_5 rfl hw (fun r5 σ5 hw => ?_)
  refine r_if_ne 13 11 hX dX6_hearth_8 (by decide) rfl hw (fun hw => ?_) (fun hw => ?_)
  · refine r_iload_n 14 hX dX6_hearth_13 rfl rfl 2 rfl ?_
    -- switch
    refine r_case hw (fun hc hw => ?_) (fun hc0 hw => ?_)
    · refine r_tabIn 40 hX dX6_hearth_14 (by rw [hc]; decide) (by rw [hc]; decide) (off := 26) (by rw [hc]; decide) (by decide) ?_
      refine r_aload_n 41 hX dX6_hearth_40 rfl rfl 0 rfl ?_
      refine g_X6_23_0 44 hX dX6_hearth_41 rfl ?_
      refine g_X6_118_4 47 hX dX6_hearth_44 rfl ?_
      refine r_iload_n 48 hX dX6_hearth_47 rfl rfl 1 rfl ?_
      refine r_iald 49 hX sh_6 dX6_hearth_48 rfl hw (fun hw => ?_)
      exact r_iret hX hR dX6_hearth_49 hw
    refine r_case hw (fun hc hw => ?_) (fun hc1 hw => ?_)
    · refine r_tabIn 50 hX dX6_hearth_14 (by rw [hc]; decide) (by rw [hc]; decide) (off := 36) (by rw [hc]; decide) (by decide) ?_
      refine r_aload_n 51 hX dX6_hearth_50 rfl rfl 0 rfl ?_
      refine g_X6_23_0 54 hX dX6_hearth_51 rfl ?_
      refine g_X6_121_4 57 hX dX6_hearth_54 rfl ?_
      refine r_iload_n 58 hX dX6_hearth_57 rfl rfl 1 rfl ?_
      refine r_iald 59 hX sh_7 dX6_hearth_58 rfl hw (fun hw => ?_)
      exact r_iret hX hR dX6_hearth_59 hw
    refine r_case hw (fun hc hw => ?_) (fun hc2 hw => ?_)
    · refine r_tabIn 60 hX dX6_hearth_14 (by rw [hc]; decide) (by rw [hc]; decide) (off := 46) (by rw [hc]; decide) (by decide) ?_
      refine r_aload_n 61 hX dX6_hearth_60 rfl rfl 0 rfl ?_
      refine g_X6_23_0 64 hX dX6_hearth_61 rfl ?_
      refine g_X6_124_4 67 hX dX6_hearth_64 rfl ?_
      refine r_iload_n 68 hX dX6_hearth_67 rfl rfl 1 rfl ?_
      refine r_iald 69 hX sh_8 dX6_hearth_68 rfl hw (fun hw => ?_)
      exact r_iret hX hR dX6_hearth_69 hw
    refine r_tabOut 70 hX dX6_hearth_14 (sw_out0_2 hc0 hc1 hc2) (by decide) ?_
    refine r_iconst 71 hX dX6_hearth_70 rfl (-1) ic_m1 ?_
    exact r_iret hX hR dX6_hearth_71 hw
  · refine r_iconst 12 hX dX6_hearth_11 rfl (-1) ic_m1 ?_
    exact r_iret hX hR dX6_hearth_12 hw
theorem k_X6_133_X6_hasQuarter {X : Cx} {cc : ByteArray} {nL d pc : Nat} {lv : List (Nat × Value)} {rest : List Value} {σ : St} {K : Int32 → St → Prop} (q : Nat) (hX : CxB X RX6 cc nL d) (hdc : 1 + 1 ≤ d) (x0 : Int32) (hst : (rest.map fun v => v.category).sum ≤ 8) (hd : decode cc pc = .ok (.invokestatic 133, 3)) (hq : pc + 3 = q) (hw : wp_X6_hasQuarter x0 K σ) (kk : ∀ (r : Int32) (τ : St), K r τ → At X nL q lv (.int r :: rest) τ) : At X nL pc lv (.int (x0) :: rest) σ := r_callS (n := 1) q hX (c_X6_hasQuarter x0) tw_413 tw_414 tw_328 tw_415 ⟨by decide +kernel, by decide +kernel, by decide +kernel⟩ hdc (by decide) (As := [.int (x0)]) rfl rfl hst hd hq rfl (K := qI K) hw (kI kk)
set_option maxRecDepth 20000 in
set_option maxHeartbeats 4000000 in
theorem c_X6_wind (x1 : Int32) (x2 : Int32) (x3 : Int32) : Con yX6_wind cX6_wind 5 (some .int) (2) (fun ad => [.ref (ad 0), .int (x1), .int (x2), .int (x3)]) (fun Q σ => wp_X6_wind x1 x2 x3 (aI Q) σ) := by
  refine con_intro (by decide +kernel) (fun _ => Nat.le_of_ble_eq_true rfl) (by omega) (fun X Q σ hX hR hw => ?_)
  have hX : CxB X RX6 cX6_wind 5 (2) := hX
  unfold wp_X6_wind at hw
  show At X 5 0 [(0, .ref (X.kad 0)), (1, .int (x1)), (2, .int (x2)), (3, .int (x3))] [] σ
  refine r_iload_n 1 hX dX6_wind_0 rfl rfl 1 rfl ?_
  refine k_X6_133_X6_hasQuarter 4 hX (by omega) (x1) (Nat.le_of_ble_eq_true rfl) dX6_wind_1 rfl hw (fun r1 σ1 hw => ?_)
  refine r_if_eq 30 7 hX dX6_wind_4 (by decide) rfl hw (fun hw => ?_) (fun hw => ?_)
  · refine r_ldc 32 hX (-1000000) tw_416 dX6_wind_30 rfl ?_
    exact r_iret hX hR dX6_wind_32 hw
  · refine r_aload_n 8 hX dX6_wind_7 rfl rfl 0 rfl ?_
    refine g_X6_23_0 11 hX dX6_wind_8 rfl ?_
    refine r_iload_n 12 hX dX6_wind_11 rfl rfl 2 rfl ?_
    refine k_X6_136_X4_hasColumn 15 hX (by omega) (x2) (Nat.le_of_ble_eq_true rfl) dX6_wind_12 rfl hw (fun r12 σ12 hw => ?_)
    refine r_if_eq 30 18 hX dX6_wind_15 (by decide) rfl hw (fun hw => ?_) (fun hw => ?_)
    · refine r_ldc 32 hX (-1000000) tw_416 dX6_wind_30 rfl ?_
      exact r_iret hX hR dX6_wind_32 hw
    · refine r_iload_n 19 hX dX6_wind_18 rfl rfl 3 rfl ?_
      refine r_bipush 21 hX dX6_wind_19 rfl (-9) bi_m9 ?_
      refine r_icmp_lt 30 24 hX dX6_wind_21 (by decide) rfl hw (fun hw => ?_) (fun hw => ?_)
      · refine r_ldc 32 hX (-1000000) tw_416 dX6_wind_30 rfl ?_
        exact r_iret hX hR dX6_wind_32 hw
      · refine r_iload_n 25 hX dX6_wind_24 rfl rfl 3 rfl ?_
        refine r_bipush 27 hX dX6_wind_25 rfl 9 bi_9 ?_
        refine r_icmp_le 33 30 hX dX6_wind_27 (by decide) rfl hw (fun hw => ?_) (fun hw => ?_)
        · refine r_aload_n 34 hX dX6_wind_33 rfl rfl 0 rfl ?_
          refine g_X6_36_0 37 hX dX6_wind_34 rfl ?_
          refine r_iload_n 38 hX dX6_wind_37 rfl rfl 1 rfl ?_
          refine r_aald 39 hX sh_15 dX6_wind_38 rfl hw (fun hv38 hw => ?_)
          refine r_iload_n 40 hX dX6_wind_39 rfl rfl 2 rfl ?_
          refine r_iald 41 hX (shr_15 hv38) dX6_wind_40 rfl hw (fun hw => ?_)
          refine r_topi hw (fun v41 hw => ?_)
          refine r_istore (lv' := [(4, .int (v41)), (0, .ref (X.kad 0)), (1, .int (x1)), (2, .int (x2)), (3, .int (x3))]) 43 hX dX6_wind_41 rfl (by decide) rfl ?_
          refine r_aload_n 44 hX dX6_wind_43 rfl rfl 1 rfl ?_
          refine g_X6_36_0 47 hX dX6_wind_44 rfl ?_
          refine r_iload_n 48 hX dX6_wind_47 rfl rfl 2 rfl ?_
          refine r_aald 49 hX sh_15 dX6_wind_48 rfl hw (fun hv48 hw => ?_)
          refine r_iload_n 50 hX dX6_wind_49 rfl rfl 3 rfl ?_
          refine r_iload_n 51 hX dX6_wind_50 rfl rfl 4 rfl ?_
          refine r_iast 52 hX (shr_15 hv48) dX6_wind_51 rfl hw (fun hw => ?_)
          refine r_iload 54 hX dX6_wind_52 rfl 0 rfl ?_
          exact r_iret hX hR dX6_wind_54 hw
        · refine r_ldc 32 hX (-1000000) tw_416 dX6_wind_30 rfl ?_
          exact r_iret hX hR dX6_wind_32 hw
theorem k_X6_142_X5_prepare {X : Cx} {cc : ByteArray} {nL d pc : Nat} {lv : List (Nat × Value)} {rest : List Value} {σ : St} {K : St → Prop} (q : Nat) (hX : CxB X RX6 cc nL d) (hdc : 2 + 1 ≤ d) (x2 : Int32) (hst : (rest.map fun v => v.category).sum ≤ 8) (hd : decode cc pc = .ok (.invokevirtual 142, 3)) (hq : pc + 3 = q) (hw : wp_X5_prepare x2 K σ) (kk : ∀ (τ : St), K τ → At X nL q lv (rest) τ) : At X nL pc lv (.int (x2) :: .ref (X.kad 4) :: .ref (X.kad 43) :: rest) σ := r_callV (n := 2) q hX (k0 := 43) (c_X5_prepare x2) tw_418 tw_419 tw_420 tw_90 tw_421 ⟨by decide +kernel, by decide +kernel, by decide +kernel⟩ hdc (by decide) (As := [.ref (X.kad 4), .int (x2)]) rfl rfl (by decide) ⟨_, _, _, rfl, rfl, rfl⟩ hst hd hq rfl (K := qV K) hw (kV kk)
theorem k_X6_146_X5_number {X : Cx} {cc : ByteArray} {nL d pc : Nat} {lv : List (Nat × Value)} {rest : List Value} {σ : St} {K : Int64 → St → Prop} (q : Nat) (hX : CxB X RX6 cc nL d) (hdc : 2 + 1 ≤ d) (hst : (rest.map fun v => v.category).sum ≤ 8) (hd : decode cc pc = .ok (.invokevirtual 146, 3)) (hq : pc + 3 = q) (hw : wp_X5_number  K σ) (kk : ∀ (r : Int64) (τ : St), K r τ → At X nL q lv (.long r :: rest) τ) : At X nL pc lv (.ref (X.kad 43) :: rest) σ := r_callV (n := 0) q hX (k0 := 43) (c_X5_number ) tw_422 tw_423 tw_424 tw_90 tw_425 ⟨by decide +kernel, by decide +kernel, by decide +kernel⟩ hdc (by decide) (As := []) rfl rfl (by decide) ⟨_, _, _, rfl, rfl, rfl⟩ hst hd hq rfl (K := qJ K) hw (kJ kk)
set_option maxRecDepth 20000 in
set_option maxHeartbeats 4000000 in
theorem c_X6_many (x1 : Int32) : Con yX6_many cX6_many 2 (some .long) (3) (fun ad => [.ref (ad 0), .int (x1)]) (fun Q σ => wp_X6_many x1 (aJ Q) σ) := by
  refine con_intro (by decide +kernel) (fun _ => Nat.le_of_ble_eq_true rfl) (by omega) (fun X Q σ hX hR hw => ?_)
  have hX : CxB X RX6 cX6_many 2 (3) := hX
  unfold wp_X6_many at hw
  show At X 2 0 [(0, .ref (X.kad 0)), (1, .int (x1))] [] σ
  refine r_aload_n 1 hX dX6_many_0 rfl rfl 0 rfl ?_
  refine g_X6_23_0 4 hX dX6_many_1 rfl ?_
  refine r_iload_n 5 hX dX6_many_4 rfl rfl 1 rfl ?_
  refine k_X6_115_X4_hasHearth 8 hX (by omega) (x1) (Nat.le_of_ble_eq_true rfl) dX6_many_5 rfl hw (fun r5 σ5 hw => ?_)
  refine r_if_ne 15 11 hX dX6_many_8 (by decide) rfl hw (fun hw => ?_) (fun hw => ?_)
  · refine r_aload_n 16 hX dX6_many_15 rfl rfl 0 rfl ?_
    refine g_X6_66_0 19 hX dX6_many_16 rfl ?_
    refine r_aload_n 20 hX dX6_many_19 rfl rfl 0 rfl ?_
    refine g_X6_23_0 23 hX dX6_many_20 rfl ?_
    refine r_iload_n 24 hX dX6_many_23 rfl rfl 1 rfl ?_
    refine k_X6_142_X5_prepare 27 hX (by omega) (x1) (Nat.le_of_ble_eq_true rfl) dX6_many_24 rfl hw (fun σ24 hw => ?_)
    refine r_aload_n 28 hX dX6_many_27 rfl rfl 0 rfl ?_
    refine g_X6_66_0 31 hX dX6_many_28 rfl ?_
    refine k_X6_146_X5_number 34 hX (by omega)  (Nat.le_of_ble_eq_true rfl) dX6_many_31 rfl hw (fun r31 σ31 hw => ?_)
    exact r_lret hX hR dX6_many_34 hw
  · refine r_ldc2 14 hX (-1) tw_426 dX6_many_11 rfl ?_
    exact r_lret hX hR dX6_many_14 hw
theorem k_X6_154_X5_findFewestBends {X : Cx} {cc : ByteArray} {nL d pc : Nat} {lv : List (Nat × Value)} {rest : List Value} {σ : St} {K : Int32 → St → Prop} (q : Nat) (hX : CxB X RX6 cc nL d) (hdc : 4 + 1 ≤ d) (hst : (rest.map fun v => v.category).sum ≤ 8) (hd : decode cc pc = .ok (.invokevirtual 154, 3)) (hq : pc + 3 = q) (hw : wp_X5_findFewestBends  K σ) (kk : ∀ (r : Int32) (τ : St), K r τ → At X nL q lv (.int r :: rest) τ) : At X nL pc lv (.ref (X.kad 43) :: rest) σ := r_callV (n := 0) q hX (k0 := 43) (c_X5_findFewestBends ) tw_427 tw_428 tw_429 tw_90 tw_430 ⟨by decide +kernel, by decide +kernel, by decide +kernel⟩ hdc (by decide) (As := []) rfl rfl (by decide) ⟨_, _, _, rfl, rfl, rfl⟩ hst hd hq rfl (K := qI K) hw (kI kk)
theorem k_X6_150_X4_reaches {X : Cx} {cc : ByteArray} {nL d pc : Nat} {lv : List (Nat × Value)} {rest : List Value} {σ : St} {K : Int32 → St → Prop} (q : Nat) (hX : CxB X RX6 cc nL d) (hdc : 1 + 1 ≤ d) (x1 : Int32) (x2 : Int64) (hst : (rest.map fun v => v.category).sum ≤ 8) (hd : decode cc pc = .ok (.invokevirtual 150, 3)) (hq : pc + 3 = q) (hw : wp_X4_reaches x1 x2 K σ) (kk : ∀ (r : Int32) (τ : St), K r τ → At X nL q lv (.int r :: rest) τ) : At X nL pc lv (.long (x2) :: .int (x1) :: .ref (X.kad 4) :: rest) σ := r_callV (n := 2) q hX (k0 := 4) (c_X4_reaches x1 x2) tw_434 tw_69 tw_70 tw_8 tw_71 ⟨by decide +kernel, by decide +kernel, by decide +kernel⟩ hdc (by decide) (As := [.int (x1), .long (x2)]) rfl rfl (by decide) ⟨_, _, _, rfl, rfl, rfl⟩ hst hd hq rfl (K := qI K) hw (kI kk)
set_option maxRecDepth 20000 in
set_option maxHeartbeats 4000000 in
theorem w_X6_one_b37 {X : Cx} {Q : RV → St → Prop} (hX : CxB X RX6 cX6_one 3 (5)) (hR : CxR X (some .int) Q) (x1 : Int32) (x2 : Int32) (σ : St) (hw : wp_X6_one_b37 (aI Q)  x1 x2 σ) : At X 3 37 [(0, .ref (X.kad 0)), (1, .int (x1)), (2, .int (x2))] [] σ := by
  unfold wp_X6_one_b37 at hw
  refine r_aload_n 38 hX dX6_one_37 rfl rfl 0 rfl ?_
  refine g_X6_66_0 41 hX dX6_one_38 rfl ?_
  refine r_aload_n 42 hX dX6_one_41 rfl rfl 0 rfl ?_
  refine g_X6_23_0 45 hX dX6_one_42 rfl ?_
  refine r_iload_n 46 hX dX6_one_45 rfl rfl 1 rfl ?_
  refine k_X6_142_X5_prepare 49 hX (by omega) (x1) (Nat.le_of_ble_eq_true rfl) dX6_one_46 rfl hw (fun σ46 hw => ?_)
  refine r_aload_n 50 hX dX6_one_49 rfl rfl 0 rfl ?_
  refine g_X6_66_0 53 hX dX6_one_50 rfl ?_
  refine k_X6_154_X5_findFewestBends 56 hX (by omega)  (Nat.le_of_ble_eq_true rfl) dX6_one_53 rfl hw (fun r53 σ53 hw => ?_)
  refine r_if_ne 62 59 hX dX6_one_56 (by decide) rfl hw (fun hw => ?_) (fun hw => ?_)
  · refine r_iload_n 63 hX dX6_one_62 rfl rfl 2 rfl ?_
    refine r_iconst 64 hX dX6_one_63 rfl (-1) ic_m1 ?_
    refine r_icmp_ne 75 67 hX dX6_one_64 (by decide) rfl hw (fun hw => ?_) (fun hw => ?_)
    · refine r_iload_n 76 hX dX6_one_75 rfl rfl 2 rfl ?_
      refine r_bipush 78 hX dX6_one_76 rfl (-2) bi_m2 ?_
      refine r_icmp_ne 91 81 hX dX6_one_78 (by decide) rfl hw (fun hw => ?_) (fun hw => ?_)
      · refine r_aload_n 92 hX dX6_one_91 rfl rfl 0 rfl ?_
        refine g_X6_66_0 95 hX dX6_one_92 rfl ?_
        refine g_X6_164_43 98 hX dX6_one_95 rfl ?_
        refine r_iload_n 99 hX dX6_one_98 rfl rfl 2 rfl ?_
        refine r_iald 100 hX sh_48 dX6_one_99 rfl hw (fun hw => ?_)
        exact r_iret hX hR dX6_one_100 hw
      · refine r_aload_n 82 hX dX6_one_81 rfl rfl 0 rfl ?_
        refine g_X6_66_0 85 hX dX6_one_82 rfl ?_
        refine g_X6_161_43 88 hX dX6_one_85 rfl ?_
        refine r_goto 100 hX dX6_one_88 (by decide) ?_
        exact r_iret hX hR dX6_one_100 hw
    · refine r_aload_n 68 hX dX6_one_67 rfl rfl 0 rfl ?_
      refine g_X6_66_0 71 hX dX6_one_68 rfl ?_
      refine g_X6_158_43 74 hX dX6_one_71 rfl ?_
      exact r_iret hX hR dX6_one_74 hw
  · refine r_bipush 61 hX dX6_one_59 rfl (-9) bi_m9 ?_
    exact r_iret hX hR dX6_one_61 hw
set_option maxRecDepth 20000 in
set_option maxHeartbeats 4000000 in
theorem c_X6_one (x1 : Int32) (x2 : Int32) : Con yX6_one cX6_one 3 (some .int) (5) (fun ad => [.ref (ad 0), .int (x1), .int (x2)]) (fun Q σ => wp_X6_one x1 x2 (aI Q) σ) := by
  refine con_intro (by decide +kernel) (fun _ => Nat.le_of_ble_eq_true rfl) (by omega) (fun X Q σ hX hR hw => ?_)
  have hX : CxB X RX6 cX6_one 3 (5) := hX
  unfold wp_X6_one at hw
  show At X 3 0 [(0, .ref (X.kad 0)), (1, .int (x1)), (2, .int (x2))] [] σ
  refine r_aload_n 1 hX dX6_one_0 rfl rfl 0 rfl ?_
  refine g_X6_23_0 4 hX dX6_one_1 rfl ?_
  refine r_iload_n 5 hX dX6_one_4 rfl rfl 1 rfl ?_
  refine k_X6_115_X4_hasHearth 8 hX (by omega) (x1) (Nat.le_of_ble_eq_true rfl) dX6_one_5 rfl hw (fun r5 σ5 hw => ?_)
  refine r_if_eq 35 11 hX dX6_one_8 (by decide) rfl hw (fun hw => ?_) (fun hw => ?_)
  · refine r_iconst 36 hX dX6_one_35 rfl (-1) ic_m1 ?_
    exact r_iret hX hR dX6_one_36 hw
  · refine r_iload_n 12 hX dX6_one_11 rfl rfl 2 rfl ?_
    refine r_iconst 13 hX dX6_one_12 rfl (-1) ic_m1 ?_
    refine r_icmp_eq 37 16 hX dX6_one_13 (by decide) rfl hw (fun hw => ?_) (fun hw => ?_)
    · exact w_X6_one_b37 hX hR _ _ _ hw
    · refine r_iload_n 17 hX dX6_one_16 rfl rfl 2 rfl ?_
      refine r_bipush 19 hX dX6_one_17 rfl (-2) bi_m2 ?_
      refine r_icmp_eq 37 22 hX dX6_one_19 (by decide) rfl hw (fun hw => ?_) (fun hw => ?_)
      · exact w_X6_one_b37 hX hR _ _ _ hw
      · refine r_aload_n 23 hX dX6_one_22 rfl rfl 0 rfl ?_
        refine g_X6_23_0 26 hX dX6_one_23 rfl ?_
        refine r_iload_n 27 hX dX6_one_26 rfl rfl 1 rfl ?_
        refine r_iload_n 28 hX dX6_one_27 rfl rfl 2 rfl ?_
        refine r_i2l 29 hX dX6_one_28 rfl ?_
        refine k_X6_150_X4_reaches 32 hX (by omega) (x1) (x2.toInt64) (Nat.le_of_ble_eq_true rfl) dX6_one_29 rfl hw (fun r29 σ29 hw => ?_)
        refine r_if_ne 37 35 hX dX6_one_32 (by decide) rfl hw (fun hw => ?_) (fun hw => ?_)
        · exact w_X6_one_b37 hX hR _ _ _ hw
        · refine r_iconst 36 hX dX6_one_35 rfl (-1) ic_m1 ?_
          exact r_iret hX hR dX6_one_36 hw
theorem k_X6_167_X6_isSet {X : Cx} {cc : ByteArray} {nL d pc : Nat} {lv : List (Nat × Value)} {rest : List Value} {σ : St} {K : Int32 → St → Prop} (q : Nat) (hX : CxB X RX6 cc nL d) (hdc : 1 + 1 ≤ d) (x1 : Int32) (hst : (rest.map fun v => v.category).sum ≤ 8) (hd : decode cc pc = .ok (.invokevirtual 167, 3)) (hq : pc + 3 = q) (hw : wp_X6_isSet x1 K σ) (kk : ∀ (r : Int32) (τ : St), K r τ → At X nL q lv (.int r :: rest) τ) : At X nL pc lv (.int (x1) :: .ref (X.kad 0) :: rest) σ := r_callV (n := 1) q hX (k0 := 0) (c_X6_isSet x1) tw_435 tw_436 tw_437 tw_328 tw_438 ⟨by decide +kernel, by decide +kernel, by decide +kernel⟩ hdc (by decide) (As := [.int (x1)]) rfl rfl (by decide) ⟨_, _, _, rfl, rfl, rfl⟩ hst hd hq rfl (K := qI K) hw (kI kk)
theorem k_X6_174_X3_findsBest {X : Cx} {cc : ByteArray} {nL d pc : Nat} {lv : List (Nat × Value)} {rest : List Value} {σ : St} {K : Int32 → St → Prop} (q : Nat) (hX : CxB X RX6 cc nL d) (hdc : 122 + 1 ≤ d) (hst : (rest.map fun v => v.category).sum ≤ 8) (hd : decode cc pc = .ok (.invokevirtual 174, 3)) (hq : pc + 3 = q) (hw : wp_X3_findsBest  K σ) (kk : ∀ (r : Int32) (τ : St), K r τ → At X nL q lv (.int r :: rest) τ) : At X nL pc lv (.ref (X.kad 49) :: rest) σ := r_callV (n := 0) q hX (k0 := 49) (c_X3_findsBest ) tw_439 tw_440 tw_441 tw_144 tw_442 ⟨by decide +kernel, by decide +kernel, by decide +kernel⟩ hdc (by decide) (As := []) rfl rfl (by decide) ⟨_, _, _, rfl, rfl, rfl⟩ hst hd hq rfl (K := qI K) hw (kI kk)
theorem k_X6_181_X3_leans {X : Cx} {cc : ByteArray} {nL d pc : Nat} {lv : List (Nat × Value)} {rest : List Value} {σ : St} {K : Int32 → St → Prop} (q : Nat) (hX : CxB X RX6 cc nL d) (hdc : 122 + 1 ≤ d) (hst : (rest.map fun v => v.category).sum ≤ 8) (hd : decode cc pc = .ok (.invokevirtual 181, 3)) (hq : pc + 3 = q) (hw : wp_X3_leans  K σ) (kk : ∀ (r : Int32) (τ : St), K r τ → At X nL q lv (.int r :: rest) τ) : At X nL pc lv (.ref (X.kad 49) :: rest) σ := r_callV (n := 0) q hX (k0 := 49) (c_X3_leans ) tw_443 tw_444 tw_445 tw_144 tw_446 ⟨by decide +kernel, by decide +kernel, by decide +kernel⟩ hdc (by decide) (As := []) rfl rfl (by decide) ⟨_, _, _, rfl, rfl, rfl⟩ hst hd hq rfl (K := qI K) hw (kI kk)
theorem k_X6_177_X3_breadth {X : Cx} {cc : ByteArray} {nL d pc : Nat} {lv : List (Nat × Value)} {rest : List Value} {σ : St} {K : Int32 → St → Prop} (q : Nat) (hX : CxB X RX6 cc nL d) (hdc : 122 + 1 ≤ d) (hst : (rest.map fun v => v.category).sum ≤ 8) (hd : decode cc pc = .ok (.invokevirtual 177, 3)) (hq : pc + 3 = q) (hw : wp_X3_breadth  K σ) (kk : ∀ (r : Int32) (τ : St), K r τ → At X nL q lv (.int r :: rest) τ) : At X nL pc lv (.ref (X.kad 49) :: rest) σ := r_callV (n := 0) q hX (k0 := 49) (c_X3_breadth ) tw_447 tw_448 tw_449 tw_144 tw_450 ⟨by decide +kernel, by decide +kernel, by decide +kernel⟩ hdc (by decide) (As := []) rfl rfl (by decide) ⟨_, _, _, rfl, rfl, rfl⟩ hst hd hq rfl (K := qI K) hw (kI kk)
set_option maxRecDepth 20000 in
set_option maxHeartbeats 4000000 in
theorem c_X6_together (x1 : Int32) (x2 : Int32) : Con yX6_together cX6_together 3 (some .int) (123) (fun ad => [.ref (ad 0), .int (x1), .int (x2)]) (fun Q σ => wp_X6_together x1 x2 (aI Q) σ) := by
  refine con_intro (by decide +kernel) (fun _ => Nat.le_of_ble_eq_true rfl) (by omega) (fun X Q σ hX hR hw => ?_)
  have hX : CxB X RX6 cX6_together 3 (123) := hX
  unfold wp_X6_together at hw
  show At X 3 0 [(0, .ref (X.kad 0)), (1, .int (x1)), (2, .int (x2))] [] σ
  refine r_aload_n 1 hX dX6_together_0 rfl rfl 0 rfl ?_
  refine r_iload_n 2 hX dX6_together_1 rfl rfl 1 rfl ?_
  refine k_X6_167_X6_isSet 5 hX (by omega) (x1) (Nat.le_of_ble_eq_true rfl) dX6_together_2 rfl hw (fun r2 σ2 hw => ?_)
  refine r_if_eq 17 8 hX dX6_together_5 (by decide) rfl hw (fun hw => ?_) (fun hw => ?_)
  · refine r_iconst 18 hX dX6_together_17 rfl (-1) ic_m1 ?_
    exact r_iret hX hR dX6_together_18 hw
  · refine r_iload_n 9 hX dX6_together_8 rfl rfl 2 rfl ?_
    refine r_if_lt 17 12 hX dX6_together_9 (by decide) rfl hw (fun hw => ?_) (fun hw => ?_)
    · refine r_iconst 18 hX dX6_together_17 rfl (-1) ic_m1 ?_
      exact r_iret hX hR dX6_together_18 hw
    · refine r_iload_n 13 hX dX6_together_12 rfl rfl 2 rfl ?_
      refine r_iconst 14 hX dX6_together_13 rfl 1 ic_1 ?_
      refine r_icmp_le 19 17 hX dX6_together_14 (by decide) rfl hw (fun hw => ?_) (fun hw => ?_)
      · refine r_aload_n 20 hX dX6_together_19 rfl rfl 0 rfl ?_
        refine r_iload_n 21 hX dX6_together_20 rfl rfl 1 rfl ?_
        refine k_X6_170_X6_putSet 24 hX (by omega) (x1) (Nat.le_of_ble_eq_true rfl) dX6_together_21 rfl hw (fun σ21 hw => ?_)
        refine r_aload_n 25 hX dX6_together_24 rfl rfl 0 rfl ?_
        refine g_X6_73_0 28 hX dX6_together_25 rfl ?_
        refine k_X6_174_X3_findsBest 31 hX (by omega)  (Nat.le_of_ble_eq_true rfl) dX6_together_28 rfl hw (fun r28 σ28 hw => ?_)
        refine r_if_ne 37 34 hX dX6_together_31 (by decide) rfl hw (fun hw => ?_) (fun hw => ?_)
        · refine r_iload_n 38 hX dX6_together_37 rfl rfl 2 rfl ?_
          refine r_if_ne 51 41 hX dX6_together_38 (by decide) rfl hw (fun hw => ?_) (fun hw => ?_)
          · refine r_aload_n 52 hX dX6_together_51 rfl rfl 0 rfl ?_
            refine g_X6_73_0 55 hX dX6_together_52 rfl ?_
            refine k_X6_181_X3_leans 58 hX (by omega)  (Nat.le_of_ble_eq_true rfl) dX6_together_55 rfl hw (fun r55 σ55 hw => ?_)
            exact r_iret hX hR dX6_together_58 hw
          · refine r_aload_n 42 hX dX6_together_41 rfl rfl 0 rfl ?_
            refine g_X6_73_0 45 hX dX6_together_42 rfl ?_
            refine k_X6_177_X3_breadth 48 hX (by omega)  (Nat.le_of_ble_eq_true rfl) dX6_together_45 rfl hw (fun r45 σ45 hw => ?_)
            refine r_goto 58 hX dX6_together_48 (by decide) ?_
            exact r_iret hX hR dX6_together_58 hw
        · refine r_bipush 36 hX dX6_together_34 rfl (-9) bi_m9 ?_
          exact r_iret hX hR dX6_together_36 hw
      · refine r_iconst 18 hX dX6_together_17 rfl (-1) ic_m1 ?_
        exact r_iret hX hR dX6_together_18 hw
theorem k_X6_183_X6_sharedSet {X : Cx} {cc : ByteArray} {nL d pc : Nat} {lv : List (Nat × Value)} {rest : List Value} {σ : St} {K : Int32 → St → Prop} (q : Nat) (hX : CxB X RX6 cc nL d) (hdc : 123 + 1 ≤ d) (hst : (rest.map fun v => v.category).sum ≤ 8) (hd : decode cc pc = .ok (.invokevirtual 183, 3)) (hq : pc + 3 = q) (hw : wp_X6_sharedSet  K σ) (kk : ∀ (r : Int32) (τ : St), K r τ → At X nL q lv (.int r :: rest) τ) : At X nL pc lv (.ref (X.kad 0) :: rest) σ := r_callV (n := 0) q hX (k0 := 0) (c_X6_sharedSet ) tw_451 tw_452 tw_453 tw_328 tw_454 ⟨by decide +kernel, by decide +kernel, by decide +kernel⟩ hdc (by decide) (As := []) rfl rfl (by decide) ⟨_, _, _, rfl, rfl, rfl⟩ hst hd hq rfl (K := qI K) hw (kI kk)
set_option maxRecDepth 20000 in
set_option maxHeartbeats 4000000 in
theorem c_X6_share (x1 : Int32) : Con yX6_share cX6_share 3 (some .int) (124) (fun ad => [.ref (ad 0), .int (x1)]) (fun Q σ => wp_X6_share x1 (aI Q) σ) := by
  refine con_intro (by decide +kernel) (fun _ => Nat.le_of_ble_eq_true rfl) (by omega) (fun X Q σ hX hR hw => ?_)
  have hX : CxB X RX6 cX6_share 3 (124) := hX
  unfold wp_X6_share at hw
  show At X 3 0 [(0, .ref (X.kad 0)), (1, .int (x1))] [] σ
  refine r_iload_n 1 hX dX6_share_0 rfl rfl 1 rfl ?_
  refine r_if_lt 9 4 hX dX6_share_1 (by decide) rfl hw (fun hw => ?_) (fun hw => ?_)
  · refine r_iconst 10 hX dX6_share_9 rfl (-1) ic_m1 ?_
    exact r_iret hX hR dX6_share_10 hw
  · refine r_iload_n 5 hX dX6_share_4 rfl rfl 1 rfl ?_
    refine r_iconst 6 hX dX6_share_5 rfl 1 ic_1 ?_
    refine r_icmp_le 11 9 hX dX6_share_6 (by decide) rfl hw (fun hw => ?_) (fun hw => ?_)
    · refine r_aload_n 12 hX dX6_share_11 rfl rfl 0 rfl ?_
      refine k_X6_183_X6_sharedSet 15 hX (by omega)  (Nat.le_of_ble_eq_true rfl) dX6_share_12 rfl hw (fun r12 σ12 hw => ?_)
      refine r_istore_n (lv' := [(2, .int (r12)), (0, .ref (X.kad 0)), (1, .int (x1))]) 16 hX dX6_share_15 rfl rfl (by decide) rfl ?_
      refine r_iload_n 17 hX dX6_share_16 rfl rfl 2 rfl ?_
      refine r_if_ne 24 20 hX dX6_share_17 (by decide) rfl hw (fun hw => ?_) (fun hw => ?_)
      · refine r_iload_n 25 hX dX6_share_24 rfl rfl 0 rfl ?_
        refine k_X6_186_J6_bitCount_0f7a4 28 hX (by omega) (r12) (Nat.le_of_ble_eq_true rfl) dX6_share_25 rfl hw (fun r25 σ25 hw => ?_)
        exact r_iret hX hR dX6_share_28 hw
      · refine r_iload_n 21 hX dX6_share_20 rfl rfl 0 rfl ?_
        refine r_goto 28 hX dX6_share_21 (by decide) ?_
        exact r_iret hX hR dX6_share_28 hw
    · refine r_iconst 10 hX dX6_share_9 rfl (-1) ic_m1 ?_
      exact r_iret hX hR dX6_share_10 hw
theorem k_X6_195_X6_placeBeside {X : Cx} {cc : ByteArray} {nL d pc : Nat} {lv : List (Nat × Value)} {rest : List Value} {σ : St} {K : Int32 → St → Prop} (q : Nat) (hX : CxB X RX6 cc nL d) (hdc : 1 + 1 ≤ d) (x0 : Int32) (hst : (rest.map fun v => v.category).sum ≤ 8) (hd : decode cc pc = .ok (.invokestatic 195, 3)) (hq : pc + 3 = q) (hw : wp_X6_placeBeside x0 K σ) (kk : ∀ (r : Int32) (τ : St), K r τ → At X nL q lv (.int r :: rest) τ) : At X nL pc lv (.int (x0) :: rest) σ := r_callS (n := 1) q hX (c_X6_placeBeside x0) tw_455 tw_456 tw_328 tw_457 ⟨by decide +kernel, by decide +kernel, by decide +kernel⟩ hdc (by decide) (As := [.int (x0)]) rfl rfl hst hd hq rfl (K := qI K) hw (kI kk)
theorem k_X6_208_X3_forgetUpTo {X : Cx} {cc : ByteArray} {nL d pc : Nat} {lv : List (Nat × Value)} {rest : List Value} {σ : St} {K : St → Prop} (q : Nat) (hX : CxB X RX6 cc nL d) (hdc : 2 + 1 ≤ d) (x1 : Int32) (hst : (rest.map fun v => v.category).sum ≤ 8) (hd : decode cc pc = .ok (.invokevirtual 208, 3)) (hq : pc + 3 = q) (hw : wp_X3_forgetUpTo x1 K σ) (kk : ∀ (τ : St), K τ → At X nL q lv (rest) τ) : At X nL pc lv (.int (x1) :: .ref (X.kad 49) :: rest) σ := r_callV (n := 1) q hX (k0 := 49) (c_X3_forgetUpTo x1) tw_459 tw_181 tw_182 tw_144 tw_183 ⟨by decide +kernel, by decide +kernel, by decide +kernel⟩ hdc (by decide) (As := [.int (x1)]) rfl rfl (by decide) ⟨_, _, _, rfl, rfl, rfl⟩ hst hd hq rfl (K := qV K) hw (kV kk)
set_option maxRecDepth 20000 in
set_option maxHeartbeats 4000000 in
theorem w_X6_more_b120 {X : Cx} {Q : RV → St → Prop} (hX : CxB X RX6 cX6_more 8 (123)) (hR : CxR X (some .int) Q) {K67 : Int32 → Int32 → Int32 → Int32 → Int32 → Int32 → St → Prop} (hK67 : ∀ (x2 : Int32) (x3 : Int32) (x4 : Int32) (x5 : Int32) (x6 : Int32) (x7 : Int32) (σ : St), K67 x2 x3 x4 x5 x6 x7 σ → At X 8 67 [(0, .ref (X.kad 0)), (2, .int (x2)), (3, .int (x3)), (4, .int (x4)), (5, .int (x5)), (6, .int (x6)), (7, .int (x7))] [] σ) (x2 : Int32) (x3 : Int32) (x4 : Int32) (x5 : Int32) (x6 : Int32) (x7 : Int32) (σ : St) (hw : wp_X6_more_b120 (aI Q) K67 x2 x3 x4 x5 x6 x7 σ) : At X 8 120 [(0, .ref (X.kad 0)), (2, .int (x2)), (3, .int (x3)), (4, .int (x4)), (5, .int (x5)), (6, .int (x6)), (7, .int (x7))] [] σ := by
  unfold wp_X6_more_b120 at hw
  refine r_aload_n 121 hX dX6_more_120 rfl rfl 0 rfl ?_
  refine g_X6_73_0 124 hX dX6_more_121 rfl ?_
  refine r_iload_n 125 hX dX6_more_124 rfl rfl 1 rfl ?_
  refine k_X6_208_X3_forgetUpTo 128 hX (by omega) (x2) (Nat.le_of_ble_eq_true rfl) dX6_more_125 rfl hw (fun σ125 hw => ?_)
  refine r_iinc (lv' := [(7, .int (x7 + 1)), (0, .ref (X.kad 0)), (2, .int (x2)), (3, .int (x3)), (4, .int (x4)), (5, .int (x5)), (6, .int (x6))]) 131 hX dX6_more_128 rfl 6 rfl (x7 + 1) (ici_1 _) (by decide) rfl ?_
  refine r_goto 67 hX dX6_more_131 (by decide) ?_
  refine r_sub [1, 2, 3, 4, 5, 6, 0] rfl ?_
  exact hK67 _ _ _ _ _ _ _ hw
set_option maxRecDepth 20000 in
set_option maxHeartbeats 4000000 in
theorem w_X6_more_b118 {X : Cx} {Q : RV → St → Prop} (hX : CxB X RX6 cX6_more 8 (123)) (hR : CxR X (some .int) Q) {K67 : Int32 → Int32 → Int32 → Int32 → Int32 → Int32 → St → Prop} (hK67 : ∀ (x2 : Int32) (x3 : Int32) (x4 : Int32) (x5 : Int32) (x6 : Int32) (x7 : Int32) (σ : St), K67 x2 x3 x4 x5 x6 x7 σ → At X 8 67 [(0, .ref (X.kad 0)), (2, .int (x2)), (3, .int (x3)), (4, .int (x4)), (5, .int (x5)), (6, .int (x6)), (7, .int (x7))] [] σ) (x2 : Int32) (x3 : Int32) (x4 : Int32) (x5 : Int32) (x7 : Int32) (s0 : Int32) (σ : St) (hw : wp_X6_more_b118 (aI Q) K67 x2 x3 x4 x5 x7 s0 σ) : At X 8 118 [(0, .ref (X.kad 0)), (2, .int (x2)), (3, .int (x3)), (4, .int (x4)), (5, .int (x5)), (7, .int (x7))] [.int (s0)] σ := by
  unfold wp_X6_more_b118 at hw
  refine r_istore (lv' := [(6, .int (s0)), (0, .ref (X.kad 0)), (2, .int (x2)), (3, .int (x3)), (4, .int (x4)), (5, .int (x5)), (7, .int (x7))]) 120 hX dX6_more_118 rfl (by decide) rfl ?_
  refine r_sub [1, 2, 3, 4, 5, 0, 6] rfl ?_
  exact w_X6_more_b120 hX hR hK67 _ _ _ _ _ _ _ hw
set_option maxRecDepth 20000 in
set_option maxHeartbeats 4000000 in
theorem w_X6_more_b67 {X : Cx} {Q : RV → St → Prop} (hX : CxB X RX6 cX6_more 8 (123)) (hR : CxR X (some .int) Q) {K67 : Int32 → Int32 → Int32 → Int32 → Int32 → Int32 → St → Prop} (hK67 : ∀ (x2 : Int32) (x3 : Int32) (x4 : Int32) (x5 : Int32) (x6 : Int32) (x7 : Int32) (σ : St), K67 x2 x3 x4 x5 x6 x7 σ → At X 8 67 [(0, .ref (X.kad 0)), (2, .int (x2)), (3, .int (x3)), (4, .int (x4)), (5, .int (x5)), (6, .int (x6)), (7, .int (x7))] [] σ) (x2 : Int32) (x3 : Int32) (x4 : Int32) (x5 : Int32) (x6 : Int32) (x7 : Int32) (σ : St) (hw : wp_X6_more_b67 (aI Q) K67 x2 x3 x4 x5 x6 x7 σ) : At X 8 67 [(0, .ref (X.kad 0)), (2, .int (x2)), (3, .int (x3)), (4, .int (x4)), (5, .int (x5)), (6, .int (x6)), (7, .int (x7))] [] σ := by
  unfold wp_X6_more_b67 at hw
  refine r_iload 69 hX dX6_more_67 rfl 6 rfl ?_
  refine r_aload_n 70 hX dX6_more_69 rfl rfl 0 rfl ?_
  refine g_X6_23_0 73 hX dX6_more_70 rfl ?_
  refine g_X6_198_4 76 hX dX6_more_73 rfl ?_
  refine r_icmp_ge 134 79 hX dX6_more_76 (by decide) rfl hw (fun hw => ?_) (fun hw => ?_)
  · refine r_iload_n 135 hX dX6_more_134 rfl rfl 2 rfl ?_
    refine r_if_ne 143 138 hX dX6_more_135 (by decide) rfl hw (fun hw => ?_) (fun hw => ?_)
    · refine r_iload 145 hX dX6_more_143 rfl 5 rfl ?_
      exact r_iret hX hR dX6_more_145 hw
    · refine r_iload 140 hX dX6_more_138 rfl 4 rfl ?_
      refine r_goto 145 hX dX6_more_140 (by decide) ?_
      exact r_iret hX hR dX6_more_145 hw
  · refine r_aload_n 80 hX dX6_more_79 rfl rfl 0 rfl ?_
    refine g_X6_73_0 83 hX dX6_more_80 rfl ?_
    refine r_iload 85 hX dX6_more_83 rfl 3 rfl ?_
    refine r_iload_n 86 hX dX6_more_85 rfl rfl 1 rfl ?_
    refine r_iload 88 hX dX6_more_86 rfl 6 rfl ?_
    refine k_X6_201_X3_put 91 hX (by omega) (x4) (x2) (x7) (Nat.le_of_ble_eq_true rfl) dX6_more_88 rfl hw (fun σ88 hw => ?_)
    refine r_aload_n 92 hX dX6_more_91 rfl rfl 0 rfl ?_
    refine g_X6_73_0 95 hX dX6_more_92 rfl ?_
    refine k_X6_205_X3_findsAny 98 hX (by omega)  (Nat.le_of_ble_eq_true rfl) dX6_more_95 rfl hw (fun r95 σ95 hw => ?_)
    refine r_if_eq 120 101 hX dX6_more_98 (by decide) rfl hw (fun hw => ?_) (fun hw => ?_)
    · exact w_X6_more_b120 hX hR hK67 _ _ _ _ _ _ _ hw
    · refine r_iinc (lv' := [(5, .int (x5 + 1)), (0, .ref (X.kad 0)), (2, .int (x2)), (3, .int (x3)), (4, .int (x4)), (6, .int (x6)), (7, .int (x7))]) 104 hX dX6_more_101 rfl 4 rfl (x5 + 1) (ici_1 _) (by decide) rfl ?_
      refine r_iload 106 hX dX6_more_104 rfl 5 rfl ?_
      refine r_bipush 108 hX dX6_more_106 rfl (-9) bi_m9 ?_
      refine r_icmp_ne 116 111 hX dX6_more_108 (by decide) rfl hw (fun hw => ?_) (fun hw => ?_)
      · refine r_iload 118 hX dX6_more_116 rfl 5 rfl ?_
        refine r_sub [1, 2, 3, 4, 0, 6] rfl ?_
        exact w_X6_more_b118 hX hR hK67 _ _ _ _ _ _ _ hw
      · refine r_iload 113 hX dX6_more_111 rfl 6 rfl ?_
        refine r_goto 118 hX dX6_more_113 (by decide) ?_
        refine r_sub [1, 2, 3, 4, 0, 6] rfl ?_
        exact w_X6_more_b118 hX hR hK67 _ _ _ _ _ _ _ hw
set_option maxRecDepth 20000 in
set_option maxHeartbeats 4000000 in
theorem w_X6_more_l67 {X : Cx} {Q : RV → St → Prop} (hX : CxB X RX6 cX6_more 8 (123)) (hR : CxR X (some .int) Q) (n : Nat) : ∀ (x2 : Int32) (x3 : Int32) (x4 : Int32) (x5 : Int32) (x6 : Int32) (x7 : Int32) (σ : St), wp_X6_more_l67 (aI Q)  n x2 x3 x4 x5 x6 x7 σ → At X 8 67 [(0, .ref (X.kad 0)), (2, .int (x2)), (3, .int (x3)), (4, .int (x4)), (5, .int (x5)), (6, .int (x6)), (7, .int (x7))] [] σ := by
  induction n with
  | zero => intro x2 x3 x4 x5 x6 x7 σ h; exact h.elim
  | succ n ih => intro x2 x3 x4 x5 x6 x7 σ h; exact w_X6_more_b67  hX hR ih x2 x3 x4 x5 x6 x7 σ h
set_option maxRecDepth 20000 in
set_option maxHeartbeats 4000000 in
theorem w_X6_more_b12 {X : Cx} {Q : RV → St → Prop} (hX : CxB X RX6 cX6_more 8 (123)) (hR : CxR X (some .int) Q) (x1 : Int32) (x2 : Int32) (x3 : Int32) (σ : St) (hw : wp_X6_more_b12 (aI Q)  x1 x2 x3 σ) : At X 8 12 [(0, .ref (X.kad 0)), (1, .int (x1)), (2, .int (x2)), (3, .int (x3))] [] σ := by
  unfold wp_X6_more_b12 at hw
  refine r_iload_n 13 hX dX6_more_12 rfl rfl 1 rfl ?_
  refine r_bipush 15 hX dX6_more_13 rfl 7 bi_7 ?_
  refine r_icmp_eq 44 18 hX dX6_more_15 (by decide) rfl hw (fun hw => ?_) (fun hw => ?_)
  · refine r_iconst 45 hX dX6_more_44 rfl (-1) ic_m1 ?_
    exact r_iret hX hR dX6_more_45 hw
  · refine r_iload_n 19 hX dX6_more_18 rfl rfl 2 rfl ?_
    refine r_if_lt 44 22 hX dX6_more_19 (by decide) rfl hw (fun hw => ?_) (fun hw => ?_)
    · refine r_iconst 45 hX dX6_more_44 rfl (-1) ic_m1 ?_
      exact r_iret hX hR dX6_more_45 hw
    · refine r_iload_n 23 hX dX6_more_22 rfl rfl 2 rfl ?_
      refine r_aload_n 24 hX dX6_more_23 rfl rfl 0 rfl ?_
      refine g_X6_23_0 27 hX dX6_more_24 rfl ?_
      refine g_X6_192_4 30 hX dX6_more_27 rfl ?_
      refine r_iconst 31 hX dX6_more_30 rfl 2 ic_2 ?_
      refine r_isub 32 hX dX6_more_31 rfl ?_
      refine r_icmp_gt 44 35 hX dX6_more_32 (by decide) rfl hw (fun hw => ?_) (fun hw => ?_)
      · refine r_iconst 45 hX dX6_more_44 rfl (-1) ic_m1 ?_
        exact r_iret hX hR dX6_more_45 hw
      · refine r_iload_n 36 hX dX6_more_35 rfl rfl 3 rfl ?_
        refine r_if_lt 44 39 hX dX6_more_36 (by decide) rfl hw (fun hw => ?_) (fun hw => ?_)
        · refine r_iconst 45 hX dX6_more_44 rfl (-1) ic_m1 ?_
          exact r_iret hX hR dX6_more_45 hw
        · refine r_iload_n 40 hX dX6_more_39 rfl rfl 3 rfl ?_
          refine r_iconst 41 hX dX6_more_40 rfl 1 ic_1 ?_
          refine r_icmp_le 46 44 hX dX6_more_41 (by decide) rfl hw (fun hw => ?_) (fun hw => ?_)
          · refine r_aload_n 47 hX dX6_more_46 rfl rfl 0 rfl ?_
            refine r_iload_n 48 hX dX6_more_47 rfl rfl 1 rfl ?_
            refine k_X6_170_X6_putSet 51 hX (by omega) (x1) (Nat.le_of_ble_eq_true rfl) dX6_more_48 rfl hw (fun σ48 hw => ?_)
            refine r_iload_n 52 hX dX6_more_51 rfl rfl 1 rfl ?_
            refine k_X6_195_X6_placeBeside 55 hX (by omega) (x1) (Nat.le_of_ble_eq_true rfl) dX6_more_52 rfl hw (fun r52 σ52 hw => ?_)
            refine r_istore (lv' := [(4, .int (r52)), (0, .ref (X.kad 0)), (1, .int (x1)), (2, .int (x2)), (3, .int (x3))]) 57 hX dX6_more_55 rfl (by decide) rfl ?_
            refine r_iconst 58 hX dX6_more_57 rfl 0 ic_0 ?_
            refine r_istore (lv' := [(5, .int (0)), (4, .int (r52)), (0, .ref (X.kad 0)), (1, .int (x1)), (2, .int (x2)), (3, .int (x3))]) 60 hX dX6_more_58 rfl (by decide) rfl ?_
            refine r_bipush 62 hX dX6_more_60 rfl (-9) bi_m9 ?_
            refine r_istore (lv' := [(6, .int ((-9))), (5, .int (0)), (4, .int (r52)), (0, .ref (X.kad 0)), (1, .int (x1)), (2, .int (x2)), (3, .int (x3))]) 64 hX dX6_more_62 rfl (by decide) rfl ?_
            refine r_iconst 65 hX dX6_more_64 rfl 0 ic_0 ?_
            refine r_istore (lv' := [(7, .int (0)), (6, .int ((-9))), (5, .int (0)), (4, .int (r52)), (0, .ref (X.kad 0)), (1, .int (x1)), (2, .int (x2)), (3, .int (x3))]) 67 hX dX6_more_65 rfl (by decide) rfl ?_
            refine r_sub [4, 6, 7, 3, 2, 1, 0] rfl ?_
            obtain ⟨n, hw⟩ := hw
            exact w_X6_more_l67 hX hR n _ _ _ _ _ _ _ hw
          · refine r_iconst 45 hX dX6_more_44 rfl (-1) ic_m1 ?_
            exact r_iret hX hR dX6_more_45 hw
set_option maxRecDepth 20000 in
set_option maxHeartbeats 4000000 in
theorem c_X6_more (x1 : Int32) (x2 : Int32) (x3 : Int32) : Con yX6_more cX6_more 8 (some .int) (123) (fun ad => [.ref (ad 0), .int (x1), .int (x2), .int (x3)]) (fun Q σ => wp_X6_more x1 x2 x3 (aI Q) σ) := by
  refine con_intro (by decide +kernel) (fun _ => Nat.le_of_ble_eq_true rfl) (by omega) (fun X Q σ hX hR hw => ?_)
  have hX : CxB X RX6 cX6_more 8 (123) := hX
  unfold wp_X6_more at hw
  show At X 8 0 [(0, .ref (X.kad 0)), (1, .int (x1)), (2, .int (x2)), (3, .int (x3))] [] σ
  refine r_iload_n 1 hX dX6_more_0 rfl rfl 1 rfl ?_
  refine r_if_eq 12 4 hX dX6_more_1 (by decide) rfl hw (fun hw => ?_) (fun hw => ?_)
  · exact w_X6_more_b12 hX hR _ _ _ _ hw
  · refine r_aload_n 5 hX dX6_more_4 rfl rfl 0 rfl ?_
    refine r_iload_n 6 hX dX6_more_5 rfl rfl 1 rfl ?_
    refine k_X6_167_X6_isSet 9 hX (by omega) (x1) (Nat.le_of_ble_eq_true rfl) dX6_more_6 rfl hw (fun r6 σ6 hw => ?_)
    refine r_if_eq 44 12 hX dX6_more_9 (by decide) rfl hw (fun hw => ?_) (fun hw => ?_)
    · refine r_iconst 45 hX dX6_more_44 rfl (-1) ic_m1 ?_
      exact r_iret hX hR dX6_more_45 hw
    · exact w_X6_more_b12 hX hR _ _ _ _ hw
theorem k_X6_214_X3_tell {X : Cx} {cc : ByteArray} {nL d pc : Nat} {lv : List (Nat × Value)} {rest : List Value} {σ : St} {K : St → Prop} (q : Nat) (hX : CxB X RX6 cc nL d) (hdc : 122 + 1 ≤ d) (hst : (rest.map fun v => v.category).sum ≤ 8) (hd : decode cc pc = .ok (.invokevirtual 214, 3)) (hq : pc + 3 = q) (hw : wp_X3_tell  K σ) (kk : ∀ (τ : St), K τ → At X nL q lv (rest) τ) : At X nL pc lv (.ref (X.kad 20) :: .ref (X.kad 49) :: rest) σ := r_callV (n := 1) q hX (k0 := 49) (c_X3_tell ) tw_460 tw_461 tw_462 tw_144 tw_463 ⟨by decide +kernel, by decide +kernel, by decide +kernel⟩ hdc (by decide) (As := [.ref (X.kad 20)]) rfl rfl (by decide) ⟨_, _, _, rfl, rfl, rfl⟩ hst hd hq rfl (K := qV K) hw (kV kk)
set_option maxRecDepth 20000 in
set_option maxHeartbeats 4000000 in
theorem c_X6_take (x1 : Int32) : Con yX6_take cX6_take 2 (some .int) (123) (fun ad => [.ref (ad 0), .int (x1)]) (fun Q σ => wp_X6_take x1 (aI Q) σ) := by
  refine con_intro (by decide +kernel) (fun _ => Nat.le_of_ble_eq_true rfl) (by omega) (fun X Q σ hX hR hw => ?_)
  have hX : CxB X RX6 cX6_take 2 (123) := hX
  unfold wp_X6_take at hw
  show At X 2 0 [(0, .ref (X.kad 0)), (1, .int (x1))] [] σ
  refine r_aload_n 1 hX dX6_take_0 rfl rfl 0 rfl ?_
  refine r_iload_n 2 hX dX6_take_1 rfl rfl 1 rfl ?_
  refine k_X6_167_X6_isSet 5 hX (by omega) (x1) (Nat.le_of_ble_eq_true rfl) dX6_take_2 rfl hw (fun r2 σ2 hw => ?_)
  refine r_if_ne 10 8 hX dX6_take_5 (by decide) rfl hw (fun hw => ?_) (fun hw => ?_)
  · refine r_aload_n 11 hX dX6_take_10 rfl rfl 0 rfl ?_
    refine r_iload_n 12 hX dX6_take_11 rfl rfl 1 rfl ?_
    refine k_X6_170_X6_putSet 15 hX (by omega) (x1) (Nat.le_of_ble_eq_true rfl) dX6_take_12 rfl hw (fun σ12 hw => ?_)
    refine r_aload_n 16 hX dX6_take_15 rfl rfl 0 rfl ?_
    refine g_X6_73_0 19 hX dX6_take_16 rfl ?_
    refine k_X6_174_X3_findsBest 22 hX (by omega)  (Nat.le_of_ble_eq_true rfl) dX6_take_19 rfl hw (fun r19 σ19 hw => ?_)
    refine r_if_ne 28 25 hX dX6_take_22 (by decide) rfl hw (fun hw => ?_) (fun hw => ?_)
    · refine r_aload_n 29 hX dX6_take_28 rfl rfl 0 rfl ?_
      refine g_X6_73_0 32 hX dX6_take_29 rfl ?_
      refine r_aload_n 33 hX dX6_take_32 rfl rfl 0 rfl ?_
      refine g_X6_42_0 36 hX dX6_take_33 rfl ?_
      refine k_X6_214_X3_tell 39 hX (by omega)  (Nat.le_of_ble_eq_true rfl) dX6_take_36 rfl hw (fun σ36 hw => ?_)
      refine r_iconst 40 hX dX6_take_39 rfl 1 ic_1 ?_
      exact r_iret hX hR dX6_take_40 hw
    · refine r_bipush 27 hX dX6_take_25 rfl (-2) bi_m2 ?_
      exact r_iret hX hR dX6_take_27 hw
  · refine r_iconst 9 hX dX6_take_8 rfl (-1) ic_m1 ?_
    exact r_iret hX hR dX6_take_9 hw
set_option maxRecDepth 20000 in
set_option maxHeartbeats 4000000 in
theorem c_X6_way (x1 : Int32) (x2 : Int32) : Con yX6_way cX6_way 3 (some .int) (2) (fun ad => [.ref (ad 0), .int (x1), .int (x2)]) (fun Q σ => wp_X6_way x1 x2 (aI Q) σ) := by
  refine con_intro (by decide +kernel) (fun _ => Nat.le_of_ble_eq_true rfl) (by omega) (fun X Q σ hX hR hw => ?_)
  have hX : CxB X RX6 cX6_way 3 (2) := hX
  unfold wp_X6_way at hw
  show At X 3 0 [(0, .ref (X.kad 0)), (1, .int (x1)), (2, .int (x2))] [] σ
  refine r_aload_n 1 hX dX6_way_0 rfl rfl 0 rfl ?_
  refine g_X6_23_0 4 hX dX6_way_1 rfl ?_
  refine r_iload_n 5 hX dX6_way_4 rfl rfl 1 rfl ?_
  refine k_X6_115_X4_hasHearth 8 hX (by omega) (x1) (Nat.le_of_ble_eq_true rfl) dX6_way_5 rfl hw (fun r5 σ5 hw => ?_)
  refine r_if_eq 24 11 hX dX6_way_8 (by decide) rfl hw (fun hw => ?_) (fun hw => ?_)
  · refine r_ldc 26 hX (-1000000) tw_416 dX6_way_24 rfl ?_
    exact r_iret hX hR dX6_way_26 hw
  · refine r_aload_n 12 hX dX6_way_11 rfl rfl 0 rfl ?_
    refine g_X6_23_0 15 hX dX6_way_12 rfl ?_
    refine r_iload_n 16 hX dX6_way_15 rfl rfl 1 rfl ?_
    refine r_iload_n 17 hX dX6_way_16 rfl rfl 2 rfl ?_
    refine r_i2l 18 hX dX6_way_17 rfl ?_
    refine k_X6_150_X4_reaches 21 hX (by omega) (x1) (x2.toInt64) (Nat.le_of_ble_eq_true rfl) dX6_way_18 rfl hw (fun r18 σ18 hw => ?_)
    refine r_if_ne 27 24 hX dX6_way_21 (by decide) rfl hw (fun hw => ?_) (fun hw => ?_)
    · refine r_aload_n 28 hX dX6_way_27 rfl rfl 0 rfl ?_
      refine g_X6_42_0 31 hX dX6_way_28 rfl ?_
      refine g_X6_218_20 34 hX dX6_way_31 rfl ?_
      refine r_iload_n 35 hX dX6_way_34 rfl rfl 1 rfl ?_
      refine r_aald 36 hX sh_21 dX6_way_35 rfl hw (fun hv35 hw => ?_)
      refine r_iload_n 37 hX dX6_way_36 rfl rfl 2 rfl ?_
      refine r_iald 38 hX (shr_21 hv35) dX6_way_37 rfl hw (fun hw => ?_)
      exact r_iret hX hR dX6_way_38 hw
    · refine r_ldc 26 hX (-1000000) tw_416 dX6_way_24 rfl ?_
      exact r_iret hX hR dX6_way_26 hw
theorem k_X6_220_X4_hasCourse {X : Cx} {cc : ByteArray} {nL d pc : Nat} {lv : List (Nat × Value)} {rest : List Value} {σ : St} {K : Int32 → St → Prop} (q : Nat) (hX : CxB X RX6 cc nL d) (hdc : 1 + 1 ≤ d) (x1 : Int32) (hst : (rest.map fun v => v.category).sum ≤ 8) (hd : decode cc pc = .ok (.invokevirtual 220, 3)) (hq : pc + 3 = q) (hw : wp_X4_hasCourse x1 K σ) (kk : ∀ (r : Int32) (τ : St), K r τ → At X nL q lv (.int r :: rest) τ) : At X nL pc lv (.int (x1) :: .ref (X.kad 4) :: rest) σ := r_callV (n := 1) q hX (k0 := 4) (c_X4_hasCourse x1) tw_464 tw_6 tw_7 tw_8 tw_9 ⟨by decide +kernel, by decide +kernel, by decide +kernel⟩ hdc (by decide) (As := [.int (x1)]) rfl rfl (by decide) ⟨_, _, _, rfl, rfl, rfl⟩ hst hd hq rfl (K := qI K) hw (kI kk)
set_option maxRecDepth 20000 in
set_option maxHeartbeats 4000000 in
theorem w_X6_turn_b80 {X : Cx} {Q : RV → St → Prop} (hX : CxB X RX6 cX6_turn 6 (2)) (hR : CxR X (some .int) Q) {K80 : Int32 → Int32 → Int32 → Int32 → St → Prop} (hK80 : ∀ (x1 : Int32) (x3 : Int32) (x4 : Int32) (x5 : Int32) (σ : St), K80 x1 x3 x4 x5 σ → At X 6 80 [(0, .ref (X.kad 0)), (1, .int (x1)), (3, .int (x3)), (4, .int (x4)), (5, .int (x5))] [] σ) (x1 : Int32) (x3 : Int32) (x4 : Int32) (x5 : Int32) (σ : St) (hw : wp_X6_turn_b80 (aI Q) K80 x1 x3 x4 x5 σ) : At X 6 80 [(0, .ref (X.kad 0)), (1, .int (x1)), (3, .int (x3)), (4, .int (x4)), (5, .int (x5))] [] σ := by
  unfold wp_X6_turn_b80 at hw
  refine r_iload 82 hX dX6_turn_80 rfl 4 rfl ?_
  refine r_aload_n 83 hX dX6_turn_82 rfl rfl 0 rfl ?_
  refine g_X6_23_0 86 hX dX6_turn_83 rfl ?_
  refine g_X6_192_4 89 hX dX6_turn_86 rfl ?_
  refine r_icmp_ge 117 92 hX dX6_turn_89 (by decide) rfl hw (fun hw => ?_) (fun hw => ?_)
  · refine r_iload 119 hX dX6_turn_117 rfl 3 rfl ?_
    exact r_iret hX hR dX6_turn_119 hw
  · refine r_aload_n 93 hX dX6_turn_92 rfl rfl 0 rfl ?_
    refine g_X6_42_0 96 hX dX6_turn_93 rfl ?_
    refine g_X6_218_20 99 hX dX6_turn_96 rfl ?_
    refine r_iload_n 100 hX dX6_turn_99 rfl rfl 1 rfl ?_
    refine r_aald 101 hX sh_21 dX6_turn_100 rfl hw (fun hv100 hw => ?_)
    refine r_iload 103 hX dX6_turn_101 rfl 4 rfl ?_
    refine r_dup2 104 hX dX6_turn_103 rfl rfl rfl ?_
    refine r_iald 105 hX (shr_21 hv100) dX6_turn_104 rfl hw (fun hw => ?_)
    refine r_iload_n 106 hX dX6_turn_105 rfl rfl 2 rfl ?_
    refine r_iload 108 hX dX6_turn_106 rfl 3 rfl ?_
    refine r_isub 109 hX dX6_turn_108 rfl ?_
    refine r_iadd 110 hX dX6_turn_109 rfl ?_
    refine r_iast 111 hX (shr_21 hv100) dX6_turn_110 rfl hw (fun hw => ?_)
    refine r_iinc (lv' := [(5, .int (x5 + 1)), (0, .ref (X.kad 0)), (1, .int (x1)), (3, .int (x3)), (4, .int (x4))]) 114 hX dX6_turn_111 rfl 4 rfl (x5 + 1) (ici_1 _) (by decide) rfl ?_
    refine r_goto 80 hX dX6_turn_114 (by decide) ?_
    refine r_sub [1, 2, 3, 4, 0] rfl ?_
    exact hK80 _ _ _ _ _ hw
set_option maxRecDepth 20000 in
set_option maxHeartbeats 4000000 in
theorem w_X6_turn_l80 {X : Cx} {Q : RV → St → Prop} (hX : CxB X RX6 cX6_turn 6 (2)) (hR : CxR X (some .int) Q) (n : Nat) : ∀ (x1 : Int32) (x3 : Int32) (x4 : Int32) (x5 : Int32) (σ : St), wp_X6_turn_l80 (aI Q)  n x1 x3 x4 x5 σ → At X 6 80 [(0, .ref (X.kad 0)), (1, .int (x1)), (3, .int (x3)), (4, .int (x4)), (5, .int (x5))] [] σ := by
  induction n with
  | zero => intro x1 x3 x4 x5 σ h; exact h.elim
  | succ n ih => intro x1 x3 x4 x5 σ h; exact w_X6_turn_b80  hX hR ih x1 x3 x4 x5 σ h
set_option maxRecDepth 20000 in
set_option maxHeartbeats 4000000 in
theorem c_X6_turn (x1 : Int32) (x2 : Int32) (x3 : Int32) : Con yX6_turn cX6_turn 6 (some .int) (2) (fun ad => [.ref (ad 0), .int (x1), .int (x2), .int (x3)]) (fun Q σ => wp_X6_turn x1 x2 x3 (aI Q) σ) := by
  refine con_intro (by decide +kernel) (fun _ => Nat.le_of_ble_eq_true rfl) (by omega) (fun X Q σ hX hR hw => ?_)
  have hX : CxB X RX6 cX6_turn 6 (2) := hX
  unfold wp_X6_turn at hw
  show At X 6 0 [(0, .ref (X.kad 0)), (1, .int (x1)), (2, .int (x2)), (3, .int (x3))] [] σ
  refine r_aload_n 1 hX dX6_turn_0 rfl rfl 0 rfl ?_
  refine g_X6_23_0 4 hX dX6_turn_1 rfl ?_
  refine r_iload_n 5 hX dX6_turn_4 rfl rfl 1 rfl ?_
  refine k_X6_115_X4_hasHearth 8 hX (by omega) (x1) (Nat.le_of_ble_eq_true rfl) dX6_turn_5 rfl hw (fun r5 σ5 hw => ?_)
  refine r_if_eq 47 11 hX dX6_turn_8 (by decide) rfl hw (fun hw => ?_) (fun hw => ?_)
  · refine r_ldc 49 hX (-1000000) tw_416 dX6_turn_47 rfl ?_
    exact r_iret hX hR dX6_turn_49 hw
  · refine r_aload_n 12 hX dX6_turn_11 rfl rfl 0 rfl ?_
    refine g_X6_23_0 15 hX dX6_turn_12 rfl ?_
    refine r_iload_n 16 hX dX6_turn_15 rfl rfl 1 rfl ?_
    refine r_iload_n 17 hX dX6_turn_16 rfl rfl 2 rfl ?_
    refine r_i2l 18 hX dX6_turn_17 rfl ?_
    refine r_lconst 19 hX dX6_turn_18 rfl 1 lc_1 ?_
    refine r_lsub 20 hX dX6_turn_19 rfl ?_
    refine k_X6_150_X4_reaches 23 hX (by omega) (x1) (x2.toInt64 - 1) (Nat.le_of_ble_eq_true rfl) dX6_turn_20 rfl hw (fun r20 σ20 hw => ?_)
    refine r_if_eq 47 26 hX dX6_turn_23 (by decide) rfl hw (fun hw => ?_) (fun hw => ?_)
    · refine r_ldc 49 hX (-1000000) tw_416 dX6_turn_47 rfl ?_
      exact r_iret hX hR dX6_turn_49 hw
    · refine r_aload_n 27 hX dX6_turn_26 rfl rfl 0 rfl ?_
      refine g_X6_23_0 30 hX dX6_turn_27 rfl ?_
      refine r_iload_n 31 hX dX6_turn_30 rfl rfl 2 rfl ?_
      refine k_X6_220_X4_hasCourse 34 hX (by omega) (x2) (Nat.le_of_ble_eq_true rfl) dX6_turn_31 rfl hw (fun r31 σ31 hw => ?_)
      refine r_if_eq 47 37 hX dX6_turn_34 (by decide) rfl hw (fun hw => ?_) (fun hw => ?_)
      · refine r_ldc 49 hX (-1000000) tw_416 dX6_turn_47 rfl ?_
        exact r_iret hX hR dX6_turn_49 hw
      · refine r_iload_n 38 hX dX6_turn_37 rfl rfl 3 rfl ?_
        refine r_iconst 39 hX dX6_turn_38 rfl (-1) ic_m1 ?_
        refine r_icmp_lt 47 42 hX dX6_turn_39 (by decide) rfl hw (fun hw => ?_) (fun hw => ?_)
        · refine r_ldc 49 hX (-1000000) tw_416 dX6_turn_47 rfl ?_
          exact r_iret hX hR dX6_turn_49 hw
        · refine r_iload_n 43 hX dX6_turn_42 rfl rfl 3 rfl ?_
          refine r_iconst 44 hX dX6_turn_43 rfl 1 ic_1 ?_
          refine r_icmp_le 50 47 hX dX6_turn_44 (by decide) rfl hw (fun hw => ?_) (fun hw => ?_)
          · refine r_aload_n 51 hX dX6_turn_50 rfl rfl 0 rfl ?_
            refine g_X6_42_0 54 hX dX6_turn_51 rfl ?_
            refine g_X6_218_20 57 hX dX6_turn_54 rfl ?_
            refine r_iload_n 58 hX dX6_turn_57 rfl rfl 1 rfl ?_
            refine r_aald 59 hX sh_21 dX6_turn_58 rfl hw (fun hv58 hw => ?_)
            refine r_iload_n 60 hX dX6_turn_59 rfl rfl 2 rfl ?_
            refine r_iald 61 hX (shr_21 hv58) dX6_turn_60 rfl hw (fun hw => ?_)
            refine r_aload_n 62 hX dX6_turn_61 rfl rfl 0 rfl ?_
            refine g_X6_42_0 65 hX dX6_turn_62 rfl ?_
            refine g_X6_218_20 68 hX dX6_turn_65 rfl ?_
            refine r_iload_n 69 hX dX6_turn_68 rfl rfl 1 rfl ?_
            refine r_aald 70 hX sh_21 dX6_turn_69 rfl hw (fun hv69 hw => ?_)
            refine r_iload_n 71 hX dX6_turn_70 rfl rfl 2 rfl ?_
            refine r_iconst 72 hX dX6_turn_71 rfl 1 ic_1 ?_
            refine r_isub 73 hX dX6_turn_72 rfl ?_
            refine r_iald 74 hX (shr_21 hv69) dX6_turn_73 rfl hw (fun hw => ?_)
            refine r_isub 75 hX dX6_turn_74 rfl ?_
            refine r_topi hw (fun v75 hw => ?_)
            refine r_istore (lv' := [(4, .int (v75)), (0, .ref (X.kad 0)), (1, .int (x1)), (2, .int (x2)), (3, .int (x3))]) 77 hX dX6_turn_75 rfl (by decide) rfl ?_
            refine r_iload_n 78 hX dX6_turn_77 rfl rfl 3 rfl ?_
            refine r_istore (lv' := [(5, .int (x2)), (4, .int (v75)), (0, .ref (X.kad 0)), (1, .int (x1)), (2, .int (x2)), (3, .int (x3))]) 80 hX dX6_turn_78 rfl (by decide) rfl ?_
            refine r_sub [2, 3, 5, 1, 0] rfl ?_
            obtain ⟨n, hw⟩ := hw
            exact w_X6_turn_l80 hX hR n _ _ _ _ _ hw
          · refine r_ldc 49 hX (-1000000) tw_416 dX6_turn_47 rfl ?_
            exact r_iret hX hR dX6_turn_49 hw
theorem k_X6_223_X0_findsNone {X : Cx} {cc : ByteArray} {nL d pc : Nat} {lv : List (Nat × Value)} {rest : List Value} {σ : St} {K : Int32 → St → Prop} (q : Nat) (hX : CxB X RX6 cc nL d) (hdc : 5 + 1 ≤ d) (x3 : Int32) (hst : (rest.map fun v => v.category).sum ≤ 8) (hd : decode cc pc = .ok (.invokevirtual 223, 3)) (hq : pc + 3 = q) (hw : wp_X0_findsNone x3 K σ) (kk : ∀ (r : Int32) (τ : St), K r τ → At X nL q lv (.int r :: rest) τ) : At X nL pc lv (.int (x3) :: .ref (X.kad 20) :: .ref (X.kad 4) :: .ref (X.kad 27) :: rest) σ := r_callV (n := 3) q hX (k0 := 27) (c_X0_findsNone x3) tw_466 tw_467 tw_468 tw_66 tw_469 ⟨by decide +kernel, by decide +kernel, by decide +kernel⟩ hdc (by decide) (As := [.ref (X.kad 4), .ref (X.kad 20), .int (x3)]) rfl rfl (by decide) ⟨_, _, _, rfl, rfl, rfl⟩ hst hd hq rfl (K := qI K) hw (kI kk)
set_option maxRecDepth 20000 in
set_option maxHeartbeats 4000000 in
theorem c_X6_judge (x1 : Int32) : Con yX6_judge cX6_judge 2 (some .int) (6) (fun ad => [.ref (ad 0), .int (x1)]) (fun Q σ => wp_X6_judge x1 (aI Q) σ) := by
  refine con_intro (by decide +kernel) (fun _ => Nat.le_of_ble_eq_true rfl) (by omega) (fun X Q σ hX hR hw => ?_)
  have hX : CxB X RX6 cX6_judge 2 (6) := hX
  unfold wp_X6_judge at hw
  show At X 2 0 [(0, .ref (X.kad 0)), (1, .int (x1))] [] σ
  refine r_iload_n 1 hX dX6_judge_0 rfl rfl 1 rfl ?_
  refine r_if_lt 9 4 hX dX6_judge_1 (by decide) rfl hw (fun hw => ?_) (fun hw => ?_)
  · refine r_iconst 10 hX dX6_judge_9 rfl (-1) ic_m1 ?_
    exact r_iret hX hR dX6_judge_10 hw
  · refine r_iload_n 5 hX dX6_judge_4 rfl rfl 1 rfl ?_
    refine r_iconst 6 hX dX6_judge_5 rfl 2 ic_2 ?_
    refine r_icmp_le 11 9 hX dX6_judge_6 (by decide) rfl hw (fun hw => ?_) (fun hw => ?_)
    · refine r_aload_n 12 hX dX6_judge_11 rfl rfl 0 rfl ?_
      refine g_X6_49_0 15 hX dX6_judge_12 rfl ?_
      refine r_aload_n 16 hX dX6_judge_15 rfl rfl 0 rfl ?_
      refine g_X6_23_0 19 hX dX6_judge_16 rfl ?_
      refine r_aload_n 20 hX dX6_judge_19 rfl rfl 0 rfl ?_
      refine g_X6_42_0 23 hX dX6_judge_20 rfl ?_
      refine r_aload_n 24 hX dX6_judge_23 rfl rfl 0 rfl ?_
      refine g_X6_30_0 27 hX dX6_judge_24 rfl ?_
      refine r_iconst 28 hX dX6_judge_27 rfl 0 ic_0 ?_
      refine r_iald 29 hX sh_14 dX6_judge_28 rfl hw (fun hw => ?_)
      refine k_X6_223_X0_findsNone 32 hX (by omega) (σ.1 14 (0 : Int32).toNatClampNeg) (Nat.le_of_ble_eq_true rfl) dX6_judge_29 rfl hw (fun r29 σ29 hw => ?_)
      refine r_if_eq 38 35 hX dX6_judge_32 (by decide) rfl hw (fun hw => ?_) (fun hw => ?_)
      · refine r_iload_n 39 hX dX6_judge_38 rfl rfl 1 rfl ?_
        refine r_if_ne 50 42 hX dX6_judge_39 (by decide) rfl hw (fun hw => ?_) (fun hw => ?_)
        · refine r_iload_n 51 hX dX6_judge_50 rfl rfl 1 rfl ?_
          refine r_iconst 52 hX dX6_judge_51 rfl 1 ic_1 ?_
          refine r_icmp_ne 65 55 hX dX6_judge_52 (by decide) rfl hw (fun hw => ?_) (fun hw => ?_)
          · refine r_aload_n 66 hX dX6_judge_65 rfl rfl 0 rfl ?_
            refine g_X6_49_0 69 hX dX6_judge_66 rfl ?_
            refine g_X6_233_27 72 hX dX6_judge_69 rfl ?_
            exact r_iret hX hR dX6_judge_72 hw
          · refine r_aload_n 56 hX dX6_judge_55 rfl rfl 0 rfl ?_
            refine g_X6_49_0 59 hX dX6_judge_56 rfl ?_
            refine g_X6_230_27 62 hX dX6_judge_59 rfl ?_
            refine r_goto 72 hX dX6_judge_62 (by decide) ?_
            exact r_iret hX hR dX6_judge_72 hw
        · refine r_aload_n 43 hX dX6_judge_42 rfl rfl 0 rfl ?_
          refine g_X6_49_0 46 hX dX6_judge_43 rfl ?_
          refine g_X6_227_27 49 hX dX6_judge_46 rfl ?_
          exact r_iret hX hR dX6_judge_49 hw
      · refine r_bipush 37 hX dX6_judge_35 rfl (-9) bi_m9 ?_
        exact r_iret hX hR dX6_judge_37 hw
    · refine r_iconst 10 hX dX6_judge_9 rfl (-1) ic_m1 ?_
      exact r_iret hX hR dX6_judge_10 hw
theorem k_X6_244_X6_doors {X : Cx} {cc : ByteArray} {nL d pc : Nat} {lv : List (Nat × Value)} {rest : List Value} {σ : St} {K : Int32 → St → Prop} (q : Nat) (hX : CxB X RX6 cc nL d) (hdc : 1 + 1 ≤ d) (x1 : Int32) (hst : (rest.map fun v => v.category).sum ≤ 8) (hd : decode cc pc = .ok (.invokevirtual 244, 3)) (hq : pc + 3 = q) (hw : wp_X6_doors x1 K σ) (kk : ∀ (r : Int32) (τ : St), K r τ → At X nL q lv (.int r :: rest) τ) : At X nL pc lv (.int (x1) :: .ref (X.kad 0) :: rest) σ := r_callV (n := 1) q hX (k0 := 0) (c_X6_doors x1) tw_473 tw_474 tw_475 tw_328 tw_476 ⟨by decide +kernel, by decide +kernel, by decide +kernel⟩ hdc (by decide) (As := [.int (x1)]) rfl rfl (by decide) ⟨_, _, _, rfl, rfl, rfl⟩ hst hd hq rfl (K := qI K) hw (kI kk)
set_option maxRecDepth 20000 in
set_option maxHeartbeats 4000000 in
theorem c_X6_plan (x1 : Int32) (x2 : Int32) : Con yX6_plan cX6_plan 3 (some .int) (4) (fun ad => [.ref (ad 0), .int (x1), .int (x2)]) (fun Q σ => wp_X6_plan x1 x2 (aI Q) σ) := by
  refine con_intro (by decide +kernel) (fun _ => Nat.le_of_ble_eq_true rfl) (by omega) (fun X Q σ hX hR hw => ?_)
  have hX : CxB X RX6 cX6_plan 3 (4) := hX
  unfold wp_X6_plan at hw
  show At X 3 0 [(0, .ref (X.kad 0)), (1, .int (x1)), (2, .int (x2))] [] σ
  refine r_aload_n 1 hX dX6_plan_0 rfl rfl 0 rfl ?_
  refine g_X6_23_0 4 hX dX6_plan_1 rfl ?_
  refine r_iload_n 5 hX dX6_plan_4 rfl rfl 1 rfl ?_
  refine k_X6_115_X4_hasHearth 8 hX (by omega) (x1) (Nat.le_of_ble_eq_true rfl) dX6_plan_5 rfl hw (fun r5 σ5 hw => ?_)
  refine r_if_ne 13 11 hX dX6_plan_8 (by decide) rfl hw (fun hw => ?_) (fun hw => ?_)
  · refine r_iload_n 14 hX dX6_plan_13 rfl rfl 2 rfl ?_
    -- switch
    refine r_case hw (fun hc hw => ?_) (fun hc0 hw => ?_)
    · refine r_tabIn 44 hX dX6_plan_14 (by rw [hc]; decide) (by rw [hc]; decide) (off := 30) (by rw [hc]; decide) (by decide) ?_
      refine r_aload_n 45 hX dX6_plan_44 rfl rfl 0 rfl ?_
      refine g_X6_42_0 48 hX dX6_plan_45 rfl ?_
      refine r_aload_n 49 hX dX6_plan_48 rfl rfl 0 rfl ?_
      refine g_X6_23_0 52 hX dX6_plan_49 rfl ?_
      refine r_iload_n 53 hX dX6_plan_52 rfl rfl 1 rfl ?_
      refine k_X6_236_X2_bends 56 hX (by omega) (x1) (Nat.le_of_ble_eq_true rfl) dX6_plan_53 rfl hw (fun r53 σ53 hw => ?_)
      exact r_iret hX hR dX6_plan_56 hw
    refine r_case hw (fun hc hw => ?_) (fun hc1 hw => ?_)
    · refine r_tabIn 57 hX dX6_plan_14 (by rw [hc]; decide) (by rw [hc]; decide) (off := 43) (by rw [hc]; decide) (by decide) ?_
      refine r_aload_n 58 hX dX6_plan_57 rfl rfl 0 rfl ?_
      refine g_X6_42_0 61 hX dX6_plan_58 rfl ?_
      refine r_aload_n 62 hX dX6_plan_61 rfl rfl 0 rfl ?_
      refine g_X6_23_0 65 hX dX6_plan_62 rfl ?_
      refine r_iload_n 66 hX dX6_plan_65 rfl rfl 1 rfl ?_
      refine k_X6_239_X2_leans 69 hX (by omega) (x1) (Nat.le_of_ble_eq_true rfl) dX6_plan_66 rfl hw (fun r66 σ66 hw => ?_)
      exact r_iret hX hR dX6_plan_69 hw
    refine r_case hw (fun hc hw => ?_) (fun hc2 hw => ?_)
    · refine r_tabIn 70 hX dX6_plan_14 (by rw [hc]; decide) (by rw [hc]; decide) (off := 56) (by rw [hc]; decide) (by decide) ?_
      refine r_aload_n 71 hX dX6_plan_70 rfl rfl 0 rfl ?_
      refine g_X6_42_0 74 hX dX6_plan_71 rfl ?_
      refine r_aload_n 75 hX dX6_plan_74 rfl rfl 0 rfl ?_
      refine g_X6_23_0 78 hX dX6_plan_75 rfl ?_
      refine r_iload_n 79 hX dX6_plan_78 rfl rfl 1 rfl ?_
      refine k_X6_241_X2_coldCourses 82 hX (by omega) (x1) (Nat.le_of_ble_eq_true rfl) dX6_plan_79 rfl hw (fun r79 σ79 hw => ?_)
      exact r_iret hX hR dX6_plan_82 hw
    refine r_case hw (fun hc hw => ?_) (fun hc3 hw => ?_)
    · refine r_tabIn 83 hX dX6_plan_14 (by rw [hc]; decide) (by rw [hc]; decide) (off := 69) (by rw [hc]; decide) (by decide) ?_
      refine r_aload_n 84 hX dX6_plan_83 rfl rfl 0 rfl ?_
      refine r_aload_n 85 hX dX6_plan_84 rfl rfl 0 rfl ?_
      refine g_X6_42_0 88 hX dX6_plan_85 rfl ?_
      refine r_aload_n 89 hX dX6_plan_88 rfl rfl 0 rfl ?_
      refine g_X6_23_0 92 hX dX6_plan_89 rfl ?_
      refine r_iload_n 93 hX dX6_plan_92 rfl rfl 1 rfl ?_
      refine k_X6_236_X2_bends 96 hX (by omega) (x1) (Nat.le_of_ble_eq_true rfl) dX6_plan_93 rfl hw (fun r93 σ93 hw => ?_)
      refine k_X6_244_X6_doors 99 hX (by omega) (r93) (Nat.le_of_ble_eq_true rfl) dX6_plan_96 rfl hw (fun r96 σ96 hw => ?_)
      exact r_iret hX hR dX6_plan_99 hw
    refine r_tabOut 100 hX dX6_plan_14 (sw_out0_3 hc0 hc1 hc2 hc3) (by decide) ?_
    refine r_iconst 101 hX dX6_plan_100 rfl (-1) ic_m1 ?_
    exact r_iret hX hR dX6_plan_101 hw
  · refine r_iconst 12 hX dX6_plan_11 rfl (-1) ic_m1 ?_
    exact r_iret hX hR dX6_plan_12 hw
set_option maxRecDepth 20000 in
set_option maxHeartbeats 4000000 in
theorem c_X6_draw (x1 : Int32) (x2 : Int32) : Con yX6_draw cX6_draw 3 (some .int) (5) (fun ad => [.ref (ad 0), .int (x1), .int (x2)]) (fun Q σ => wp_X6_draw x1 x2 (aI Q) σ) := by
  refine con_intro (by decide +kernel) (fun _ => Nat.le_of_ble_eq_true rfl) (by omega) (fun X Q σ hX hR hw => ?_)
  have hX : CxB X RX6 cX6_draw 3 (5) := hX
  unfold wp_X6_draw at hw
  show At X 3 0 [(0, .ref (X.kad 0)), (1, .int (x1)), (2, .int (x2))] [] σ
  refine r_aload_n 1 hX dX6_draw_0 rfl rfl 0 rfl ?_
  refine g_X6_23_0 4 hX dX6_draw_1 rfl ?_
  refine r_iload_n 5 hX dX6_draw_4 rfl rfl 1 rfl ?_
  refine k_X6_115_X4_hasHearth 8 hX (by omega) (x1) (Nat.le_of_ble_eq_true rfl) dX6_draw_5 rfl hw (fun r5 σ5 hw => ?_)
  refine r_if_eq 18 11 hX dX6_draw_8 (by decide) rfl hw (fun hw => ?_) (fun hw => ?_)
  · refine r_ldc 20 hX (-1000000) tw_416 dX6_draw_18 rfl ?_
    exact r_iret hX hR dX6_draw_20 hw
  · refine r_iload_n 12 hX dX6_draw_11 rfl rfl 2 rfl ?_
    refine k_X6_133_X6_hasQuarter 15 hX (by omega) (x2) (Nat.le_of_ble_eq_true rfl) dX6_draw_12 rfl hw (fun r12 σ12 hw => ?_)
    refine r_if_ne 21 18 hX dX6_draw_15 (by decide) rfl hw (fun hw => ?_) (fun hw => ?_)
    · refine r_aload_n 22 hX dX6_draw_21 rfl rfl 0 rfl ?_
      refine r_iload_n 23 hX dX6_draw_22 rfl rfl 1 rfl ?_
      refine r_iload_n 24 hX dX6_draw_23 rfl rfl 2 rfl ?_
      refine k_X6_247_X6_strength 27 hX (by omega) (x1) (x2) (Nat.le_of_ble_eq_true rfl) dX6_draw_24 rfl hw (fun r24 σ24 hw => ?_)
      exact r_iret hX hR dX6_draw_27 hw
    · refine r_ldc 20 hX (-1000000) tw_416 dX6_draw_18 rfl ?_
      exact r_iret hX hR dX6_draw_20 hw
theorem k_X6_251_X6_wanted {X : Cx} {cc : ByteArray} {nL d pc : Nat} {lv : List (Nat × Value)} {rest : List Value} {σ : St} {K : Int32 → St → Prop} (q : Nat) (hX : CxB X RX6 cc nL d) (hdc : 5 + 1 ≤ d) (x1 : Int32) (x2 : Int32) (x3 : Int32) (hst : (rest.map fun v => v.category).sum ≤ 8) (hd : decode cc pc = .ok (.invokevirtual 251, 3)) (hq : pc + 3 = q) (hw : wp_X6_wanted x1 x2 x3 K σ) (kk : ∀ (r : Int32) (τ : St), K r τ → At X nL q lv (.int r :: rest) τ) : At X nL pc lv (.int (x3) :: .int (x2) :: .int (x1) :: .ref (X.kad 0) :: rest) σ := r_callV (n := 3) q hX (k0 := 0) (c_X6_wanted x1 x2 x3) tw_477 tw_478 tw_479 tw_328 tw_480 ⟨by decide +kernel, by decide +kernel, by decide +kernel⟩ hdc (by decide) (As := [.int (x1), .int (x2), .int (x3)]) rfl rfl (by decide) ⟨_, _, _, rfl, rfl, rfl⟩ hst hd hq rfl (K := qI K) hw (kI kk)
set_option maxRecDepth 20000 in
set_option maxHeartbeats 4000000 in
theorem c_X6_smokes (x1 : Int32) (x2 : Int32) (x3 : Int32) : Con yX6_smokes cX6_smokes 4 (some .int) (6) (fun ad => [.ref (ad 0), .int (x1), .int (x2), .int (x3)]) (fun Q σ => wp_X6_smokes x1 x2 x3 (aI Q) σ) := by
  refine con_intro (by decide +kernel) (fun _ => Nat.le_of_ble_eq_true rfl) (by omega) (fun X Q σ hX hR hw => ?_)
  have hX : CxB X RX6 cX6_smokes 4 (6) := hX
  unfold wp_X6_smokes at hw
  show At X 4 0 [(0, .ref (X.kad 0)), (1, .int (x1)), (2, .int (x2)), (3, .int (x3))] [] σ
  refine r_aload_n 1 hX dX6_smokes_0 rfl rfl 0 rfl ?_
  refine g_X6_23_0 4 hX dX6_smokes_1 rfl ?_
  refine r_iload_n 5 hX dX6_smokes_4 rfl rfl 1 rfl ?_
  refine k_X6_115_X4_hasHearth 8 hX (by omega) (x1) (Nat.le_of_ble_eq_true rfl) dX6_smokes_5 rfl hw (fun r5 σ5 hw => ?_)
  refine r_if_eq 29 11 hX dX6_smokes_8 (by decide) rfl hw (fun hw => ?_) (fun hw => ?_)
  · refine r_iconst 30 hX dX6_smokes_29 rfl (-1) ic_m1 ?_
    exact r_iret hX hR dX6_smokes_30 hw
  · refine r_aload_n 12 hX dX6_smokes_11 rfl rfl 0 rfl ?_
    refine g_X6_23_0 15 hX dX6_smokes_12 rfl ?_
    refine r_iload_n 16 hX dX6_smokes_15 rfl rfl 2 rfl ?_
    refine k_X6_115_X4_hasHearth 19 hX (by omega) (x2) (Nat.le_of_ble_eq_true rfl) dX6_smokes_16 rfl hw (fun r16 σ16 hw => ?_)
    refine r_if_eq 29 22 hX dX6_smokes_19 (by decide) rfl hw (fun hw => ?_) (fun hw => ?_)
    · refine r_iconst 30 hX dX6_smokes_29 rfl (-1) ic_m1 ?_
      exact r_iret hX hR dX6_smokes_30 hw
    · refine r_iload_n 23 hX dX6_smokes_22 rfl rfl 3 rfl ?_
      refine k_X6_133_X6_hasQuarter 26 hX (by omega) (x3) (Nat.le_of_ble_eq_true rfl) dX6_smokes_23 rfl hw (fun r23 σ23 hw => ?_)
      refine r_if_ne 31 29 hX dX6_smokes_26 (by decide) rfl hw (fun hw => ?_) (fun hw => ?_)
      · refine r_aload_n 32 hX dX6_smokes_31 rfl rfl 0 rfl ?_
        refine r_iload_n 33 hX dX6_smokes_32 rfl rfl 1 rfl ?_
        refine r_iload_n 34 hX dX6_smokes_33 rfl rfl 3 rfl ?_
        refine k_X6_247_X6_strength 37 hX (by omega) (x1) (x3) (Nat.le_of_ble_eq_true rfl) dX6_smokes_34 rfl hw (fun r34 σ34 hw => ?_)
        refine r_aload_n 38 hX dX6_smokes_37 rfl rfl 0 rfl ?_
        refine r_iload_n 39 hX dX6_smokes_38 rfl rfl 1 rfl ?_
        refine r_iload_n 40 hX dX6_smokes_39 rfl rfl 2 rfl ?_
        refine r_iload_n 41 hX dX6_smokes_40 rfl rfl 3 rfl ?_
        refine k_X6_251_X6_wanted 44 hX (by omega) (x1) (x2) (x3) (Nat.le_of_ble_eq_true rfl) dX6_smokes_41 rfl hw (fun r41 σ41 hw => ?_)
        refine r_icmp_ge 51 47 hX dX6_smokes_44 (by decide) rfl hw (fun hw => ?_) (fun hw => ?_)
        · refine r_iconst 52 hX dX6_smokes_51 rfl 0 ic_0 ?_
          exact r_iret hX hR dX6_smokes_52 hw
        · refine r_iconst 48 hX dX6_smokes_47 rfl 1 ic_1 ?_
          refine r_goto 52 hX dX6_smokes_48 (by decide) ?_
          exact r_iret hX hR dX6_smokes_52 hw
      · refine r_iconst 30 hX dX6_smokes_29 rfl (-1) ic_m1 ?_
        exact r_iret hX hR dX6_smokes_30 hw
set_option maxRecDepth 20000 in
set_option maxHeartbeats 4000000 in
theorem w_X6_mend_b71 {X : Cx} {Q : RV → St → Prop} (hX : CxB X RX6 cX6_mend 5 (6)) (hR : CxR X (some .int) Q) {K71 : Int32 → Int32 → St → Prop} (hK71 : ∀ (x2 : Int32) (x3 : Int32) (σ : St), K71 x2 x3 σ → At X 5 71 [(0, .ref (X.kad 0)), (2, .int (x2)), (3, .int (x3))] [] σ) (x2 : Int32) (x3 : Int32) (σ : St) (hw : wp_X6_mend_b71 (aI Q) K71 x2 x3 σ) : At X 5 71 [(0, .ref (X.kad 0)), (2, .int (x2)), (3, .int (x3))] [] σ := by
  unfold wp_X6_mend_b71 at hw
  refine r_iload_n 72 hX dX6_mend_71 rfl rfl 2 rfl ?_
  refine r_bipush 74 hX dX6_mend_72 rfl 40 bi_40 ?_
  refine r_icmp_gt 97 77 hX dX6_mend_74 (by decide) rfl hw (fun hw => ?_) (fun hw => ?_)
  · refine r_bipush 99 hX dX6_mend_97 rfl (-9) bi_m9 ?_
    exact r_iret hX hR dX6_mend_99 hw
  · refine r_iload_n 78 hX dX6_mend_77 rfl rfl 2 rfl ?_
    refine r_aload_n 79 hX dX6_mend_78 rfl rfl 0 rfl ?_
    refine g_X6_30_0 82 hX dX6_mend_79 rfl ?_
    refine r_iconst 83 hX dX6_mend_82 rfl 3 ic_3 ?_
    refine r_iald 84 hX sh_14 dX6_mend_83 rfl hw (fun hw => ?_)
    refine r_imul 85 hX dX6_mend_84 rfl ?_
    refine r_iload_n 86 hX dX6_mend_85 rfl rfl 1 rfl ?_
    refine r_icmp_lt 91 89 hX dX6_mend_86 (by decide) rfl hw (fun hw => ?_) (fun hw => ?_)
    · refine r_iinc (lv' := [(3, .int (x3 + 1)), (0, .ref (X.kad 0)), (2, .int (x2))]) 94 hX dX6_mend_91 rfl 2 rfl (x3 + 1) (ici_1 _) (by decide) rfl ?_
      refine r_goto 71 hX dX6_mend_94 (by decide) ?_
      refine r_sub [1, 2, 0] rfl ?_
      exact hK71 _ _ _ hw
    · refine r_iload_n 90 hX dX6_mend_89 rfl rfl 2 rfl ?_
      exact r_iret hX hR dX6_mend_90 hw
set_option maxRecDepth 20000 in
set_option maxHeartbeats 4000000 in
theorem w_X6_mend_l71 {X : Cx} {Q : RV → St → Prop} (hX : CxB X RX6 cX6_mend 5 (6)) (hR : CxR X (some .int) Q) (n : Nat) : ∀ (x2 : Int32) (x3 : Int32) (σ : St), wp_X6_mend_l71 (aI Q)  n x2 x3 σ → At X 5 71 [(0, .ref (X.kad 0)), (2, .int (x2)), (3, .int (x3))] [] σ := by
  induction n with
  | zero => intro x2 x3 σ h; exact h.elim
  | succ n ih => intro x2 x3 σ h; exact w_X6_mend_b71  hX hR ih x2 x3 σ h
set_option maxRecDepth 20000 in
set_option maxHeartbeats 4000000 in
theorem w_X6_mend_b25 {X : Cx} {Q : RV → St → Prop} (hX : CxB X RX6 cX6_mend 5 (6)) (hR : CxR X (some .int) Q) {K17 : Int32 → Int32 → Int32 → St → Prop} (hK17 : ∀ (x1 : Int32) (x2 : Int32) (x3 : Int32) (σ : St), K17 x1 x2 x3 σ → At X 5 17 [(0, .ref (X.kad 0)), (1, .int (x1)), (2, .int (x2)), (3, .int (x3))] [] σ) {K25 : Int32 → Int32 → Int32 → Int32 → St → Prop} (hK25 : ∀ (x1 : Int32) (x2 : Int32) (x3 : Int32) (x4 : Int32) (σ : St), K25 x1 x2 x3 x4 σ → At X 5 25 [(0, .ref (X.kad 0)), (1, .int (x1)), (2, .int (x2)), (3, .int (x3)), (4, .int (x4))] [] σ) (x1 : Int32) (x2 : Int32) (x3 : Int32) (x4 : Int32) (σ : St) (hw : wp_X6_mend_b25 (aI Q) K17 K25 x1 x2 x3 x4 σ) : At X 5 25 [(0, .ref (X.kad 0)), (1, .int (x1)), (2, .int (x2)), (3, .int (x3)), (4, .int (x4))] [] σ := by
  unfold wp_X6_mend_b25 at hw
  refine r_iload 27 hX dX6_mend_25 rfl 4 rfl ?_
  refine r_aload_n 28 hX dX6_mend_27 rfl rfl 0 rfl ?_
  refine g_X6_23_0 31 hX dX6_mend_28 rfl ?_
  refine g_X6_101_4 34 hX dX6_mend_31 rfl ?_
  refine r_icmp_ge 63 37 hX dX6_mend_34 (by decide) rfl hw (fun hw => ?_) (fun hw => ?_)
  · refine r_iinc (lv' := [(3, .int (x3 + 1)), (0, .ref (X.kad 0)), (1, .int (x1)), (2, .int (x2)), (4, .int (x4))]) 66 hX dX6_mend_63 rfl 3 rfl (x3 + 1) (ici_1 _) (by decide) rfl ?_
    refine r_goto 17 hX dX6_mend_66 (by decide) ?_
    refine r_sub [1, 2, 3, 0] rfl ?_
    exact hK17 _ _ _ _ hw
  · refine r_iload_n 38 hX dX6_mend_37 rfl rfl 2 rfl ?_
    refine r_aload_n 39 hX dX6_mend_38 rfl rfl 0 rfl ?_
    refine r_iload_n 40 hX dX6_mend_39 rfl rfl 1 rfl ?_
    refine r_iload 42 hX dX6_mend_40 rfl 4 rfl ?_
    refine r_iload_n 43 hX dX6_mend_42 rfl rfl 3 rfl ?_
    refine k_X6_251_X6_wanted 46 hX (by omega) (x1) (x4) (x3) (Nat.le_of_ble_eq_true rfl) dX6_mend_43 rfl hw (fun r43 σ43 hw => ?_)
    refine r_aload_n 47 hX dX6_mend_46 rfl rfl 0 rfl ?_
    refine r_iload_n 48 hX dX6_mend_47 rfl rfl 1 rfl ?_
    refine r_iload_n 49 hX dX6_mend_48 rfl rfl 3 rfl ?_
    refine k_X6_247_X6_strength 52 hX (by omega) (x1) (x3) (Nat.le_of_ble_eq_true rfl) dX6_mend_49 rfl hw (fun r49 σ49 hw => ?_)
    refine r_isub 53 hX dX6_mend_52 rfl ?_
    refine r_mmax 56 hX tw_357 tw_137 tw_74 tw_138 (Nat.le_of_ble_eq_true rfl) dX6_mend_53 rfl ?_
    refine r_topi hw (fun v53 hw => ?_)
    refine r_istore_n (lv' := [(2, .int (v53)), (0, .ref (X.kad 0)), (1, .int (x1)), (3, .int (x3)), (4, .int (x4))]) 57 hX dX6_mend_56 rfl rfl (by decide) rfl ?_
    refine r_iinc (lv' := [(4, .int (x4 + 1)), (2, .int (v53)), (0, .ref (X.kad 0)), (1, .int (x1)), (3, .int (x3))]) 60 hX dX6_mend_57 rfl 4 rfl (x4 + 1) (ici_1 _) (by decide) rfl ?_
    refine r_goto 25 hX dX6_mend_60 (by decide) ?_
    refine r_sub [2, 3, 1, 4, 0] rfl ?_
    exact hK25 _ _ _ _ _ hw
set_option maxRecDepth 20000 in
set_option maxHeartbeats 4000000 in
theorem w_X6_mend_l25 {X : Cx} {Q : RV → St → Prop} (hX : CxB X RX6 cX6_mend 5 (6)) (hR : CxR X (some .int) Q) {K17 : Int32 → Int32 → Int32 → St → Prop} (hK17 : ∀ (x1 : Int32) (x2 : Int32) (x3 : Int32) (σ : St), K17 x1 x2 x3 σ → At X 5 17 [(0, .ref (X.kad 0)), (1, .int (x1)), (2, .int (x2)), (3, .int (x3))] [] σ) (n : Nat) : ∀ (x1 : Int32) (x2 : Int32) (x3 : Int32) (x4 : Int32) (σ : St), wp_X6_mend_l25 (aI Q) K17 n x1 x2 x3 x4 σ → At X 5 25 [(0, .ref (X.kad 0)), (1, .int (x1)), (2, .int (x2)), (3, .int (x3)), (4, .int (x4))] [] σ := by
  induction n with
  | zero => intro x1 x2 x3 x4 σ h; exact h.elim
  | succ n ih => intro x1 x2 x3 x4 σ h; exact w_X6_mend_b25  hX hR hK17 ih x1 x2 x3 x4 σ h
set_option maxRecDepth 20000 in
set_option maxHeartbeats 4000000 in
theorem w_X6_mend_b17 {X : Cx} {Q : RV → St → Prop} (hX : CxB X RX6 cX6_mend 5 (6)) (hR : CxR X (some .int) Q) {K17 : Int32 → Int32 → Int32 → St → Prop} (hK17 : ∀ (x1 : Int32) (x2 : Int32) (x3 : Int32) (σ : St), K17 x1 x2 x3 σ → At X 5 17 [(0, .ref (X.kad 0)), (1, .int (x1)), (2, .int (x2)), (3, .int (x3))] [] σ) (x1 : Int32) (x2 : Int32) (x3 : Int32) (σ : St) (hw : wp_X6_mend_b17 (aI Q) K17 x1 x2 x3 σ) : At X 5 17 [(0, .ref (X.kad 0)), (1, .int (x1)), (2, .int (x2)), (3, .int (x3))] [] σ := by
  unfold wp_X6_mend_b17 at hw
  refine r_iload_n 18 hX dX6_mend_17 rfl rfl 3 rfl ?_
  refine r_iconst 19 hX dX6_mend_18 rfl 4 ic_4 ?_
  refine r_icmp_ge 69 22 hX dX6_mend_19 (by decide) rfl hw (fun hw => ?_) (fun hw => ?_)
  · refine r_iconst 70 hX dX6_mend_69 rfl 0 ic_0 ?_
    refine r_istore_n (lv' := [(3, .int (0)), (0, .ref (X.kad 0)), (1, .int (x1)), (2, .int (x2))]) 71 hX dX6_mend_70 rfl rfl (by decide) rfl ?_
    refine r_sub [1, 3, 0] rfl ?_
    obtain ⟨n, hw⟩ := hw
    exact w_X6_mend_l71 hX hR n _ _ _ hw
  · refine r_iconst 23 hX dX6_mend_22 rfl 0 ic_0 ?_
    refine r_istore (lv' := [(4, .int (0)), (0, .ref (X.kad 0)), (1, .int (x1)), (2, .int (x2)), (3, .int (x3))]) 25 hX dX6_mend_23 rfl (by decide) rfl ?_
    refine r_sub [1, 2, 3, 4, 0] rfl ?_
    obtain ⟨n, hw⟩ := hw
    exact w_X6_mend_l25 hX hR hK17 n _ _ _ _ _ hw
set_option maxRecDepth 20000 in
set_option maxHeartbeats 4000000 in
theorem w_X6_mend_l17 {X : Cx} {Q : RV → St → Prop} (hX : CxB X RX6 cX6_mend 5 (6)) (hR : CxR X (some .int) Q) (n : Nat) : ∀ (x1 : Int32) (x2 : Int32) (x3 : Int32) (σ : St), wp_X6_mend_l17 (aI Q)  n x1 x2 x3 σ → At X 5 17 [(0, .ref (X.kad 0)), (1, .int (x1)), (2, .int (x2)), (3, .int (x3))] [] σ := by
  induction n with
  | zero => intro x1 x2 x3 σ h; exact h.elim
  | succ n ih => intro x1 x2 x3 σ h; exact w_X6_mend_b17  hX hR ih x1 x2 x3 σ h
set_option maxRecDepth 20000 in
set_option maxHeartbeats 4000000 in
theorem c_X6_mend (x1 : Int32) : Con yX6_mend cX6_mend 5 (some .int) (6) (fun ad => [.ref (ad 0), .int (x1)]) (fun Q σ => wp_X6_mend x1 (aI Q) σ) := by
  refine con_intro (by decide +kernel) (fun _ => Nat.le_of_ble_eq_true rfl) (by omega) (fun X Q σ hX hR hw => ?_)
  have hX : CxB X RX6 cX6_mend 5 (6) := hX
  unfold wp_X6_mend at hw
  show At X 5 0 [(0, .ref (X.kad 0)), (1, .int (x1))] [] σ
  refine r_aload_n 1 hX dX6_mend_0 rfl rfl 0 rfl ?_
  refine g_X6_23_0 4 hX dX6_mend_1 rfl ?_
  refine r_iload_n 5 hX dX6_mend_4 rfl rfl 1 rfl ?_
  refine k_X6_115_X4_hasHearth 8 hX (by omega) (x1) (Nat.le_of_ble_eq_true rfl) dX6_mend_5 rfl hw (fun r5 σ5 hw => ?_)
  refine r_if_ne 13 11 hX dX6_mend_8 (by decide) rfl hw (fun hw => ?_) (fun hw => ?_)
  · refine r_iconst 14 hX dX6_mend_13 rfl 0 ic_0 ?_
    refine r_istore_n (lv' := [(2, .int (0)), (0, .ref (X.kad 0)), (1, .int (x1))]) 15 hX dX6_mend_14 rfl rfl (by decide) rfl ?_
    refine r_iconst 16 hX dX6_mend_15 rfl 0 ic_0 ?_
    refine r_istore_n (lv' := [(3, .int (0)), (2, .int (0)), (0, .ref (X.kad 0)), (1, .int (x1))]) 17 hX dX6_mend_16 rfl rfl (by decide) rfl ?_
    refine r_sub [2, 3, 1, 0] rfl ?_
    obtain ⟨n, hw⟩ := hw
    exact w_X6_mend_l17 hX hR n _ _ _ _ hw
  · refine r_iconst 12 hX dX6_mend_11 rfl (-1) ic_m1 ?_
    exact r_iret hX hR dX6_mend_12 hw
theorem k_X6_260_X6_fewestMoved {X : Cx} {cc : ByteArray} {nL d pc : Nat} {lv : List (Nat × Value)} {rest : List Value} {σ : St} {K : Int32 → St → Prop} (q : Nat) (hX : CxB X RX6 cc nL d) (hdc : 123 + 1 ≤ d) (x1 : Int32) (hst : (rest.map fun v => v.category).sum ≤ 8) (hd : decode cc pc = .ok (.invokevirtual 260, 3)) (hq : pc + 3 = q) (hw : wp_X6_fewestMoved x1 K σ) (kk : ∀ (r : Int32) (τ : St), K r τ → At X nL q lv (.int r :: rest) τ) : At X nL pc lv (.int (x1) :: .ref (X.kad 0) :: rest) σ := r_callV (n := 1) q hX (k0 := 0) (c_X6_fewestMoved x1) tw_481 tw_482 tw_483 tw_328 tw_484 ⟨by decide +kernel, by decide +kernel, by decide +kernel⟩ hdc (by decide) (As := [.int (x1)]) rfl rfl (by decide) ⟨_, _, _, rfl, rfl, rfl⟩ hst hd hq rfl (K := qI K) hw (kI kk)
set_option maxRecDepth 20000 in
set_option maxHeartbeats 4000000 in
theorem c_X6_moved (x1 : Int32) (x2 : Int32) : Con yX6_moved cX6_moved 4 (some .int) (124) (fun ad => [.ref (ad 0), .int (x1), .int (x2)]) (fun Q σ => wp_X6_moved x1 x2 (aI Q) σ) := by
  refine con_intro (by decide +kernel) (fun _ => Nat.le_of_ble_eq_true rfl) (by omega) (fun X Q σ hX hR hw => ?_)
  have hX : CxB X RX6 cX6_moved 4 (124) := hX
  unfold wp_X6_moved at hw
  show At X 4 0 [(0, .ref (X.kad 0)), (1, .int (x1)), (2, .int (x2))] [] σ
  refine r_iload_n 1 hX dX6_moved_0 rfl rfl 1 rfl ?_
  refine r_if_lt 20 4 hX dX6_moved_1 (by decide) rfl hw (fun hw => ?_) (fun hw => ?_)
  · refine r_iconst 21 hX dX6_moved_20 rfl (-1) ic_m1 ?_
    exact r_iret hX hR dX6_moved_21 hw
  · refine r_iload_n 5 hX dX6_moved_4 rfl rfl 1 rfl ?_
    refine r_sipush 8 hX dX6_moved_5 rfl 1024 si_1024 ?_
    refine r_icmp_ge 20 11 hX dX6_moved_8 (by decide) rfl hw (fun hw => ?_) (fun hw => ?_)
    · refine r_iconst 21 hX dX6_moved_20 rfl (-1) ic_m1 ?_
      exact r_iret hX hR dX6_moved_21 hw
    · refine r_iload_n 12 hX dX6_moved_11 rfl rfl 2 rfl ?_
      refine r_if_lt 20 15 hX dX6_moved_12 (by decide) rfl hw (fun hw => ?_) (fun hw => ?_)
      · refine r_iconst 21 hX dX6_moved_20 rfl (-1) ic_m1 ?_
        exact r_iret hX hR dX6_moved_21 hw
      · refine r_iload_n 16 hX dX6_moved_15 rfl rfl 2 rfl ?_
        refine r_iconst 17 hX dX6_moved_16 rfl 1 ic_1 ?_
        refine r_icmp_le 22 20 hX dX6_moved_17 (by decide) rfl hw (fun hw => ?_) (fun hw => ?_)
        · refine r_aload_n 23 hX dX6_moved_22 rfl rfl 0 rfl ?_
          refine g_X6_49_0 26 hX dX6_moved_23 rfl ?_
          refine r_aload_n 27 hX dX6_moved_26 rfl rfl 0 rfl ?_
          refine g_X6_23_0 30 hX dX6_moved_27 rfl ?_
          refine r_aload_n 31 hX dX6_moved_30 rfl rfl 0 rfl ?_
          refine g_X6_42_0 34 hX dX6_moved_31 rfl ?_
          refine r_aload_n 35 hX dX6_moved_34 rfl rfl 0 rfl ?_
          refine g_X6_30_0 38 hX dX6_moved_35 rfl ?_
          refine r_iconst 39 hX dX6_moved_38 rfl 0 ic_0 ?_
          refine r_iald 40 hX sh_14 dX6_moved_39 rfl hw (fun hw => ?_)
          refine k_X6_223_X0_findsNone 43 hX (by omega) (σ.1 14 (0 : Int32).toNatClampNeg) (Nat.le_of_ble_eq_true rfl) dX6_moved_40 rfl hw (fun r40 σ40 hw => ?_)
          refine r_if_ne 49 46 hX dX6_moved_43 (by decide) rfl hw (fun hw => ?_) (fun hw => ?_)
          · refine r_aload_n 50 hX dX6_moved_49 rfl rfl 0 rfl ?_
            refine r_iload_n 51 hX dX6_moved_50 rfl rfl 1 rfl ?_
            refine k_X6_260_X6_fewestMoved 54 hX (by omega) (x1) (Nat.le_of_ble_eq_true rfl) dX6_moved_51 rfl hw (fun r51 σ51 hw => ?_)
            refine r_istore_n (lv' := [(3, .int (r51)), (0, .ref (X.kad 0)), (1, .int (x1)), (2, .int (x2))]) 55 hX dX6_moved_54 rfl rfl (by decide) rfl ?_
            refine r_iload_n 56 hX dX6_moved_55 rfl rfl 0 rfl ?_
            refine r_bipush 58 hX dX6_moved_56 rfl (-9) bi_m9 ?_
            refine r_icmp_ne 64 61 hX dX6_moved_58 (by decide) rfl hw (fun hw => ?_) (fun hw => ?_)
            · refine r_iload_n 65 hX dX6_moved_64 rfl rfl 3 rfl ?_
              refine r_if_ne 75 68 hX dX6_moved_65 (by decide) rfl hw (fun hw => ?_) (fun hw => ?_)
              · refine r_iload_n 76 hX dX6_moved_75 rfl rfl 0 rfl ?_
                exact r_iret hX hR dX6_moved_76 hw
              · refine r_iload_n 69 hX dX6_moved_68 rfl rfl 0 rfl ?_
                refine k_X6_186_J6_bitCount_0f7a4 72 hX (by omega) (r51) (Nat.le_of_ble_eq_true rfl) dX6_moved_69 rfl hw (fun r69 σ69 hw => ?_)
                refine r_goto 76 hX dX6_moved_72 (by decide) ?_
                exact r_iret hX hR dX6_moved_76 hw
            · refine r_bipush 63 hX dX6_moved_61 rfl (-9) bi_m9 ?_
              exact r_iret hX hR dX6_moved_63 hw
          · refine r_bipush 48 hX dX6_moved_46 rfl (-2) bi_m2 ?_
            exact r_iret hX hR dX6_moved_48 hw
        · refine r_iconst 21 hX dX6_moved_20 rfl (-1) ic_m1 ?_
          exact r_iret hX hR dX6_moved_21 hw
set_option maxRecDepth 20000 in
set_option maxHeartbeats 4000000 in
theorem c_X6_mark (x1 : Int32) (x2 : Int32) : Con yX6_mark cX6_mark 3 (some .int) (3) (fun ad => [.ref (ad 0), .int (x1), .int (x2)]) (fun Q σ => wp_X6_mark x1 x2 (aI Q) σ) := by
  refine con_intro (by decide +kernel) (fun _ => Nat.le_of_ble_eq_true rfl) (by omega) (fun X Q σ hX hR hw => ?_)
  have hX : CxB X RX6 cX6_mark 3 (3) := hX
  unfold wp_X6_mark at hw
  show At X 3 0 [(0, .ref (X.kad 0)), (1, .int (x1)), (2, .int (x2))] [] σ
  refine r_aload_n 1 hX dX6_mark_0 rfl rfl 0 rfl ?_
  refine g_X6_23_0 4 hX dX6_mark_1 rfl ?_
  refine r_iload_n 5 hX dX6_mark_4 rfl rfl 1 rfl ?_
  refine r_iload_n 6 hX dX6_mark_5 rfl rfl 2 rfl ?_
  refine k_X6_104_X4_hasBrick 9 hX (by omega) (x1) (x2) (Nat.le_of_ble_eq_true rfl) dX6_mark_6 rfl hw (fun r6 σ6 hw => ?_)
  refine r_if_ne 14 12 hX dX6_mark_9 (by decide) rfl hw (fun hw => ?_) (fun hw => ?_)
  · refine r_aload_n 15 hX dX6_mark_14 rfl rfl 0 rfl ?_
    refine g_X6_42_0 18 hX dX6_mark_15 rfl ?_
    refine g_X6_92_20 21 hX dX6_mark_18 rfl ?_
    refine r_bipush 23 hX dX6_mark_21 rfl 6 bi_6 ?_
    refine r_icmp_lt 29 26 hX dX6_mark_23 (by decide) rfl hw (fun hw => ?_) (fun hw => ?_)
    · refine r_aload_n 30 hX dX6_mark_29 rfl rfl 0 rfl ?_
      refine g_X6_42_0 33 hX dX6_mark_30 rfl ?_
      refine g_X6_274_20 36 hX dX6_mark_33 rfl ?_
      refine r_aload_n 37 hX dX6_mark_36 rfl rfl 0 rfl ?_
      refine g_X6_42_0 40 hX dX6_mark_37 rfl ?_
      refine g_X6_92_20 43 hX dX6_mark_40 rfl ?_
      refine r_iload_n 44 hX dX6_mark_43 rfl rfl 1 rfl ?_
      refine r_iast 45 hX sh_25 dX6_mark_44 rfl hw (fun hw => ?_)
      refine r_aload_n 46 hX dX6_mark_45 rfl rfl 0 rfl ?_
      refine g_X6_42_0 49 hX dX6_mark_46 rfl ?_
      refine g_X6_277_20 52 hX dX6_mark_49 rfl ?_
      refine r_aload_n 53 hX dX6_mark_52 rfl rfl 0 rfl ?_
      refine g_X6_42_0 56 hX dX6_mark_53 rfl ?_
      refine g_X6_92_20 59 hX dX6_mark_56 rfl ?_
      refine r_iload_n 60 hX dX6_mark_59 rfl rfl 2 rfl ?_
      refine r_iast 61 hX sh_26 dX6_mark_60 rfl hw (fun hw => ?_)
      refine r_aload_n 62 hX dX6_mark_61 rfl rfl 0 rfl ?_
      refine g_X6_42_0 65 hX dX6_mark_62 rfl ?_
      refine r_dup 66 hX dX6_mark_65 rfl rfl ?_
      refine g_X6_92_20 69 hX dX6_mark_66 rfl ?_
      refine r_iconst 70 hX dX6_mark_69 rfl 1 ic_1 ?_
      refine r_iadd 71 hX dX6_mark_70 rfl ?_
      refine p_X6_92_20 74 hX dX6_mark_71 rfl ?_
      refine r_aload_n 75 hX dX6_mark_74 rfl rfl 0 rfl ?_
      refine g_X6_42_0 78 hX dX6_mark_75 rfl ?_
      refine g_X6_92_20 81 hX dX6_mark_78 rfl ?_
      exact r_iret hX hR dX6_mark_81 hw
    · refine r_bipush 28 hX dX6_mark_26 rfl (-3) bi_m3 ?_
      exact r_iret hX hR dX6_mark_28 hw
  · refine r_iconst 13 hX dX6_mark_12 rfl (-1) ic_m1 ?_
    exact r_iret hX hR dX6_mark_13 hw
theorem k_X6_280_X5_hear {X : Cx} {cc : ByteArray} {nL d pc : Nat} {lv : List (Nat × Value)} {rest : List Value} {σ : St} {K : St → Prop} (q : Nat) (hX : CxB X RX6 cc nL d) (hdc : 1 + 1 ≤ d) (hst : (rest.map fun v => v.category).sum ≤ 8) (hd : decode cc pc = .ok (.invokevirtual 280, 3)) (hq : pc + 3 = q) (hw : wp_X5_hear  K σ) (kk : ∀ (τ : St), K τ → At X nL q lv (rest) τ) : At X nL pc lv (.ref (X.kad 20) :: .ref (X.kad 43) :: rest) σ := r_callV (n := 1) q hX (k0 := 43) (c_X5_hear ) tw_487 tw_488 tw_489 tw_90 tw_490 ⟨by decide +kernel, by decide +kernel, by decide +kernel⟩ hdc (by decide) (As := [.ref (X.kad 20)]) rfl rfl (by decide) ⟨_, _, _, rfl, rfl, rfl⟩ hst hd hq rfl (K := qV K) hw (kV kk)
set_option maxRecDepth 20000 in
set_option maxHeartbeats 4000000 in
theorem c_X6_guess (x1 : Int32) : Con yX6_guess cX6_guess 2 (some .long) (3) (fun ad => [.ref (ad 0), .int (x1)]) (fun Q σ => wp_X6_guess x1 (aJ Q) σ) := by
  refine con_intro (by decide +kernel) (fun _ => Nat.le_of_ble_eq_true rfl) (by omega) (fun X Q σ hX hR hw => ?_)
  have hX : CxB X RX6 cX6_guess 2 (3) := hX
  unfold wp_X6_guess at hw
  show At X 2 0 [(0, .ref (X.kad 0)), (1, .int (x1))] [] σ
  refine r_aload_n 1 hX dX6_guess_0 rfl rfl 0 rfl ?_
  refine g_X6_23_0 4 hX dX6_guess_1 rfl ?_
  refine r_iload_n 5 hX dX6_guess_4 rfl rfl 1 rfl ?_
  refine k_X6_115_X4_hasHearth 8 hX (by omega) (x1) (Nat.le_of_ble_eq_true rfl) dX6_guess_5 rfl hw (fun r5 σ5 hw => ?_)
  refine r_if_ne 15 11 hX dX6_guess_8 (by decide) rfl hw (fun hw => ?_) (fun hw => ?_)
  · refine r_aload_n 16 hX dX6_guess_15 rfl rfl 0 rfl ?_
    refine g_X6_66_0 19 hX dX6_guess_16 rfl ?_
    refine r_aload_n 20 hX dX6_guess_19 rfl rfl 0 rfl ?_
    refine g_X6_23_0 23 hX dX6_guess_20 rfl ?_
    refine r_iload_n 24 hX dX6_guess_23 rfl rfl 1 rfl ?_
    refine k_X6_142_X5_prepare 27 hX (by omega) (x1) (Nat.le_of_ble_eq_true rfl) dX6_guess_24 rfl hw (fun σ24 hw => ?_)
    refine r_aload_n 28 hX dX6_guess_27 rfl rfl 0 rfl ?_
    refine g_X6_66_0 31 hX dX6_guess_28 rfl ?_
    refine r_aload_n 32 hX dX6_guess_31 rfl rfl 0 rfl ?_
    refine g_X6_42_0 35 hX dX6_guess_32 rfl ?_
    refine k_X6_280_X5_hear 38 hX (by omega)  (Nat.le_of_ble_eq_true rfl) dX6_guess_35 rfl hw (fun σ35 hw => ?_)
    refine r_aload_n 39 hX dX6_guess_38 rfl rfl 0 rfl ?_
    refine g_X6_66_0 42 hX dX6_guess_39 rfl ?_
    refine k_X6_146_X5_number 45 hX (by omega)  (Nat.le_of_ble_eq_true rfl) dX6_guess_42 rfl hw (fun r42 σ42 hw => ?_)
    exact r_lret hX hR dX6_guess_45 hw
  · refine r_ldc2 14 hX (-1) tw_426 dX6_guess_11 rfl ?_
    exact r_lret hX hR dX6_guess_14 hw
theorem k_X6_292_X6_rateGather {X : Cx} {cc : ByteArray} {nL d pc : Nat} {lv : List (Nat × Value)} {rest : List Value} {σ : St} {K : Int32 → St → Prop} (q : Nat) (hX : CxB X RX6 cc nL d) (hdc : 4 + 1 ≤ d) (x1 : Int32) (hst : (rest.map fun v => v.category).sum ≤ 8) (hd : decode cc pc = .ok (.invokevirtual 292, 3)) (hq : pc + 3 = q) (hw : wp_X6_rateGather x1 K σ) (kk : ∀ (r : Int32) (τ : St), K r τ → At X nL q lv (.int r :: rest) τ) : At X nL pc lv (.int (x1) :: .ref (X.kad 0) :: rest) σ := r_callV (n := 1) q hX (k0 := 0) (c_X6_rateGather x1) tw_491 tw_492 tw_493 tw_328 tw_494 ⟨by decide +kernel, by decide +kernel, by decide +kernel⟩ hdc (by decide) (As := [.int (x1)]) rfl rfl (by decide) ⟨_, _, _, rfl, rfl, rfl⟩ hst hd hq rfl (K := qI K) hw (kI kk)
theorem k_X6_295_X6_rateShared {X : Cx} {cc : ByteArray} {nL d pc : Nat} {lv : List (Nat × Value)} {rest : List Value} {σ : St} {K : Int32 → St → Prop} (q : Nat) (hX : CxB X RX6 cc nL d) (hdc : 4 + 1 ≤ d) (x1 : Int32) (hst : (rest.map fun v => v.category).sum ≤ 8) (hd : decode cc pc = .ok (.invokevirtual 295, 3)) (hq : pc + 3 = q) (hw : wp_X6_rateShared x1 K σ) (kk : ∀ (r : Int32) (τ : St), K r τ → At X nL q lv (.int r :: rest) τ) : At X nL pc lv (.int (x1) :: .ref (X.kad 0) :: rest) σ := r_callV (n := 1) q hX (k0 := 0) (c_X6_rateShared x1) tw_495 tw_496 tw_497 tw_328 tw_498 ⟨by decide +kernel, by decide +kernel, by decide +kernel⟩ hdc (by decide) (As := [.int (x1)]) rfl rfl (by decide) ⟨_, _, _, rfl, rfl, rfl⟩ hst hd hq rfl (K := qI K) hw (kI kk)
theorem k_X6_298_X6_rateOld {X : Cx} {cc : ByteArray} {nL d pc : Nat} {lv : List (Nat × Value)} {rest : List Value} {σ : St} {K : Int32 → St → Prop} (q : Nat) (hX : CxB X RX6 cc nL d) (hdc : 3 + 1 ≤ d) (x1 : Int32) (hst : (rest.map fun v => v.category).sum ≤ 8) (hd : decode cc pc = .ok (.invokevirtual 298, 3)) (hq : pc + 3 = q) (hw : wp_X6_rateOld x1 K σ) (kk : ∀ (r : Int32) (τ : St), K r τ → At X nL q lv (.int r :: rest) τ) : At X nL pc lv (.int (x1) :: .ref (X.kad 0) :: rest) σ := r_callV (n := 1) q hX (k0 := 0) (c_X6_rateOld x1) tw_499 tw_500 tw_501 tw_328 tw_502 ⟨by decide +kernel, by decide +kernel, by decide +kernel⟩ hdc (by decide) (As := [.int (x1)]) rfl rfl (by decide) ⟨_, _, _, rfl, rfl, rfl⟩ hst hd hq rfl (K := qI K) hw (kI kk)
set_option maxRecDepth 20000 in
set_option maxHeartbeats 4000000 in
theorem c_X6_rate (x1 : Int32) (x2 : Int32) : Con yX6_rate cX6_rate 3 (some .int) (5) (fun ad => [.ref (ad 0), .int (x1), .int (x2)]) (fun Q σ => wp_X6_rate x1 x2 (aI Q) σ) := by
  refine con_intro (by decide +kernel) (fun _ => Nat.le_of_ble_eq_true rfl) (by omega) (fun X Q σ hX hR hw => ?_)
  have hX : CxB X RX6 cX6_rate 3 (5) := hX
  unfold wp_X6_rate at hw
  show At X 3 0 [(0, .ref (X.kad 0)), (1, .int (x1)), (2, .int (x2))] [] σ
  refine r_aload_n 1 hX dX6_rate_0 rfl rfl 0 rfl ?_
  refine g_X6_23_0 4 hX dX6_rate_1 rfl ?_
  refine r_iload_n 5 hX dX6_rate_4 rfl rfl 2 rfl ?_
  refine k_X6_115_X4_hasHearth 8 hX (by omega) (x2) (Nat.le_of_ble_eq_true rfl) dX6_rate_5 rfl hw (fun r5 σ5 hw => ?_)
  refine r_if_ne 14 11 hX dX6_rate_8 (by decide) rfl hw (fun hw => ?_) (fun hw => ?_)
  · refine r_iload_n 15 hX dX6_rate_14 rfl rfl 1 rfl ?_
    -- switch
    refine r_case hw (fun hc hw => ?_) (fun hc0 hw => ?_)
    · refine r_tabIn 52 hX dX6_rate_15 (by rw [hc]; decide) (by rw [hc]; decide) (off := 37) (by rw [hc]; decide) (by decide) ?_
      refine r_aload_n 53 hX dX6_rate_52 rfl rfl 0 rfl ?_
      refine r_iload_n 54 hX dX6_rate_53 rfl rfl 2 rfl ?_
      refine k_X6_283_X6_rateFlue 57 hX (by omega) (x2) (Nat.le_of_ble_eq_true rfl) dX6_rate_54 rfl hw (fun r54 σ54 hw => ?_)
      exact r_iret hX hR dX6_rate_57 hw
    refine r_case hw (fun hc hw => ?_) (fun hc1 hw => ?_)
    · refine r_tabIn 58 hX dX6_rate_15 (by rw [hc]; decide) (by rw [hc]; decide) (off := 43) (by rw [hc]; decide) (by decide) ?_
      refine r_aload_n 59 hX dX6_rate_58 rfl rfl 0 rfl ?_
      refine r_iload_n 60 hX dX6_rate_59 rfl rfl 2 rfl ?_
      refine k_X6_286_X6_rateStraight 63 hX (by omega) (x2) (Nat.le_of_ble_eq_true rfl) dX6_rate_60 rfl hw (fun r60 σ60 hw => ?_)
      exact r_iret hX hR dX6_rate_63 hw
    refine r_case hw (fun hc hw => ?_) (fun hc2 hw => ?_)
    · refine r_tabIn 64 hX dX6_rate_15 (by rw [hc]; decide) (by rw [hc]; decide) (off := 49) (by rw [hc]; decide) (by decide) ?_
      refine r_aload_n 65 hX dX6_rate_64 rfl rfl 0 rfl ?_
      refine r_iload_n 66 hX dX6_rate_65 rfl rfl 2 rfl ?_
      refine k_X6_289_X6_rateLean 69 hX (by omega) (x2) (Nat.le_of_ble_eq_true rfl) dX6_rate_66 rfl hw (fun r66 σ66 hw => ?_)
      exact r_iret hX hR dX6_rate_69 hw
    refine r_case hw (fun hc hw => ?_) (fun hc3 hw => ?_)
    · refine r_tabIn 70 hX dX6_rate_15 (by rw [hc]; decide) (by rw [hc]; decide) (off := 55) (by rw [hc]; decide) (by decide) ?_
      refine r_aload_n 71 hX dX6_rate_70 rfl rfl 0 rfl ?_
      refine r_iload_n 72 hX dX6_rate_71 rfl rfl 2 rfl ?_
      refine k_X6_292_X6_rateGather 75 hX (by omega) (x2) (Nat.le_of_ble_eq_true rfl) dX6_rate_72 rfl hw (fun r72 σ72 hw => ?_)
      exact r_iret hX hR dX6_rate_75 hw
    refine r_case hw (fun hc hw => ?_) (fun hc4 hw => ?_)
    · refine r_tabIn 76 hX dX6_rate_15 (by rw [hc]; decide) (by rw [hc]; decide) (off := 61) (by rw [hc]; decide) (by decide) ?_
      refine r_aload_n 77 hX dX6_rate_76 rfl rfl 0 rfl ?_
      refine r_iload_n 78 hX dX6_rate_77 rfl rfl 2 rfl ?_
      refine k_X6_295_X6_rateShared 81 hX (by omega) (x2) (Nat.le_of_ble_eq_true rfl) dX6_rate_78 rfl hw (fun r78 σ78 hw => ?_)
      exact r_iret hX hR dX6_rate_81 hw
    refine r_case hw (fun hc hw => ?_) (fun hc5 hw => ?_)
    · refine r_tabIn 82 hX dX6_rate_15 (by rw [hc]; decide) (by rw [hc]; decide) (off := 67) (by rw [hc]; decide) (by decide) ?_
      refine r_aload_n 83 hX dX6_rate_82 rfl rfl 0 rfl ?_
      refine r_iload_n 84 hX dX6_rate_83 rfl rfl 2 rfl ?_
      refine k_X6_298_X6_rateOld 87 hX (by omega) (x2) (Nat.le_of_ble_eq_true rfl) dX6_rate_84 rfl hw (fun r84 σ84 hw => ?_)
      exact r_iret hX hR dX6_rate_87 hw
    refine r_tabOut 88 hX dX6_rate_15 (sw_out0_5 hc0 hc1 hc2 hc3 hc4 hc5) (by decide) ?_
    refine r_ldc 90 hX (-1000000) tw_416 dX6_rate_88 rfl ?_
    exact r_iret hX hR dX6_rate_90 hw
  · refine r_ldc 13 hX (-1000000) tw_416 dX6_rate_11 rfl ?_
    exact r_iret hX hR dX6_rate_13 hw
theorem k_X6_301_X6_imageOf {X : Cx} {cc : ByteArray} {nL d pc : Nat} {lv : List (Nat × Value)} {rest : List Value} {σ : St} {K : Nat → St → Prop} (q : Nat) (hX : CxB X RX6 cc nL d) (hdc : 1 + 1 ≤ d) (x1 : Int32) (hst : (rest.map fun v => v.category).sum ≤ 8) (hd : decode cc pc = .ok (.invokevirtual 301, 3)) (hq : pc + 3 = q) (hw : wp_X6_imageOf x1 K σ) (kk : ∀ (r : Nat) (τ : St), K r τ → At X nL q lv (.ref (X.kad r) :: rest) τ) : At X nL pc lv (.int (x1) :: .ref (X.kad 0) :: rest) σ := r_callV (n := 1) q hX (k0 := 0) (c_X6_imageOf x1) tw_503 tw_504 tw_505 tw_328 tw_506 ⟨by decide +kernel, by decide +kernel, by decide +kernel⟩ hdc (by decide) (As := [.int (x1)]) rfl rfl (by decide) ⟨_, _, _, rfl, rfl, rfl⟩ hst hd hq rfl (K := qR K) hw (kR kk)
theorem k_X6_305_X2_copyFrom_28_20 {X : Cx} {cc : ByteArray} {nL d pc : Nat} {lv : List (Nat × Value)} {rest : List Value} {σ : St} {K : St → Prop} (q : Nat) (hX : CxB X RX6 cc nL d) (hdc : 1 + 1 ≤ d) (hst : (rest.map fun v => v.category).sum ≤ 8) (hd : decode cc pc = .ok (.invokevirtual 305, 3)) (hq : pc + 3 = q) (hw : wp_X2_copyFrom_28_20  K σ) (kk : ∀ (τ : St), K τ → At X nL q lv (rest) τ) : At X nL pc lv (.ref (X.kad 20) :: .ref (X.kad 28) :: rest) σ := r_callV (n := 1) q hX (k0 := 28) (c_X2_copyFrom_28_20 ) tw_507 tw_508 tw_509 tw_345 tw_510 ⟨by decide +kernel, by decide +kernel, by decide +kernel⟩ hdc (by decide) (As := [.ref (X.kad 20)]) rfl rfl (by decide) ⟨_, _, _, rfl, rfl, rfl⟩ hst hd hq rfl (K := qV K) hw (kV kk)
theorem k_X6_305_X2_copyFrom_35_20 {X : Cx} {cc : ByteArray} {nL d pc : Nat} {lv : List (Nat × Value)} {rest : List Value} {σ : St} {K : St → Prop} (q : Nat) (hX : CxB X RX6 cc nL d) (hdc : 1 + 1 ≤ d) (hst : (rest.map fun v => v.category).sum ≤ 8) (hd : decode cc pc = .ok (.invokevirtual 305, 3)) (hq : pc + 3 = q) (hw : wp_X2_copyFrom_35_20  K σ) (kk : ∀ (τ : St), K τ → At X nL q lv (rest) τ) : At X nL pc lv (.ref (X.kad 20) :: .ref (X.kad 35) :: rest) σ := r_callV (n := 1) q hX (k0 := 35) (c_X2_copyFrom_35_20 ) tw_507 tw_508 tw_509 tw_345 tw_510 ⟨by decide +kernel, by decide +kernel, by decide +kernel⟩ hdc (by decide) (As := [.ref (X.kad 20)]) rfl rfl (by decide) ⟨_, _, _, rfl, rfl, rfl⟩ hst hd hq rfl (K := qV K) hw (kV kk)
set_option maxRecDepth 20000 in
set_option maxHeartbeats 4000000 in
theorem c_X6_keep (x1 : Int32) : Con yX6_keep cX6_keep 2 (some .int) (2) (fun ad => [.ref (ad 0), .int (x1)]) (fun Q σ => wp_X6_keep x1 (aI Q) σ) := by
  refine con_intro (by decide +kernel) (fun _ => Nat.le_of_ble_eq_true rfl) (by omega) (fun X Q σ hX hR hw => ?_)
  have hX : CxB X RX6 cX6_keep 2 (2) := hX
  unfold wp_X6_keep at hw
  show At X 2 0 [(0, .ref (X.kad 0)), (1, .int (x1))] [] σ
  refine r_iload_n 1 hX dX6_keep_0 rfl rfl 1 rfl ?_
  refine r_if_lt 9 4 hX dX6_keep_1 (by decide) rfl hw (fun hw => ?_) (fun hw => ?_)
  · refine r_iconst 10 hX dX6_keep_9 rfl (-1) ic_m1 ?_
    exact r_iret hX hR dX6_keep_10 hw
  · refine r_iload_n 5 hX dX6_keep_4 rfl rfl 1 rfl ?_
    refine r_iconst 6 hX dX6_keep_5 rfl 2 ic_2 ?_
    refine r_icmp_lt 11 9 hX dX6_keep_6 (by decide) rfl hw (fun hw => ?_) (fun hw => ?_)
    · refine r_aload_n 12 hX dX6_keep_11 rfl rfl 0 rfl ?_
      refine r_iload_n 13 hX dX6_keep_12 rfl rfl 1 rfl ?_
      refine k_X6_301_X6_imageOf 16 hX (by omega) (x1) (Nat.le_of_ble_eq_true rfl) dX6_keep_13 rfl hw (fun r13 σ13 hw => ?_)
      rcases hw.2.2 with hc | hc
      · subst hc
        have hw := hw.1 rfl
        refine r_aload_n 17 hX dX6_keep_16 rfl rfl 0 rfl ?_
        refine g_X6_42_0 20 hX dX6_keep_17 rfl ?_
        refine k_X6_305_X2_copyFrom_28_20 23 hX (by omega)  (Nat.le_of_ble_eq_true rfl) dX6_keep_20 rfl hw (fun σ20 hw => ?_)
        refine r_aload_n 24 hX dX6_keep_23 rfl rfl 0 rfl ?_
        refine g_X6_59_0 27 hX dX6_keep_24 rfl ?_
        refine r_iload_n 28 hX dX6_keep_27 rfl rfl 1 rfl ?_
        refine r_iconst 29 hX dX6_keep_28 rfl 1 ic_1 ?_
        refine r_zast 30 hX sh_42 dX6_keep_29 rfl hw (fun hw => ?_)
        refine r_aload_n 31 hX dX6_keep_30 rfl rfl 0 rfl ?_
        refine g_X6_42_0 34 hX dX6_keep_31 rfl ?_
        refine g_X6_92_20 37 hX dX6_keep_34 rfl ?_
        exact r_iret hX hR dX6_keep_37 hw
      · subst hc
        have hw := hw.2.1 rfl
        refine r_aload_n 17 hX dX6_keep_16 rfl rfl 0 rfl ?_
        refine g_X6_42_0 20 hX dX6_keep_17 rfl ?_
        refine k_X6_305_X2_copyFrom_35_20 23 hX (by omega)  (Nat.le_of_ble_eq_true rfl) dX6_keep_20 rfl hw (fun σ20 hw => ?_)
        refine r_aload_n 24 hX dX6_keep_23 rfl rfl 0 rfl ?_
        refine g_X6_59_0 27 hX dX6_keep_24 rfl ?_
        refine r_iload_n 28 hX dX6_keep_27 rfl rfl 1 rfl ?_
        refine r_iconst 29 hX dX6_keep_28 rfl 1 ic_1 ?_
        refine r_zast 30 hX sh_42 dX6_keep_29 rfl hw (fun hw => ?_)
        refine r_aload_n 31 hX dX6_keep_30 rfl rfl 0 rfl ?_
        refine g_X6_42_0 34 hX dX6_keep_31 rfl ?_
        refine g_X6_92_20 37 hX dX6_keep_34 rfl ?_
        exact r_iret hX hR dX6_keep_37 hw
    · refine r_iconst 10 hX dX6_keep_9 rfl (-1) ic_m1 ?_
      exact r_iret hX hR dX6_keep_10 hw
theorem k_X6_305_X2_copyFrom_20_28 {X : Cx} {cc : ByteArray} {nL d pc : Nat} {lv : List (Nat × Value)} {rest : List Value} {σ : St} {K : St → Prop} (q : Nat) (hX : CxB X RX6 cc nL d) (hdc : 1 + 1 ≤ d) (hst : (rest.map fun v => v.category).sum ≤ 8) (hd : decode cc pc = .ok (.invokevirtual 305, 3)) (hq : pc + 3 = q) (hw : wp_X2_copyFrom_20_28  K σ) (kk : ∀ (τ : St), K τ → At X nL q lv (rest) τ) : At X nL pc lv (.ref (X.kad 28) :: .ref (X.kad 20) :: rest) σ := r_callV (n := 1) q hX (k0 := 20) (c_X2_copyFrom_20_28 ) tw_507 tw_508 tw_509 tw_345 tw_510 ⟨by decide +kernel, by decide +kernel, by decide +kernel⟩ hdc (by decide) (As := [.ref (X.kad 28)]) rfl rfl (by decide) ⟨_, _, _, rfl, rfl, rfl⟩ hst hd hq rfl (K := qV K) hw (kV kk)
theorem k_X6_305_X2_copyFrom_20_35 {X : Cx} {cc : ByteArray} {nL d pc : Nat} {lv : List (Nat × Value)} {rest : List Value} {σ : St} {K : St → Prop} (q : Nat) (hX : CxB X RX6 cc nL d) (hdc : 1 + 1 ≤ d) (hst : (rest.map fun v => v.category).sum ≤ 8) (hd : decode cc pc = .ok (.invokevirtual 305, 3)) (hq : pc + 3 = q) (hw : wp_X2_copyFrom_20_35  K σ) (kk : ∀ (τ : St), K τ → At X nL q lv (rest) τ) : At X nL pc lv (.ref (X.kad 35) :: .ref (X.kad 20) :: rest) σ := r_callV (n := 1) q hX (k0 := 20) (c_X2_copyFrom_20_35 ) tw_507 tw_508 tw_509 tw_345 tw_510 ⟨by decide +kernel, by decide +kernel, by decide +kernel⟩ hdc (by decide) (As := [.ref (X.kad 35)]) rfl rfl (by decide) ⟨_, _, _, rfl, rfl, rfl⟩ hst hd hq rfl (K := qV K) hw (kV kk)
set_option maxRecDepth 20000 in
set_option maxHeartbeats 4000000 in
theorem c_X6_back (x1 : Int32) : Con yX6_back cX6_back 2 (some .int) (2) (fun ad => [.ref (ad 0), .int (x1)]) (fun Q σ => wp_X6_back x1 (aI Q) σ) := by
  refine con_intro (by decide +kernel) (fun _ => Nat.le_of_ble_eq_true rfl) (by omega) (fun X Q σ hX hR hw => ?_)
  have hX : CxB X RX6 cX6_back 2 (2) := hX
  unfold wp_X6_back at hw
  show At X 2 0 [(0, .ref (X.kad 0)), (1, .int (x1))] [] σ
  refine r_iload_n 1 hX dX6_back_0 rfl rfl 1 rfl ?_
  refine r_if_lt 9 4 hX dX6_back_1 (by decide) rfl hw (fun hw => ?_) (fun hw => ?_)
  · refine r_iconst 10 hX dX6_back_9 rfl (-1) ic_m1 ?_
    exact r_iret hX hR dX6_back_10 hw
  · refine r_iload_n 5 hX dX6_back_4 rfl rfl 1 rfl ?_
    refine r_iconst 6 hX dX6_back_5 rfl 2 ic_2 ?_
    refine r_icmp_lt 11 9 hX dX6_back_6 (by decide) rfl hw (fun hw => ?_) (fun hw => ?_)
    · refine r_aload_n 12 hX dX6_back_11 rfl rfl 0 rfl ?_
      refine g_X6_59_0 15 hX dX6_back_12 rfl ?_
      refine r_iload_n 16 hX dX6_back_15 rfl rfl 1 rfl ?_
      refine r_zald 17 hX sh_42 dX6_back_16 rfl hw (fun hw => ?_)
      refine r_if_ne 23 20 hX dX6_back_17 (by decide) rfl hw (fun hw => ?_) (fun hw => ?_)
      · refine r_aload_n 24 hX dX6_back_23 rfl rfl 0 rfl ?_
        refine g_X6_42_0 27 hX dX6_back_24 rfl ?_
        refine r_aload_n 28 hX dX6_back_27 rfl rfl 0 rfl ?_
        refine r_iload_n 29 hX dX6_back_28 rfl rfl 1 rfl ?_
        refine k_X6_301_X6_imageOf 32 hX (by omega) (x1) (Nat.le_of_ble_eq_true rfl) dX6_back_29 rfl hw (fun r29 σ29 hw => ?_)
        rcases hw.2.2 with hc | hc
        · subst hc
          have hw := hw.1 rfl
          refine k_X6_305_X2_copyFrom_20_28 35 hX (by omega)  (Nat.le_of_ble_eq_true rfl) dX6_back_32 rfl hw (fun σ32 hw => ?_)
          refine r_aload_n 36 hX dX6_back_35 rfl rfl 0 rfl ?_
          refine g_X6_42_0 39 hX dX6_back_36 rfl ?_
          refine g_X6_92_20 42 hX dX6_back_39 rfl ?_
          exact r_iret hX hR dX6_back_42 hw
        · subst hc
          have hw := hw.2.1 rfl
          refine k_X6_305_X2_copyFrom_20_35 35 hX (by omega)  (Nat.le_of_ble_eq_true rfl) dX6_back_32 rfl hw (fun σ32 hw => ?_)
          refine r_aload_n 36 hX dX6_back_35 rfl rfl 0 rfl ?_
          refine g_X6_42_0 39 hX dX6_back_36 rfl ?_
          refine g_X6_92_20 42 hX dX6_back_39 rfl ?_
          exact r_iret hX hR dX6_back_42 hw
      · refine r_bipush 22 hX dX6_back_20 rfl (-2) bi_m2 ?_
        exact r_iret hX hR dX6_back_22 hw
    · refine r_iconst 10 hX dX6_back_9 rfl (-1) ic_m1 ?_
      exact r_iret hX hR dX6_back_10 hw
theorem k_X6_307_X4_barredBricks {X : Cx} {cc : ByteArray} {nL d pc : Nat} {lv : List (Nat × Value)} {rest : List Value} {σ : St} {K : Int32 → St → Prop} (q : Nat) (hX : CxB X RX6 cc nL d) (hdc : 2 + 1 ≤ d) (hst : (rest.map fun v => v.category).sum ≤ 8) (hd : decode cc pc = .ok (.invokevirtual 307, 3)) (hq : pc + 3 = q) (hw : wp_X4_barredBricks  K σ) (kk : ∀ (r : Int32) (τ : St), K r τ → At X nL q lv (.int r :: rest) τ) : At X nL pc lv (.ref (X.kad 4) :: rest) σ := r_callV (n := 0) q hX (k0 := 4) (c_X4_barredBricks ) tw_511 tw_512 tw_513 tw_8 tw_514 ⟨by decide +kernel, by decide +kernel, by decide +kernel⟩ hdc (by decide) (As := []) rfl rfl (by decide) ⟨_, _, _, rfl, rfl, rfl⟩ hst hd hq rfl (K := qI K) hw (kI kk)
set_option maxRecDepth 20000 in
set_option maxHeartbeats 4000000 in
theorem c_X6_count (x1 : Int32) : Con yX6_count cX6_count 2 (some .int) (3) (fun ad => [.ref (ad 0), .int (x1)]) (fun Q σ => wp_X6_count x1 (aI Q) σ) := by
  refine con_intro (by decide +kernel) (fun _ => Nat.le_of_ble_eq_true rfl) (by omega) (fun X Q σ hX hR hw => ?_)
  have hX : CxB X RX6 cX6_count 2 (3) := hX
  unfold wp_X6_count at hw
  show At X 2 0 [(0, .ref (X.kad 0)), (1, .int (x1))] [] σ
  refine r_iload_n 1 hX dX6_count_0 rfl rfl 1 rfl ?_
  -- switch
  refine r_case hw (fun hc hw => ?_) (fun hc0 hw => ?_)
  · refine r_tabIn 40 hX dX6_count_1 (by rw [hc]; decide) (by rw [hc]; decide) (off := 39) (by rw [hc]; decide) (by decide) ?_
    refine r_aload_n 41 hX dX6_count_40 rfl rfl 0 rfl ?_
    refine g_X6_23_0 44 hX dX6_count_41 rfl ?_
    refine g_X6_198_4 47 hX dX6_count_44 rfl ?_
    exact r_iret hX hR dX6_count_47 hw
  refine r_case hw (fun hc hw => ?_) (fun hc1 hw => ?_)
  · refine r_tabIn 48 hX dX6_count_1 (by rw [hc]; decide) (by rw [hc]; decide) (off := 47) (by rw [hc]; decide) (by decide) ?_
    refine r_aload_n 49 hX dX6_count_48 rfl rfl 0 rfl ?_
    refine g_X6_23_0 52 hX dX6_count_49 rfl ?_
    refine g_X6_192_4 55 hX dX6_count_52 rfl ?_
    exact r_iret hX hR dX6_count_55 hw
  refine r_case hw (fun hc hw => ?_) (fun hc2 hw => ?_)
  · refine r_tabIn 56 hX dX6_count_1 (by rw [hc]; decide) (by rw [hc]; decide) (off := 55) (by rw [hc]; decide) (by decide) ?_
    refine r_aload_n 57 hX dX6_count_56 rfl rfl 0 rfl ?_
    refine g_X6_23_0 60 hX dX6_count_57 rfl ?_
    refine g_X6_101_4 63 hX dX6_count_60 rfl ?_
    exact r_iret hX hR dX6_count_63 hw
  refine r_case hw (fun hc hw => ?_) (fun hc3 hw => ?_)
  · refine r_tabIn 64 hX dX6_count_1 (by rw [hc]; decide) (by rw [hc]; decide) (off := 63) (by rw [hc]; decide) (by decide) ?_
    refine r_aload_n 65 hX dX6_count_64 rfl rfl 0 rfl ?_
    refine g_X6_42_0 68 hX dX6_count_65 rfl ?_
    refine g_X6_92_20 71 hX dX6_count_68 rfl ?_
    exact r_iret hX hR dX6_count_71 hw
  refine r_case hw (fun hc hw => ?_) (fun hc4 hw => ?_)
  · refine r_tabIn 72 hX dX6_count_1 (by rw [hc]; decide) (by rw [hc]; decide) (off := 71) (by rw [hc]; decide) (by decide) ?_
    refine r_aload_n 73 hX dX6_count_72 rfl rfl 0 rfl ?_
    refine g_X6_77_0 76 hX dX6_count_73 rfl ?_
    exact r_iret hX hR dX6_count_76 hw
  refine r_case hw (fun hc hw => ?_) (fun hc5 hw => ?_)
  · refine r_tabIn 77 hX dX6_count_1 (by rw [hc]; decide) (by rw [hc]; decide) (off := 76) (by rw [hc]; decide) (by decide) ?_
    refine r_aload_n 78 hX dX6_count_77 rfl rfl 0 rfl ?_
    refine g_X6_23_0 81 hX dX6_count_78 rfl ?_
    refine k_X6_307_X4_barredBricks 84 hX (by omega)  (Nat.le_of_ble_eq_true rfl) dX6_count_81 rfl hw (fun r81 σ81 hw => ?_)
    exact r_iret hX hR dX6_count_84 hw
  refine r_tabOut 85 hX dX6_count_1 (sw_out0_5 hc0 hc1 hc2 hc3 hc4 hc5) (by decide) ?_
  refine r_iconst 86 hX dX6_count_85 rfl (-1) ic_m1 ?_
  exact r_iret hX hR dX6_count_86 hw
set_option maxRecDepth 20000 in
set_option maxHeartbeats 4000000 in
theorem c_X6_trace : Con yX6_trace cX6_trace 1 (some .long) (1) (fun ad => [.ref (ad 0)]) (fun Q σ => wp_X6_trace  (aJ Q) σ) := by
  refine con_intro (by decide +kernel) (fun _ => Nat.le_of_ble_eq_true rfl) (by omega) (fun X Q σ hX hR hw => ?_)
  have hX : CxB X RX6 cX6_trace 1 (1) := hX
  unfold wp_X6_trace at hw
  show At X 1 0 [(0, .ref (X.kad 0))] [] σ
  refine r_aload_n 1 hX dX6_trace_0 rfl rfl 0 rfl ?_
  refine g_X6_310_0 4 hX dX6_trace_1 rfl ?_
  exact r_lret hX hR dX6_trace_4 hw
