theorem k_rec {Rw : Int32 → Int32 → (Int32 → St → Prop) → St → Prop} {dR : Nat} (hRc : ∀ a b : Int32, Con yX3_restFrom cX3_restFrom 3 (some .int) dR (fun ad => [.ref (ad 49), .int a, .int b]) (fun Q σ => Rw a b (aI Q) σ)) {X : Cx} {cc : ByteArray} {nL d pc : Nat} {lv : List (Nat × Value)} {rest : List Value} {σ : St} {K : Int32 → St → Prop} (q : Nat) (hX : CxB X RX3 cc nL d) (hdc : dR + 1 ≤ d) (a b : Int32) (hst : (rest.map fun v => v.category).sum ≤ 8) (hd : decode cc pc = .ok (.invokevirtual 70, 3)) (hq : pc + 3 = q) (hw : Rw a b K σ) (kk : ∀ (r : Int32) (τ : St), K r τ → At X nL q lv (.int r :: rest) τ) : At X nL pc lv (.int b :: .int a :: .ref (X.kad 49) :: rest) σ := r_callV (n := 2) q hX (k0 := 49) (hRc a b) tw_204 tw_205 tw_206 tw_144 tw_207 ⟨by decide +kernel, by decide +kernel, by decide +kernel⟩ hdc (by decide) (As := [.int a, .int b]) rfl rfl (by decide) ⟨_, _, _, rfl, rfl, rfl⟩ hst hd hq rfl (K := qI K) hw (kI kk)
set_option maxRecDepth 20000 in
set_option maxHeartbeats 4000000 in
theorem c_X3_columnIn (x0 : Int32) (x1 : Int32) : Con yX3_columnIn cX3_columnIn 2 (some .int) (1) (fun ad => [.int (x0), .int (x1)]) (fun Q σ => wp_X3_columnIn x0 x1 (aI Q) σ) := by
  refine con_intro (by decide +kernel) (fun _ => Nat.le_of_ble_eq_true rfl) (by omega) (fun X Q σ hX hR hw => ?_)
  have hX : CxB X RX3 cX3_columnIn 2 (1) := hX
  unfold wp_X3_columnIn at hw
  show At X 2 0 [(0, .int (x0)), (1, .int (x1))] [] σ
  refine r_iload_n 1 hX dX3_columnIn_0 rfl rfl 1 rfl ?_
  refine r_if_ne 9 4 hX dX3_columnIn_1 (by decide) rfl hw (fun hw => ?_) (fun hw => ?_)
  · refine r_iload_n 10 hX dX3_columnIn_9 rfl rfl 1 rfl ?_
    refine r_iconst 11 hX dX3_columnIn_10 rfl 1 ic_1 ?_
    refine r_icmp_ne 24 14 hX dX3_columnIn_11 (by decide) rfl hw (fun hw => ?_) (fun hw => ?_)
    · refine r_iload_n 25 hX dX3_columnIn_24 rfl rfl 0 rfl ?_
      refine r_bipush 27 hX dX3_columnIn_25 rfl 10 bi_10 ?_
      refine r_irem 28 hX dX3_columnIn_27 rfl hw (fun hw => ?_)
      exact r_iret hX hR dX3_columnIn_28 hw
    · refine r_iload_n 15 hX dX3_columnIn_14 rfl rfl 0 rfl ?_
      refine r_bipush 17 hX dX3_columnIn_15 rfl 10 bi_10 ?_
      refine r_idiv 18 hX dX3_columnIn_17 rfl hw (fun hw => ?_)
      refine r_bipush 20 hX dX3_columnIn_18 rfl 10 bi_10 ?_
      refine r_irem 21 hX dX3_columnIn_20 rfl hw (fun hw => ?_)
      refine r_goto 28 hX dX3_columnIn_21 (by decide) ?_
      exact r_iret hX hR dX3_columnIn_28 hw
  · refine r_iload_n 5 hX dX3_columnIn_4 rfl rfl 0 rfl ?_
    refine r_bipush 7 hX dX3_columnIn_5 rfl 100 bi_100 ?_
    refine r_idiv 8 hX dX3_columnIn_7 rfl hw (fun hw => ?_)
    exact r_iret hX hR dX3_columnIn_8 hw
set_option maxRecDepth 20000 in
set_option maxHeartbeats 4000000 in
theorem c_X3_onlyOne (x1 : Int32) (x2 : Int32) : Con yX3_onlyOne cX3_onlyOne 3 (some .boolean) (1) (fun ad => [.ref (ad 49), .int (x1), .int (x2)]) (fun Q σ => wp_X3_onlyOne x1 x2 (aI Q) σ) := by
  refine con_intro (by decide +kernel) (fun _ => Nat.le_of_ble_eq_true rfl) (by omega) (fun X Q σ hX hR hw => ?_)
  have hX : CxB X RX3 cX3_onlyOne 3 (1) := hX
  unfold wp_X3_onlyOne at hw
  show At X 3 0 [(0, .ref (X.kad 49)), (1, .int (x1)), (2, .int (x2))] [] σ
  refine r_aload_n 1 hX dX3_onlyOne_0 rfl rfl 0 rfl ?_
  refine g_X3_29_49 4 hX dX3_onlyOne_1 rfl ?_
  refine r_iload_n 5 hX dX3_onlyOne_4 rfl rfl 1 rfl ?_
  refine r_zald 6 hX sh_74 dX3_onlyOne_5 rfl hw (fun hw => ?_)
  refine r_if_ne 19 9 hX dX3_onlyOne_6 (by decide) rfl hw (fun hw => ?_) (fun hw => ?_)
  · refine r_iconst 20 hX dX3_onlyOne_19 rfl 1 ic_1 ?_
    refine r_goto 24 hX dX3_onlyOne_20 (by decide) ?_
    exact r_zret hX hR narrow_b1 dX3_onlyOne_24 hw
  · refine r_iload_n 10 hX dX3_onlyOne_9 rfl rfl 2 rfl ?_
    refine r_aload_n 11 hX dX3_onlyOne_10 rfl rfl 0 rfl ?_
    refine g_X3_20_49 14 hX dX3_onlyOne_11 rfl ?_
    refine r_iload_n 15 hX dX3_onlyOne_14 rfl rfl 1 rfl ?_
    refine r_iald 16 hX sh_68 dX3_onlyOne_15 rfl hw (fun hw => ?_)
    refine r_icmp_gt 23 19 hX dX3_onlyOne_16 (by decide) rfl hw (fun hw => ?_) (fun hw => ?_)
    · refine r_iconst 24 hX dX3_onlyOne_23 rfl 0 ic_0 ?_
      exact r_zret hX hR narrow_b0 dX3_onlyOne_24 hw
    · refine r_iconst 20 hX dX3_onlyOne_19 rfl 1 ic_1 ?_
      refine r_goto 24 hX dX3_onlyOne_20 (by decide) ?_
      exact r_zret hX hR narrow_b1 dX3_onlyOne_24 hw
set_option maxRecDepth 20000 in
set_option maxHeartbeats 4000000 in
theorem c_X3_onlyColumn (x1 : Int32) (x2 : Int32) : Con yX3_onlyColumn cX3_onlyColumn 3 (some .int) (1) (fun ad => [.ref (ad 49), .int (x1), .int (x2)]) (fun Q σ => wp_X3_onlyColumn x1 x2 (aI Q) σ) := by
  refine con_intro (by decide +kernel) (fun _ => Nat.le_of_ble_eq_true rfl) (by omega) (fun X Q σ hX hR hw => ?_)
  have hX : CxB X RX3 cX3_onlyColumn 3 (1) := hX
  unfold wp_X3_onlyColumn at hw
  show At X 3 0 [(0, .ref (X.kad 49)), (1, .int (x1)), (2, .int (x2))] [] σ
  refine r_iload_n 1 hX dX3_onlyColumn_0 rfl rfl 2 rfl ?_
  refine r_aload_n 2 hX dX3_onlyColumn_1 rfl rfl 0 rfl ?_
  refine g_X3_20_49 5 hX dX3_onlyColumn_2 rfl ?_
  refine r_iload_n 6 hX dX3_onlyColumn_5 rfl rfl 1 rfl ?_
  refine r_iald 7 hX sh_68 dX3_onlyColumn_6 rfl hw (fun hw => ?_)
  refine r_icmp_ge 12 10 hX dX3_onlyColumn_7 (by decide) rfl hw (fun hw => ?_) (fun hw => ?_)
  · refine r_aload_n 13 hX dX3_onlyColumn_12 rfl rfl 0 rfl ?_
    refine g_X3_29_49 16 hX dX3_onlyColumn_13 rfl ?_
    refine r_iload_n 17 hX dX3_onlyColumn_16 rfl rfl 1 rfl ?_
    refine r_zald 18 hX sh_74 dX3_onlyColumn_17 rfl hw (fun hw => ?_)
    refine r_if_eq 32 21 hX dX3_onlyColumn_18 (by decide) rfl hw (fun hw => ?_) (fun hw => ?_)
    · refine r_aload_n 33 hX dX3_onlyColumn_32 rfl rfl 0 rfl ?_
      refine g_X3_23_49 36 hX dX3_onlyColumn_33 rfl ?_
      refine r_iload_n 37 hX dX3_onlyColumn_36 rfl rfl 1 rfl ?_
      refine r_iald 38 hX sh_69 dX3_onlyColumn_37 rfl hw (fun hw => ?_)
      exact r_iret hX hR dX3_onlyColumn_38 hw
    · refine r_aload_n 22 hX dX3_onlyColumn_21 rfl rfl 0 rfl ?_
      refine g_X3_26_49 25 hX dX3_onlyColumn_22 rfl ?_
      refine r_iload_n 26 hX dX3_onlyColumn_25 rfl rfl 1 rfl ?_
      refine r_aald 27 hX sh_70 dX3_onlyColumn_26 rfl hw (fun hv26 hw => ?_)
      refine r_iload_n 28 hX dX3_onlyColumn_27 rfl rfl 2 rfl ?_
      refine r_iald 29 hX (shr_70 hv26) dX3_onlyColumn_28 rfl hw (fun hw => ?_)
      refine r_goto 38 hX dX3_onlyColumn_29 (by decide) ?_
      exact r_iret hX hR dX3_onlyColumn_38 hw
  · refine r_iconst 11 hX dX3_onlyColumn_10 rfl 0 ic_0 ?_
    exact r_iret hX hR dX3_onlyColumn_11 hw
theorem k_X3_114_X3_onlyOne {X : Cx} {cc : ByteArray} {nL d pc : Nat} {lv : List (Nat × Value)} {rest : List Value} {σ : St} {K : Int32 → St → Prop} (q : Nat) (hX : CxB X RX3 cc nL d) (hdc : 1 + 1 ≤ d) (x1 : Int32) (x2 : Int32) (hst : (rest.map fun v => v.category).sum ≤ 8) (hd : decode cc pc = .ok (.invokevirtual 114, 3)) (hq : pc + 3 = q) (hw : wp_X3_onlyOne x1 x2 K σ) (kk : ∀ (r : Int32) (τ : St), K r τ → At X nL q lv (.int r :: rest) τ) : At X nL pc lv (.int (x2) :: .int (x1) :: .ref (X.kad 49) :: rest) σ := r_callV (n := 2) q hX (k0 := 49) (c_X3_onlyOne x1 x2) tw_141 tw_142 tw_143 tw_144 tw_145 ⟨by decide +kernel, by decide +kernel, by decide +kernel⟩ hdc (by decide) (As := [.int (x1), .int (x2)]) rfl rfl (by decide) ⟨_, _, _, rfl, rfl, rfl⟩ hst hd hq rfl (K := qI K) hw (kI kk)
theorem k_X3_118_X3_onlyColumn {X : Cx} {cc : ByteArray} {nL d pc : Nat} {lv : List (Nat × Value)} {rest : List Value} {σ : St} {K : Int32 → St → Prop} (q : Nat) (hX : CxB X RX3 cc nL d) (hdc : 1 + 1 ≤ d) (x1 : Int32) (x2 : Int32) (hst : (rest.map fun v => v.category).sum ≤ 8) (hd : decode cc pc = .ok (.invokevirtual 118, 3)) (hq : pc + 3 = q) (hw : wp_X3_onlyColumn x1 x2 K σ) (kk : ∀ (r : Int32) (τ : St), K r τ → At X nL q lv (.int r :: rest) τ) : At X nL pc lv (.int (x2) :: .int (x1) :: .ref (X.kad 49) :: rest) σ := r_callV (n := 2) q hX (k0 := 49) (c_X3_onlyColumn x1 x2) tw_146 tw_147 tw_148 tw_144 tw_149 ⟨by decide +kernel, by decide +kernel, by decide +kernel⟩ hdc (by decide) (As := [.int (x1), .int (x2)]) rfl rfl (by decide) ⟨_, _, _, rfl, rfl, rfl⟩ hst hd hq rfl (K := qI K) hw (kI kk)
set_option maxRecDepth 20000 in
set_option maxHeartbeats 4000000 in
theorem c_X3_lowest (x1 : Int32) (x2 : Int32) (x3 : Int32) : Con yX3_lowest cX3_lowest 4 (some .int) (2) (fun ad => [.ref (ad 49), .int (x1), .int (x2), .int (x3)]) (fun Q σ => wp_X3_lowest x1 x2 x3 (aI Q) σ) := by
  refine con_intro (by decide +kernel) (fun _ => Nat.le_of_ble_eq_true rfl) (by omega) (fun X Q σ hX hR hw => ?_)
  have hX : CxB X RX3 cX3_lowest 4 (2) := hX
  unfold wp_X3_lowest at hw
  show At X 4 0 [(0, .ref (X.kad 49)), (1, .int (x1)), (2, .int (x2)), (3, .int (x3))] [] σ
  refine r_aload_n 1 hX dX3_lowest_0 rfl rfl 0 rfl ?_
  refine r_iload_n 2 hX dX3_lowest_1 rfl rfl 1 rfl ?_
  refine r_iload_n 3 hX dX3_lowest_2 rfl rfl 2 rfl ?_
  refine k_X3_114_X3_onlyOne 6 hX (by omega) (x1) (x2) (Nat.le_of_ble_eq_true rfl) dX3_lowest_3 rfl hw (fun r3 σ3 hw => ?_)
  refine r_if_eq 18 9 hX dX3_lowest_6 (by decide) rfl hw (fun hw => ?_) (fun hw => ?_)
  · refine r_iload_n 19 hX dX3_lowest_18 rfl rfl 3 rfl ?_
    refine r_iconst 20 hX dX3_lowest_19 rfl 1 ic_1 ?_
    refine r_isub 21 hX dX3_lowest_20 rfl ?_
    exact r_iret hX hR dX3_lowest_21 hw
  · refine r_aload_n 10 hX dX3_lowest_9 rfl rfl 0 rfl ?_
    refine r_iload_n 11 hX dX3_lowest_10 rfl rfl 1 rfl ?_
    refine r_iload_n 12 hX dX3_lowest_11 rfl rfl 2 rfl ?_
    refine k_X3_118_X3_onlyColumn 15 hX (by omega) (x1) (x2) (Nat.le_of_ble_eq_true rfl) dX3_lowest_12 rfl hw (fun r12 σ12 hw => ?_)
    refine r_goto 21 hX dX3_lowest_15 (by decide) ?_
    exact r_iret hX hR dX3_lowest_21 hw
set_option maxRecDepth 20000 in
set_option maxHeartbeats 4000000 in
theorem c_X3_highest (x1 : Int32) (x2 : Int32) (x3 : Int32) : Con yX3_highest cX3_highest 4 (some .int) (2) (fun ad => [.ref (ad 49), .int (x1), .int (x2), .int (x3)]) (fun Q σ => wp_X3_highest x1 x2 x3 (aI Q) σ) := by
  refine con_intro (by decide +kernel) (fun _ => Nat.le_of_ble_eq_true rfl) (by omega) (fun X Q σ hX hR hw => ?_)
  have hX : CxB X RX3 cX3_highest 4 (2) := hX
  unfold wp_X3_highest at hw
  show At X 4 0 [(0, .ref (X.kad 49)), (1, .int (x1)), (2, .int (x2)), (3, .int (x3))] [] σ
  refine r_aload_n 1 hX dX3_highest_0 rfl rfl 0 rfl ?_
  refine r_iload_n 2 hX dX3_highest_1 rfl rfl 1 rfl ?_
  refine r_iload_n 3 hX dX3_highest_2 rfl rfl 2 rfl ?_
  refine k_X3_114_X3_onlyOne 6 hX (by omega) (x1) (x2) (Nat.le_of_ble_eq_true rfl) dX3_highest_3 rfl hw (fun r3 σ3 hw => ?_)
  refine r_if_eq 18 9 hX dX3_highest_6 (by decide) rfl hw (fun hw => ?_) (fun hw => ?_)
  · refine r_iload_n 19 hX dX3_highest_18 rfl rfl 3 rfl ?_
    refine r_iconst 20 hX dX3_highest_19 rfl 1 ic_1 ?_
    refine r_iadd 21 hX dX3_highest_20 rfl ?_
    exact r_iret hX hR dX3_highest_21 hw
  · refine r_aload_n 10 hX dX3_highest_9 rfl rfl 0 rfl ?_
    refine r_iload_n 11 hX dX3_highest_10 rfl rfl 1 rfl ?_
    refine r_iload_n 12 hX dX3_highest_11 rfl rfl 2 rfl ?_
    refine k_X3_118_X3_onlyColumn 15 hX (by omega) (x1) (x2) (Nat.le_of_ble_eq_true rfl) dX3_highest_12 rfl hw (fun r12 σ12 hw => ?_)
    refine r_goto 21 hX dX3_highest_15 (by decide) ?_
    exact r_iret hX hR dX3_highest_21 hw
set_option maxRecDepth 20000 in
set_option maxHeartbeats 4000000 in
theorem c_X3_stands (x1 : Int32) (x2 : Int32) (x3 : Int32) : Con yX3_stands cX3_stands 4 (some .boolean) (1) (fun ad => [.ref (ad 49), .int (x1), .int (x2), .int (x3)]) (fun Q σ => wp_X3_stands x1 x2 x3 (aI Q) σ) := by
  refine con_intro (by decide +kernel) (fun _ => Nat.le_of_ble_eq_true rfl) (by omega) (fun X Q σ hX hR hw => ?_)
  have hX : CxB X RX3 cX3_stands 4 (1) := hX
  unfold wp_X3_stands at hw
  show At X 4 0 [(0, .ref (X.kad 49)), (1, .int (x1)), (2, .int (x2)), (3, .int (x3))] [] σ
  refine r_iload_n 1 hX dX3_stands_0 rfl rfl 2 rfl ?_
  refine r_aload_n 2 hX dX3_stands_1 rfl rfl 0 rfl ?_
  refine g_X3_20_49 5 hX dX3_stands_2 rfl ?_
  refine r_iload_n 6 hX dX3_stands_5 rfl rfl 1 rfl ?_
  refine r_iald 7 hX sh_68 dX3_stands_6 rfl hw (fun hw => ?_)
  refine r_icmp_ge 12 10 hX dX3_stands_7 (by decide) rfl hw (fun hw => ?_) (fun hw => ?_)
  · refine r_iload_n 13 hX dX3_stands_12 rfl rfl 3 rfl ?_
    refine r_if_lt 39 16 hX dX3_stands_13 (by decide) rfl hw (fun hw => ?_) (fun hw => ?_)
    · refine r_iconst 40 hX dX3_stands_39 rfl 0 ic_0 ?_
      exact r_zret hX hR narrow_b0 dX3_stands_40 hw
    · refine r_iload_n 17 hX dX3_stands_16 rfl rfl 3 rfl ?_
      refine r_bipush 19 hX dX3_stands_17 rfl 10 bi_10 ?_
      refine r_icmp_ge 39 22 hX dX3_stands_19 (by decide) rfl hw (fun hw => ?_) (fun hw => ?_)
      · refine r_iconst 40 hX dX3_stands_39 rfl 0 ic_0 ?_
        exact r_zret hX hR narrow_b0 dX3_stands_40 hw
      · refine r_aload_n 23 hX dX3_stands_22 rfl rfl 0 rfl ?_
        refine g_X3_16_49 26 hX dX3_stands_23 rfl ?_
        refine r_iload_n 27 hX dX3_stands_26 rfl rfl 2 rfl ?_
        refine r_iald 28 hX sh_67 dX3_stands_27 rfl hw (fun hw => ?_)
        refine r_iload_n 29 hX dX3_stands_28 rfl rfl 3 rfl ?_
        refine r_ishr 30 hX dX3_stands_29 rfl ?_
        refine r_iconst 31 hX dX3_stands_30 rfl 1 ic_1 ?_
        refine r_iand 32 hX dX3_stands_31 rfl ?_
        refine r_if_eq 39 35 hX dX3_stands_32 (by decide) rfl hw (fun hw => ?_) (fun hw => ?_)
        · refine r_iconst 40 hX dX3_stands_39 rfl 0 ic_0 ?_
          exact r_zret hX hR narrow_b0 dX3_stands_40 hw
        · refine r_iconst 36 hX dX3_stands_35 rfl 1 ic_1 ?_
          refine r_goto 40 hX dX3_stands_36 (by decide) ?_
          exact r_zret hX hR narrow_b1 dX3_stands_40 hw
  · refine r_iconst 11 hX dX3_stands_10 rfl 1 ic_1 ?_
    exact r_zret hX hR narrow_b1 dX3_stands_11 hw
set_option maxRecDepth 20000 in
set_option maxHeartbeats 4000000 in
theorem w_X3_apart_b76 {X : Cx} {Q : RV → St → Prop} (hX : CxB X RX3 cX3_apart 6 (1)) (hR : CxR X (some .boolean) Q) (s0 : Int32) (s1 : Int32) (σ : St) (hw : wp_X3_apart_b76 (aI Q)  s0 s1 σ) : At X 6 76 [] [.int (s0), .int (s1)] σ := by
  unfold wp_X3_apart_b76 at hw
  refine r_icmp_ne 83 79 hX dX3_apart_76 (by decide) rfl hw (fun hw => ?_) (fun hw => ?_)
  · refine r_iconst 84 hX dX3_apart_83 rfl 0 ic_0 ?_
    exact r_zret hX hR narrow_b0 dX3_apart_84 hw
  · refine r_iconst 80 hX dX3_apart_79 rfl 1 ic_1 ?_
    refine r_goto 84 hX dX3_apart_80 (by decide) ?_
    exact r_zret hX hR narrow_b1 dX3_apart_84 hw
set_option maxRecDepth 20000 in
set_option maxHeartbeats 4000000 in
theorem w_X3_apart_b66 {X : Cx} {Q : RV → St → Prop} (hX : CxB X RX3 cX3_apart 6 (1)) (hR : CxR X (some .boolean) Q) (x5 : Int32) (s0 : Int32) (σ : St) (hw : wp_X3_apart_b66 (aI Q)  x5 s0 σ) : At X 6 66 [(5, .int (x5))] [.int (s0)] σ := by
  unfold wp_X3_apart_b66 at hw
  refine r_iload 68 hX dX3_apart_66 rfl 0 rfl ?_
  refine r_if_ge 75 71 hX dX3_apart_68 (by decide) rfl hw (fun hw => ?_) (fun hw => ?_)
  · refine r_iconst 76 hX dX3_apart_75 rfl 0 ic_0 ?_
    refine r_sub [] rfl ?_
    exact w_X3_apart_b76 hX hR _ _ _ hw
  · refine r_iconst 72 hX dX3_apart_71 rfl 1 ic_1 ?_
    refine r_goto 76 hX dX3_apart_72 (by decide) ?_
    refine r_sub [] rfl ?_
    exact w_X3_apart_b76 hX hR _ _ _ hw
set_option maxRecDepth 20000 in
set_option maxHeartbeats 4000000 in
theorem c_X3_apart (x1 : Int32) (x2 : Int32) (x3 : Int32) (x4 : Int32) (x5 : Int32) : Con yX3_apart cX3_apart 6 (some .boolean) (1) (fun ad => [.ref (ad 49), .int (x1), .int (x2), .int (x3), .int (x4), .int (x5)]) (fun Q σ => wp_X3_apart x1 x2 x3 x4 x5 (aI Q) σ) := by
  refine con_intro (by decide +kernel) (fun _ => Nat.le_of_ble_eq_true rfl) (by omega) (fun X Q σ hX hR hw => ?_)
  have hX : CxB X RX3 cX3_apart 6 (1) := hX
  unfold wp_X3_apart at hw
  show At X 6 0 [(0, .ref (X.kad 49)), (1, .int (x1)), (2, .int (x2)), (3, .int (x3)), (4, .int (x4)), (5, .int (x5))] [] σ
  refine r_iload_n 1 hX dX3_apart_0 rfl rfl 3 rfl ?_
  refine r_aload_n 2 hX dX3_apart_1 rfl rfl 0 rfl ?_
  refine g_X3_20_49 5 hX dX3_apart_2 rfl ?_
  refine r_iload_n 6 hX dX3_apart_5 rfl rfl 1 rfl ?_
  refine r_iald 7 hX sh_68 dX3_apart_6 rfl hw (fun hw => ?_)
  refine r_icmp_lt 20 10 hX dX3_apart_7 (by decide) rfl hw (fun hw => ?_) (fun hw => ?_)
  · refine r_iconst 21 hX dX3_apart_20 rfl 1 ic_1 ?_
    exact r_zret hX hR narrow_b1 dX3_apart_21 hw
  · refine r_iload_n 11 hX dX3_apart_10 rfl rfl 3 rfl ?_
    refine r_aload_n 12 hX dX3_apart_11 rfl rfl 0 rfl ?_
    refine g_X3_20_49 15 hX dX3_apart_12 rfl ?_
    refine r_iload_n 16 hX dX3_apart_15 rfl rfl 2 rfl ?_
    refine r_iald 17 hX sh_68 dX3_apart_16 rfl hw (fun hw => ?_)
    refine r_icmp_ge 22 20 hX dX3_apart_17 (by decide) rfl hw (fun hw => ?_) (fun hw => ?_)
    · refine r_iload 24 hX dX3_apart_22 rfl 5 rfl ?_
      refine r_mabs 27 hX tw_151 tw_76 tw_77 tw_78 (Nat.le_of_ble_eq_true rfl) dX3_apart_24 rfl ?_
      refine r_aload_n 28 hX dX3_apart_27 rfl rfl 0 rfl ?_
      refine g_X3_42_49 31 hX dX3_apart_28 rfl ?_
      refine r_icmp_gt 36 34 hX dX3_apart_31 (by decide) rfl hw (fun hw => ?_) (fun hw => ?_)
      · refine r_iload_n 37 hX dX3_apart_36 rfl rfl 3 rfl ?_
        refine r_aload_n 38 hX dX3_apart_37 rfl rfl 0 rfl ?_
        refine g_X3_20_49 41 hX dX3_apart_38 rfl ?_
        refine r_iload_n 42 hX dX3_apart_41 rfl rfl 1 rfl ?_
        refine r_iald 43 hX sh_68 dX3_apart_42 rfl hw (fun hw => ?_)
        refine r_icmp_eq 79 46 hX dX3_apart_43 (by decide) rfl hw (fun hw => ?_) (fun hw => ?_)
        · refine r_iconst 80 hX dX3_apart_79 rfl 1 ic_1 ?_
          refine r_goto 84 hX dX3_apart_80 (by decide) ?_
          exact r_zret hX hR narrow_b1 dX3_apart_84 hw
        · refine r_iload_n 47 hX dX3_apart_46 rfl rfl 3 rfl ?_
          refine r_aload_n 48 hX dX3_apart_47 rfl rfl 0 rfl ?_
          refine g_X3_20_49 51 hX dX3_apart_48 rfl ?_
          refine r_iload_n 52 hX dX3_apart_51 rfl rfl 2 rfl ?_
          refine r_iald 53 hX sh_68 dX3_apart_52 rfl hw (fun hw => ?_)
          refine r_icmp_eq 79 56 hX dX3_apart_53 (by decide) rfl hw (fun hw => ?_) (fun hw => ?_)
          · refine r_iconst 80 hX dX3_apart_79 rfl 1 ic_1 ?_
            refine r_goto 84 hX dX3_apart_80 (by decide) ?_
            exact r_zret hX hR narrow_b1 dX3_apart_84 hw
          · refine r_iload 58 hX dX3_apart_56 rfl 4 rfl ?_
            refine r_if_ge 65 61 hX dX3_apart_58 (by decide) rfl hw (fun hw => ?_) (fun hw => ?_)
            · refine r_iconst 66 hX dX3_apart_65 rfl 0 ic_0 ?_
              refine r_sub [5] rfl ?_
              exact w_X3_apart_b66 hX hR _ _ _ hw
            · refine r_iconst 62 hX dX3_apart_61 rfl 1 ic_1 ?_
              refine r_goto 66 hX dX3_apart_62 (by decide) ?_
              refine r_sub [5] rfl ?_
              exact w_X3_apart_b66 hX hR _ _ _ hw
      · refine r_iconst 35 hX dX3_apart_34 rfl 0 ic_0 ?_
        exact r_zret hX hR narrow_b0 dX3_apart_35 hw
    · refine r_iconst 21 hX dX3_apart_20 rfl 1 ic_1 ?_
      exact r_zret hX hR narrow_b1 dX3_apart_21 hw
set_option maxRecDepth 20000 in
set_option maxHeartbeats 4000000 in
theorem c_X3_lean (x1 : Int32) (x2 : Int32) (x3 : Int32) : Con yX3_lean cX3_lean 4 (some .int) (1) (fun ad => [.ref (ad 49), .int (x1), .int (x2), .int (x3)]) (fun Q σ => wp_X3_lean x1 x2 x3 (aI Q) σ) := by
  refine con_intro (by decide +kernel) (fun _ => Nat.le_of_ble_eq_true rfl) (by omega) (fun X Q σ hX hR hw => ?_)
  have hX : CxB X RX3 cX3_lean 4 (1) := hX
  unfold wp_X3_lean at hw
  show At X 4 0 [(0, .ref (X.kad 49)), (1, .int (x1)), (2, .int (x2)), (3, .int (x3))] [] σ
  refine r_iload_n 1 hX dX3_lean_0 rfl rfl 2 rfl ?_
  refine r_aload_n 2 hX dX3_lean_1 rfl rfl 0 rfl ?_
  refine g_X3_20_49 5 hX dX3_lean_2 rfl ?_
  refine r_iload_n 6 hX dX3_lean_5 rfl rfl 1 rfl ?_
  refine r_iald 7 hX sh_68 dX3_lean_6 rfl hw (fun hw => ?_)
  refine r_icmp_le 18 10 hX dX3_lean_7 (by decide) rfl hw (fun hw => ?_) (fun hw => ?_)
  · refine r_iconst 19 hX dX3_lean_18 rfl 0 ic_0 ?_
    exact r_iret hX hR dX3_lean_19 hw
  · refine r_iload_n 11 hX dX3_lean_10 rfl rfl 3 rfl ?_
    refine r_if_eq 18 14 hX dX3_lean_11 (by decide) rfl hw (fun hw => ?_) (fun hw => ?_)
    · refine r_iconst 19 hX dX3_lean_18 rfl 0 ic_0 ?_
      exact r_iret hX hR dX3_lean_19 hw
    · refine r_iconst 15 hX dX3_lean_14 rfl 1 ic_1 ?_
      refine r_goto 19 hX dX3_lean_15 (by decide) ?_
      exact r_iret hX hR dX3_lean_19 hw
theorem k_X3_75_X3_columnIn {X : Cx} {cc : ByteArray} {nL d pc : Nat} {lv : List (Nat × Value)} {rest : List Value} {σ : St} {K : Int32 → St → Prop} (q : Nat) (hX : CxB X RX3 cc nL d) (hdc : 1 + 1 ≤ d) (x0 : Int32) (x1 : Int32) (hst : (rest.map fun v => v.category).sum ≤ 8) (hd : decode cc pc = .ok (.invokestatic 75, 3)) (hq : pc + 3 = q) (hw : wp_X3_columnIn x0 x1 K σ) (kk : ∀ (r : Int32) (τ : St), K r τ → At X nL q lv (.int r :: rest) τ) : At X nL pc lv (.int (x1) :: .int (x0) :: rest) σ := r_callS (n := 2) q hX (c_X3_columnIn x0 x1) tw_157 tw_158 tw_144 tw_159 ⟨by decide +kernel, by decide +kernel, by decide +kernel⟩ hdc (by decide) (As := [.int (x0), .int (x1)]) rfl rfl hst hd hq rfl (K := qI K) hw (kI kk)
set_option maxRecDepth 20000 in
set_option maxHeartbeats 4000000 in
theorem w_X3_breadthOf_b8 {X : Cx} {Q : RV → St → Prop} (hX : CxB X RX3 cX3_breadthOf 5 (2)) (hR : CxR X (some .int) Q) {K8 : Int32 → Int32 → Int32 → Int32 → St → Prop} (hK8 : ∀ (x1 : Int32) (x2 : Int32) (x3 : Int32) (x4 : Int32) (σ : St), K8 x1 x2 x3 x4 σ → At X 5 8 [(0, .ref (X.kad 49)), (1, .int (x1)), (2, .int (x2)), (3, .int (x3)), (4, .int (x4))] [] σ) (x1 : Int32) (x2 : Int32) (x3 : Int32) (x4 : Int32) (σ : St) (hw : wp_X3_breadthOf_b8 (aI Q) K8 x1 x2 x3 x4 σ) : At X 5 8 [(0, .ref (X.kad 49)), (1, .int (x1)), (2, .int (x2)), (3, .int (x3)), (4, .int (x4))] [] σ := by
  unfold wp_X3_breadthOf_b8 at hw
  refine r_iload 10 hX dX3_breadthOf_8 rfl 4 rfl ?_
  refine r_iconst 11 hX dX3_breadthOf_10 rfl 3 ic_3 ?_
  refine r_icmp_ge 56 14 hX dX3_breadthOf_11 (by decide) rfl hw (fun hw => ?_) (fun hw => ?_)
  · refine r_iconst 57 hX dX3_breadthOf_56 rfl 1 ic_1 ?_
    refine r_iload_n 58 hX dX3_breadthOf_57 rfl rfl 3 rfl ?_
    refine r_iload_n 59 hX dX3_breadthOf_58 rfl rfl 2 rfl ?_
    refine r_isub 60 hX dX3_breadthOf_59 rfl ?_
    refine r_iconst 61 hX dX3_breadthOf_60 rfl 1 ic_1 ?_
    refine r_iadd 62 hX dX3_breadthOf_61 rfl ?_
    refine r_mmax 65 hX tw_153 tw_154 tw_77 tw_155 (Nat.le_of_ble_eq_true rfl) dX3_breadthOf_62 rfl ?_
    refine r_topi hw (fun v62 hw => ?_)
    exact r_iret hX hR dX3_breadthOf_65 hw
  · refine r_aload_n 15 hX dX3_breadthOf_14 rfl rfl 0 rfl ?_
    refine g_X3_39_49 18 hX dX3_breadthOf_15 rfl ?_
    refine r_aload_n 19 hX dX3_breadthOf_18 rfl rfl 0 rfl ?_
    refine g_X3_20_49 22 hX dX3_breadthOf_19 rfl ?_
    refine r_iload 24 hX dX3_breadthOf_22 rfl 4 rfl ?_
    refine r_iald 25 hX sh_68 dX3_breadthOf_24 rfl hw (fun hw => ?_)
    refine r_icmp_lt 50 28 hX dX3_breadthOf_25 (by decide) rfl hw (fun hw => ?_) (fun hw => ?_)
    · refine r_iinc (lv' := [(4, .int (x4 + 1)), (0, .ref (X.kad 49)), (1, .int (x1)), (2, .int (x2)), (3, .int (x3))]) 53 hX dX3_breadthOf_50 rfl 4 rfl (x4 + 1) (ici_1 _) (by decide) rfl ?_
      refine r_goto 8 hX dX3_breadthOf_53 (by decide) ?_
      refine r_sub [1, 2, 3, 4, 0] rfl ?_
      exact hK8 _ _ _ _ _ hw
    · refine r_iload_n 29 hX dX3_breadthOf_28 rfl rfl 2 rfl ?_
      refine r_iload_n 30 hX dX3_breadthOf_29 rfl rfl 1 rfl ?_
      refine r_iload 32 hX dX3_breadthOf_30 rfl 4 rfl ?_
      refine k_X3_75_X3_columnIn 35 hX (by omega) (x1) (x4) (Nat.le_of_ble_eq_true rfl) dX3_breadthOf_32 rfl hw (fun r32 σ32 hw => ?_)
      refine r_mmin 38 hX tw_160 tw_105 tw_77 tw_106 (Nat.le_of_ble_eq_true rfl) dX3_breadthOf_35 rfl ?_
      refine r_istore_n (lv' := [(2, .int ((if r32 < x2 then r32 else x2))), (0, .ref (X.kad 49)), (1, .int (x1)), (3, .int (x3)), (4, .int (x4))]) 39 hX dX3_breadthOf_38 rfl rfl (by decide) rfl ?_
      refine r_iload_n 40 hX dX3_breadthOf_39 rfl rfl 3 rfl ?_
      refine r_iload_n 41 hX dX3_breadthOf_40 rfl rfl 2 rfl ?_
      refine r_iload 43 hX dX3_breadthOf_41 rfl 4 rfl ?_
      refine k_X3_75_X3_columnIn 46 hX (by omega) (x1) (x4) (Nat.le_of_ble_eq_true rfl) dX3_breadthOf_43 rfl hw (fun r43 σ43 hw => ?_)
      refine r_mmax 49 hX tw_153 tw_154 tw_77 tw_155 (Nat.le_of_ble_eq_true rfl) dX3_breadthOf_46 rfl ?_
      refine r_istore_n (lv' := [(3, .int ((if x3 < r43 then r43 else x3))), (2, .int ((if r32 < x2 then r32 else x2))), (0, .ref (X.kad 49)), (1, .int (x1)), (4, .int (x4))]) 50 hX dX3_breadthOf_49 rfl rfl (by decide) rfl ?_
      refine r_iinc (lv' := [(4, .int (x4 + 1)), (3, .int ((if x3 < r43 then r43 else x3))), (2, .int ((if r32 < x2 then r32 else x2))), (0, .ref (X.kad 49)), (1, .int (x1))]) 53 hX dX3_breadthOf_50 rfl 4 rfl (x4 + 1) (ici_1 _) (by decide) rfl ?_
      refine r_goto 8 hX dX3_breadthOf_53 (by decide) ?_
      refine r_sub [3, 4, 2, 1, 0] rfl ?_
      exact hK8 _ _ _ _ _ hw
set_option maxRecDepth 20000 in
set_option maxHeartbeats 4000000 in
theorem w_X3_breadthOf_l8 {X : Cx} {Q : RV → St → Prop} (hX : CxB X RX3 cX3_breadthOf 5 (2)) (hR : CxR X (some .int) Q) (n : Nat) : ∀ (x1 : Int32) (x2 : Int32) (x3 : Int32) (x4 : Int32) (σ : St), wp_X3_breadthOf_l8 (aI Q)  n x1 x2 x3 x4 σ → At X 5 8 [(0, .ref (X.kad 49)), (1, .int (x1)), (2, .int (x2)), (3, .int (x3)), (4, .int (x4))] [] σ := by
  induction n with
  | zero => intro x1 x2 x3 x4 σ h; exact h.elim
  | succ n ih => intro x1 x2 x3 x4 σ h; exact w_X3_breadthOf_b8  hX hR ih x1 x2 x3 x4 σ h
set_option maxRecDepth 20000 in
set_option maxHeartbeats 4000000 in
theorem c_X3_breadthOf (x1 : Int32) : Con yX3_breadthOf cX3_breadthOf 5 (some .int) (2) (fun ad => [.ref (ad 49), .int (x1)]) (fun Q σ => wp_X3_breadthOf x1 (aI Q) σ) := by
  refine con_intro (by decide +kernel) (fun _ => Nat.le_of_ble_eq_true rfl) (by omega) (fun X Q σ hX hR hw => ?_)
  have hX : CxB X RX3 cX3_breadthOf 5 (2) := hX
  unfold wp_X3_breadthOf at hw
  show At X 5 0 [(0, .ref (X.kad 49)), (1, .int (x1))] [] σ
  refine r_bipush 2 hX dX3_breadthOf_0 rfl 10 bi_10 ?_
  refine r_istore_n (lv' := [(2, .int (10)), (0, .ref (X.kad 49)), (1, .int (x1))]) 3 hX dX3_breadthOf_2 rfl rfl (by decide) rfl ?_
  refine r_iconst 4 hX dX3_breadthOf_3 rfl (-1) ic_m1 ?_
  refine r_istore_n (lv' := [(3, .int ((-1))), (2, .int (10)), (0, .ref (X.kad 49)), (1, .int (x1))]) 5 hX dX3_breadthOf_4 rfl rfl (by decide) rfl ?_
  refine r_iconst 6 hX dX3_breadthOf_5 rfl 0 ic_0 ?_
  refine r_istore (lv' := [(4, .int (0)), (3, .int ((-1))), (2, .int (10)), (0, .ref (X.kad 49)), (1, .int (x1))]) 8 hX dX3_breadthOf_6 rfl (by decide) rfl ?_
  refine r_sub [3, 4, 2, 1, 0] rfl ?_
  obtain ⟨n, hw⟩ := hw
  exact w_X3_breadthOf_l8 hX hR n _ _ _ _ _ hw
set_option maxRecDepth 20000 in
set_option maxHeartbeats 4000000 in
theorem c_X3_restBy {Rw : Int32 → Int32 → (Int32 → St → Prop) → St → Prop} {dR : Nat} (hRc : ∀ a b : Int32, Con yX3_restFrom cX3_restFrom 3 (some .int) dR (fun ad => [.ref (ad 49), .int a, .int b]) (fun Q σ => Rw a b (aI Q) σ)) (x1 : Int32) (x2 : Int32) (x3 : Int32) : Con yX3_restBy cX3_restBy 5 (some .int) (dR + 1) (fun ad => [.ref (ad 49), .int (x1), .int (x2), .int (x3)]) (fun Q σ => wp_X3_restBy Rw x1 x2 x3 (aI Q) σ) := by
  refine con_intro (by decide +kernel) (fun _ => Nat.le_of_ble_eq_true rfl) (by omega) (fun X Q σ hX hR hw => ?_)
  have hX : CxB X RX3 cX3_restBy 5 (dR + 1) := hX
  unfold wp_X3_restBy at hw
  show At X 5 0 [(0, .ref (X.kad 49)), (1, .int (x1)), (2, .int (x2)), (3, .int (x3))] [] σ
  refine r_aload_n 1 hX dX3_restBy_0 rfl rfl 0 rfl ?_
  refine r_iload_n 2 hX dX3_restBy_1 rfl rfl 1 rfl ?_
  refine r_iconst 3 hX dX3_restBy_2 rfl 1 ic_1 ?_
  refine r_iadd 4 hX dX3_restBy_3 rfl ?_
  refine r_iload_n 5 hX dX3_restBy_4 rfl rfl 2 rfl ?_
  refine k_rec hRc 8 hX (by omega) (x1 + 1) (x2) (Nat.le_of_ble_eq_true rfl) dX3_restBy_5 rfl hw (fun r5 σ5 hw => ?_)
  refine r_istore (lv' := [(4, .int (r5)), (0, .ref (X.kad 49)), (1, .int (x1)), (2, .int (x2)), (3, .int (x3))]) 10 hX dX3_restBy_8 rfl (by decide) rfl ?_
  refine r_iload 12 hX dX3_restBy_10 rfl 0 rfl ?_
  refine r_ldc 14 hX 1000000000 tw_161 dX3_restBy_12 rfl ?_
  refine r_icmp_lt 22 17 hX dX3_restBy_14 (by decide) rfl hw (fun hw => ?_) (fun hw => ?_)
  · refine r_iload 24 hX dX3_restBy_22 rfl 0 rfl ?_
    refine r_sipush 27 hX dX3_restBy_24 rfl 1000 si_1000 ?_
    refine r_idiv 28 hX dX3_restBy_27 rfl hw (fun hw => ?_)
    refine r_iload_n 29 hX dX3_restBy_28 rfl rfl 4 rfl ?_
    refine r_iadd 30 hX dX3_restBy_29 rfl ?_
    refine r_sipush 33 hX dX3_restBy_30 rfl 1000 si_1000 ?_
    refine r_imul 34 hX dX3_restBy_33 rfl ?_
    refine r_iload_n 35 hX dX3_restBy_34 rfl rfl 3 rfl ?_
    refine r_iadd 36 hX dX3_restBy_35 rfl ?_
    exact r_iret hX hR dX3_restBy_36 hw
  · refine r_ldc 19 hX 1000000000 tw_161 dX3_restBy_17 rfl ?_
    refine r_goto 36 hX dX3_restBy_19 (by decide) ?_
    exact r_iret hX hR dX3_restBy_36 hw
theorem k_X3_93_X3_highest {X : Cx} {cc : ByteArray} {nL d pc : Nat} {lv : List (Nat × Value)} {rest : List Value} {σ : St} {K : Int32 → St → Prop} (q : Nat) (hX : CxB X RX3 cc nL d) (hdc : 2 + 1 ≤ d) (x1 : Int32) (x2 : Int32) (x3 : Int32) (hst : (rest.map fun v => v.category).sum ≤ 8) (hd : decode cc pc = .ok (.invokevirtual 93, 3)) (hq : pc + 3 = q) (hw : wp_X3_highest x1 x2 x3 K σ) (kk : ∀ (r : Int32) (τ : St), K r τ → At X nL q lv (.int r :: rest) τ) : At X nL pc lv (.int (x3) :: .int (x2) :: .int (x1) :: .ref (X.kad 49) :: rest) σ := r_callV (n := 3) q hX (k0 := 49) (c_X3_highest x1 x2 x3) tw_162 tw_163 tw_164 tw_144 tw_165 ⟨by decide +kernel, by decide +kernel, by decide +kernel⟩ hdc (by decide) (As := [.int (x1), .int (x2), .int (x3)]) rfl rfl (by decide) ⟨_, _, _, rfl, rfl, rfl⟩ hst hd hq rfl (K := qI K) hw (kI kk)
theorem k_X3_97_X3_lowest {X : Cx} {cc : ByteArray} {nL d pc : Nat} {lv : List (Nat × Value)} {rest : List Value} {σ : St} {K : Int32 → St → Prop} (q : Nat) (hX : CxB X RX3 cc nL d) (hdc : 2 + 1 ≤ d) (x1 : Int32) (x2 : Int32) (x3 : Int32) (hst : (rest.map fun v => v.category).sum ≤ 8) (hd : decode cc pc = .ok (.invokevirtual 97, 3)) (hq : pc + 3 = q) (hw : wp_X3_lowest x1 x2 x3 K σ) (kk : ∀ (r : Int32) (τ : St), K r τ → At X nL q lv (.int r :: rest) τ) : At X nL pc lv (.int (x3) :: .int (x2) :: .int (x1) :: .ref (X.kad 49) :: rest) σ := r_callV (n := 3) q hX (k0 := 49) (c_X3_lowest x1 x2 x3) tw_166 tw_167 tw_168 tw_144 tw_169 ⟨by decide +kernel, by decide +kernel, by decide +kernel⟩ hdc (by decide) (As := [.int (x1), .int (x2), .int (x3)]) rfl rfl (by decide) ⟨_, _, _, rfl, rfl, rfl⟩ hst hd hq rfl (K := qI K) hw (kI kk)
theorem k_X3_100_X3_stands {X : Cx} {cc : ByteArray} {nL d pc : Nat} {lv : List (Nat × Value)} {rest : List Value} {σ : St} {K : Int32 → St → Prop} (q : Nat) (hX : CxB X RX3 cc nL d) (hdc : 1 + 1 ≤ d) (x1 : Int32) (x2 : Int32) (x3 : Int32) (hst : (rest.map fun v => v.category).sum ≤ 8) (hd : decode cc pc = .ok (.invokevirtual 100, 3)) (hq : pc + 3 = q) (hw : wp_X3_stands x1 x2 x3 K σ) (kk : ∀ (r : Int32) (τ : St), K r τ → At X nL q lv (.int r :: rest) τ) : At X nL pc lv (.int (x3) :: .int (x2) :: .int (x1) :: .ref (X.kad 49) :: rest) σ := r_callV (n := 3) q hX (k0 := 49) (c_X3_stands x1 x2 x3) tw_170 tw_171 tw_172 tw_144 tw_173 ⟨by decide +kernel, by decide +kernel, by decide +kernel⟩ hdc (by decide) (As := [.int (x1), .int (x2), .int (x3)]) rfl rfl (by decide) ⟨_, _, _, rfl, rfl, rfl⟩ hst hd hq rfl (K := qI K) hw (kI kk)
theorem k_X3_104_X3_apart {X : Cx} {cc : ByteArray} {nL d pc : Nat} {lv : List (Nat × Value)} {rest : List Value} {σ : St} {K : Int32 → St → Prop} (q : Nat) (hX : CxB X RX3 cc nL d) (hdc : 1 + 1 ≤ d) (x1 : Int32) (x2 : Int32) (x3 : Int32) (x4 : Int32) (x5 : Int32) (hst : (rest.map fun v => v.category).sum ≤ 8) (hd : decode cc pc = .ok (.invokevirtual 104, 3)) (hq : pc + 3 = q) (hw : wp_X3_apart x1 x2 x3 x4 x5 K σ) (kk : ∀ (r : Int32) (τ : St), K r τ → At X nL q lv (.int r :: rest) τ) : At X nL pc lv (.int (x5) :: .int (x4) :: .int (x3) :: .int (x2) :: .int (x1) :: .ref (X.kad 49) :: rest) σ := r_callV (n := 5) q hX (k0 := 49) (c_X3_apart x1 x2 x3 x4 x5) tw_174 tw_175 tw_176 tw_144 tw_177 ⟨by decide +kernel, by decide +kernel, by decide +kernel⟩ hdc (by decide) (As := [.int (x1), .int (x2), .int (x3), .int (x4), .int (x5)]) rfl rfl (by decide) ⟨_, _, _, rfl, rfl, rfl⟩ hst hd hq rfl (K := qI K) hw (kI kk)
theorem k_X3_108_X3_lean {X : Cx} {cc : ByteArray} {nL d pc : Nat} {lv : List (Nat × Value)} {rest : List Value} {σ : St} {K : Int32 → St → Prop} (q : Nat) (hX : CxB X RX3 cc nL d) (hdc : 1 + 1 ≤ d) (x1 : Int32) (x2 : Int32) (x3 : Int32) (hst : (rest.map fun v => v.category).sum ≤ 8) (hd : decode cc pc = .ok (.invokevirtual 108, 3)) (hq : pc + 3 = q) (hw : wp_X3_lean x1 x2 x3 K σ) (kk : ∀ (r : Int32) (τ : St), K r τ → At X nL q lv (.int r :: rest) τ) : At X nL pc lv (.int (x3) :: .int (x2) :: .int (x1) :: .ref (X.kad 49) :: rest) σ := r_callV (n := 3) q hX (k0 := 49) (c_X3_lean x1 x2 x3) tw_178 tw_179 tw_180 tw_144 tw_181 ⟨by decide +kernel, by decide +kernel, by decide +kernel⟩ hdc (by decide) (As := [.int (x1), .int (x2), .int (x3)]) rfl rfl (by decide) ⟨_, _, _, rfl, rfl, rfl⟩ hst hd hq rfl (K := qI K) hw (kI kk)
theorem k_X3_111_X3_restBy {Rw : Int32 → Int32 → (Int32 → St → Prop) → St → Prop} {dR : Nat} (hRc : ∀ a b : Int32, Con yX3_restFrom cX3_restFrom 3 (some .int) dR (fun ad => [.ref (ad 49), .int a, .int b]) (fun Q σ => Rw a b (aI Q) σ)) {X : Cx} {cc : ByteArray} {nL d pc : Nat} {lv : List (Nat × Value)} {rest : List Value} {σ : St} {K : Int32 → St → Prop} (q : Nat) (hX : CxB X RX3 cc nL d) (hdc : dR + 1 + 1 ≤ d) (x1 : Int32) (x2 : Int32) (x3 : Int32) (hst : (rest.map fun v => v.category).sum ≤ 8) (hd : decode cc pc = .ok (.invokevirtual 111, 3)) (hq : pc + 3 = q) (hw : wp_X3_restBy Rw x1 x2 x3 K σ) (kk : ∀ (r : Int32) (τ : St), K r τ → At X nL q lv (.int r :: rest) τ) : At X nL pc lv (.int (x3) :: .int (x2) :: .int (x1) :: .ref (X.kad 49) :: rest) σ := r_callV (n := 3) q hX (k0 := 49) (c_X3_restBy hRc x1 x2 x3) tw_182 tw_183 tw_184 tw_144 tw_185 ⟨by decide +kernel, by decide +kernel, by decide +kernel⟩ hdc (by decide) (As := [.int (x1), .int (x2), .int (x3)]) rfl rfl (by decide) ⟨_, _, _, rfl, rfl, rfl⟩ hst hd hq rfl (K := qI K) hw (kI kk)
set_option maxRecDepth 20000 in
set_option maxHeartbeats 4000000 in
theorem w_X3_leastRest_b120 {Rw : Int32 → Int32 → (Int32 → St → Prop) → St → Prop} {dR : Nat} (hRc : ∀ a b : Int32, Con yX3_restFrom cX3_restFrom 3 (some .int) dR (fun ad => [.ref (ad 49), .int a, .int b]) (fun Q σ => Rw a b (aI Q) σ)) {X : Cx} {Q : RV → St → Prop} (hX : CxB X RX3 cX3_leastRest 13 (dR + 4)) (hR : CxR X (some .int) Q) {K41 : Int32 → Int32 → Int32 → Int32 → Int32 → Int32 → Int32 → Int32 → Int32 → St → Prop} (hK41 : ∀ (x1 : Int32) (x2 : Int32) (x3 : Int32) (x4 : Int32) (x5 : Int32) (x6 : Int32) (x7 : Int32) (x8 : Int32) (x9 : Int32) (σ : St), K41 x1 x2 x3 x4 x5 x6 x7 x8 x9 σ → At X 13 41 [(0, .ref (X.kad 49)), (1, .int (x1)), (2, .int (x2)), (3, .int (x3)), (4, .int (x4)), (5, .int (x5)), (6, .int (x6)), (7, .int (x7)), (8, .int (x8)), (9, .int (x9))] [] σ) {K71 : Int32 → Int32 → Int32 → Int32 → Int32 → Int32 → Int32 → Int32 → Int32 → Int32 → St → Prop} (hK71 : ∀ (x1 : Int32) (x2 : Int32) (x3 : Int32) (x4 : Int32) (x5 : Int32) (x6 : Int32) (x7 : Int32) (x8 : Int32) (x9 : Int32) (x10 : Int32) (σ : St), K71 x1 x2 x3 x4 x5 x6 x7 x8 x9 x10 σ → At X 13 71 [(0, .ref (X.kad 49)), (1, .int (x1)), (2, .int (x2)), (3, .int (x3)), (4, .int (x4)), (5, .int (x5)), (6, .int (x6)), (7, .int (x7)), (8, .int (x8)), (9, .int (x9)), (10, .int (x10))] [] σ) {K120 : Int32 → Int32 → Int32 → Int32 → Int32 → Int32 → Int32 → Int32 → Int32 → Int32 → Int32 → St → Prop} (hK120 : ∀ (x1 : Int32) (x2 : Int32) (x3 : Int32) (x4 : Int32) (x5 : Int32) (x6 : Int32) (x7 : Int32) (x8 : Int32) (x9 : Int32) (x10 : Int32) (x11 : Int32) (σ : St), K120 x1 x2 x3 x4 x5 x6 x7 x8 x9 x10 x11 σ → At X 13 120 [(0, .ref (X.kad 49)), (1, .int (x1)), (2, .int (x2)), (3, .int (x3)), (4, .int (x4)), (5, .int (x5)), (6, .int (x6)), (7, .int (x7)), (8, .int (x8)), (9, .int (x9)), (10, .int (x10)), (11, .int (x11))] [] σ) (x1 : Int32) (x2 : Int32) (x3 : Int32) (x4 : Int32) (x5 : Int32) (x6 : Int32) (x7 : Int32) (x8 : Int32) (x9 : Int32) (x10 : Int32) (x11 : Int32) (σ : St) (hw : wp_X3_leastRest_b120 Rw (aI Q) K41 K71 K120 x1 x2 x3 x4 x5 x6 x7 x8 x9 x10 x11 σ) : At X 13 120 [(0, .ref (X.kad 49)), (1, .int (x1)), (2, .int (x2)), (3, .int (x3)), (4, .int (x4)), (5, .int (x5)), (6, .int (x6)), (7, .int (x7)), (8, .int (x8)), (9, .int (x9)), (10, .int (x10)), (11, .int (x11))] [] σ := by
  unfold wp_X3_leastRest_b120 at hw
  refine r_iload 122 hX dX3_leastRest_120 rfl 11 rfl ?_
  refine r_iload 124 hX dX3_leastRest_122 rfl 8 rfl ?_
  refine r_icmp_gt 248 127 hX dX3_leastRest_124 (by decide) rfl hw (fun hw => ?_) (fun hw => ?_)
  · refine r_iinc (lv' := [(10, .int (x10 + 1)), (0, .ref (X.kad 49)), (1, .int (x1)), (2, .int (x2)), (3, .int (x3)), (4, .int (x4)), (5, .int (x5)), (6, .int (x6)), (7, .int (x7)), (8, .int (x8)), (9, .int (x9)), (11, .int (x11))]) 251 hX dX3_leastRest_248 rfl 10 rfl (x10 + 1) (ici_1 _) (by decide) rfl ?_
    refine r_goto 71 hX dX3_leastRest_251 (by decide) ?_
    refine r_sub [1, 2, 3, 4, 5, 6, 7, 8, 9, 10, 0] rfl ?_
    exact hK71 _ _ _ _ _ _ _ _ _ _ _ hw
  · refine r_aload_n 128 hX dX3_leastRest_127 rfl rfl 0 rfl ?_
    refine r_iconst 129 hX dX3_leastRest_128 rfl 2 ic_2 ?_
    refine r_iload_n 130 hX dX3_leastRest_129 rfl rfl 1 rfl ?_
    refine r_iload 132 hX dX3_leastRest_130 rfl 11 rfl ?_
    refine k_X3_100_X3_stands 135 hX (by omega) (2) (x1) (x11) (Nat.le_of_ble_eq_true rfl) dX3_leastRest_132 rfl hw (fun r132 σ132 hw => ?_)
    refine r_if_eq 242 138 hX dX3_leastRest_135 (by decide) rfl hw (fun hw => ?_) (fun hw => ?_)
    · refine r_iinc (lv' := [(11, .int (x11 + 1)), (0, .ref (X.kad 49)), (1, .int (x1)), (2, .int (x2)), (3, .int (x3)), (4, .int (x4)), (5, .int (x5)), (6, .int (x6)), (7, .int (x7)), (8, .int (x8)), (9, .int (x9)), (10, .int (x10))]) 245 hX dX3_leastRest_242 rfl 11 rfl (x11 + 1) (ici_1 _) (by decide) rfl ?_
      refine r_goto 120 hX dX3_leastRest_245 (by decide) ?_
      refine r_sub [1, 2, 3, 4, 5, 6, 7, 8, 9, 10, 11, 0] rfl ?_
      exact hK120 _ _ _ _ _ _ _ _ _ _ _ _ hw
    · refine r_aload_n 139 hX dX3_leastRest_138 rfl rfl 0 rfl ?_
      refine r_iconst 140 hX dX3_leastRest_139 rfl 0 ic_0 ?_
      refine r_iconst 141 hX dX3_leastRest_140 rfl 2 ic_2 ?_
      refine r_iload_n 142 hX dX3_leastRest_141 rfl rfl 1 rfl ?_
      refine r_iload_n 143 hX dX3_leastRest_142 rfl rfl 2 rfl ?_
      refine r_iload 145 hX dX3_leastRest_143 rfl 4 rfl ?_
      refine r_isub 146 hX dX3_leastRest_145 rfl ?_
      refine r_iload 148 hX dX3_leastRest_146 rfl 9 rfl ?_
      refine r_iload 150 hX dX3_leastRest_148 rfl 11 rfl ?_
      refine r_isub 151 hX dX3_leastRest_150 rfl ?_
      refine k_X3_104_X3_apart 154 hX (by omega) (0) (2) (x1) (x2 - x4) (x9 - x11) (Nat.le_of_ble_eq_true rfl) dX3_leastRest_151 rfl hw (fun r151 σ151 hw => ?_)
      refine r_if_eq 242 157 hX dX3_leastRest_154 (by decide) rfl hw (fun hw => ?_) (fun hw => ?_)
      · refine r_iinc (lv' := [(11, .int (x11 + 1)), (0, .ref (X.kad 49)), (1, .int (x1)), (2, .int (x2)), (3, .int (x3)), (4, .int (x4)), (5, .int (x5)), (6, .int (x6)), (7, .int (x7)), (8, .int (x8)), (9, .int (x9)), (10, .int (x10))]) 245 hX dX3_leastRest_242 rfl 11 rfl (x11 + 1) (ici_1 _) (by decide) rfl ?_
        refine r_goto 120 hX dX3_leastRest_245 (by decide) ?_
        refine r_sub [1, 2, 3, 4, 5, 6, 7, 8, 9, 10, 11, 0] rfl ?_
        exact hK120 _ _ _ _ _ _ _ _ _ _ _ _ hw
      · refine r_aload_n 158 hX dX3_leastRest_157 rfl rfl 0 rfl ?_
        refine r_iconst 159 hX dX3_leastRest_158 rfl 1 ic_1 ?_
        refine r_iconst 160 hX dX3_leastRest_159 rfl 2 ic_2 ?_
        refine r_iload_n 161 hX dX3_leastRest_160 rfl rfl 1 rfl ?_
        refine r_iload_n 162 hX dX3_leastRest_161 rfl rfl 3 rfl ?_
        refine r_iload 164 hX dX3_leastRest_162 rfl 4 rfl ?_
        refine r_isub 165 hX dX3_leastRest_164 rfl ?_
        refine r_iload 167 hX dX3_leastRest_165 rfl 10 rfl ?_
        refine r_iload 169 hX dX3_leastRest_167 rfl 11 rfl ?_
        refine r_isub 170 hX dX3_leastRest_169 rfl ?_
        refine k_X3_104_X3_apart 173 hX (by omega) (1) (2) (x1) (x3 - x4) (x10 - x11) (Nat.le_of_ble_eq_true rfl) dX3_leastRest_170 rfl hw (fun r170 σ170 hw => ?_)
        refine r_if_ne 179 176 hX dX3_leastRest_173 (by decide) rfl hw (fun hw => ?_) (fun hw => ?_)
        · refine r_aload_n 180 hX dX3_leastRest_179 rfl rfl 0 rfl ?_
          refine r_iconst 181 hX dX3_leastRest_180 rfl 0 ic_0 ?_
          refine r_iload_n 182 hX dX3_leastRest_181 rfl rfl 1 rfl ?_
          refine r_iload 184 hX dX3_leastRest_182 rfl 9 rfl ?_
          refine r_iload_n 185 hX dX3_leastRest_184 rfl rfl 2 rfl ?_
          refine r_isub 186 hX dX3_leastRest_185 rfl ?_
          refine k_X3_108_X3_lean 189 hX (by omega) (0) (x1) (x9 - x2) (Nat.le_of_ble_eq_true rfl) dX3_leastRest_186 rfl hw (fun r186 σ186 hw => ?_)
          refine r_aload_n 190 hX dX3_leastRest_189 rfl rfl 0 rfl ?_
          refine r_iconst 191 hX dX3_leastRest_190 rfl 1 ic_1 ?_
          refine r_iload_n 192 hX dX3_leastRest_191 rfl rfl 1 rfl ?_
          refine r_iload 194 hX dX3_leastRest_192 rfl 10 rfl ?_
          refine r_iload_n 195 hX dX3_leastRest_194 rfl rfl 3 rfl ?_
          refine r_isub 196 hX dX3_leastRest_195 rfl ?_
          refine k_X3_108_X3_lean 199 hX (by omega) (1) (x1) (x10 - x3) (Nat.le_of_ble_eq_true rfl) dX3_leastRest_196 rfl hw (fun r196 σ196 hw => ?_)
          refine r_iadd 200 hX dX3_leastRest_199 rfl ?_
          refine r_aload_n 201 hX dX3_leastRest_200 rfl rfl 0 rfl ?_
          refine r_iconst 202 hX dX3_leastRest_201 rfl 2 ic_2 ?_
          refine r_iload_n 203 hX dX3_leastRest_202 rfl rfl 1 rfl ?_
          refine r_iload 205 hX dX3_leastRest_203 rfl 11 rfl ?_
          refine r_iload 207 hX dX3_leastRest_205 rfl 4 rfl ?_
          refine r_isub 208 hX dX3_leastRest_207 rfl ?_
          refine k_X3_108_X3_lean 211 hX (by omega) (2) (x1) (x11 - x4) (Nat.le_of_ble_eq_true rfl) dX3_leastRest_208 rfl hw (fun r208 σ208 hw => ?_)
          refine r_iadd 212 hX dX3_leastRest_211 rfl ?_
          refine r_istore (lv' := [(12, .int ((r186 + r196) + r208)), (0, .ref (X.kad 49)), (1, .int (x1)), (2, .int (x2)), (3, .int (x3)), (4, .int (x4)), (5, .int (x5)), (6, .int (x6)), (7, .int (x7)), (8, .int (x8)), (9, .int (x9)), (10, .int (x10)), (11, .int (x11))]) 214 hX dX3_leastRest_212 rfl (by decide) rfl ?_
          refine r_iload 216 hX dX3_leastRest_214 rfl 6 rfl ?_
          refine r_aload_n 217 hX dX3_leastRest_216 rfl rfl 1 rfl ?_
          refine r_iload_n 218 hX dX3_leastRest_217 rfl rfl 2 rfl ?_
          refine r_iload 220 hX dX3_leastRest_218 rfl 10 rfl ?_
          refine r_bipush 222 hX dX3_leastRest_220 rfl 100 bi_100 ?_
          refine r_imul 223 hX dX3_leastRest_222 rfl ?_
          refine r_iload 225 hX dX3_leastRest_223 rfl 11 rfl ?_
          refine r_bipush 227 hX dX3_leastRest_225 rfl 10 bi_10 ?_
          refine r_imul 228 hX dX3_leastRest_227 rfl ?_
          refine r_iadd 229 hX dX3_leastRest_228 rfl ?_
          refine r_iload 231 hX dX3_leastRest_229 rfl 12 rfl ?_
          refine r_iadd 232 hX dX3_leastRest_231 rfl ?_
          refine r_iload 234 hX dX3_leastRest_232 rfl 0 rfl ?_
          refine k_X3_111_X3_restBy hRc 237 hX (by omega) (x1) (((x9 * 100) + (x10 * 10)) + x11) ((r186 + r196) + r208) (Nat.le_of_ble_eq_true rfl) dX3_leastRest_234 rfl hw (fun r234 σ234 hw => ?_)
          refine r_mmin 240 hX tw_160 tw_105 tw_77 tw_106 (Nat.le_of_ble_eq_true rfl) dX3_leastRest_237 rfl ?_
          refine r_istore (lv' := [(5, .int ((if r234 < x5 then r234 else x5))), (12, .int ((r186 + r196) + r208)), (0, .ref (X.kad 49)), (1, .int (x1)), (2, .int (x2)), (3, .int (x3)), (4, .int (x4)), (6, .int (x6)), (7, .int (x7)), (8, .int (x8)), (9, .int (x9)), (10, .int (x10)), (11, .int (x11))]) 242 hX dX3_leastRest_240 rfl (by decide) rfl ?_
          refine r_iinc (lv' := [(11, .int (x11 + 1)), (5, .int ((if r234 < x5 then r234 else x5))), (12, .int ((r186 + r196) + r208)), (0, .ref (X.kad 49)), (1, .int (x1)), (2, .int (x2)), (3, .int (x3)), (4, .int (x4)), (6, .int (x6)), (7, .int (x7)), (8, .int (x8)), (9, .int (x9)), (10, .int (x10))]) 245 hX dX3_leastRest_242 rfl 12 rfl (x11 + 1) (ici_1 _) (by decide) rfl ?_
          refine r_goto 120 hX dX3_leastRest_245 (by decide) ?_
          refine r_sub [3, 4, 5, 6, 7, 1, 8, 9, 10, 11, 12, 0] rfl ?_
          exact hK120 _ _ _ _ _ _ _ _ _ _ _ _ hw
        · refine r_goto 242 hX dX3_leastRest_176 (by decide) ?_
          refine r_iinc (lv' := [(11, .int (x11 + 1)), (0, .ref (X.kad 49)), (1, .int (x1)), (2, .int (x2)), (3, .int (x3)), (4, .int (x4)), (5, .int (x5)), (6, .int (x6)), (7, .int (x7)), (8, .int (x8)), (9, .int (x9)), (10, .int (x10))]) 245 hX dX3_leastRest_242 rfl 11 rfl (x11 + 1) (ici_1 _) (by decide) rfl ?_
          refine r_goto 120 hX dX3_leastRest_245 (by decide) ?_
          refine r_sub [1, 2, 3, 4, 5, 6, 7, 8, 9, 10, 11, 0] rfl ?_
          exact hK120 _ _ _ _ _ _ _ _ _ _ _ _ hw
set_option maxRecDepth 20000 in
set_option maxHeartbeats 4000000 in
theorem w_X3_leastRest_l120 {Rw : Int32 → Int32 → (Int32 → St → Prop) → St → Prop} {dR : Nat} (hRc : ∀ a b : Int32, Con yX3_restFrom cX3_restFrom 3 (some .int) dR (fun ad => [.ref (ad 49), .int a, .int b]) (fun Q σ => Rw a b (aI Q) σ)) {X : Cx} {Q : RV → St → Prop} (hX : CxB X RX3 cX3_leastRest 13 (dR + 4)) (hR : CxR X (some .int) Q) {K41 : Int32 → Int32 → Int32 → Int32 → Int32 → Int32 → Int32 → Int32 → Int32 → St → Prop} (hK41 : ∀ (x1 : Int32) (x2 : Int32) (x3 : Int32) (x4 : Int32) (x5 : Int32) (x6 : Int32) (x7 : Int32) (x8 : Int32) (x9 : Int32) (σ : St), K41 x1 x2 x3 x4 x5 x6 x7 x8 x9 σ → At X 13 41 [(0, .ref (X.kad 49)), (1, .int (x1)), (2, .int (x2)), (3, .int (x3)), (4, .int (x4)), (5, .int (x5)), (6, .int (x6)), (7, .int (x7)), (8, .int (x8)), (9, .int (x9))] [] σ) {K71 : Int32 → Int32 → Int32 → Int32 → Int32 → Int32 → Int32 → Int32 → Int32 → Int32 → St → Prop} (hK71 : ∀ (x1 : Int32) (x2 : Int32) (x3 : Int32) (x4 : Int32) (x5 : Int32) (x6 : Int32) (x7 : Int32) (x8 : Int32) (x9 : Int32) (x10 : Int32) (σ : St), K71 x1 x2 x3 x4 x5 x6 x7 x8 x9 x10 σ → At X 13 71 [(0, .ref (X.kad 49)), (1, .int (x1)), (2, .int (x2)), (3, .int (x3)), (4, .int (x4)), (5, .int (x5)), (6, .int (x6)), (7, .int (x7)), (8, .int (x8)), (9, .int (x9)), (10, .int (x10))] [] σ) (n : Nat) : ∀ (x1 : Int32) (x2 : Int32) (x3 : Int32) (x4 : Int32) (x5 : Int32) (x6 : Int32) (x7 : Int32) (x8 : Int32) (x9 : Int32) (x10 : Int32) (x11 : Int32) (σ : St), wp_X3_leastRest_l120 Rw (aI Q) K41 K71 n x1 x2 x3 x4 x5 x6 x7 x8 x9 x10 x11 σ → At X 13 120 [(0, .ref (X.kad 49)), (1, .int (x1)), (2, .int (x2)), (3, .int (x3)), (4, .int (x4)), (5, .int (x5)), (6, .int (x6)), (7, .int (x7)), (8, .int (x8)), (9, .int (x9)), (10, .int (x10)), (11, .int (x11))] [] σ := by
  induction n with
  | zero => intro x1 x2 x3 x4 x5 x6 x7 x8 x9 x10 x11 σ h; exact h.elim
  | succ n ih => intro x1 x2 x3 x4 x5 x6 x7 x8 x9 x10 x11 σ h; exact w_X3_leastRest_b120 hRc hX hR hK41 hK71 ih x1 x2 x3 x4 x5 x6 x7 x8 x9 x10 x11 σ h
set_option maxRecDepth 20000 in
set_option maxHeartbeats 4000000 in
theorem w_X3_leastRest_b71 {Rw : Int32 → Int32 → (Int32 → St → Prop) → St → Prop} {dR : Nat} (hRc : ∀ a b : Int32, Con yX3_restFrom cX3_restFrom 3 (some .int) dR (fun ad => [.ref (ad 49), .int a, .int b]) (fun Q σ => Rw a b (aI Q) σ)) {X : Cx} {Q : RV → St → Prop} (hX : CxB X RX3 cX3_leastRest 13 (dR + 4)) (hR : CxR X (some .int) Q) {K41 : Int32 → Int32 → Int32 → Int32 → Int32 → Int32 → Int32 → Int32 → Int32 → St → Prop} (hK41 : ∀ (x1 : Int32) (x2 : Int32) (x3 : Int32) (x4 : Int32) (x5 : Int32) (x6 : Int32) (x7 : Int32) (x8 : Int32) (x9 : Int32) (σ : St), K41 x1 x2 x3 x4 x5 x6 x7 x8 x9 σ → At X 13 41 [(0, .ref (X.kad 49)), (1, .int (x1)), (2, .int (x2)), (3, .int (x3)), (4, .int (x4)), (5, .int (x5)), (6, .int (x6)), (7, .int (x7)), (8, .int (x8)), (9, .int (x9))] [] σ) {K71 : Int32 → Int32 → Int32 → Int32 → Int32 → Int32 → Int32 → Int32 → Int32 → Int32 → St → Prop} (hK71 : ∀ (x1 : Int32) (x2 : Int32) (x3 : Int32) (x4 : Int32) (x5 : Int32) (x6 : Int32) (x7 : Int32) (x8 : Int32) (x9 : Int32) (x10 : Int32) (σ : St), K71 x1 x2 x3 x4 x5 x6 x7 x8 x9 x10 σ → At X 13 71 [(0, .ref (X.kad 49)), (1, .int (x1)), (2, .int (x2)), (3, .int (x3)), (4, .int (x4)), (5, .int (x5)), (6, .int (x6)), (7, .int (x7)), (8, .int (x8)), (9, .int (x9)), (10, .int (x10))] [] σ) (x1 : Int32) (x2 : Int32) (x3 : Int32) (x4 : Int32) (x5 : Int32) (x6 : Int32) (x7 : Int32) (x8 : Int32) (x9 : Int32) (x10 : Int32) (σ : St) (hw : wp_X3_leastRest_b71 Rw (aI Q) K41 K71 x1 x2 x3 x4 x5 x6 x7 x8 x9 x10 σ) : At X 13 71 [(0, .ref (X.kad 49)), (1, .int (x1)), (2, .int (x2)), (3, .int (x3)), (4, .int (x4)), (5, .int (x5)), (6, .int (x6)), (7, .int (x7)), (8, .int (x8)), (9, .int (x9)), (10, .int (x10))] [] σ := by
  unfold wp_X3_leastRest_b71 at hw
  refine r_iload 73 hX dX3_leastRest_71 rfl 10 rfl ?_
  refine r_iload 75 hX dX3_leastRest_73 rfl 7 rfl ?_
  refine r_icmp_gt 254 78 hX dX3_leastRest_75 (by decide) rfl hw (fun hw => ?_) (fun hw => ?_)
  · refine r_iinc (lv' := [(9, .int (x9 + 1)), (0, .ref (X.kad 49)), (1, .int (x1)), (2, .int (x2)), (3, .int (x3)), (4, .int (x4)), (5, .int (x5)), (6, .int (x6)), (7, .int (x7)), (8, .int (x8)), (10, .int (x10))]) 257 hX dX3_leastRest_254 rfl 9 rfl (x9 + 1) (ici_1 _) (by decide) rfl ?_
    refine r_goto 41 hX dX3_leastRest_257 (by decide) ?_
    refine r_sub [1, 2, 3, 4, 5, 6, 7, 8, 9, 0] rfl ?_
    exact hK41 _ _ _ _ _ _ _ _ _ _ hw
  · refine r_aload_n 79 hX dX3_leastRest_78 rfl rfl 0 rfl ?_
    refine r_iconst 80 hX dX3_leastRest_79 rfl 1 ic_1 ?_
    refine r_iload_n 81 hX dX3_leastRest_80 rfl rfl 1 rfl ?_
    refine r_iload 83 hX dX3_leastRest_81 rfl 10 rfl ?_
    refine k_X3_100_X3_stands 86 hX (by omega) (1) (x1) (x10) (Nat.le_of_ble_eq_true rfl) dX3_leastRest_83 rfl hw (fun r83 σ83 hw => ?_)
    refine r_if_eq 248 89 hX dX3_leastRest_86 (by decide) rfl hw (fun hw => ?_) (fun hw => ?_)
    · refine r_iinc (lv' := [(10, .int (x10 + 1)), (0, .ref (X.kad 49)), (1, .int (x1)), (2, .int (x2)), (3, .int (x3)), (4, .int (x4)), (5, .int (x5)), (6, .int (x6)), (7, .int (x7)), (8, .int (x8)), (9, .int (x9))]) 251 hX dX3_leastRest_248 rfl 10 rfl (x10 + 1) (ici_1 _) (by decide) rfl ?_
      refine r_goto 71 hX dX3_leastRest_251 (by decide) ?_
      refine r_sub [1, 2, 3, 4, 5, 6, 7, 8, 9, 10, 0] rfl ?_
      exact hK71 _ _ _ _ _ _ _ _ _ _ _ hw
    · refine r_aload_n 90 hX dX3_leastRest_89 rfl rfl 0 rfl ?_
      refine r_iconst 91 hX dX3_leastRest_90 rfl 0 ic_0 ?_
      refine r_iconst 92 hX dX3_leastRest_91 rfl 1 ic_1 ?_
      refine r_iload_n 93 hX dX3_leastRest_92 rfl rfl 1 rfl ?_
      refine r_iload_n 94 hX dX3_leastRest_93 rfl rfl 2 rfl ?_
      refine r_iload_n 95 hX dX3_leastRest_94 rfl rfl 3 rfl ?_
      refine r_isub 96 hX dX3_leastRest_95 rfl ?_
      refine r_iload 98 hX dX3_leastRest_96 rfl 9 rfl ?_
      refine r_iload 100 hX dX3_leastRest_98 rfl 10 rfl ?_
      refine r_isub 101 hX dX3_leastRest_100 rfl ?_
      refine k_X3_104_X3_apart 104 hX (by omega) (0) (1) (x1) (x2 - x3) (x9 - x10) (Nat.le_of_ble_eq_true rfl) dX3_leastRest_101 rfl hw (fun r101 σ101 hw => ?_)
      refine r_if_ne 110 107 hX dX3_leastRest_104 (by decide) rfl hw (fun hw => ?_) (fun hw => ?_)
      · refine r_aload_n 111 hX dX3_leastRest_110 rfl rfl 0 rfl ?_
        refine r_iconst 112 hX dX3_leastRest_111 rfl 2 ic_2 ?_
        refine r_iload_n 113 hX dX3_leastRest_112 rfl rfl 1 rfl ?_
        refine r_iload 115 hX dX3_leastRest_113 rfl 4 rfl ?_
        refine k_X3_97_X3_lowest 118 hX (by omega) (2) (x1) (x4) (Nat.le_of_ble_eq_true rfl) dX3_leastRest_115 rfl hw (fun r115 σ115 hw => ?_)
        refine r_istore (lv' := [(11, .int (r115)), (0, .ref (X.kad 49)), (1, .int (x1)), (2, .int (x2)), (3, .int (x3)), (4, .int (x4)), (5, .int (x5)), (6, .int (x6)), (7, .int (x7)), (8, .int (x8)), (9, .int (x9)), (10, .int (x10))]) 120 hX dX3_leastRest_118 rfl (by decide) rfl ?_
        refine r_sub [1, 2, 3, 4, 5, 6, 7, 8, 9, 10, 11, 0] rfl ?_
        obtain ⟨n, hw⟩ := hw
        exact w_X3_leastRest_l120 hRc hX hR hK41 hK71 n _ _ _ _ _ _ _ _ _ _ _ _ hw
      · refine r_goto 248 hX dX3_leastRest_107 (by decide) ?_
        refine r_iinc (lv' := [(10, .int (x10 + 1)), (0, .ref (X.kad 49)), (1, .int (x1)), (2, .int (x2)), (3, .int (x3)), (4, .int (x4)), (5, .int (x5)), (6, .int (x6)), (7, .int (x7)), (8, .int (x8)), (9, .int (x9))]) 251 hX dX3_leastRest_248 rfl 10 rfl (x10 + 1) (ici_1 _) (by decide) rfl ?_
        refine r_goto 71 hX dX3_leastRest_251 (by decide) ?_
        refine r_sub [1, 2, 3, 4, 5, 6, 7, 8, 9, 10, 0] rfl ?_
        exact hK71 _ _ _ _ _ _ _ _ _ _ _ hw
set_option maxRecDepth 20000 in
set_option maxHeartbeats 4000000 in
theorem w_X3_leastRest_l71 {Rw : Int32 → Int32 → (Int32 → St → Prop) → St → Prop} {dR : Nat} (hRc : ∀ a b : Int32, Con yX3_restFrom cX3_restFrom 3 (some .int) dR (fun ad => [.ref (ad 49), .int a, .int b]) (fun Q σ => Rw a b (aI Q) σ)) {X : Cx} {Q : RV → St → Prop} (hX : CxB X RX3 cX3_leastRest 13 (dR + 4)) (hR : CxR X (some .int) Q) {K41 : Int32 → Int32 → Int32 → Int32 → Int32 → Int32 → Int32 → Int32 → Int32 → St → Prop} (hK41 : ∀ (x1 : Int32) (x2 : Int32) (x3 : Int32) (x4 : Int32) (x5 : Int32) (x6 : Int32) (x7 : Int32) (x8 : Int32) (x9 : Int32) (σ : St), K41 x1 x2 x3 x4 x5 x6 x7 x8 x9 σ → At X 13 41 [(0, .ref (X.kad 49)), (1, .int (x1)), (2, .int (x2)), (3, .int (x3)), (4, .int (x4)), (5, .int (x5)), (6, .int (x6)), (7, .int (x7)), (8, .int (x8)), (9, .int (x9))] [] σ) (n : Nat) : ∀ (x1 : Int32) (x2 : Int32) (x3 : Int32) (x4 : Int32) (x5 : Int32) (x6 : Int32) (x7 : Int32) (x8 : Int32) (x9 : Int32) (x10 : Int32) (σ : St), wp_X3_leastRest_l71 Rw (aI Q) K41 n x1 x2 x3 x4 x5 x6 x7 x8 x9 x10 σ → At X 13 71 [(0, .ref (X.kad 49)), (1, .int (x1)), (2, .int (x2)), (3, .int (x3)), (4, .int (x4)), (5, .int (x5)), (6, .int (x6)), (7, .int (x7)), (8, .int (x8)), (9, .int (x9)), (10, .int (x10))] [] σ := by
  induction n with
  | zero => intro x1 x2 x3 x4 x5 x6 x7 x8 x9 x10 σ h; exact h.elim
  | succ n ih => intro x1 x2 x3 x4 x5 x6 x7 x8 x9 x10 σ h; exact w_X3_leastRest_b71 hRc hX hR hK41 ih x1 x2 x3 x4 x5 x6 x7 x8 x9 x10 σ h
set_option maxRecDepth 20000 in
set_option maxHeartbeats 4000000 in
theorem w_X3_leastRest_b41 {Rw : Int32 → Int32 → (Int32 → St → Prop) → St → Prop} {dR : Nat} (hRc : ∀ a b : Int32, Con yX3_restFrom cX3_restFrom 3 (some .int) dR (fun ad => [.ref (ad 49), .int a, .int b]) (fun Q σ => Rw a b (aI Q) σ)) {X : Cx} {Q : RV → St → Prop} (hX : CxB X RX3 cX3_leastRest 13 (dR + 4)) (hR : CxR X (some .int) Q) {K41 : Int32 → Int32 → Int32 → Int32 → Int32 → Int32 → Int32 → Int32 → Int32 → St → Prop} (hK41 : ∀ (x1 : Int32) (x2 : Int32) (x3 : Int32) (x4 : Int32) (x5 : Int32) (x6 : Int32) (x7 : Int32) (x8 : Int32) (x9 : Int32) (σ : St), K41 x1 x2 x3 x4 x5 x6 x7 x8 x9 σ → At X 13 41 [(0, .ref (X.kad 49)), (1, .int (x1)), (2, .int (x2)), (3, .int (x3)), (4, .int (x4)), (5, .int (x5)), (6, .int (x6)), (7, .int (x7)), (8, .int (x8)), (9, .int (x9))] [] σ) (x1 : Int32) (x2 : Int32) (x3 : Int32) (x4 : Int32) (x5 : Int32) (x6 : Int32) (x7 : Int32) (x8 : Int32) (x9 : Int32) (σ : St) (hw : wp_X3_leastRest_b41 Rw (aI Q) K41 x1 x2 x3 x4 x5 x6 x7 x8 x9 σ) : At X 13 41 [(0, .ref (X.kad 49)), (1, .int (x1)), (2, .int (x2)), (3, .int (x3)), (4, .int (x4)), (5, .int (x5)), (6, .int (x6)), (7, .int (x7)), (8, .int (x8)), (9, .int (x9))] [] σ := by
  unfold wp_X3_leastRest_b41 at hw
  refine r_iload 43 hX dX3_leastRest_41 rfl 9 rfl ?_
  refine r_iload 45 hX dX3_leastRest_43 rfl 6 rfl ?_
  refine r_icmp_gt 260 48 hX dX3_leastRest_45 (by decide) rfl hw (fun hw => ?_) (fun hw => ?_)
  · refine r_iload 262 hX dX3_leastRest_260 rfl 5 rfl ?_
    exact r_iret hX hR dX3_leastRest_262 hw
  · refine r_aload_n 49 hX dX3_leastRest_48 rfl rfl 0 rfl ?_
    refine r_iconst 50 hX dX3_leastRest_49 rfl 0 ic_0 ?_
    refine r_iload_n 51 hX dX3_leastRest_50 rfl rfl 1 rfl ?_
    refine r_iload 53 hX dX3_leastRest_51 rfl 9 rfl ?_
    refine k_X3_100_X3_stands 56 hX (by omega) (0) (x1) (x9) (Nat.le_of_ble_eq_true rfl) dX3_leastRest_53 rfl hw (fun r53 σ53 hw => ?_)
    refine r_if_ne 62 59 hX dX3_leastRest_56 (by decide) rfl hw (fun hw => ?_) (fun hw => ?_)
    · refine r_aload_n 63 hX dX3_leastRest_62 rfl rfl 0 rfl ?_
      refine r_iconst 64 hX dX3_leastRest_63 rfl 1 ic_1 ?_
      refine r_iload_n 65 hX dX3_leastRest_64 rfl rfl 1 rfl ?_
      refine r_iload_n 66 hX dX3_leastRest_65 rfl rfl 3 rfl ?_
      refine k_X3_97_X3_lowest 69 hX (by omega) (1) (x1) (x3) (Nat.le_of_ble_eq_true rfl) dX3_leastRest_66 rfl hw (fun r66 σ66 hw => ?_)
      refine r_istore (lv' := [(10, .int (r66)), (0, .ref (X.kad 49)), (1, .int (x1)), (2, .int (x2)), (3, .int (x3)), (4, .int (x4)), (5, .int (x5)), (6, .int (x6)), (7, .int (x7)), (8, .int (x8)), (9, .int (x9))]) 71 hX dX3_leastRest_69 rfl (by decide) rfl ?_
      refine r_sub [1, 2, 3, 4, 5, 6, 7, 8, 9, 10, 0] rfl ?_
      obtain ⟨n, hw⟩ := hw
      exact w_X3_leastRest_l71 hRc hX hR hK41 n _ _ _ _ _ _ _ _ _ _ _ hw
    · refine r_goto 254 hX dX3_leastRest_59 (by decide) ?_
      refine r_iinc (lv' := [(9, .int (x9 + 1)), (0, .ref (X.kad 49)), (1, .int (x1)), (2, .int (x2)), (3, .int (x3)), (4, .int (x4)), (5, .int (x5)), (6, .int (x6)), (7, .int (x7)), (8, .int (x8))]) 257 hX dX3_leastRest_254 rfl 9 rfl (x9 + 1) (ici_1 _) (by decide) rfl ?_
      refine r_goto 41 hX dX3_leastRest_257 (by decide) ?_
      refine r_sub [1, 2, 3, 4, 5, 6, 7, 8, 9, 0] rfl ?_
      exact hK41 _ _ _ _ _ _ _ _ _ _ hw
set_option maxRecDepth 20000 in
set_option maxHeartbeats 4000000 in
theorem w_X3_leastRest_l41 {Rw : Int32 → Int32 → (Int32 → St → Prop) → St → Prop} {dR : Nat} (hRc : ∀ a b : Int32, Con yX3_restFrom cX3_restFrom 3 (some .int) dR (fun ad => [.ref (ad 49), .int a, .int b]) (fun Q σ => Rw a b (aI Q) σ)) {X : Cx} {Q : RV → St → Prop} (hX : CxB X RX3 cX3_leastRest 13 (dR + 4)) (hR : CxR X (some .int) Q) (n : Nat) : ∀ (x1 : Int32) (x2 : Int32) (x3 : Int32) (x4 : Int32) (x5 : Int32) (x6 : Int32) (x7 : Int32) (x8 : Int32) (x9 : Int32) (σ : St), wp_X3_leastRest_l41 Rw (aI Q)  n x1 x2 x3 x4 x5 x6 x7 x8 x9 σ → At X 13 41 [(0, .ref (X.kad 49)), (1, .int (x1)), (2, .int (x2)), (3, .int (x3)), (4, .int (x4)), (5, .int (x5)), (6, .int (x6)), (7, .int (x7)), (8, .int (x8)), (9, .int (x9))] [] σ := by
  induction n with
  | zero => intro x1 x2 x3 x4 x5 x6 x7 x8 x9 σ h; exact h.elim
  | succ n ih => intro x1 x2 x3 x4 x5 x6 x7 x8 x9 σ h; exact w_X3_leastRest_b41 hRc hX hR ih x1 x2 x3 x4 x5 x6 x7 x8 x9 σ h
set_option maxRecDepth 20000 in
set_option maxHeartbeats 4000000 in
theorem c_X3_leastRest {Rw : Int32 → Int32 → (Int32 → St → Prop) → St → Prop} {dR : Nat} (hRc : ∀ a b : Int32, Con yX3_restFrom cX3_restFrom 3 (some .int) dR (fun ad => [.ref (ad 49), .int a, .int b]) (fun Q σ => Rw a b (aI Q) σ)) (x1 : Int32) (x2 : Int32) (x3 : Int32) (x4 : Int32) : Con yX3_leastRest cX3_leastRest 13 (some .int) (dR + 4) (fun ad => [.ref (ad 49), .int (x1), .int (x2), .int (x3), .int (x4)]) (fun Q σ => wp_X3_leastRest Rw x1 x2 x3 x4 (aI Q) σ) := by
  refine con_intro (by decide +kernel) (fun _ => Nat.le_of_ble_eq_true rfl) (by omega) (fun X Q σ hX hR hw => ?_)
  have hX : CxB X RX3 cX3_leastRest 13 (dR + 4) := hX
  unfold wp_X3_leastRest at hw
  show At X 13 0 [(0, .ref (X.kad 49)), (1, .int (x1)), (2, .int (x2)), (3, .int (x3)), (4, .int (x4))] [] σ
  refine r_ldc 2 hX 1000000000 tw_161 dX3_leastRest_0 rfl ?_
  refine r_istore (lv' := [(5, .int (1000000000)), (0, .ref (X.kad 49)), (1, .int (x1)), (2, .int (x2)), (3, .int (x3)), (4, .int (x4))]) 4 hX dX3_leastRest_2 rfl (by decide) rfl ?_
  refine r_aload_n 5 hX dX3_leastRest_4 rfl rfl 1 rfl ?_
  refine r_iconst 6 hX dX3_leastRest_5 rfl 0 ic_0 ?_
  refine r_iload_n 7 hX dX3_leastRest_6 rfl rfl 2 rfl ?_
  refine r_iload_n 8 hX dX3_leastRest_7 rfl rfl 3 rfl ?_
  refine k_X3_93_X3_highest 11 hX (by omega) (0) (x1) (x2) (Nat.le_of_ble_eq_true rfl) dX3_leastRest_8 rfl hw (fun r8 σ8 hw => ?_)
  refine r_istore (lv' := [(6, .int (r8)), (5, .int (1000000000)), (0, .ref (X.kad 49)), (1, .int (x1)), (2, .int (x2)), (3, .int (x3)), (4, .int (x4))]) 13 hX dX3_leastRest_11 rfl (by decide) rfl ?_
  refine r_aload_n 14 hX dX3_leastRest_13 rfl rfl 2 rfl ?_
  refine r_iconst 15 hX dX3_leastRest_14 rfl 1 ic_1 ?_
  refine r_iload_n 16 hX dX3_leastRest_15 rfl rfl 3 rfl ?_
  refine r_iload_n 17 hX dX3_leastRest_16 rfl rfl 5 rfl ?_
  refine k_X3_93_X3_highest 20 hX (by omega) (1) (x1) (x3) (Nat.le_of_ble_eq_true rfl) dX3_leastRest_17 rfl hw (fun r17 σ17 hw => ?_)
  refine r_istore (lv' := [(7, .int (r17)), (6, .int (r8)), (5, .int (1000000000)), (0, .ref (X.kad 49)), (1, .int (x1)), (2, .int (x2)), (3, .int (x3)), (4, .int (x4))]) 22 hX dX3_leastRest_20 rfl (by decide) rfl ?_
  refine r_aload_n 23 hX dX3_leastRest_22 rfl rfl 3 rfl ?_
  refine r_iconst 24 hX dX3_leastRest_23 rfl 2 ic_2 ?_
  refine r_iload_n 25 hX dX3_leastRest_24 rfl rfl 4 rfl ?_
  refine r_iload 27 hX dX3_leastRest_25 rfl 7 rfl ?_
  refine k_X3_93_X3_highest 30 hX (by omega) (2) (x1) (x4) (Nat.le_of_ble_eq_true rfl) dX3_leastRest_27 rfl hw (fun r27 σ27 hw => ?_)
  refine r_istore (lv' := [(8, .int (r27)), (7, .int (r17)), (6, .int (r8)), (5, .int (1000000000)), (0, .ref (X.kad 49)), (1, .int (x1)), (2, .int (x2)), (3, .int (x3)), (4, .int (x4))]) 32 hX dX3_leastRest_30 rfl (by decide) rfl ?_
  refine r_aload_n 33 hX dX3_leastRest_32 rfl rfl 4 rfl ?_
  refine r_iconst 34 hX dX3_leastRest_33 rfl 0 ic_0 ?_
  refine r_iload_n 35 hX dX3_leastRest_34 rfl rfl 5 rfl ?_
  refine r_iload_n 36 hX dX3_leastRest_35 rfl rfl 6 rfl ?_
  refine k_X3_97_X3_lowest 39 hX (by omega) (0) (x1) (x2) (Nat.le_of_ble_eq_true rfl) dX3_leastRest_36 rfl hw (fun r36 σ36 hw => ?_)
  refine r_istore (lv' := [(9, .int (r36)), (8, .int (r27)), (7, .int (r17)), (6, .int (r8)), (5, .int (1000000000)), (0, .ref (X.kad 49)), (1, .int (x1)), (2, .int (x2)), (3, .int (x3)), (4, .int (x4))]) 41 hX dX3_leastRest_39 rfl (by decide) rfl ?_
  refine r_sub [5, 6, 7, 8, 9, 4, 3, 2, 1, 0] rfl ?_
  obtain ⟨n, hw⟩ := hw
  exact w_X3_leastRest_l41 hRc hX hR n _ _ _ _ _ _ _ _ _ _ hw
theorem k_X3_81_X3_leastRest {Rw : Int32 → Int32 → (Int32 → St → Prop) → St → Prop} {dR : Nat} (hRc : ∀ a b : Int32, Con yX3_restFrom cX3_restFrom 3 (some .int) dR (fun ad => [.ref (ad 49), .int a, .int b]) (fun Q σ => Rw a b (aI Q) σ)) {X : Cx} {cc : ByteArray} {nL d pc : Nat} {lv : List (Nat × Value)} {rest : List Value} {σ : St} {K : Int32 → St → Prop} (q : Nat) (hX : CxB X RX3 cc nL d) (hdc : dR + 4 + 1 ≤ d) (x1 : Int32) (x2 : Int32) (x3 : Int32) (x4 : Int32) (hst : (rest.map fun v => v.category).sum ≤ 8) (hd : decode cc pc = .ok (.invokevirtual 81, 3)) (hq : pc + 3 = q) (hw : wp_X3_leastRest Rw x1 x2 x3 x4 K σ) (kk : ∀ (r : Int32) (τ : St), K r τ → At X nL q lv (.int r :: rest) τ) : At X nL pc lv (.int (x4) :: .int (x3) :: .int (x2) :: .int (x1) :: .ref (X.kad 49) :: rest) σ := r_callV (n := 4) q hX (k0 := 49) (c_X3_leastRest hRc x1 x2 x3 x4) tw_187 tw_188 tw_189 tw_144 tw_190 ⟨by decide +kernel, by decide +kernel, by decide +kernel⟩ hdc (by decide) (As := [.int (x1), .int (x2), .int (x3), .int (x4)]) rfl rfl (by decide) ⟨_, _, _, rfl, rfl, rfl⟩ hst hd hq rfl (K := qI K) hw (kI kk)
theorem k_X3_78_X3_breadthOf {X : Cx} {cc : ByteArray} {nL d pc : Nat} {lv : List (Nat × Value)} {rest : List Value} {σ : St} {K : Int32 → St → Prop} (q : Nat) (hX : CxB X RX3 cc nL d) (hdc : 2 + 1 ≤ d) (x1 : Int32) (hst : (rest.map fun v => v.category).sum ≤ 8) (hd : decode cc pc = .ok (.invokevirtual 78, 3)) (hq : pc + 3 = q) (hw : wp_X3_breadthOf x1 K σ) (kk : ∀ (r : Int32) (τ : St), K r τ → At X nL q lv (.int r :: rest) τ) : At X nL pc lv (.int (x1) :: .ref (X.kad 49) :: rest) σ := r_callV (n := 1) q hX (k0 := 49) (c_X3_breadthOf x1) tw_191 tw_192 tw_193 tw_144 tw_194 ⟨by decide +kernel, by decide +kernel, by decide +kernel⟩ hdc (by decide) (As := [.int (x1)]) rfl rfl (by decide) ⟨_, _, _, rfl, rfl, rfl⟩ hst hd hq rfl (K := qI K) hw (kI kk)
set_option maxRecDepth 20000 in
set_option maxHeartbeats 4000000 in
theorem w_X3_restFromF_b78 {Rw : Int32 → Int32 → (Int32 → St → Prop) → St → Prop} {dR : Nat} (hRc : ∀ a b : Int32, Con yX3_restFrom cX3_restFrom 3 (some .int) dR (fun ad => [.ref (ad 49), .int a, .int b]) (fun Q σ => Rw a b (aI Q) σ)) {X : Cx} {Q : RV → St → Prop} (hX : CxB X RX3 cX3_restFrom 3 (dR + 6)) (hR : CxR X (some .int) Q) (x1 : Int32) (x2 : Int32) (σ : St) (hw : wp_X3_restFromF_b78 Rw (aI Q)  x1 x2 σ) : At X 3 78 [(0, .ref (X.kad 49)), (1, .int (x1)), (2, .int (x2))] [] σ := by
  unfold wp_X3_restFromF_b78 at hw
  refine r_aload_n 79 hX dX3_restFrom_78 rfl rfl 0 rfl ?_
  refine g_X3_13_49 82 hX dX3_restFrom_79 rfl ?_
  refine r_iload_n 83 hX dX3_restFrom_82 rfl rfl 1 rfl ?_
  refine r_aald 84 hX sh_50 dX3_restFrom_83 rfl hw (fun hv83 hw => ?_)
  refine r_iload_n 85 hX dX3_restFrom_84 rfl rfl 2 rfl ?_
  refine r_iald 86 hX (shr_50 hv83) dX3_restFrom_85 rfl hw (fun hw => ?_)
  exact r_iret hX hR dX3_restFrom_86 hw
set_option maxRecDepth 20000 in
set_option maxHeartbeats 4000000 in
theorem c_X3_restFromF {Rw : Int32 → Int32 → (Int32 → St → Prop) → St → Prop} {dR : Nat} (hRc : ∀ a b : Int32, Con yX3_restFrom cX3_restFrom 3 (some .int) dR (fun ad => [.ref (ad 49), .int a, .int b]) (fun Q σ => Rw a b (aI Q) σ)) (x1 : Int32) (x2 : Int32) : Con yX3_restFrom cX3_restFrom 3 (some .int) (dR + 6) (fun ad => [.ref (ad 49), .int (x1), .int (x2)]) (fun Q σ => wp_X3_restFromF Rw x1 x2 (aI Q) σ) := by
  refine con_intro (by decide +kernel) (fun _ => Nat.le_of_ble_eq_true rfl) (by omega) (fun X Q σ hX hR hw => ?_)
  have hX : CxB X RX3 cX3_restFrom 3 (dR + 6) := hX
  unfold wp_X3_restFromF at hw
  show At X 3 0 [(0, .ref (X.kad 49)), (1, .int (x1)), (2, .int (x2))] [] σ
  refine r_iload_n 1 hX dX3_restFrom_0 rfl rfl 1 rfl ?_
  refine r_if_lt 15 4 hX dX3_restFrom_1 (by decide) rfl hw (fun hw => ?_) (fun hw => ?_)
  · refine r_ldc 17 hX 1000000000 tw_161 dX3_restFrom_15 rfl ?_
    exact r_iret hX hR dX3_restFrom_17 hw
  · refine r_iload_n 5 hX dX3_restFrom_4 rfl rfl 2 rfl ?_
    refine r_if_lt 15 8 hX dX3_restFrom_5 (by decide) rfl hw (fun hw => ?_) (fun hw => ?_)
    · refine r_ldc 17 hX 1000000000 tw_161 dX3_restFrom_15 rfl ?_
      exact r_iret hX hR dX3_restFrom_17 hw
    · refine r_iload_n 9 hX dX3_restFrom_8 rfl rfl 2 rfl ?_
      refine r_sipush 12 hX dX3_restFrom_9 rfl 1000 si_1000 ?_
      refine r_icmp_lt 18 15 hX dX3_restFrom_12 (by decide) rfl hw (fun hw => ?_) (fun hw => ?_)
      · refine r_iload_n 19 hX dX3_restFrom_18 rfl rfl 1 rfl ?_
        refine r_aload_n 20 hX dX3_restFrom_19 rfl rfl 0 rfl ?_
        refine g_X3_39_49 23 hX dX3_restFrom_20 rfl ?_
        refine r_icmp_le 39 26 hX dX3_restFrom_23 (by decide) rfl hw (fun hw => ?_) (fun hw => ?_)
        · refine r_aload_n 40 hX dX3_restFrom_39 rfl rfl 0 rfl ?_
          refine g_X3_13_49 43 hX dX3_restFrom_40 rfl ?_
          refine r_iload_n 44 hX dX3_restFrom_43 rfl rfl 1 rfl ?_
          refine r_aald 45 hX sh_50 dX3_restFrom_44 rfl hw (fun hv44 hw => ?_)
          refine r_iload_n 46 hX dX3_restFrom_45 rfl rfl 2 rfl ?_
          refine r_iald 47 hX (shr_50 hv44) dX3_restFrom_46 rfl hw (fun hw => ?_)
          refine r_if_ne 78 50 hX dX3_restFrom_47 (by decide) rfl hw (fun hw => ?_) (fun hw => ?_)
          · exact w_X3_restFromF_b78 hRc hX hR _ _ _ hw
          · refine r_aload_n 51 hX dX3_restFrom_50 rfl rfl 0 rfl ?_
            refine g_X3_13_49 54 hX dX3_restFrom_51 rfl ?_
            refine r_iload_n 55 hX dX3_restFrom_54 rfl rfl 1 rfl ?_
            refine r_aald 56 hX sh_50 dX3_restFrom_55 rfl hw (fun hv55 hw => ?_)
            refine r_iload_n 57 hX dX3_restFrom_56 rfl rfl 2 rfl ?_
            refine r_aload_n 58 hX dX3_restFrom_57 rfl rfl 0 rfl ?_
            refine r_iload_n 59 hX dX3_restFrom_58 rfl rfl 1 rfl ?_
            refine r_iload_n 60 hX dX3_restFrom_59 rfl rfl 2 rfl ?_
            refine r_iconst 61 hX dX3_restFrom_60 rfl 0 ic_0 ?_
            refine k_X3_75_X3_columnIn 64 hX (by omega) (x2) (0) (Nat.le_of_ble_eq_true rfl) dX3_restFrom_61 rfl hw (fun r61 σ61 hw => ?_)
            refine r_iload_n 65 hX dX3_restFrom_64 rfl rfl 2 rfl ?_
            refine r_iconst 66 hX dX3_restFrom_65 rfl 1 ic_1 ?_
            refine k_X3_75_X3_columnIn 69 hX (by omega) (x2) (1) (Nat.le_of_ble_eq_true rfl) dX3_restFrom_66 rfl hw (fun r66 σ66 hw => ?_)
            refine r_iload_n 70 hX dX3_restFrom_69 rfl rfl 2 rfl ?_
            refine r_iconst 71 hX dX3_restFrom_70 rfl 2 ic_2 ?_
            refine k_X3_75_X3_columnIn 74 hX (by omega) (x2) (2) (Nat.le_of_ble_eq_true rfl) dX3_restFrom_71 rfl hw (fun r71 σ71 hw => ?_)
            refine k_X3_81_X3_leastRest hRc 77 hX (by omega) (x1) (r61) (r66) (r71) (Nat.le_of_ble_eq_true rfl) dX3_restFrom_74 rfl hw (fun r74 σ74 hw => ?_)
            refine r_iast 78 hX (shr_50 hv55) dX3_restFrom_77 rfl hw (fun hw => ?_)
            exact w_X3_restFromF_b78 hRc hX hR _ _ _ hw
        · refine r_aload_n 27 hX dX3_restFrom_26 rfl rfl 0 rfl ?_
          refine r_iload_n 28 hX dX3_restFrom_27 rfl rfl 2 rfl ?_
          refine k_X3_78_X3_breadthOf 31 hX (by omega) (x2) (Nat.le_of_ble_eq_true rfl) dX3_restFrom_28 rfl hw (fun r28 σ28 hw => ?_)
          refine r_bipush 33 hX dX3_restFrom_31 rfl 100 bi_100 ?_
          refine r_imul 34 hX dX3_restFrom_33 rfl ?_
          refine r_sipush 37 hX dX3_restFrom_34 rfl 1000 si_1000 ?_
          refine r_imul 38 hX dX3_restFrom_37 rfl ?_
          exact r_iret hX hR dX3_restFrom_38 hw
      · refine r_ldc 17 hX 1000000000 tw_161 dX3_restFrom_15 rfl ?_
        exact r_iret hX hR dX3_restFrom_17 hw
theorem c_restN (n : Nat) : ∀ a b : Int32, Con yX3_restFrom cX3_restFrom 3 (some .int) (6 * n + 1) (fun ad => [.ref (ad 49), .int a, .int b]) (fun Q σ => wp_restN n a b (aI Q) σ) := by
  induction n with
  | zero => intro a b l D cy ad hi σ sz Q h; exact h.elim
  | succ n ih =>
    intro a b
    have h := c_X3_restFromF (Rw := wp_restN n) ih a b
    rw [show 6 * n + 1 + 6 = 6 * (n + 1) + 1 by omega] at h
    exact h
theorem c_X3_restFrom (x1 x2 : Int32) : Con yX3_restFrom cX3_restFrom 3 (some .int) 121 (fun ad => [.ref (ad 49), .int x1, .int x2]) (fun Q σ => wp_X3_restFrom x1 x2 (aI Q) σ) := c_restN 20 x1 x2
theorem k_X3_64_fillI {X : Cx} {cc : ByteArray} {nL d pc : Nat} {lv : List (Nat × Value)} {rest : List Value} {σ : St} {K : St → Prop} (q : Nat) (hX : CxB X RX3 cc nL d) (hdc : 1 + 1 ≤ d) {a n : Nat} (hs : wS a = (9, n)) (v : Int32) (hst : (rest.map fun v => v.category).sum ≤ 8) (hd : decode cc pc = .ok (.invokestatic 64, 3)) (hq : pc + 3 = q) (hw : wp_fillI a n v K σ) (kk : ∀ τ : St, K τ → At X nL q lv rest τ) : At X nL pc lv (.int v :: .ref (X.kad a) :: rest) σ := r_callS (n := 2) q hX (c_fillI a n hs v) tw_195 tw_31 tw_32 tw_33 ⟨by decide +kernel, by decide +kernel, by decide +kernel⟩ hdc (by decide) (As := [.ref (X.kad a), .int v]) rfl rfl hst hd hq rfl (K := qV K) hw (kV kk)
set_option maxRecDepth 20000 in
set_option maxHeartbeats 4000000 in
theorem w_X3_forgetUpTo_b2 {X : Cx} {Q : RV → St → Prop} (hX : CxB X RX3 cX3_forgetUpTo 3 (2)) (hR : CxR X (none) Q) {K2 : Int32 → Int32 → St → Prop} (hK2 : ∀ (x1 : Int32) (x2 : Int32) (σ : St), K2 x1 x2 σ → At X 3 2 [(0, .ref (X.kad 49)), (1, .int (x1)), (2, .int (x2))] [] σ) (x1 : Int32) (x2 : Int32) (σ : St) (hw : wp_X3_forgetUpTo_b2 (aV Q) K2 x1 x2 σ) : At X 3 2 [(0, .ref (X.kad 49)), (1, .int (x1)), (2, .int (x2))] [] σ := by
  unfold wp_X3_forgetUpTo_b2 at hw
  refine r_iload_n 3 hX dX3_forgetUpTo_2 rfl rfl 2 rfl ?_
  refine r_iload_n 4 hX dX3_forgetUpTo_3 rfl rfl 1 rfl ?_
  refine r_icmp_gt 29 7 hX dX3_forgetUpTo_4 (by decide) rfl hw (fun hw => ?_) (fun hw => ?_)
  · exact r_vret hX hR dX3_forgetUpTo_29 hw
  · refine r_iload_n 8 hX dX3_forgetUpTo_7 rfl rfl 2 rfl ?_
    refine r_bipush 10 hX dX3_forgetUpTo_8 rfl 16 bi_16 ?_
    refine r_icmp_ge 29 13 hX dX3_forgetUpTo_10 (by decide) rfl hw (fun hw => ?_) (fun hw => ?_)
    · exact r_vret hX hR dX3_forgetUpTo_29 hw
    · refine r_aload_n 14 hX dX3_forgetUpTo_13 rfl rfl 0 rfl ?_
      refine g_X3_13_49 17 hX dX3_forgetUpTo_14 rfl ?_
      refine r_iload_n 18 hX dX3_forgetUpTo_17 rfl rfl 2 rfl ?_
      refine r_aald 19 hX sh_50 dX3_forgetUpTo_18 rfl hw (fun hv18 hw => ?_)
      refine r_iconst 20 hX dX3_forgetUpTo_19 rfl 0 ic_0 ?_
      refine k_X3_64_fillI 23 hX (by omega) (shr_50 hv18) (0) (Nat.le_of_ble_eq_true rfl) dX3_forgetUpTo_20 rfl hw (fun σ20 hw => ?_)
      refine r_iinc (lv' := [(2, .int (x2 + 1)), (0, .ref (X.kad 49)), (1, .int (x1))]) 26 hX dX3_forgetUpTo_23 rfl 2 rfl (x2 + 1) (ici_1 _) (by decide) rfl ?_
      refine r_goto 2 hX dX3_forgetUpTo_26 (by decide) ?_
      refine r_sub [1, 2, 0] rfl ?_
      exact hK2 _ _ _ hw
set_option maxRecDepth 20000 in
set_option maxHeartbeats 4000000 in
theorem w_X3_forgetUpTo_l2 {X : Cx} {Q : RV → St → Prop} (hX : CxB X RX3 cX3_forgetUpTo 3 (2)) (hR : CxR X (none) Q) (n : Nat) : ∀ (x1 : Int32) (x2 : Int32) (σ : St), wp_X3_forgetUpTo_l2 (aV Q)  n x1 x2 σ → At X 3 2 [(0, .ref (X.kad 49)), (1, .int (x1)), (2, .int (x2))] [] σ := by
  induction n with
  | zero => intro x1 x2 σ h; exact h.elim
  | succ n ih => intro x1 x2 σ h; exact w_X3_forgetUpTo_b2  hX hR ih x1 x2 σ h
set_option maxRecDepth 20000 in
set_option maxHeartbeats 4000000 in
theorem c_X3_forgetUpTo (x1 : Int32) : Con yX3_forgetUpTo cX3_forgetUpTo 3 (none) (2) (fun ad => [.ref (ad 49), .int (x1)]) (fun Q σ => wp_X3_forgetUpTo x1 (aV Q) σ) := by
  refine con_intro (by decide +kernel) (fun _ => Nat.le_of_ble_eq_true rfl) (by omega) (fun X Q σ hX hR hw => ?_)
  have hX : CxB X RX3 cX3_forgetUpTo 3 (2) := hX
  unfold wp_X3_forgetUpTo at hw
  show At X 3 0 [(0, .ref (X.kad 49)), (1, .int (x1))] [] σ
  refine r_iconst 1 hX dX3_forgetUpTo_0 rfl 0 ic_0 ?_
  refine r_istore_n (lv' := [(2, .int (0)), (0, .ref (X.kad 49)), (1, .int (x1))]) 2 hX dX3_forgetUpTo_1 rfl rfl (by decide) rfl ?_
  refine r_sub [1, 2, 0] rfl ?_
  obtain ⟨n, hw⟩ := hw
  exact w_X3_forgetUpTo_l2 hX hR n _ _ _ hw
theorem k_X3_49_X3_forgetUpTo {X : Cx} {cc : ByteArray} {nL d pc : Nat} {lv : List (Nat × Value)} {rest : List Value} {σ : St} {K : St → Prop} (q : Nat) (hX : CxB X RX3 cc nL d) (hdc : 2 + 1 ≤ d) (x1 : Int32) (hst : (rest.map fun v => v.category).sum ≤ 8) (hd : decode cc pc = .ok (.invokevirtual 49, 3)) (hq : pc + 3 = q) (hw : wp_X3_forgetUpTo x1 K σ) (kk : ∀ (τ : St), K τ → At X nL q lv (rest) τ) : At X nL pc lv (.int (x1) :: .ref (X.kad 49) :: rest) σ := r_callV (n := 1) q hX (k0 := 49) (c_X3_forgetUpTo x1) tw_197 tw_198 tw_199 tw_144 tw_200 ⟨by decide +kernel, by decide +kernel, by decide +kernel⟩ hdc (by decide) (As := [.int (x1)]) rfl rfl (by decide) ⟨_, _, _, rfl, rfl, rfl⟩ hst hd hq rfl (K := qV K) hw (kV kk)
theorem k_X3_45_X4_freeColumns {X : Cx} {cc : ByteArray} {nL d pc : Nat} {lv : List (Nat × Value)} {rest : List Value} {σ : St} {K : Int32 → St → Prop} (q : Nat) (hX : CxB X RX3 cc nL d) (hdc : 1 + 1 ≤ d) (x1 : Int32) (hst : (rest.map fun v => v.category).sum ≤ 8) (hd : decode cc pc = .ok (.invokevirtual 45, 3)) (hq : pc + 3 = q) (hw : wp_X4_freeColumns x1 K σ) (kk : ∀ (r : Int32) (τ : St), K r τ → At X nL q lv (.int r :: rest) τ) : At X nL pc lv (.int (x1) :: .ref (X.kad 4) :: rest) σ := r_callV (n := 1) q hX (k0 := 4) (c_X4_freeColumns x1) tw_201 tw_23 tw_24 tw_8 tw_25 ⟨by decide +kernel, by decide +kernel, by decide +kernel⟩ hdc (by decide) (As := [.int (x1)]) rfl rfl (by decide) ⟨_, _, _, rfl, rfl, rfl⟩ hst hd hq rfl (K := qI K) hw (kI kk)
set_option maxRecDepth 20000 in
set_option maxHeartbeats 4000000 in
theorem w_X3_prepare_b53 {X : Cx} {Q : RV → St → Prop} (hX : CxB X RX3 cX3_prepare 5 (3)) (hR : CxR X (none) Q) {K53 : Int32 → St → Prop} (hK53 : ∀ (x4 : Int32) (σ : St), K53 x4 σ → At X 5 53 [(0, .ref (X.kad 49)), (4, .int (x4))] [] σ) (x4 : Int32) (σ : St) (hw : wp_X3_prepare_b53 (aV Q) K53 x4 σ) : At X 5 53 [(0, .ref (X.kad 49)), (4, .int (x4))] [] σ := by
  unfold wp_X3_prepare_b53 at hw
  refine r_iload 55 hX dX3_prepare_53 rfl 1 rfl ?_
  refine r_iconst 56 hX dX3_prepare_55 rfl 3 ic_3 ?_
  refine r_icmp_ge 82 59 hX dX3_prepare_56 (by decide) rfl hw (fun hw => ?_) (fun hw => ?_)
  · refine r_aload_n 83 hX dX3_prepare_82 rfl rfl 0 rfl ?_
    refine r_aload_n 84 hX dX3_prepare_83 rfl rfl 0 rfl ?_
    refine g_X3_39_49 87 hX dX3_prepare_84 rfl ?_
    refine k_X3_49_X3_forgetUpTo 90 hX (by omega) (σ.1 49 6) (Nat.le_of_ble_eq_true rfl) dX3_prepare_87 rfl hw (fun σ87 hw => ?_)
    exact r_vret hX hR dX3_prepare_90 hw
  · refine r_aload_n 60 hX dX3_prepare_59 rfl rfl 0 rfl ?_
    refine g_X3_20_49 63 hX dX3_prepare_60 rfl ?_
    refine r_iload 65 hX dX3_prepare_63 rfl 1 rfl ?_
    refine r_bipush 67 hX dX3_prepare_65 rfl 16 bi_16 ?_
    refine r_iast 68 hX sh_68 dX3_prepare_67 rfl hw (fun hw => ?_)
    refine r_aload_n 69 hX dX3_prepare_68 rfl rfl 0 rfl ?_
    refine g_X3_29_49 72 hX dX3_prepare_69 rfl ?_
    refine r_iload 74 hX dX3_prepare_72 rfl 1 rfl ?_
    refine r_iconst 75 hX dX3_prepare_74 rfl 0 ic_0 ?_
    refine r_zast 76 hX sh_74 dX3_prepare_75 rfl hw (fun hw => ?_)
    refine r_iinc (lv' := [(4, .int (x4 + 1)), (0, .ref (X.kad 49))]) 79 hX dX3_prepare_76 rfl 1 rfl (x4 + 1) (ici_1 _) (by decide) rfl ?_
    refine r_goto 53 hX dX3_prepare_79 (by decide) ?_
    refine r_sub [1, 0] rfl ?_
    exact hK53 _ _ hw
set_option maxRecDepth 20000 in
set_option maxHeartbeats 4000000 in
theorem w_X3_prepare_l53 {X : Cx} {Q : RV → St → Prop} (hX : CxB X RX3 cX3_prepare 5 (3)) (hR : CxR X (none) Q) (n : Nat) : ∀ (x4 : Int32) (σ : St), wp_X3_prepare_l53 (aV Q)  n x4 σ → At X 5 53 [(0, .ref (X.kad 49)), (4, .int (x4))] [] σ := by
  induction n with
  | zero => intro x4 σ h; exact h.elim
  | succ n ih => intro x4 σ h; exact w_X3_prepare_b53  hX hR ih x4 σ h
set_option maxRecDepth 20000 in
set_option maxHeartbeats 4000000 in
theorem w_X3_prepare_b18 {X : Cx} {Q : RV → St → Prop} (hX : CxB X RX3 cX3_prepare 5 (3)) (hR : CxR X (none) Q) {K18 : Int32 → Int32 → St → Prop} (hK18 : ∀ (x3 : Int32) (x4 : Int32) (σ : St), K18 x3 x4 σ → At X 5 18 [(0, .ref (X.kad 49)), (1, .ref (X.kad 4)), (3, .int (x3)), (4, .int (x4))] [] σ) (x3 : Int32) (x4 : Int32) (σ : St) (hw : wp_X3_prepare_b18 (aV Q) K18 x3 x4 σ) : At X 5 18 [(0, .ref (X.kad 49)), (1, .ref (X.kad 4)), (3, .int (x3)), (4, .int (x4))] [] σ := by
  unfold wp_X3_prepare_b18 at hw
  refine r_iload 20 hX dX3_prepare_18 rfl 3 rfl ?_
  refine r_aload_n 21 hX dX3_prepare_20 rfl rfl 0 rfl ?_
  refine g_X3_39_49 24 hX dX3_prepare_21 rfl ?_
  refine r_icmp_gt 50 27 hX dX3_prepare_24 (by decide) rfl hw (fun hw => ?_) (fun hw => ?_)
  · refine r_iconst 51 hX dX3_prepare_50 rfl 0 ic_0 ?_
    refine r_istore (lv' := [(4, .int (0)), (0, .ref (X.kad 49)), (1, .ref (X.kad 4)), (3, .int (x3))]) 53 hX dX3_prepare_51 rfl (by decide) rfl ?_
    refine r_sub [1, 0] rfl ?_
    obtain ⟨n, hw⟩ := hw
    exact w_X3_prepare_l53 hX hR n _ _ hw
  · refine r_aload_n 28 hX dX3_prepare_27 rfl rfl 0 rfl ?_
    refine g_X3_16_49 31 hX dX3_prepare_28 rfl ?_
    refine r_iload 33 hX dX3_prepare_31 rfl 3 rfl ?_
    refine r_aload_n 34 hX dX3_prepare_33 rfl rfl 1 rfl ?_
    refine r_iload 36 hX dX3_prepare_34 rfl 3 rfl ?_
    refine k_X3_45_X4_freeColumns 39 hX (by omega) (x4) (Nat.le_of_ble_eq_true rfl) dX3_prepare_36 rfl hw (fun r36 σ36 hw => ?_)
    refine r_iload_n 40 hX dX3_prepare_39 rfl rfl 2 rfl ?_
    refine r_iconst 41 hX dX3_prepare_40 rfl (-1) ic_m1 ?_
    refine r_ixor 42 hX dX3_prepare_41 rfl ?_
    refine r_iand 43 hX dX3_prepare_42 rfl ?_
    refine r_iast 44 hX sh_67 dX3_prepare_43 rfl hw (fun hw => ?_)
    refine r_iinc (lv' := [(4, .int (x4 + 1)), (0, .ref (X.kad 49)), (1, .ref (X.kad 4)), (3, .int (x3))]) 47 hX dX3_prepare_44 rfl 3 rfl (x4 + 1) (ici_1 _) (by decide) rfl ?_
    refine r_goto 18 hX dX3_prepare_47 (by decide) ?_
    refine r_sub [1, 2, 3, 0] rfl ?_
    exact hK18 _ _ _ hw
set_option maxRecDepth 20000 in
set_option maxHeartbeats 4000000 in
theorem w_X3_prepare_l18 {X : Cx} {Q : RV → St → Prop} (hX : CxB X RX3 cX3_prepare 5 (3)) (hR : CxR X (none) Q) (n : Nat) : ∀ (x3 : Int32) (x4 : Int32) (σ : St), wp_X3_prepare_l18 (aV Q)  n x3 x4 σ → At X 5 18 [(0, .ref (X.kad 49)), (1, .ref (X.kad 4)), (3, .int (x3)), (4, .int (x4))] [] σ := by
  induction n with
  | zero => intro x3 x4 σ h; exact h.elim
  | succ n ih => intro x3 x4 σ h; exact w_X3_prepare_b18  hX hR ih x3 x4 σ h
set_option maxRecDepth 20000 in
set_option maxHeartbeats 4000000 in
theorem c_X3_prepare (x2 : Int32) (x3 : Int32) : Con yX3_prepare cX3_prepare 5 (none) (3) (fun ad => [.ref (ad 49), .ref (ad 4), .int (x2), .int (x3)]) (fun Q σ => wp_X3_prepare x2 x3 (aV Q) σ) := by
  refine con_intro (by decide +kernel) (fun _ => Nat.le_of_ble_eq_true rfl) (by omega) (fun X Q σ hX hR hw => ?_)
  have hX : CxB X RX3 cX3_prepare 5 (3) := hX
  unfold wp_X3_prepare at hw
  show At X 5 0 [(0, .ref (X.kad 49)), (1, .ref (X.kad 4)), (2, .int (x2)), (3, .int (x3))] [] σ
  refine r_aload_n 1 hX dX3_prepare_0 rfl rfl 0 rfl ?_
  refine r_aload_n 2 hX dX3_prepare_1 rfl rfl 1 rfl ?_
  refine g_X3_33_4 5 hX dX3_prepare_2 rfl ?_
  refine r_iconst 6 hX dX3_prepare_5 rfl 1 ic_1 ?_
  refine r_isub 7 hX dX3_prepare_6 rfl ?_
  refine p_X3_39_49 10 hX dX3_prepare_7 rfl ?_
  refine r_aload_n 11 hX dX3_prepare_10 rfl rfl 0 rfl ?_
  refine r_iload_n 12 hX dX3_prepare_11 rfl rfl 2 rfl ?_
  refine p_X3_42_49 15 hX dX3_prepare_12 rfl ?_
  refine r_iconst 16 hX dX3_prepare_15 rfl 0 ic_0 ?_
  refine r_istore (lv' := [(4, .int (0)), (0, .ref (X.kad 49)), (1, .ref (X.kad 4)), (2, .int (x2)), (3, .int (x3))]) 18 hX dX3_prepare_16 rfl (by decide) rfl ?_
  refine r_sub [1, 2, 4, 0] rfl ?_
  obtain ⟨n, hw⟩ := hw
  exact w_X3_prepare_l18 hX hR n _ _ _ hw
set_option maxRecDepth 20000 in
set_option maxHeartbeats 4000000 in
theorem c_X3_put (x1 : Int32) (x2 : Int32) (x3 : Int32) : Con yX3_put cX3_put 4 (none) (1) (fun ad => [.ref (ad 49), .int (x1), .int (x2), .int (x3)]) (fun Q σ => wp_X3_put x1 x2 x3 (aV Q) σ) := by
  refine con_intro (by decide +kernel) (fun _ => Nat.le_of_ble_eq_true rfl) (by omega) (fun X Q σ hX hR hw => ?_)
  have hX : CxB X RX3 cX3_put 4 (1) := hX
  unfold wp_X3_put at hw
  show At X 4 0 [(0, .ref (X.kad 49)), (1, .int (x1)), (2, .int (x2)), (3, .int (x3))] [] σ
  refine r_aload_n 1 hX dX3_put_0 rfl rfl 0 rfl ?_
  refine g_X3_20_49 4 hX dX3_put_1 rfl ?_
  refine r_iload_n 5 hX dX3_put_4 rfl rfl 1 rfl ?_
  refine r_iload_n 6 hX dX3_put_5 rfl rfl 2 rfl ?_
  refine r_iast 7 hX sh_68 dX3_put_6 rfl hw (fun hw => ?_)
  refine r_aload_n 8 hX dX3_put_7 rfl rfl 0 rfl ?_
  refine g_X3_23_49 11 hX dX3_put_8 rfl ?_
  refine r_iload_n 12 hX dX3_put_11 rfl rfl 1 rfl ?_
  refine r_iload_n 13 hX dX3_put_12 rfl rfl 3 rfl ?_
  refine r_iast 14 hX sh_69 dX3_put_13 rfl hw (fun hw => ?_)
  exact r_vret hX hR dX3_put_14 hw
set_option maxRecDepth 20000 in
set_option maxHeartbeats 4000000 in
theorem c_X3_fix (x1 : Int32) : Con yX3_fix cX3_fix 3 (none) (1) (fun ad => [.ref (ad 49), .int (x1), .ref (ad 20)]) (fun Q σ => wp_X3_fix x1 (aV Q) σ) := by
  refine con_intro (by decide +kernel) (fun _ => Nat.le_of_ble_eq_true rfl) (by omega) (fun X Q σ hX hR hw => ?_)
  have hX : CxB X RX3 cX3_fix 3 (1) := hX
  unfold wp_X3_fix at hw
  show At X 3 0 [(0, .ref (X.kad 49)), (1, .int (x1)), (2, .ref (X.kad 20))] [] σ
  refine r_aload_n 1 hX dX3_fix_0 rfl rfl 2 rfl ?_
  refine g_X3_53_20 4 hX dX3_fix_1 rfl ?_
  refine r_iload_n 5 hX dX3_fix_4 rfl rfl 1 rfl ?_
  refine r_aald 6 hX sh_21 dX3_fix_5 rfl hw (fun hv5 hw => ?_)
  refine r_iconst 7 hX dX3_fix_6 rfl 0 ic_0 ?_
  refine r_aload_n 8 hX dX3_fix_7 rfl rfl 0 rfl ?_
  refine g_X3_26_49 11 hX dX3_fix_8 rfl ?_
  refine r_iload_n 12 hX dX3_fix_11 rfl rfl 1 rfl ?_
  refine r_aald 13 hX sh_70 dX3_fix_12 rfl hw (fun hv12 hw => ?_)
  refine r_iconst 14 hX dX3_fix_13 rfl 0 ic_0 ?_
  refine r_bipush 16 hX dX3_fix_14 rfl 16 bi_16 ?_
  refine r_copyi 19 hX (shr_21 hv5) (shr_70 hv12) tw_203 tw_35 tw_36 tw_37 rfl nfw dX3_fix_16 rfl hw (fun hw => ?_)
  refine r_aload_n 20 hX dX3_fix_19 rfl rfl 0 rfl ?_
  refine g_X3_29_49 23 hX dX3_fix_20 rfl ?_
  refine r_iload_n 24 hX dX3_fix_23 rfl rfl 1 rfl ?_
  refine r_iconst 25 hX dX3_fix_24 rfl 1 ic_1 ?_
  refine r_zast 26 hX sh_74 dX3_fix_25 rfl hw (fun hw => ?_)
  exact r_vret hX hR dX3_fix_26 hw
theorem k_X3_70_X3_restFrom {X : Cx} {cc : ByteArray} {nL d pc : Nat} {lv : List (Nat × Value)} {rest : List Value} {σ : St} {K : Int32 → St → Prop} (q : Nat) (hX : CxB X RX3 cc nL d) (hdc : 121 + 1 ≤ d) (x1 : Int32) (x2 : Int32) (hst : (rest.map fun v => v.category).sum ≤ 8) (hd : decode cc pc = .ok (.invokevirtual 70, 3)) (hq : pc + 3 = q) (hw : wp_X3_restFrom x1 x2 K σ) (kk : ∀ (r : Int32) (τ : St), K r τ → At X nL q lv (.int r :: rest) τ) : At X nL pc lv (.int (x2) :: .int (x1) :: .ref (X.kad 49) :: rest) σ := r_callV (n := 2) q hX (k0 := 49) (c_X3_restFrom x1 x2) tw_204 tw_205 tw_206 tw_144 tw_207 ⟨by decide +kernel, by decide +kernel, by decide +kernel⟩ hdc (by decide) (As := [.int (x1), .int (x2)]) rfl rfl (by decide) ⟨_, _, _, rfl, rfl, rfl⟩ hst hd hq rfl (K := qI K) hw (kI kk)
set_option maxRecDepth 20000 in
set_option maxHeartbeats 4000000 in
theorem c_X3_succeeds : Con yX3_succeeds cX3_succeeds 1 (some .boolean) (122) (fun ad => [.ref (ad 49)]) (fun Q σ => wp_X3_succeeds  (aI Q) σ) := by
  refine con_intro (by decide +kernel) (fun _ => Nat.le_of_ble_eq_true rfl) (by omega) (fun X Q σ hX hR hw => ?_)
  have hX : CxB X RX3 cX3_succeeds 1 (122) := hX
  unfold wp_X3_succeeds at hw
  show At X 1 0 [(0, .ref (X.kad 49))] [] σ
  refine r_aload_n 1 hX dX3_succeeds_0 rfl rfl 0 rfl ?_
  refine r_iconst 2 hX dX3_succeeds_1 rfl 0 ic_0 ?_
  refine r_iconst 3 hX dX3_succeeds_2 rfl 0 ic_0 ?_
  refine k_X3_70_X3_restFrom 6 hX (by omega) (0) (0) (Nat.le_of_ble_eq_true rfl) dX3_succeeds_3 rfl hw (fun r3 σ3 hw => ?_)
  refine r_ldc 8 hX 1000000000 tw_161 dX3_succeeds_6 rfl ?_
  refine r_icmp_ge 15 11 hX dX3_succeeds_8 (by decide) rfl hw (fun hw => ?_) (fun hw => ?_)
  · refine r_iconst 16 hX dX3_succeeds_15 rfl 0 ic_0 ?_
    exact r_zret hX hR narrow_b0 dX3_succeeds_16 hw
  · refine r_iconst 12 hX dX3_succeeds_11 rfl 1 ic_1 ?_
    refine r_goto 16 hX dX3_succeeds_12 (by decide) ?_
    exact r_zret hX hR narrow_b1 dX3_succeeds_16 hw
set_option maxRecDepth 20000 in
set_option maxHeartbeats 4000000 in
theorem c_X3_breadth : Con yX3_breadth cX3_breadth 1 (some .int) (122) (fun ad => [.ref (ad 49)]) (fun Q σ => wp_X3_breadth  (aI Q) σ) := by
  refine con_intro (by decide +kernel) (fun _ => Nat.le_of_ble_eq_true rfl) (by omega) (fun X Q σ hX hR hw => ?_)
  have hX : CxB X RX3 cX3_breadth 1 (122) := hX
  unfold wp_X3_breadth at hw
  show At X 1 0 [(0, .ref (X.kad 49))] [] σ
  refine r_aload_n 1 hX dX3_breadth_0 rfl rfl 0 rfl ?_
  refine r_iconst 2 hX dX3_breadth_1 rfl 0 ic_0 ?_
  refine r_iconst 3 hX dX3_breadth_2 rfl 0 ic_0 ?_
  refine k_X3_70_X3_restFrom 6 hX (by omega) (0) (0) (Nat.le_of_ble_eq_true rfl) dX3_breadth_3 rfl hw (fun r3 σ3 hw => ?_)
  refine r_sipush 9 hX dX3_breadth_6 rfl 1000 si_1000 ?_
  refine r_idiv 10 hX dX3_breadth_9 rfl hw (fun hw => ?_)
  refine r_bipush 12 hX dX3_breadth_10 rfl 100 bi_100 ?_
  refine r_idiv 13 hX dX3_breadth_12 rfl hw (fun hw => ?_)
  exact r_iret hX hR dX3_breadth_13 hw
set_option maxRecDepth 20000 in
set_option maxHeartbeats 4000000 in
theorem c_X3_leans : Con yX3_leans cX3_leans 1 (some .int) (122) (fun ad => [.ref (ad 49)]) (fun Q σ => wp_X3_leans  (aI Q) σ) := by
  refine con_intro (by decide +kernel) (fun _ => Nat.le_of_ble_eq_true rfl) (by omega) (fun X Q σ hX hR hw => ?_)
  have hX : CxB X RX3 cX3_leans 1 (122) := hX
  unfold wp_X3_leans at hw
  show At X 1 0 [(0, .ref (X.kad 49))] [] σ
  refine r_aload_n 1 hX dX3_leans_0 rfl rfl 0 rfl ?_
  refine r_iconst 2 hX dX3_leans_1 rfl 0 ic_0 ?_
  refine r_iconst 3 hX dX3_leans_2 rfl 0 ic_0 ?_
  refine k_X3_70_X3_restFrom 6 hX (by omega) (0) (0) (Nat.le_of_ble_eq_true rfl) dX3_leans_3 rfl hw (fun r3 σ3 hw => ?_)
  refine r_sipush 9 hX dX3_leans_6 rfl 1000 si_1000 ?_
  refine r_idiv 10 hX dX3_leans_9 rfl hw (fun hw => ?_)
  refine r_bipush 12 hX dX3_leans_10 rfl 100 bi_100 ?_
  refine r_irem 13 hX dX3_leans_12 rfl hw (fun hw => ?_)
  exact r_iret hX hR dX3_leans_13 hw
set_option maxRecDepth 20000 in
set_option maxHeartbeats 4000000 in
theorem w_X3_tell_b38 {X : Cx} {Q : RV → St → Prop} (hX : CxB X RX3 cX3_tell 6 (122)) (hR : CxR X (none) Q) {K4 : Int32 → Int32 → St → Prop} (hK4 : ∀ (x2 : Int32) (x3 : Int32) (σ : St), K4 x2 x3 σ → At X 6 4 [(0, .ref (X.kad 49)), (1, .ref (X.kad 20)), (2, .int (x2)), (3, .int (x3))] [] σ) {K38 : Int32 → Int32 → Int32 → St → Prop} (hK38 : ∀ (x2 : Int32) (x3 : Int32) (x5 : Int32) (σ : St), K38 x2 x3 x5 σ → At X 6 38 [(0, .ref (X.kad 49)), (1, .ref (X.kad 20)), (2, .int (x2)), (3, .int (x3)), (5, .int (x5))] [] σ) (x2 : Int32) (x3 : Int32) (x5 : Int32) (σ : St) (hw : wp_X3_tell_b38 (aV Q) K4 K38 x2 x3 x5 σ) : At X 6 38 [(0, .ref (X.kad 49)), (1, .ref (X.kad 20)), (2, .int (x2)), (3, .int (x3)), (5, .int (x5))] [] σ := by
  unfold wp_X3_tell_b38 at hw
  refine r_iload 40 hX dX3_tell_38 rfl 4 rfl ?_
  refine r_iconst 41 hX dX3_tell_40 rfl 3 ic_3 ?_
  refine r_icmp_ge 76 44 hX dX3_tell_41 (by decide) rfl hw (fun hw => ?_) (fun hw => ?_)
  · refine r_iinc (lv' := [(3, .int (x3 + 1)), (0, .ref (X.kad 49)), (1, .ref (X.kad 20)), (2, .int (x2)), (5, .int (x5))]) 79 hX dX3_tell_76 rfl 3 rfl (x3 + 1) (ici_1 _) (by decide) rfl ?_
    refine r_goto 4 hX dX3_tell_79 (by decide) ?_
    refine r_sub [1, 2, 3, 0] rfl ?_
    exact hK4 _ _ _ hw
  · refine r_iload_n 45 hX dX3_tell_44 rfl rfl 3 rfl ?_
    refine r_aload_n 46 hX dX3_tell_45 rfl rfl 0 rfl ?_
    refine g_X3_20_49 49 hX dX3_tell_46 rfl ?_
    refine r_iload 51 hX dX3_tell_49 rfl 4 rfl ?_
    refine r_iald 52 hX sh_68 dX3_tell_51 rfl hw (fun hw => ?_)
    refine r_icmp_lt 70 55 hX dX3_tell_52 (by decide) rfl hw (fun hw => ?_) (fun hw => ?_)
    · refine r_iinc (lv' := [(5, .int (x5 + 1)), (0, .ref (X.kad 49)), (1, .ref (X.kad 20)), (2, .int (x2)), (3, .int (x3))]) 73 hX dX3_tell_70 rfl 4 rfl (x5 + 1) (ici_1 _) (by decide) rfl ?_
      refine r_goto 38 hX dX3_tell_73 (by decide) ?_
      refine r_sub [1, 2, 3, 4, 0] rfl ?_
      exact hK38 _ _ _ _ hw
    · refine r_aload_n 56 hX dX3_tell_55 rfl rfl 1 rfl ?_
      refine g_X3_53_20 59 hX dX3_tell_56 rfl ?_
      refine r_iload 61 hX dX3_tell_59 rfl 4 rfl ?_
      refine r_aald 62 hX sh_21 dX3_tell_61 rfl hw (fun hv61 hw => ?_)
      refine r_iload_n 63 hX dX3_tell_62 rfl rfl 3 rfl ?_
      refine r_iload_n 64 hX dX3_tell_63 rfl rfl 2 rfl ?_
      refine r_iload 66 hX dX3_tell_64 rfl 4 rfl ?_
      refine k_X3_75_X3_columnIn 69 hX (by omega) (x2) (x5) (Nat.le_of_ble_eq_true rfl) dX3_tell_66 rfl hw (fun r66 σ66 hw => ?_)
      refine r_iast 70 hX (shr_21 hv61) dX3_tell_69 rfl hw (fun hw => ?_)
      refine r_iinc (lv' := [(5, .int (x5 + 1)), (0, .ref (X.kad 49)), (1, .ref (X.kad 20)), (2, .int (x2)), (3, .int (x3))]) 73 hX dX3_tell_70 rfl 4 rfl (x5 + 1) (ici_1 _) (by decide) rfl ?_
      refine r_goto 38 hX dX3_tell_73 (by decide) ?_
      refine r_sub [1, 2, 3, 4, 0] rfl ?_
      exact hK38 _ _ _ _ hw
set_option maxRecDepth 20000 in
set_option maxHeartbeats 4000000 in
theorem w_X3_tell_l38 {X : Cx} {Q : RV → St → Prop} (hX : CxB X RX3 cX3_tell 6 (122)) (hR : CxR X (none) Q) {K4 : Int32 → Int32 → St → Prop} (hK4 : ∀ (x2 : Int32) (x3 : Int32) (σ : St), K4 x2 x3 σ → At X 6 4 [(0, .ref (X.kad 49)), (1, .ref (X.kad 20)), (2, .int (x2)), (3, .int (x3))] [] σ) (n : Nat) : ∀ (x2 : Int32) (x3 : Int32) (x5 : Int32) (σ : St), wp_X3_tell_l38 (aV Q) K4 n x2 x3 x5 σ → At X 6 38 [(0, .ref (X.kad 49)), (1, .ref (X.kad 20)), (2, .int (x2)), (3, .int (x3)), (5, .int (x5))] [] σ := by
  induction n with
  | zero => intro x2 x3 x5 σ h; exact h.elim
  | succ n ih => intro x2 x3 x5 σ h; exact w_X3_tell_b38  hX hR hK4 ih x2 x3 x5 σ h
set_option maxRecDepth 20000 in
set_option maxHeartbeats 4000000 in
theorem w_X3_tell_b4 {X : Cx} {Q : RV → St → Prop} (hX : CxB X RX3 cX3_tell 6 (122)) (hR : CxR X (none) Q) {K4 : Int32 → Int32 → St → Prop} (hK4 : ∀ (x2 : Int32) (x3 : Int32) (σ : St), K4 x2 x3 σ → At X 6 4 [(0, .ref (X.kad 49)), (1, .ref (X.kad 20)), (2, .int (x2)), (3, .int (x3))] [] σ) (x2 : Int32) (x3 : Int32) (σ : St) (hw : wp_X3_tell_b4 (aV Q) K4 x2 x3 σ) : At X 6 4 [(0, .ref (X.kad 49)), (1, .ref (X.kad 20)), (2, .int (x2)), (3, .int (x3))] [] σ := by
  unfold wp_X3_tell_b4 at hw
  refine r_iload_n 5 hX dX3_tell_4 rfl rfl 3 rfl ?_
  refine r_aload_n 6 hX dX3_tell_5 rfl rfl 0 rfl ?_
  refine g_X3_39_49 9 hX dX3_tell_6 rfl ?_
  refine r_icmp_gt 82 12 hX dX3_tell_9 (by decide) rfl hw (fun hw => ?_) (fun hw => ?_)
  · exact r_vret hX hR dX3_tell_82 hw
  · refine r_aload_n 13 hX dX3_tell_12 rfl rfl 0 rfl ?_
    refine r_iload_n 14 hX dX3_tell_13 rfl rfl 3 rfl ?_
    refine r_iload_n 15 hX dX3_tell_14 rfl rfl 2 rfl ?_
    refine k_X3_70_X3_restFrom 18 hX (by omega) (x3) (x2) (Nat.le_of_ble_eq_true rfl) dX3_tell_15 rfl hw (fun r15 σ15 hw => ?_)
    refine r_istore (lv' := [(4, .int (r15)), (0, .ref (X.kad 49)), (1, .ref (X.kad 20)), (2, .int (x2)), (3, .int (x3))]) 20 hX dX3_tell_18 rfl (by decide) rfl ?_
    refine r_iload 22 hX dX3_tell_20 rfl 0 rfl ?_
    refine r_ldc 24 hX 1000000000 tw_161 dX3_tell_22 rfl ?_
    refine r_icmp_lt 28 27 hX dX3_tell_24 (by decide) rfl hw (fun hw => ?_) (fun hw => ?_)
    · refine r_iload 30 hX dX3_tell_28 rfl 0 rfl ?_
      refine r_sipush 33 hX dX3_tell_30 rfl 1000 si_1000 ?_
      refine r_irem 34 hX dX3_tell_33 rfl hw (fun hw => ?_)
      refine r_istore_n (lv' := [(2, .int (r15 - r15 / 1000 * 1000)), (4, .int (r15)), (0, .ref (X.kad 49)), (1, .ref (X.kad 20)), (3, .int (x3))]) 35 hX dX3_tell_34 rfl rfl (by decide) rfl ?_
      refine r_iconst 36 hX dX3_tell_35 rfl 0 ic_0 ?_
      refine r_istore (lv' := [(5, .int (0)), (2, .int (r15 - r15 / 1000 * 1000)), (4, .int (r15)), (0, .ref (X.kad 49)), (1, .ref (X.kad 20)), (3, .int (x3))]) 38 hX dX3_tell_36 rfl (by decide) rfl ?_
      refine r_sub [3, 4, 1, 5, 0] rfl ?_
      obtain ⟨n, hw⟩ := hw
      exact w_X3_tell_l38 hX hR hK4 n _ _ _ _ hw
    · exact r_vret hX hR dX3_tell_27 hw
set_option maxRecDepth 20000 in
set_option maxHeartbeats 4000000 in
theorem w_X3_tell_l4 {X : Cx} {Q : RV → St → Prop} (hX : CxB X RX3 cX3_tell 6 (122)) (hR : CxR X (none) Q) (n : Nat) : ∀ (x2 : Int32) (x3 : Int32) (σ : St), wp_X3_tell_l4 (aV Q)  n x2 x3 σ → At X 6 4 [(0, .ref (X.kad 49)), (1, .ref (X.kad 20)), (2, .int (x2)), (3, .int (x3))] [] σ := by
  induction n with
  | zero => intro x2 x3 σ h; exact h.elim
  | succ n ih => intro x2 x3 σ h; exact w_X3_tell_b4  hX hR ih x2 x3 σ h
set_option maxRecDepth 20000 in
set_option maxHeartbeats 4000000 in
theorem c_X3_tell : Con yX3_tell cX3_tell 6 (none) (122) (fun ad => [.ref (ad 49), .ref (ad 20)]) (fun Q σ => wp_X3_tell  (aV Q) σ) := by
  refine con_intro (by decide +kernel) (fun _ => Nat.le_of_ble_eq_true rfl) (by omega) (fun X Q σ hX hR hw => ?_)
  have hX : CxB X RX3 cX3_tell 6 (122) := hX
  unfold wp_X3_tell at hw
  show At X 6 0 [(0, .ref (X.kad 49)), (1, .ref (X.kad 20))] [] σ
  refine r_iconst 1 hX dX3_tell_0 rfl 0 ic_0 ?_
  refine r_istore_n (lv' := [(2, .int (0)), (0, .ref (X.kad 49)), (1, .ref (X.kad 20))]) 2 hX dX3_tell_1 rfl rfl (by decide) rfl ?_
  refine r_iconst 3 hX dX3_tell_2 rfl 0 ic_0 ?_
  refine r_istore_n (lv' := [(3, .int (0)), (2, .int (0)), (0, .ref (X.kad 49)), (1, .ref (X.kad 20))]) 4 hX dX3_tell_3 rfl rfl (by decide) rfl ?_
  refine r_sub [2, 3, 1, 0] rfl ?_
  obtain ⟨n, hw⟩ := hw
  exact w_X3_tell_l4 hX hR n _ _ _ hw
