theorem k_rec {Rw : Int32 → Int32 → (Int32 → St → Prop) → St → Prop} {dR : Nat} (hRc : ∀ a b : Int32, Con yX3_restFrom cX3_restFrom 3 (some .int) dR (fun ad => [.ref (ad 49), .int a, .int b]) (fun Q σ => Rw a b (aI Q) σ)) {X : Cx} {cc : ByteArray} {nL d pc : Nat} {lv : List (Nat × Value)} {rest : List Value} {σ : St} {K : Int32 → St → Prop} (q : Nat) (hX : CxB X RX3 cc nL d) (hdc : dR + 1 ≤ d) (a b : Int32) (hst : (rest.map fun v => v.category).sum ≤ 8) (hd : decode cc pc = .ok (.invokevirtual 67, 3)) (hq : pc + 3 = q) (hw : Rw a b K σ) (kk : ∀ (r : Int32) (τ : St), K r τ → At X nL q lv (.int r :: rest) τ) : At X nL pc lv (.int b :: .int a :: .ref (X.kad 49) :: rest) σ := r_callV (n := 2) q hX (k0 := 49) (hRc a b) tw_188 tw_189 tw_190 tw_144 tw_191 ⟨by decide +kernel, by decide +kernel, by decide +kernel⟩ hdc (by decide) (As := [.int a, .int b]) rfl rfl (by decide) ⟨_, _, _, rfl, rfl, rfl⟩ hst hd hq rfl (K := qI K) hw (kI kk)
set_option maxRecDepth 20000 in
set_option maxHeartbeats 4000000 in
theorem c_X3_columnIn (x0 : Int32) (x1 : Int32) : Con yX3_columnIn cX3_columnIn 2 (some .int) (1) (fun ad => [.int (x0), .int (x1)]) (fun Q σ => wp_X3_columnIn x0 x1 (aI Q) σ) := by
  refine con_intro (by decide +kernel) (fun _ => Nat.le_of_ble_eq_true rfl) (by omega) (fun X Q σ hX hR hw => ?_)
  have hX : CxB X RX3 cX3_columnIn 2 (1) := hX
  unfold wp_X3_columnIn at hw
  show At X 2 0 [(0, .int (x0)), (1, .int (x1))] [] σ
  refine r_iload_n 1 hX dX3_columnIn_0 rfl rfl 1 rfl ?_
  refine r_if_ne 9 4 hX dX3_columnIn_1 (by decide) rfl hw (fun hw => ?_) (fun hw => ?_)
  · refine r_iload_n 10 hX dX3_columnIn_9 rfl rfl 1 rfl ?_
    refine r_iconst 11 hX dX3_columnIn_10 rfl 1 ic_1 ?_
    refine r_icmp_ne 24 14 hX dX3_columnIn_11 (by decide) rfl hw (fun hw => ?_) (fun hw => ?_)
    · refine r_iload_n 25 hX dX3_columnIn_24 rfl rfl 0 rfl ?_
      refine r_bipush 27 hX dX3_columnIn_25 rfl 10 bi_10 ?_
      refine r_irem 28 hX dX3_columnIn_27 rfl hw (fun hw => ?_)
      exact r_iret hX hR dX3_columnIn_28 hw
    · refine r_iload_n 15 hX dX3_columnIn_14 rfl rfl 0 rfl ?_
      refine r_bipush 17 hX dX3_columnIn_15 rfl 10 bi_10 ?_
      refine r_idiv 18 hX dX3_columnIn_17 rfl hw (fun hw => ?_)
      refine r_bipush 20 hX dX3_columnIn_18 rfl 10 bi_10 ?_
      refine r_irem 21 hX dX3_columnIn_20 rfl hw (fun hw => ?_)
      refine r_goto 28 hX dX3_columnIn_21 (by decide) ?_
      exact r_iret hX hR dX3_columnIn_28 hw
  · refine r_iload_n 5 hX dX3_columnIn_4 rfl rfl 0 rfl ?_
    refine r_bipush 7 hX dX3_columnIn_5 rfl 100 bi_100 ?_
    refine r_idiv 8 hX dX3_columnIn_7 rfl hw (fun hw => ?_)
    exact r_iret hX hR dX3_columnIn_8 hw
set_option maxRecDepth 20000 in
set_option maxHeartbeats 4000000 in
theorem c_X3_lowest (x1 : Int32) (x2 : Int32) (x3 : Int32) : Con yX3_lowest cX3_lowest 4 (some .int) (1) (fun ad => [.ref (ad 49), .int (x1), .int (x2), .int (x3)]) (fun Q σ => wp_X3_lowest x1 x2 x3 (aI Q) σ) := by
  refine con_intro (by decide +kernel) (fun _ => Nat.le_of_ble_eq_true rfl) (by omega) (fun X Q σ hX hR hw => ?_)
  have hX : CxB X RX3 cX3_lowest 4 (1) := hX
  unfold wp_X3_lowest at hw
  show At X 4 0 [(0, .ref (X.kad 49)), (1, .int (x1)), (2, .int (x2)), (3, .int (x3))] [] σ
  refine r_iload_n 1 hX dX3_lowest_0 rfl rfl 2 rfl ?_
  refine r_aload_n 2 hX dX3_lowest_1 rfl rfl 0 rfl ?_
  refine g_X3_23_49 5 hX dX3_lowest_2 rfl ?_
  refine r_iload_n 6 hX dX3_lowest_5 rfl rfl 1 rfl ?_
  refine r_iald 7 hX sh_68 dX3_lowest_6 rfl hw (fun hw => ?_)
  refine r_icmp_le 20 10 hX dX3_lowest_7 (by decide) rfl hw (fun hw => ?_) (fun hw => ?_)
  · refine r_iconst 21 hX dX3_lowest_20 rfl 0 ic_0 ?_
    exact r_iret hX hR dX3_lowest_21 hw
  · refine r_iconst 11 hX dX3_lowest_10 rfl 0 ic_0 ?_
    refine r_iload_n 12 hX dX3_lowest_11 rfl rfl 3 rfl ?_
    refine r_iconst 13 hX dX3_lowest_12 rfl 1 ic_1 ?_
    refine r_isub 14 hX dX3_lowest_13 rfl ?_
    refine r_mmax 17 hX tw_136 tw_137 tw_74 tw_138 (Nat.le_of_ble_eq_true rfl) dX3_lowest_14 rfl ?_
    refine r_topi hw (fun v14 hw => ?_)
    refine r_goto 21 hX dX3_lowest_17 (by decide) ?_
    exact r_iret hX hR dX3_lowest_21 hw
set_option maxRecDepth 20000 in
set_option maxHeartbeats 4000000 in
theorem c_X3_highest (x1 : Int32) (x2 : Int32) (x3 : Int32) : Con yX3_highest cX3_highest 4 (some .int) (1) (fun ad => [.ref (ad 49), .int (x1), .int (x2), .int (x3)]) (fun Q σ => wp_X3_highest x1 x2 x3 (aI Q) σ) := by
  refine con_intro (by decide +kernel) (fun _ => Nat.le_of_ble_eq_true rfl) (by omega) (fun X Q σ hX hR hw => ?_)
  have hX : CxB X RX3 cX3_highest 4 (1) := hX
  unfold wp_X3_highest at hw
  show At X 4 0 [(0, .ref (X.kad 49)), (1, .int (x1)), (2, .int (x2)), (3, .int (x3))] [] σ
  refine r_iload_n 1 hX dX3_highest_0 rfl rfl 2 rfl ?_
  refine r_aload_n 2 hX dX3_highest_1 rfl rfl 0 rfl ?_
  refine g_X3_23_49 5 hX dX3_highest_2 rfl ?_
  refine r_iload_n 6 hX dX3_highest_5 rfl rfl 1 rfl ?_
  refine r_iald 7 hX sh_68 dX3_highest_6 rfl hw (fun hw => ?_)
  refine r_icmp_ge 12 10 hX dX3_highest_7 (by decide) rfl hw (fun hw => ?_) (fun hw => ?_)
  · refine r_iload_n 13 hX dX3_highest_12 rfl rfl 2 rfl ?_
    refine r_aload_n 14 hX dX3_highest_13 rfl rfl 0 rfl ?_
    refine g_X3_23_49 17 hX dX3_highest_14 rfl ?_
    refine r_iload_n 18 hX dX3_highest_17 rfl rfl 1 rfl ?_
    refine r_iald 19 hX sh_68 dX3_highest_18 rfl hw (fun hw => ?_)
    refine r_icmp_le 33 22 hX dX3_highest_19 (by decide) rfl hw (fun hw => ?_) (fun hw => ?_)
    · refine r_bipush 35 hX dX3_highest_33 rfl 9 bi_9 ?_
      exact r_iret hX hR dX3_highest_35 hw
    · refine r_bipush 24 hX dX3_highest_22 rfl 9 bi_9 ?_
      refine r_iload_n 25 hX dX3_highest_24 rfl rfl 3 rfl ?_
      refine r_iconst 26 hX dX3_highest_25 rfl 1 ic_1 ?_
      refine r_iadd 27 hX dX3_highest_26 rfl ?_
      refine r_mmin 30 hX tw_139 tw_103 tw_74 tw_104 (Nat.le_of_ble_eq_true rfl) dX3_highest_27 rfl ?_
      refine r_topi hw (fun v27 hw => ?_)
      refine r_goto 35 hX dX3_highest_30 (by decide) ?_
      exact r_iret hX hR dX3_highest_35 hw
  · refine r_iconst 11 hX dX3_highest_10 rfl 0 ic_0 ?_
    exact r_iret hX hR dX3_highest_11 hw
set_option maxRecDepth 20000 in
set_option maxHeartbeats 4000000 in
theorem c_X3_leftBy (x1 : Int32) (x2 : Int32) (x3 : Int32) (x4 : Int32) (x5 : Int32) : Con yX3_leftBy cX3_leftBy 8 (some .int) (1) (fun ad => [.ref (ad 49), .int (x1), .int (x2), .int (x3), .int (x4), .int (x5)]) (fun Q σ => wp_X3_leftBy x1 x2 x3 x4 x5 (aI Q) σ) := by
  refine con_intro (by decide +kernel) (fun _ => Nat.le_of_ble_eq_true rfl) (by omega) (fun X Q σ hX hR hw => ?_)
  have hX : CxB X RX3 cX3_leftBy 8 (1) := hX
  unfold wp_X3_leftBy at hw
  show At X 8 0 [(0, .ref (X.kad 49)), (1, .int (x1)), (2, .int (x2)), (3, .int (x3)), (4, .int (x4)), (5, .int (x5))] [] σ
  refine r_iload 2 hX dX3_leftBy_0 rfl 4 rfl ?_
  refine r_aload_n 3 hX dX3_leftBy_2 rfl rfl 0 rfl ?_
  refine g_X3_23_49 6 hX dX3_leftBy_3 rfl ?_
  refine r_iload_n 7 hX dX3_leftBy_6 rfl rfl 1 rfl ?_
  refine r_iald 8 hX sh_68 dX3_leftBy_7 rfl hw (fun hw => ?_)
  refine r_icmp_lt 22 11 hX dX3_leftBy_8 (by decide) rfl hw (fun hw => ?_) (fun hw => ?_)
  · refine r_sipush 25 hX dX3_leftBy_22 rfl 1023 si_1023 ?_
    exact r_iret hX hR dX3_leftBy_25 hw
  · refine r_iload 13 hX dX3_leftBy_11 rfl 4 rfl ?_
    refine r_aload_n 14 hX dX3_leftBy_13 rfl rfl 0 rfl ?_
    refine g_X3_23_49 17 hX dX3_leftBy_14 rfl ?_
    refine r_iload_n 18 hX dX3_leftBy_17 rfl rfl 3 rfl ?_
    refine r_iald 19 hX sh_68 dX3_leftBy_18 rfl hw (fun hw => ?_)
    refine r_icmp_ge 26 22 hX dX3_leftBy_19 (by decide) rfl hw (fun hw => ?_) (fun hw => ?_)
    · refine r_iconst 27 hX dX3_leftBy_26 rfl 1 ic_1 ?_
      refine r_iconst 28 hX dX3_leftBy_27 rfl 0 ic_0 ?_
      refine r_iload_n 29 hX dX3_leftBy_28 rfl rfl 2 rfl ?_
      refine r_aload_n 30 hX dX3_leftBy_29 rfl rfl 0 rfl ?_
      refine g_X3_35_49 33 hX dX3_leftBy_30 rfl ?_
      refine r_isub 34 hX dX3_leftBy_33 rfl ?_
      refine r_mmax 37 hX tw_136 tw_137 tw_74 tw_138 (Nat.le_of_ble_eq_true rfl) dX3_leftBy_34 rfl ?_
      refine r_topi hw (fun v34 hw => ?_)
      refine r_ishl 38 hX dX3_leftBy_37 rfl ?_
      refine r_iconst 39 hX dX3_leftBy_38 rfl 1 ic_1 ?_
      refine r_isub 40 hX dX3_leftBy_39 rfl ?_
      refine r_istore (lv' := [(6, .int (((1 : Int32) <<< (v34 &&& 31)) - 1)), (0, .ref (X.kad 49)), (1, .int (x1)), (2, .int (x2)), (3, .int (x3)), (4, .int (x4)), (5, .int (x5))]) 42 hX dX3_leftBy_40 rfl (by decide) rfl ?_
      refine r_sipush 45 hX dX3_leftBy_42 rfl 1023 si_1023 ?_
      refine r_iload_n 46 hX dX3_leftBy_45 rfl rfl 3 rfl ?_
      refine r_aload_n 47 hX dX3_leftBy_46 rfl rfl 1 rfl ?_
      refine g_X3_35_49 50 hX dX3_leftBy_47 rfl ?_
      refine r_iadd 51 hX dX3_leftBy_50 rfl ?_
      refine r_iconst 52 hX dX3_leftBy_51 rfl 1 ic_1 ?_
      refine r_iadd 53 hX dX3_leftBy_52 rfl ?_
      refine r_ishl 54 hX dX3_leftBy_53 rfl ?_
      refine r_topi hw (fun v54 hw => ?_)
      refine r_istore (lv' := [(7, .int (v54)), (6, .int (((1 : Int32) <<< (v34 &&& 31)) - 1)), (0, .ref (X.kad 49)), (1, .int (x1)), (2, .int (x2)), (3, .int (x3)), (4, .int (x4)), (5, .int (x5))]) 56 hX dX3_leftBy_54 rfl (by decide) rfl ?_
      refine r_iload 58 hX dX3_leftBy_56 rfl 6 rfl ?_
      refine r_aload_n 59 hX dX3_leftBy_58 rfl rfl 2 rfl ?_
      refine g_X3_23_49 62 hX dX3_leftBy_59 rfl ?_
      refine r_iload_n 63 hX dX3_leftBy_62 rfl rfl 3 rfl ?_
      refine r_iald 64 hX sh_68 dX3_leftBy_63 rfl hw (fun hw => ?_)
      refine r_icmp_eq 78 67 hX dX3_leftBy_64 (by decide) rfl hw (fun hw => ?_) (fun hw => ?_)
      · refine r_iload 80 hX dX3_leftBy_78 rfl 1 rfl ?_
        refine r_iload 82 hX dX3_leftBy_80 rfl 0 rfl ?_
        refine r_ior 83 hX dX3_leftBy_82 rfl ?_
        exact r_iret hX hR dX3_leftBy_83 hw
      · refine r_iload 69 hX dX3_leftBy_67 rfl 6 rfl ?_
        refine r_aload_n 70 hX dX3_leftBy_69 rfl rfl 2 rfl ?_
        refine g_X3_23_49 73 hX dX3_leftBy_70 rfl ?_
        refine r_iload_n 74 hX dX3_leftBy_73 rfl rfl 5 rfl ?_
        refine r_iald 75 hX sh_68 dX3_leftBy_74 rfl hw (fun hw => ?_)
        refine r_icmp_ne 84 78 hX dX3_leftBy_75 (by decide) rfl hw (fun hw => ?_) (fun hw => ?_)
        · refine r_iload 86 hX dX3_leftBy_84 rfl 7 rfl ?_
          refine r_if_eq 94 89 hX dX3_leftBy_86 (by decide) rfl hw (fun hw => ?_) (fun hw => ?_)
          · refine r_iload 96 hX dX3_leftBy_94 rfl 1 rfl ?_
            exact r_iret hX hR dX3_leftBy_96 hw
          · refine r_iload 91 hX dX3_leftBy_89 rfl 0 rfl ?_
            refine r_goto 96 hX dX3_leftBy_91 (by decide) ?_
            exact r_iret hX hR dX3_leftBy_96 hw
        · refine r_iload 80 hX dX3_leftBy_78 rfl 1 rfl ?_
          refine r_iload 82 hX dX3_leftBy_80 rfl 0 rfl ?_
          refine r_ior 83 hX dX3_leftBy_82 rfl ?_
          exact r_iret hX hR dX3_leftBy_83 hw
    · refine r_sipush 25 hX dX3_leftBy_22 rfl 1023 si_1023 ?_
      exact r_iret hX hR dX3_leftBy_25 hw
set_option maxRecDepth 20000 in
set_option maxHeartbeats 4000000 in
theorem c_X3_lean (x1 : Int32) (x2 : Int32) (x3 : Int32) : Con yX3_lean cX3_lean 4 (some .int) (1) (fun ad => [.ref (ad 49), .int (x1), .int (x2), .int (x3)]) (fun Q σ => wp_X3_lean x1 x2 x3 (aI Q) σ) := by
  refine con_intro (by decide +kernel) (fun _ => Nat.le_of_ble_eq_true rfl) (by omega) (fun X Q σ hX hR hw => ?_)
  have hX : CxB X RX3 cX3_lean 4 (1) := hX
  unfold wp_X3_lean at hw
  show At X 4 0 [(0, .ref (X.kad 49)), (1, .int (x1)), (2, .int (x2)), (3, .int (x3))] [] σ
  refine r_iload_n 1 hX dX3_lean_0 rfl rfl 2 rfl ?_
  refine r_aload_n 2 hX dX3_lean_1 rfl rfl 0 rfl ?_
  refine g_X3_23_49 5 hX dX3_lean_2 rfl ?_
  refine r_iload_n 6 hX dX3_lean_5 rfl rfl 1 rfl ?_
  refine r_iald 7 hX sh_68 dX3_lean_6 rfl hw (fun hw => ?_)
  refine r_icmp_le 18 10 hX dX3_lean_7 (by decide) rfl hw (fun hw => ?_) (fun hw => ?_)
  · refine r_iconst 19 hX dX3_lean_18 rfl 0 ic_0 ?_
    exact r_iret hX hR dX3_lean_19 hw
  · refine r_iload_n 11 hX dX3_lean_10 rfl rfl 3 rfl ?_
    refine r_if_eq 18 14 hX dX3_lean_11 (by decide) rfl hw (fun hw => ?_) (fun hw => ?_)
    · refine r_iconst 19 hX dX3_lean_18 rfl 0 ic_0 ?_
      exact r_iret hX hR dX3_lean_19 hw
    · refine r_iconst 15 hX dX3_lean_14 rfl 1 ic_1 ?_
      refine r_goto 19 hX dX3_lean_15 (by decide) ?_
      exact r_iret hX hR dX3_lean_19 hw
theorem k_X3_72_X3_columnIn {X : Cx} {cc : ByteArray} {nL d pc : Nat} {lv : List (Nat × Value)} {rest : List Value} {σ : St} {K : Int32 → St → Prop} (q : Nat) (hX : CxB X RX3 cc nL d) (hdc : 1 + 1 ≤ d) (x0 : Int32) (x1 : Int32) (hst : (rest.map fun v => v.category).sum ≤ 8) (hd : decode cc pc = .ok (.invokestatic 72, 3)) (hq : pc + 3 = q) (hw : wp_X3_columnIn x0 x1 K σ) (kk : ∀ (r : Int32) (τ : St), K r τ → At X nL q lv (.int r :: rest) τ) : At X nL pc lv (.int (x1) :: .int (x0) :: rest) σ := r_callS (n := 2) q hX (c_X3_columnIn x0 x1) tw_142 tw_143 tw_144 tw_145 ⟨by decide +kernel, by decide +kernel, by decide +kernel⟩ hdc (by decide) (As := [.int (x0), .int (x1)]) rfl rfl hst hd hq rfl (K := qI K) hw (kI kk)
set_option maxRecDepth 20000 in
set_option maxHeartbeats 4000000 in
theorem w_X3_breadthOf_b8 {X : Cx} {Q : RV → St → Prop} (hX : CxB X RX3 cX3_breadthOf 5 (2)) (hR : CxR X (some .int) Q) {K8 : Int32 → Int32 → Int32 → Int32 → St → Prop} (hK8 : ∀ (x1 : Int32) (x2 : Int32) (x3 : Int32) (x4 : Int32) (σ : St), K8 x1 x2 x3 x4 σ → At X 5 8 [(0, .ref (X.kad 49)), (1, .int (x1)), (2, .int (x2)), (3, .int (x3)), (4, .int (x4))] [] σ) (x1 : Int32) (x2 : Int32) (x3 : Int32) (x4 : Int32) (σ : St) (hw : wp_X3_breadthOf_b8 (aI Q) K8 x1 x2 x3 x4 σ) : At X 5 8 [(0, .ref (X.kad 49)), (1, .int (x1)), (2, .int (x2)), (3, .int (x3)), (4, .int (x4))] [] σ := by
  unfold wp_X3_breadthOf_b8 at hw
  refine r_iload 10 hX dX3_breadthOf_8 rfl 4 rfl ?_
  refine r_iconst 11 hX dX3_breadthOf_10 rfl 3 ic_3 ?_
  refine r_icmp_ge 56 14 hX dX3_breadthOf_11 (by decide) rfl hw (fun hw => ?_) (fun hw => ?_)
  · refine r_iconst 57 hX dX3_breadthOf_56 rfl 1 ic_1 ?_
    refine r_iload_n 58 hX dX3_breadthOf_57 rfl rfl 3 rfl ?_
    refine r_iload_n 59 hX dX3_breadthOf_58 rfl rfl 2 rfl ?_
    refine r_isub 60 hX dX3_breadthOf_59 rfl ?_
    refine r_iconst 61 hX dX3_breadthOf_60 rfl 1 ic_1 ?_
    refine r_iadd 62 hX dX3_breadthOf_61 rfl ?_
    refine r_mmax 65 hX tw_136 tw_137 tw_74 tw_138 (Nat.le_of_ble_eq_true rfl) dX3_breadthOf_62 rfl ?_
    refine r_topi hw (fun v62 hw => ?_)
    exact r_iret hX hR dX3_breadthOf_65 hw
  · refine r_aload_n 15 hX dX3_breadthOf_14 rfl rfl 0 rfl ?_
    refine g_X3_32_49 18 hX dX3_breadthOf_15 rfl ?_
    refine r_aload_n 19 hX dX3_breadthOf_18 rfl rfl 0 rfl ?_
    refine g_X3_23_49 22 hX dX3_breadthOf_19 rfl ?_
    refine r_iload 24 hX dX3_breadthOf_22 rfl 4 rfl ?_
    refine r_iald 25 hX sh_68 dX3_breadthOf_24 rfl hw (fun hw => ?_)
    refine r_icmp_lt 50 28 hX dX3_breadthOf_25 (by decide) rfl hw (fun hw => ?_) (fun hw => ?_)
    · refine r_iinc (lv' := [(4, .int (x4 + 1)), (0, .ref (X.kad 49)), (1, .int (x1)), (2, .int (x2)), (3, .int (x3))]) 53 hX dX3_breadthOf_50 rfl 4 rfl (x4 + 1) (ici_1 _) (by decide) rfl ?_
      refine r_goto 8 hX dX3_breadthOf_53 (by decide) ?_
      refine r_sub [1, 2, 3, 4, 0] rfl ?_
      exact hK8 _ _ _ _ _ hw
    · refine r_iload_n 29 hX dX3_breadthOf_28 rfl rfl 2 rfl ?_
      refine r_iload_n 30 hX dX3_breadthOf_29 rfl rfl 1 rfl ?_
      refine r_iload 32 hX dX3_breadthOf_30 rfl 4 rfl ?_
      refine k_X3_72_X3_columnIn 35 hX (by omega) (x1) (x4) (Nat.le_of_ble_eq_true rfl) dX3_breadthOf_32 rfl hw (fun r32 σ32 hw => ?_)
      refine r_mmin 38 hX tw_139 tw_103 tw_74 tw_104 (Nat.le_of_ble_eq_true rfl) dX3_breadthOf_35 rfl ?_
      refine r_istore_n (lv' := [(2, .int ((if r32 < x2 then r32 else x2))), (0, .ref (X.kad 49)), (1, .int (x1)), (3, .int (x3)), (4, .int (x4))]) 39 hX dX3_breadthOf_38 rfl rfl (by decide) rfl ?_
      refine r_iload_n 40 hX dX3_breadthOf_39 rfl rfl 3 rfl ?_
      refine r_iload_n 41 hX dX3_breadthOf_40 rfl rfl 2 rfl ?_
      refine r_iload 43 hX dX3_breadthOf_41 rfl 4 rfl ?_
      refine k_X3_72_X3_columnIn 46 hX (by omega) (x1) (x4) (Nat.le_of_ble_eq_true rfl) dX3_breadthOf_43 rfl hw (fun r43 σ43 hw => ?_)
      refine r_mmax 49 hX tw_136 tw_137 tw_74 tw_138 (Nat.le_of_ble_eq_true rfl) dX3_breadthOf_46 rfl ?_
      refine r_istore_n (lv' := [(3, .int ((if x3 < r43 then r43 else x3))), (2, .int ((if r32 < x2 then r32 else x2))), (0, .ref (X.kad 49)), (1, .int (x1)), (4, .int (x4))]) 50 hX dX3_breadthOf_49 rfl rfl (by decide) rfl ?_
      refine r_iinc (lv' := [(4, .int (x4 + 1)), (3, .int ((if x3 < r43 then r43 else x3))), (2, .int ((if r32 < x2 then r32 else x2))), (0, .ref (X.kad 49)), (1, .int (x1))]) 53 hX dX3_breadthOf_50 rfl 4 rfl (x4 + 1) (ici_1 _) (by decide) rfl ?_
      refine r_goto 8 hX dX3_breadthOf_53 (by decide) ?_
      refine r_sub [3, 4, 2, 1, 0] rfl ?_
      exact hK8 _ _ _ _ _ hw
set_option maxRecDepth 20000 in
set_option maxHeartbeats 4000000 in
theorem w_X3_breadthOf_l8 {X : Cx} {Q : RV → St → Prop} (hX : CxB X RX3 cX3_breadthOf 5 (2)) (hR : CxR X (some .int) Q) (n : Nat) : ∀ (x1 : Int32) (x2 : Int32) (x3 : Int32) (x4 : Int32) (σ : St), wp_X3_breadthOf_l8 (aI Q)  n x1 x2 x3 x4 σ → At X 5 8 [(0, .ref (X.kad 49)), (1, .int (x1)), (2, .int (x2)), (3, .int (x3)), (4, .int (x4))] [] σ := by
  induction n with
  | zero => intro x1 x2 x3 x4 σ h; exact h.elim
  | succ n ih => intro x1 x2 x3 x4 σ h; exact w_X3_breadthOf_b8  hX hR ih x1 x2 x3 x4 σ h
set_option maxRecDepth 20000 in
set_option maxHeartbeats 4000000 in
theorem c_X3_breadthOf (x1 : Int32) : Con yX3_breadthOf cX3_breadthOf 5 (some .int) (2) (fun ad => [.ref (ad 49), .int (x1)]) (fun Q σ => wp_X3_breadthOf x1 (aI Q) σ) := by
  refine con_intro (by decide +kernel) (fun _ => Nat.le_of_ble_eq_true rfl) (by omega) (fun X Q σ hX hR hw => ?_)
  have hX : CxB X RX3 cX3_breadthOf 5 (2) := hX
  unfold wp_X3_breadthOf at hw
  show At X 5 0 [(0, .ref (X.kad 49)), (1, .int (x1))] [] σ
  refine r_bipush 2 hX dX3_breadthOf_0 rfl 10 bi_10 ?_
  refine r_istore_n (lv' := [(2, .int (10)), (0, .ref (X.kad 49)), (1, .int (x1))]) 3 hX dX3_breadthOf_2 rfl rfl (by decide) rfl ?_
  refine r_iconst 4 hX dX3_breadthOf_3 rfl (-1) ic_m1 ?_
  refine r_istore_n (lv' := [(3, .int ((-1))), (2, .int (10)), (0, .ref (X.kad 49)), (1, .int (x1))]) 5 hX dX3_breadthOf_4 rfl rfl (by decide) rfl ?_
  refine r_iconst 6 hX dX3_breadthOf_5 rfl 0 ic_0 ?_
  refine r_istore (lv' := [(4, .int (0)), (3, .int ((-1))), (2, .int (10)), (0, .ref (X.kad 49)), (1, .int (x1))]) 8 hX dX3_breadthOf_6 rfl (by decide) rfl ?_
  refine r_sub [3, 4, 2, 1, 0] rfl ?_
  obtain ⟨n, hw⟩ := hw
  exact w_X3_breadthOf_l8 hX hR n _ _ _ _ _ hw
set_option maxRecDepth 20000 in
set_option maxHeartbeats 4000000 in
theorem c_X3_restBy {Rw : Int32 → Int32 → (Int32 → St → Prop) → St → Prop} {dR : Nat} (hRc : ∀ a b : Int32, Con yX3_restFrom cX3_restFrom 3 (some .int) dR (fun ad => [.ref (ad 49), .int a, .int b]) (fun Q σ => Rw a b (aI Q) σ)) (x1 : Int32) (x2 : Int32) (x3 : Int32) : Con yX3_restBy cX3_restBy 5 (some .int) (dR + 1) (fun ad => [.ref (ad 49), .int (x1), .int (x2), .int (x3)]) (fun Q σ => wp_X3_restBy Rw x1 x2 x3 (aI Q) σ) := by
  refine con_intro (by decide +kernel) (fun _ => Nat.le_of_ble_eq_true rfl) (by omega) (fun X Q σ hX hR hw => ?_)
  have hX : CxB X RX3 cX3_restBy 5 (dR + 1) := hX
  unfold wp_X3_restBy at hw
  show At X 5 0 [(0, .ref (X.kad 49)), (1, .int (x1)), (2, .int (x2)), (3, .int (x3))] [] σ
  refine r_aload_n 1 hX dX3_restBy_0 rfl rfl 0 rfl ?_
  refine r_iload_n 2 hX dX3_restBy_1 rfl rfl 1 rfl ?_
  refine r_iconst 3 hX dX3_restBy_2 rfl 1 ic_1 ?_
  refine r_iadd 4 hX dX3_restBy_3 rfl ?_
  refine r_iload_n 5 hX dX3_restBy_4 rfl rfl 2 rfl ?_
  refine k_rec hRc 8 hX (by omega) (x1 + 1) (x2) (Nat.le_of_ble_eq_true rfl) dX3_restBy_5 rfl hw (fun r5 σ5 hw => ?_)
  refine r_istore (lv' := [(4, .int (r5)), (0, .ref (X.kad 49)), (1, .int (x1)), (2, .int (x2)), (3, .int (x3))]) 10 hX dX3_restBy_8 rfl (by decide) rfl ?_
  refine r_iload 12 hX dX3_restBy_10 rfl 0 rfl ?_
  refine r_ldc 14 hX 1000000000 tw_146 dX3_restBy_12 rfl ?_
  refine r_icmp_lt 22 17 hX dX3_restBy_14 (by decide) rfl hw (fun hw => ?_) (fun hw => ?_)
  · refine r_iload 24 hX dX3_restBy_22 rfl 0 rfl ?_
    refine r_sipush 27 hX dX3_restBy_24 rfl 1000 si_1000 ?_
    refine r_idiv 28 hX dX3_restBy_27 rfl hw (fun hw => ?_)
    refine r_iload_n 29 hX dX3_restBy_28 rfl rfl 4 rfl ?_
    refine r_iadd 30 hX dX3_restBy_29 rfl ?_
    refine r_sipush 33 hX dX3_restBy_30 rfl 1000 si_1000 ?_
    refine r_imul 34 hX dX3_restBy_33 rfl ?_
    refine r_iload_n 35 hX dX3_restBy_34 rfl rfl 3 rfl ?_
    refine r_iadd 36 hX dX3_restBy_35 rfl ?_
    exact r_iret hX hR dX3_restBy_36 hw
  · refine r_ldc 19 hX 1000000000 tw_146 dX3_restBy_17 rfl ?_
    refine r_goto 36 hX dX3_restBy_19 (by decide) ?_
    exact r_iret hX hR dX3_restBy_36 hw
theorem k_X3_90_X3_highest {X : Cx} {cc : ByteArray} {nL d pc : Nat} {lv : List (Nat × Value)} {rest : List Value} {σ : St} {K : Int32 → St → Prop} (q : Nat) (hX : CxB X RX3 cc nL d) (hdc : 1 + 1 ≤ d) (x1 : Int32) (x2 : Int32) (x3 : Int32) (hst : (rest.map fun v => v.category).sum ≤ 8) (hd : decode cc pc = .ok (.invokevirtual 90, 3)) (hq : pc + 3 = q) (hw : wp_X3_highest x1 x2 x3 K σ) (kk : ∀ (r : Int32) (τ : St), K r τ → At X nL q lv (.int r :: rest) τ) : At X nL pc lv (.int (x3) :: .int (x2) :: .int (x1) :: .ref (X.kad 49) :: rest) σ := r_callV (n := 3) q hX (k0 := 49) (c_X3_highest x1 x2 x3) tw_147 tw_148 tw_149 tw_144 tw_150 ⟨by decide +kernel, by decide +kernel, by decide +kernel⟩ hdc (by decide) (As := [.int (x1), .int (x2), .int (x3)]) rfl rfl (by decide) ⟨_, _, _, rfl, rfl, rfl⟩ hst hd hq rfl (K := qI K) hw (kI kk)
theorem k_X3_94_X3_lowest {X : Cx} {cc : ByteArray} {nL d pc : Nat} {lv : List (Nat × Value)} {rest : List Value} {σ : St} {K : Int32 → St → Prop} (q : Nat) (hX : CxB X RX3 cc nL d) (hdc : 1 + 1 ≤ d) (x1 : Int32) (x2 : Int32) (x3 : Int32) (hst : (rest.map fun v => v.category).sum ≤ 8) (hd : decode cc pc = .ok (.invokevirtual 94, 3)) (hq : pc + 3 = q) (hw : wp_X3_lowest x1 x2 x3 K σ) (kk : ∀ (r : Int32) (τ : St), K r τ → At X nL q lv (.int r :: rest) τ) : At X nL pc lv (.int (x3) :: .int (x2) :: .int (x1) :: .ref (X.kad 49) :: rest) σ := r_callV (n := 3) q hX (k0 := 49) (c_X3_lowest x1 x2 x3) tw_151 tw_152 tw_153 tw_144 tw_154 ⟨by decide +kernel, by decide +kernel, by decide +kernel⟩ hdc (by decide) (As := [.int (x1), .int (x2), .int (x3)]) rfl rfl (by decide) ⟨_, _, _, rfl, rfl, rfl⟩ hst hd hq rfl (K := qI K) hw (kI kk)
theorem k_X3_97_X3_leftBy {X : Cx} {cc : ByteArray} {nL d pc : Nat} {lv : List (Nat × Value)} {rest : List Value} {σ : St} {K : Int32 → St → Prop} (q : Nat) (hX : CxB X RX3 cc nL d) (hdc : 1 + 1 ≤ d) (x1 : Int32) (x2 : Int32) (x3 : Int32) (x4 : Int32) (x5 : Int32) (hst : (rest.map fun v => v.category).sum ≤ 8) (hd : decode cc pc = .ok (.invokevirtual 97, 3)) (hq : pc + 3 = q) (hw : wp_X3_leftBy x1 x2 x3 x4 x5 K σ) (kk : ∀ (r : Int32) (τ : St), K r τ → At X nL q lv (.int r :: rest) τ) : At X nL pc lv (.int (x5) :: .int (x4) :: .int (x3) :: .int (x2) :: .int (x1) :: .ref (X.kad 49) :: rest) σ := r_callV (n := 5) q hX (k0 := 49) (c_X3_leftBy x1 x2 x3 x4 x5) tw_156 tw_157 tw_158 tw_144 tw_159 ⟨by decide +kernel, by decide +kernel, by decide +kernel⟩ hdc (by decide) (As := [.int (x1), .int (x2), .int (x3), .int (x4), .int (x5)]) rfl rfl (by decide) ⟨_, _, _, rfl, rfl, rfl⟩ hst hd hq rfl (K := qI K) hw (kI kk)
theorem k_X3_101_X3_lean {X : Cx} {cc : ByteArray} {nL d pc : Nat} {lv : List (Nat × Value)} {rest : List Value} {σ : St} {K : Int32 → St → Prop} (q : Nat) (hX : CxB X RX3 cc nL d) (hdc : 1 + 1 ≤ d) (x1 : Int32) (x2 : Int32) (x3 : Int32) (hst : (rest.map fun v => v.category).sum ≤ 8) (hd : decode cc pc = .ok (.invokevirtual 101, 3)) (hq : pc + 3 = q) (hw : wp_X3_lean x1 x2 x3 K σ) (kk : ∀ (r : Int32) (τ : St), K r τ → At X nL q lv (.int r :: rest) τ) : At X nL pc lv (.int (x3) :: .int (x2) :: .int (x1) :: .ref (X.kad 49) :: rest) σ := r_callV (n := 3) q hX (k0 := 49) (c_X3_lean x1 x2 x3) tw_160 tw_161 tw_162 tw_144 tw_163 ⟨by decide +kernel, by decide +kernel, by decide +kernel⟩ hdc (by decide) (As := [.int (x1), .int (x2), .int (x3)]) rfl rfl (by decide) ⟨_, _, _, rfl, rfl, rfl⟩ hst hd hq rfl (K := qI K) hw (kI kk)
theorem k_X3_104_X3_restBy {Rw : Int32 → Int32 → (Int32 → St → Prop) → St → Prop} {dR : Nat} (hRc : ∀ a b : Int32, Con yX3_restFrom cX3_restFrom 3 (some .int) dR (fun ad => [.ref (ad 49), .int a, .int b]) (fun Q σ => Rw a b (aI Q) σ)) {X : Cx} {cc : ByteArray} {nL d pc : Nat} {lv : List (Nat × Value)} {rest : List Value} {σ : St} {K : Int32 → St → Prop} (q : Nat) (hX : CxB X RX3 cc nL d) (hdc : dR + 1 + 1 ≤ d) (x1 : Int32) (x2 : Int32) (x3 : Int32) (hst : (rest.map fun v => v.category).sum ≤ 8) (hd : decode cc pc = .ok (.invokevirtual 104, 3)) (hq : pc + 3 = q) (hw : wp_X3_restBy Rw x1 x2 x3 K σ) (kk : ∀ (r : Int32) (τ : St), K r τ → At X nL q lv (.int r :: rest) τ) : At X nL pc lv (.int (x3) :: .int (x2) :: .int (x1) :: .ref (X.kad 49) :: rest) σ := r_callV (n := 3) q hX (k0 := 49) (c_X3_restBy hRc x1 x2 x3) tw_164 tw_165 tw_166 tw_144 tw_167 ⟨by decide +kernel, by decide +kernel, by decide +kernel⟩ hdc (by decide) (As := [.int (x1), .int (x2), .int (x3)]) rfl rfl (by decide) ⟨_, _, _, rfl, rfl, rfl⟩ hst hd hq rfl (K := qI K) hw (kI kk)
set_option maxRecDepth 20000 in
set_option maxHeartbeats 4000000 in
theorem w_X3_leastRest_b223 {Rw : Int32 → Int32 → (Int32 → St → Prop) → St → Prop} {dR : Nat} (hRc : ∀ a b : Int32, Con yX3_restFrom cX3_restFrom 3 (some .int) dR (fun ad => [.ref (ad 49), .int a, .int b]) (fun Q σ => Rw a b (aI Q) σ)) {X : Cx} {Q : RV → St → Prop} (hX : CxB X RX3 cX3_leastRest 19 (dR + 4)) (hR : CxR X (some .int) Q) {K60 : Int32 → Int32 → Int32 → Int32 → Int32 → Int32 → Int32 → Int32 → Int32 → Int32 → Int32 → St → Prop} (hK60 : ∀ (x1 : Int32) (x2 : Int32) (x3 : Int32) (x4 : Int32) (x5 : Int32) (x6 : Int32) (x7 : Int32) (x8 : Int32) (x9 : Int32) (x10 : Int32) (x11 : Int32) (σ : St), K60 x1 x2 x3 x4 x5 x6 x7 x8 x9 x10 x11 σ → At X 19 60 [(0, .ref (X.kad 49)), (1, .int (x1)), (2, .int (x2)), (3, .int (x3)), (4, .int (x4)), (5, .int (x5)), (6, .int (x6)), (7, .int (x7)), (8, .int (x8)), (9, .int (x9)), (10, .int (x10)), (11, .int (x11))] [] σ) {K151 : Int32 → Int32 → Int32 → Int32 → Int32 → Int32 → Int32 → Int32 → Int32 → Int32 → Int32 → Int32 → Int32 → Int32 → St → Prop} (hK151 : ∀ (x1 : Int32) (x2 : Int32) (x3 : Int32) (x4 : Int32) (x5 : Int32) (x6 : Int32) (x7 : Int32) (x8 : Int32) (x9 : Int32) (x10 : Int32) (x11 : Int32) (x12 : Int32) (x13 : Int32) (x14 : Int32) (σ : St), K151 x1 x2 x3 x4 x5 x6 x7 x8 x9 x10 x11 x12 x13 x14 σ → At X 19 151 [(0, .ref (X.kad 49)), (1, .int (x1)), (2, .int (x2)), (3, .int (x3)), (4, .int (x4)), (5, .int (x5)), (6, .int (x6)), (7, .int (x7)), (8, .int (x8)), (9, .int (x9)), (10, .int (x10)), (11, .int (x11)), (12, .int (x12)), (13, .int (x13)), (14, .int (x14))] [] σ) {K223 : Int32 → Int32 → Int32 → Int32 → Int32 → Int32 → Int32 → Int32 → Int32 → Int32 → Int32 → Int32 → Int32 → Int32 → Int32 → Int32 → Int32 → St → Prop} (hK223 : ∀ (x1 : Int32) (x2 : Int32) (x3 : Int32) (x4 : Int32) (x5 : Int32) (x6 : Int32) (x7 : Int32) (x8 : Int32) (x9 : Int32) (x10 : Int32) (x11 : Int32) (x12 : Int32) (x13 : Int32) (x14 : Int32) (x15 : Int32) (x16 : Int32) (x17 : Int32) (σ : St), K223 x1 x2 x3 x4 x5 x6 x7 x8 x9 x10 x11 x12 x13 x14 x15 x16 x17 σ → At X 19 223 [(0, .ref (X.kad 49)), (1, .int (x1)), (2, .int (x2)), (3, .int (x3)), (4, .int (x4)), (5, .int (x5)), (6, .int (x6)), (7, .int (x7)), (8, .int (x8)), (9, .int (x9)), (10, .int (x10)), (11, .int (x11)), (12, .int (x12)), (13, .int (x13)), (14, .int (x14)), (15, .int (x15)), (16, .int (x16)), (17, .int (x17))] [] σ) (x1 : Int32) (x2 : Int32) (x3 : Int32) (x4 : Int32) (x5 : Int32) (x6 : Int32) (x7 : Int32) (x8 : Int32) (x9 : Int32) (x10 : Int32) (x11 : Int32) (x12 : Int32) (x13 : Int32) (x14 : Int32) (x15 : Int32) (x16 : Int32) (x17 : Int32) (σ : St) (hw : wp_X3_leastRest_b223 Rw (aI Q) K60 K151 K223 x1 x2 x3 x4 x5 x6 x7 x8 x9 x10 x11 x12 x13 x14 x15 x16 x17 σ) : At X 19 223 [(0, .ref (X.kad 49)), (1, .int (x1)), (2, .int (x2)), (3, .int (x3)), (4, .int (x4)), (5, .int (x5)), (6, .int (x6)), (7, .int (x7)), (8, .int (x8)), (9, .int (x9)), (10, .int (x10)), (11, .int (x11)), (12, .int (x12)), (13, .int (x13)), (14, .int (x14)), (15, .int (x15)), (16, .int (x16)), (17, .int (x17))] [] σ := by
  unfold wp_X3_leastRest_b223 at hw
  refine r_iload 225 hX dX3_leastRest_223 rfl 17 rfl ?_
  refine r_iload 227 hX dX3_leastRest_225 rfl 10 rfl ?_
  refine r_icmp_gt 310 230 hX dX3_leastRest_227 (by decide) rfl hw (fun hw => ?_) (fun hw => ?_)
  · refine r_iinc (lv' := [(14, .int (x14 + 1)), (0, .ref (X.kad 49)), (1, .int (x1)), (2, .int (x2)), (3, .int (x3)), (4, .int (x4)), (5, .int (x5)), (6, .int (x6)), (7, .int (x7)), (8, .int (x8)), (9, .int (x9)), (10, .int (x10)), (11, .int (x11)), (12, .int (x12)), (13, .int (x13)), (15, .int (x15)), (16, .int (x16)), (17, .int (x17))]) 313 hX dX3_leastRest_310 rfl 14 rfl (x14 + 1) (ici_1 _) (by decide) rfl ?_
    refine r_goto 151 hX dX3_leastRest_313 (by decide) ?_
    refine r_sub [1, 2, 3, 4, 5, 6, 7, 8, 9, 10, 11, 12, 13, 14, 0] rfl ?_
    exact hK151 _ _ _ _ _ _ _ _ _ _ _ _ _ _ _ hw
  · refine r_iload 232 hX dX3_leastRest_230 rfl 15 rfl ?_
    refine r_iload 234 hX dX3_leastRest_232 rfl 17 rfl ?_
    refine r_ishr 235 hX dX3_leastRest_234 rfl ?_
    refine r_iconst 236 hX dX3_leastRest_235 rfl 1 ic_1 ?_
    refine r_iand 237 hX dX3_leastRest_236 rfl ?_
    refine r_if_ne 243 240 hX dX3_leastRest_237 (by decide) rfl hw (fun hw => ?_) (fun hw => ?_)
    · refine r_iload 245 hX dX3_leastRest_243 rfl 16 rfl ?_
      refine r_aload_n 246 hX dX3_leastRest_245 rfl rfl 0 rfl ?_
      refine r_iconst 247 hX dX3_leastRest_246 rfl 2 ic_2 ?_
      refine r_iload_n 248 hX dX3_leastRest_247 rfl rfl 1 rfl ?_
      refine r_iload 250 hX dX3_leastRest_248 rfl 17 rfl ?_
      refine r_iload 252 hX dX3_leastRest_250 rfl 4 rfl ?_
      refine r_isub 253 hX dX3_leastRest_252 rfl ?_
      refine k_X3_101_X3_lean 256 hX (by omega) (2) (x1) (x17 - x4) (Nat.le_of_ble_eq_true rfl) dX3_leastRest_253 rfl hw (fun r253 σ253 hw => ?_)
      refine r_iadd 257 hX dX3_leastRest_256 rfl ?_
      refine r_istore (lv' := [(18, .int (x16 + r253)), (0, .ref (X.kad 49)), (1, .int (x1)), (2, .int (x2)), (3, .int (x3)), (4, .int (x4)), (5, .int (x5)), (6, .int (x6)), (7, .int (x7)), (8, .int (x8)), (9, .int (x9)), (10, .int (x10)), (11, .int (x11)), (12, .int (x12)), (13, .int (x13)), (14, .int (x14)), (15, .int (x15)), (16, .int (x16)), (17, .int (x17))]) 259 hX dX3_leastRest_257 rfl (by decide) rfl ?_
      refine r_iload 261 hX dX3_leastRest_259 rfl 6 rfl ?_
      refine r_aload_n 262 hX dX3_leastRest_261 rfl rfl 1 rfl ?_
      refine r_iload_n 263 hX dX3_leastRest_262 rfl rfl 2 rfl ?_
      refine r_iload 265 hX dX3_leastRest_263 rfl 12 rfl ?_
      refine r_bipush 267 hX dX3_leastRest_265 rfl 100 bi_100 ?_
      refine r_imul 268 hX dX3_leastRest_267 rfl ?_
      refine r_iload 270 hX dX3_leastRest_268 rfl 15 rfl ?_
      refine r_bipush 272 hX dX3_leastRest_270 rfl 10 bi_10 ?_
      refine r_imul 273 hX dX3_leastRest_272 rfl ?_
      refine r_iadd 274 hX dX3_leastRest_273 rfl ?_
      refine r_iload 276 hX dX3_leastRest_274 rfl 18 rfl ?_
      refine r_iadd 277 hX dX3_leastRest_276 rfl ?_
      refine r_iload 279 hX dX3_leastRest_277 rfl 0 rfl ?_
      refine k_X3_104_X3_restBy hRc 282 hX (by omega) (x1) (((x11 * 100) + (x14 * 10)) + x17) (x16 + r253) (Nat.le_of_ble_eq_true rfl) dX3_leastRest_279 rfl hw (fun r279 σ279 hw => ?_)
      refine r_mmin 285 hX tw_139 tw_103 tw_74 tw_104 (Nat.le_of_ble_eq_true rfl) dX3_leastRest_282 rfl ?_
      refine r_istore (lv' := [(5, .int ((if r279 < x5 then r279 else x5))), (18, .int (x16 + r253)), (0, .ref (X.kad 49)), (1, .int (x1)), (2, .int (x2)), (3, .int (x3)), (4, .int (x4)), (6, .int (x6)), (7, .int (x7)), (8, .int (x8)), (9, .int (x9)), (10, .int (x10)), (11, .int (x11)), (12, .int (x12)), (13, .int (x13)), (14, .int (x14)), (15, .int (x15)), (16, .int (x16)), (17, .int (x17))]) 287 hX dX3_leastRest_285 rfl (by decide) rfl ?_
      refine r_aload_n 288 hX dX3_leastRest_287 rfl rfl 2 rfl ?_
      refine g_X3_63_49 291 hX dX3_leastRest_288 rfl ?_
      refine r_if_eq 304 294 hX dX3_leastRest_291 (by decide) rfl hw (fun hw => ?_) (fun hw => ?_)
      · refine r_iinc (lv' := [(17, .int (x17 + 1)), (5, .int ((if r279 < x5 then r279 else x5))), (18, .int (x16 + r253)), (0, .ref (X.kad 49)), (1, .int (x1)), (2, .int (x2)), (3, .int (x3)), (4, .int (x4)), (6, .int (x6)), (7, .int (x7)), (8, .int (x8)), (9, .int (x9)), (10, .int (x10)), (11, .int (x11)), (12, .int (x12)), (13, .int (x13)), (14, .int (x14)), (15, .int (x15)), (16, .int (x16))]) 307 hX dX3_leastRest_304 rfl 18 rfl (x17 + 1) (ici_1 _) (by decide) rfl ?_
        refine r_goto 223 hX dX3_leastRest_307 (by decide) ?_
        refine r_sub [3, 4, 5, 6, 7, 1, 8, 9, 10, 11, 12, 13, 14, 15, 16, 17, 18, 0] rfl ?_
        exact hK223 _ _ _ _ _ _ _ _ _ _ _ _ _ _ _ _ _ _ hw
      · refine r_iload 296 hX dX3_leastRest_294 rfl 0 rfl ?_
        refine r_ldc 298 hX 1000000000 tw_146 dX3_leastRest_296 rfl ?_
        refine r_icmp_ge 304 301 hX dX3_leastRest_298 (by decide) rfl hw (fun hw => ?_) (fun hw => ?_)
        · refine r_iinc (lv' := [(17, .int (x17 + 1)), (5, .int ((if r279 < x5 then r279 else x5))), (18, .int (x16 + r253)), (0, .ref (X.kad 49)), (1, .int (x1)), (2, .int (x2)), (3, .int (x3)), (4, .int (x4)), (6, .int (x6)), (7, .int (x7)), (8, .int (x8)), (9, .int (x9)), (10, .int (x10)), (11, .int (x11)), (12, .int (x12)), (13, .int (x13)), (14, .int (x14)), (15, .int (x15)), (16, .int (x16))]) 307 hX dX3_leastRest_304 rfl 18 rfl (x17 + 1) (ici_1 _) (by decide) rfl ?_
          refine r_goto 223 hX dX3_leastRest_307 (by decide) ?_
          refine r_sub [3, 4, 5, 6, 7, 1, 8, 9, 10, 11, 12, 13, 14, 15, 16, 17, 18, 0] rfl ?_
          exact hK223 _ _ _ _ _ _ _ _ _ _ _ _ _ _ _ _ _ _ hw
        · refine r_iload 303 hX dX3_leastRest_301 rfl 0 rfl ?_
          exact r_iret hX hR dX3_leastRest_303 hw
    · refine r_goto 304 hX dX3_leastRest_240 (by decide) ?_
      refine r_iinc (lv' := [(17, .int (x17 + 1)), (0, .ref (X.kad 49)), (1, .int (x1)), (2, .int (x2)), (3, .int (x3)), (4, .int (x4)), (5, .int (x5)), (6, .int (x6)), (7, .int (x7)), (8, .int (x8)), (9, .int (x9)), (10, .int (x10)), (11, .int (x11)), (12, .int (x12)), (13, .int (x13)), (14, .int (x14)), (15, .int (x15)), (16, .int (x16))]) 307 hX dX3_leastRest_304 rfl 17 rfl (x17 + 1) (ici_1 _) (by decide) rfl ?_
      refine r_goto 223 hX dX3_leastRest_307 (by decide) ?_
      refine r_sub [1, 2, 3, 4, 5, 6, 7, 8, 9, 10, 11, 12, 13, 14, 15, 16, 17, 0] rfl ?_
      exact hK223 _ _ _ _ _ _ _ _ _ _ _ _ _ _ _ _ _ _ hw
set_option maxRecDepth 20000 in
set_option maxHeartbeats 4000000 in
theorem w_X3_leastRest_l223 {Rw : Int32 → Int32 → (Int32 → St → Prop) → St → Prop} {dR : Nat} (hRc : ∀ a b : Int32, Con yX3_restFrom cX3_restFrom 3 (some .int) dR (fun ad => [.ref (ad 49), .int a, .int b]) (fun Q σ => Rw a b (aI Q) σ)) {X : Cx} {Q : RV → St → Prop} (hX : CxB X RX3 cX3_leastRest 19 (dR + 4)) (hR : CxR X (some .int) Q) {K60 : Int32 → Int32 → Int32 → Int32 → Int32 → Int32 → Int32 → Int32 → Int32 → Int32 → Int32 → St → Prop} (hK60 : ∀ (x1 : Int32) (x2 : Int32) (x3 : Int32) (x4 : Int32) (x5 : Int32) (x6 : Int32) (x7 : Int32) (x8 : Int32) (x9 : Int32) (x10 : Int32) (x11 : Int32) (σ : St), K60 x1 x2 x3 x4 x5 x6 x7 x8 x9 x10 x11 σ → At X 19 60 [(0, .ref (X.kad 49)), (1, .int (x1)), (2, .int (x2)), (3, .int (x3)), (4, .int (x4)), (5, .int (x5)), (6, .int (x6)), (7, .int (x7)), (8, .int (x8)), (9, .int (x9)), (10, .int (x10)), (11, .int (x11))] [] σ) {K151 : Int32 → Int32 → Int32 → Int32 → Int32 → Int32 → Int32 → Int32 → Int32 → Int32 → Int32 → Int32 → Int32 → Int32 → St → Prop} (hK151 : ∀ (x1 : Int32) (x2 : Int32) (x3 : Int32) (x4 : Int32) (x5 : Int32) (x6 : Int32) (x7 : Int32) (x8 : Int32) (x9 : Int32) (x10 : Int32) (x11 : Int32) (x12 : Int32) (x13 : Int32) (x14 : Int32) (σ : St), K151 x1 x2 x3 x4 x5 x6 x7 x8 x9 x10 x11 x12 x13 x14 σ → At X 19 151 [(0, .ref (X.kad 49)), (1, .int (x1)), (2, .int (x2)), (3, .int (x3)), (4, .int (x4)), (5, .int (x5)), (6, .int (x6)), (7, .int (x7)), (8, .int (x8)), (9, .int (x9)), (10, .int (x10)), (11, .int (x11)), (12, .int (x12)), (13, .int (x13)), (14, .int (x14))] [] σ) (n : Nat) : ∀ (x1 : Int32) (x2 : Int32) (x3 : Int32) (x4 : Int32) (x5 : Int32) (x6 : Int32) (x7 : Int32) (x8 : Int32) (x9 : Int32) (x10 : Int32) (x11 : Int32) (x12 : Int32) (x13 : Int32) (x14 : Int32) (x15 : Int32) (x16 : Int32) (x17 : Int32) (σ : St), wp_X3_leastRest_l223 Rw (aI Q) K60 K151 n x1 x2 x3 x4 x5 x6 x7 x8 x9 x10 x11 x12 x13 x14 x15 x16 x17 σ → At X 19 223 [(0, .ref (X.kad 49)), (1, .int (x1)), (2, .int (x2)), (3, .int (x3)), (4, .int (x4)), (5, .int (x5)), (6, .int (x6)), (7, .int (x7)), (8, .int (x8)), (9, .int (x9)), (10, .int (x10)), (11, .int (x11)), (12, .int (x12)), (13, .int (x13)), (14, .int (x14)), (15, .int (x15)), (16, .int (x16)), (17, .int (x17))] [] σ := by
  induction n with
  | zero => intro x1 x2 x3 x4 x5 x6 x7 x8 x9 x10 x11 x12 x13 x14 x15 x16 x17 σ h; exact h.elim
  | succ n ih => intro x1 x2 x3 x4 x5 x6 x7 x8 x9 x10 x11 x12 x13 x14 x15 x16 x17 σ h; exact w_X3_leastRest_b223 hRc hX hR hK60 hK151 ih x1 x2 x3 x4 x5 x6 x7 x8 x9 x10 x11 x12 x13 x14 x15 x16 x17 σ h
set_option maxRecDepth 20000 in
set_option maxHeartbeats 4000000 in
theorem w_X3_leastRest_b190 {Rw : Int32 → Int32 → (Int32 → St → Prop) → St → Prop} {dR : Nat} (hRc : ∀ a b : Int32, Con yX3_restFrom cX3_restFrom 3 (some .int) dR (fun ad => [.ref (ad 49), .int a, .int b]) (fun Q σ => Rw a b (aI Q) σ)) {X : Cx} {Q : RV → St → Prop} (hX : CxB X RX3 cX3_leastRest 19 (dR + 4)) (hR : CxR X (some .int) Q) {K60 : Int32 → Int32 → Int32 → Int32 → Int32 → Int32 → Int32 → Int32 → Int32 → Int32 → Int32 → St → Prop} (hK60 : ∀ (x1 : Int32) (x2 : Int32) (x3 : Int32) (x4 : Int32) (x5 : Int32) (x6 : Int32) (x7 : Int32) (x8 : Int32) (x9 : Int32) (x10 : Int32) (x11 : Int32) (σ : St), K60 x1 x2 x3 x4 x5 x6 x7 x8 x9 x10 x11 σ → At X 19 60 [(0, .ref (X.kad 49)), (1, .int (x1)), (2, .int (x2)), (3, .int (x3)), (4, .int (x4)), (5, .int (x5)), (6, .int (x6)), (7, .int (x7)), (8, .int (x8)), (9, .int (x9)), (10, .int (x10)), (11, .int (x11))] [] σ) {K151 : Int32 → Int32 → Int32 → Int32 → Int32 → Int32 → Int32 → Int32 → Int32 → Int32 → Int32 → Int32 → Int32 → Int32 → St → Prop} (hK151 : ∀ (x1 : Int32) (x2 : Int32) (x3 : Int32) (x4 : Int32) (x5 : Int32) (x6 : Int32) (x7 : Int32) (x8 : Int32) (x9 : Int32) (x10 : Int32) (x11 : Int32) (x12 : Int32) (x13 : Int32) (x14 : Int32) (σ : St), K151 x1 x2 x3 x4 x5 x6 x7 x8 x9 x10 x11 x12 x13 x14 σ → At X 19 151 [(0, .ref (X.kad 49)), (1, .int (x1)), (2, .int (x2)), (3, .int (x3)), (4, .int (x4)), (5, .int (x5)), (6, .int (x6)), (7, .int (x7)), (8, .int (x8)), (9, .int (x9)), (10, .int (x10)), (11, .int (x11)), (12, .int (x12)), (13, .int (x13)), (14, .int (x14))] [] σ) (x1 : Int32) (x2 : Int32) (x3 : Int32) (x4 : Int32) (x5 : Int32) (x6 : Int32) (x7 : Int32) (x8 : Int32) (x9 : Int32) (x10 : Int32) (x11 : Int32) (x12 : Int32) (x13 : Int32) (x14 : Int32) (s0 : Int32) (s1 : Int32) (s2 : Int32) (s3 : Int32) (s4 : Int32) (s6 : Int32) (σ : St) (hw : wp_X3_leastRest_b190 Rw (aI Q) K60 K151 x1 x2 x3 x4 x5 x6 x7 x8 x9 x10 x11 x12 x13 x14 s0 s1 s2 s3 s4 s6 σ) : At X 19 190 [(0, .ref (X.kad 49)), (1, .int (x1)), (2, .int (x2)), (3, .int (x3)), (4, .int (x4)), (5, .int (x5)), (6, .int (x6)), (7, .int (x7)), (8, .int (x8)), (9, .int (x9)), (10, .int (x10)), (11, .int (x11)), (12, .int (x12)), (13, .int (x13)), (14, .int (x14))] [.int (s0), .int (s1), .int (s2), .int (s3), .int (s4), .ref (X.kad 49), .int (s6)] σ := by
  unfold wp_X3_leastRest_b190 at hw
  refine k_X3_97_X3_leftBy 193 hX (by omega) (s4) (s3) (s2) (s1) (s0) (Nat.le_of_ble_eq_true rfl) dX3_leastRest_190 rfl hw (fun r190 σ190 hw => ?_)
  refine r_iand 194 hX dX3_leastRest_193 rfl ?_
  refine r_istore (lv' := [(15, .int (s6 &&& r190)), (0, .ref (X.kad 49)), (1, .int (x1)), (2, .int (x2)), (3, .int (x3)), (4, .int (x4)), (5, .int (x5)), (6, .int (x6)), (7, .int (x7)), (8, .int (x8)), (9, .int (x9)), (10, .int (x10)), (11, .int (x11)), (12, .int (x12)), (13, .int (x13)), (14, .int (x14))]) 196 hX dX3_leastRest_194 rfl (by decide) rfl ?_
  refine r_aload_n 197 hX dX3_leastRest_196 rfl rfl 1 rfl ?_
  refine r_iconst 198 hX dX3_leastRest_197 rfl 0 ic_0 ?_
  refine r_iload_n 199 hX dX3_leastRest_198 rfl rfl 2 rfl ?_
  refine r_iload 201 hX dX3_leastRest_199 rfl 12 rfl ?_
  refine r_iload_n 202 hX dX3_leastRest_201 rfl rfl 3 rfl ?_
  refine r_isub 203 hX dX3_leastRest_202 rfl ?_
  refine k_X3_101_X3_lean 206 hX (by omega) (0) (x1) (x11 - x2) (Nat.le_of_ble_eq_true rfl) dX3_leastRest_203 rfl hw (fun r203 σ203 hw => ?_)
  refine r_aload_n 207 hX dX3_leastRest_206 rfl rfl 1 rfl ?_
  refine r_iconst 208 hX dX3_leastRest_207 rfl 1 ic_1 ?_
  refine r_iload_n 209 hX dX3_leastRest_208 rfl rfl 2 rfl ?_
  refine r_iload 211 hX dX3_leastRest_209 rfl 15 rfl ?_
  refine r_iload_n 212 hX dX3_leastRest_211 rfl rfl 4 rfl ?_
  refine r_isub 213 hX dX3_leastRest_212 rfl ?_
  refine k_X3_101_X3_lean 216 hX (by omega) (1) (x1) (x14 - x3) (Nat.le_of_ble_eq_true rfl) dX3_leastRest_213 rfl hw (fun r213 σ213 hw => ?_)
  refine r_iadd 217 hX dX3_leastRest_216 rfl ?_
  refine r_istore (lv' := [(16, .int (r203 + r213)), (15, .int (s6 &&& r190)), (0, .ref (X.kad 49)), (1, .int (x1)), (2, .int (x2)), (3, .int (x3)), (4, .int (x4)), (5, .int (x5)), (6, .int (x6)), (7, .int (x7)), (8, .int (x8)), (9, .int (x9)), (10, .int (x10)), (11, .int (x11)), (12, .int (x12)), (13, .int (x13)), (14, .int (x14))]) 219 hX dX3_leastRest_217 rfl (by decide) rfl ?_
  refine r_iload 221 hX dX3_leastRest_219 rfl 11 rfl ?_
  refine r_istore (lv' := [(17, .int (x9)), (16, .int (r203 + r213)), (15, .int (s6 &&& r190)), (0, .ref (X.kad 49)), (1, .int (x1)), (2, .int (x2)), (3, .int (x3)), (4, .int (x4)), (5, .int (x5)), (6, .int (x6)), (7, .int (x7)), (8, .int (x8)), (9, .int (x9)), (10, .int (x10)), (11, .int (x11)), (12, .int (x12)), (13, .int (x13)), (14, .int (x14))]) 223 hX dX3_leastRest_221 rfl (by decide) rfl ?_
  refine r_sub [3, 4, 5, 6, 7, 8, 9, 10, 11, 12, 13, 14, 15, 16, 17, 2, 1, 0] rfl ?_
  obtain ⟨n, hw⟩ := hw
  exact w_X3_leastRest_l223 hRc hX hR hK60 hK151 n _ _ _ _ _ _ _ _ _ _ _ _ _ _ _ _ _ _ hw
set_option maxRecDepth 20000 in
set_option maxHeartbeats 4000000 in
theorem w_X3_leastRest_b151 {Rw : Int32 → Int32 → (Int32 → St → Prop) → St → Prop} {dR : Nat} (hRc : ∀ a b : Int32, Con yX3_restFrom cX3_restFrom 3 (some .int) dR (fun ad => [.ref (ad 49), .int a, .int b]) (fun Q σ => Rw a b (aI Q) σ)) {X : Cx} {Q : RV → St → Prop} (hX : CxB X RX3 cX3_leastRest 19 (dR + 4)) (hR : CxR X (some .int) Q) {K60 : Int32 → Int32 → Int32 → Int32 → Int32 → Int32 → Int32 → Int32 → Int32 → Int32 → Int32 → St → Prop} (hK60 : ∀ (x1 : Int32) (x2 : Int32) (x3 : Int32) (x4 : Int32) (x5 : Int32) (x6 : Int32) (x7 : Int32) (x8 : Int32) (x9 : Int32) (x10 : Int32) (x11 : Int32) (σ : St), K60 x1 x2 x3 x4 x5 x6 x7 x8 x9 x10 x11 σ → At X 19 60 [(0, .ref (X.kad 49)), (1, .int (x1)), (2, .int (x2)), (3, .int (x3)), (4, .int (x4)), (5, .int (x5)), (6, .int (x6)), (7, .int (x7)), (8, .int (x8)), (9, .int (x9)), (10, .int (x10)), (11, .int (x11))] [] σ) {K151 : Int32 → Int32 → Int32 → Int32 → Int32 → Int32 → Int32 → Int32 → Int32 → Int32 → Int32 → Int32 → Int32 → Int32 → St → Prop} (hK151 : ∀ (x1 : Int32) (x2 : Int32) (x3 : Int32) (x4 : Int32) (x5 : Int32) (x6 : Int32) (x7 : Int32) (x8 : Int32) (x9 : Int32) (x10 : Int32) (x11 : Int32) (x12 : Int32) (x13 : Int32) (x14 : Int32) (σ : St), K151 x1 x2 x3 x4 x5 x6 x7 x8 x9 x10 x11 x12 x13 x14 σ → At X 19 151 [(0, .ref (X.kad 49)), (1, .int (x1)), (2, .int (x2)), (3, .int (x3)), (4, .int (x4)), (5, .int (x5)), (6, .int (x6)), (7, .int (x7)), (8, .int (x8)), (9, .int (x9)), (10, .int (x10)), (11, .int (x11)), (12, .int (x12)), (13, .int (x13)), (14, .int (x14))] [] σ) (x1 : Int32) (x2 : Int32) (x3 : Int32) (x4 : Int32) (x5 : Int32) (x6 : Int32) (x7 : Int32) (x8 : Int32) (x9 : Int32) (x10 : Int32) (x11 : Int32) (x12 : Int32) (x13 : Int32) (x14 : Int32) (σ : St) (hw : wp_X3_leastRest_b151 Rw (aI Q) K60 K151 x1 x2 x3 x4 x5 x6 x7 x8 x9 x10 x11 x12 x13 x14 σ) : At X 19 151 [(0, .ref (X.kad 49)), (1, .int (x1)), (2, .int (x2)), (3, .int (x3)), (4, .int (x4)), (5, .int (x5)), (6, .int (x6)), (7, .int (x7)), (8, .int (x8)), (9, .int (x9)), (10, .int (x10)), (11, .int (x11)), (12, .int (x12)), (13, .int (x13)), (14, .int (x14))] [] σ := by
  unfold wp_X3_leastRest_b151 at hw
  refine r_iload 153 hX dX3_leastRest_151 rfl 14 rfl ?_
  refine r_iload 155 hX dX3_leastRest_153 rfl 8 rfl ?_
  refine r_icmp_gt 316 158 hX dX3_leastRest_155 (by decide) rfl hw (fun hw => ?_) (fun hw => ?_)
  · refine r_iinc (lv' := [(11, .int (x11 + 1)), (0, .ref (X.kad 49)), (1, .int (x1)), (2, .int (x2)), (3, .int (x3)), (4, .int (x4)), (5, .int (x5)), (6, .int (x6)), (7, .int (x7)), (8, .int (x8)), (9, .int (x9)), (10, .int (x10)), (12, .int (x12)), (13, .int (x13)), (14, .int (x14))]) 319 hX dX3_leastRest_316 rfl 11 rfl (x11 + 1) (ici_1 _) (by decide) rfl ?_
    refine r_goto 60 hX dX3_leastRest_319 (by decide) ?_
    refine r_sub [1, 2, 3, 4, 5, 6, 7, 8, 9, 10, 11, 0] rfl ?_
    exact hK60 _ _ _ _ _ _ _ _ _ _ _ _ hw
  · refine r_iload 160 hX dX3_leastRest_158 rfl 12 rfl ?_
    refine r_iload 162 hX dX3_leastRest_160 rfl 14 rfl ?_
    refine r_ishr 163 hX dX3_leastRest_162 rfl ?_
    refine r_iconst 164 hX dX3_leastRest_163 rfl 1 ic_1 ?_
    refine r_iand 165 hX dX3_leastRest_164 rfl ?_
    refine r_if_ne 171 168 hX dX3_leastRest_165 (by decide) rfl hw (fun hw => ?_) (fun hw => ?_)
    · refine r_iload 173 hX dX3_leastRest_171 rfl 13 rfl ?_
      refine r_aload_n 174 hX dX3_leastRest_173 rfl rfl 0 rfl ?_
      refine r_iconst 175 hX dX3_leastRest_174 rfl 1 ic_1 ?_
      refine r_iload 177 hX dX3_leastRest_175 rfl 14 rfl ?_
      refine r_iconst 178 hX dX3_leastRest_177 rfl 2 ic_2 ?_
      refine r_iload_n 179 hX dX3_leastRest_178 rfl rfl 1 rfl ?_
      refine r_iload_n 180 hX dX3_leastRest_179 rfl rfl 3 rfl ?_
      refine r_iload 182 hX dX3_leastRest_180 rfl 4 rfl ?_
      refine r_icmp_ge 189 185 hX dX3_leastRest_182 (by decide) rfl hw (fun hw => ?_) (fun hw => ?_)
      · refine r_iconst 190 hX dX3_leastRest_189 rfl 0 ic_0 ?_
        exact w_X3_leastRest_b190 hRc hX hR hK60 hK151 _ _ _ _ _ _ _ _ _ _ _ _ _ _ _ _ _ _ _ _ _ hw
      · refine r_iconst 186 hX dX3_leastRest_185 rfl 1 ic_1 ?_
        refine r_goto 190 hX dX3_leastRest_186 (by decide) ?_
        exact w_X3_leastRest_b190 hRc hX hR hK60 hK151 _ _ _ _ _ _ _ _ _ _ _ _ _ _ _ _ _ _ _ _ _ hw
    · refine r_goto 310 hX dX3_leastRest_168 (by decide) ?_
      refine r_iinc (lv' := [(14, .int (x14 + 1)), (0, .ref (X.kad 49)), (1, .int (x1)), (2, .int (x2)), (3, .int (x3)), (4, .int (x4)), (5, .int (x5)), (6, .int (x6)), (7, .int (x7)), (8, .int (x8)), (9, .int (x9)), (10, .int (x10)), (11, .int (x11)), (12, .int (x12)), (13, .int (x13))]) 313 hX dX3_leastRest_310 rfl 14 rfl (x14 + 1) (ici_1 _) (by decide) rfl ?_
      refine r_goto 151 hX dX3_leastRest_313 (by decide) ?_
      refine r_sub [1, 2, 3, 4, 5, 6, 7, 8, 9, 10, 11, 12, 13, 14, 0] rfl ?_
      exact hK151 _ _ _ _ _ _ _ _ _ _ _ _ _ _ _ hw
set_option maxRecDepth 20000 in
set_option maxHeartbeats 4000000 in
theorem w_X3_leastRest_l151 {Rw : Int32 → Int32 → (Int32 → St → Prop) → St → Prop} {dR : Nat} (hRc : ∀ a b : Int32, Con yX3_restFrom cX3_restFrom 3 (some .int) dR (fun ad => [.ref (ad 49), .int a, .int b]) (fun Q σ => Rw a b (aI Q) σ)) {X : Cx} {Q : RV → St → Prop} (hX : CxB X RX3 cX3_leastRest 19 (dR + 4)) (hR : CxR X (some .int) Q) {K60 : Int32 → Int32 → Int32 → Int32 → Int32 → Int32 → Int32 → Int32 → Int32 → Int32 → Int32 → St → Prop} (hK60 : ∀ (x1 : Int32) (x2 : Int32) (x3 : Int32) (x4 : Int32) (x5 : Int32) (x6 : Int32) (x7 : Int32) (x8 : Int32) (x9 : Int32) (x10 : Int32) (x11 : Int32) (σ : St), K60 x1 x2 x3 x4 x5 x6 x7 x8 x9 x10 x11 σ → At X 19 60 [(0, .ref (X.kad 49)), (1, .int (x1)), (2, .int (x2)), (3, .int (x3)), (4, .int (x4)), (5, .int (x5)), (6, .int (x6)), (7, .int (x7)), (8, .int (x8)), (9, .int (x9)), (10, .int (x10)), (11, .int (x11))] [] σ) (n : Nat) : ∀ (x1 : Int32) (x2 : Int32) (x3 : Int32) (x4 : Int32) (x5 : Int32) (x6 : Int32) (x7 : Int32) (x8 : Int32) (x9 : Int32) (x10 : Int32) (x11 : Int32) (x12 : Int32) (x13 : Int32) (x14 : Int32) (σ : St), wp_X3_leastRest_l151 Rw (aI Q) K60 n x1 x2 x3 x4 x5 x6 x7 x8 x9 x10 x11 x12 x13 x14 σ → At X 19 151 [(0, .ref (X.kad 49)), (1, .int (x1)), (2, .int (x2)), (3, .int (x3)), (4, .int (x4)), (5, .int (x5)), (6, .int (x6)), (7, .int (x7)), (8, .int (x8)), (9, .int (x9)), (10, .int (x10)), (11, .int (x11)), (12, .int (x12)), (13, .int (x13)), (14, .int (x14))] [] σ := by
  induction n with
  | zero => intro x1 x2 x3 x4 x5 x6 x7 x8 x9 x10 x11 x12 x13 x14 σ h; exact h.elim
  | succ n ih => intro x1 x2 x3 x4 x5 x6 x7 x8 x9 x10 x11 x12 x13 x14 σ h; exact w_X3_leastRest_b151 hRc hX hR hK60 ih x1 x2 x3 x4 x5 x6 x7 x8 x9 x10 x11 x12 x13 x14 σ h
set_option maxRecDepth 20000 in
set_option maxHeartbeats 4000000 in
theorem w_X3_leastRest_b141 {Rw : Int32 → Int32 → (Int32 → St → Prop) → St → Prop} {dR : Nat} (hRc : ∀ a b : Int32, Con yX3_restFrom cX3_restFrom 3 (some .int) dR (fun ad => [.ref (ad 49), .int a, .int b]) (fun Q σ => Rw a b (aI Q) σ)) {X : Cx} {Q : RV → St → Prop} (hX : CxB X RX3 cX3_leastRest 19 (dR + 4)) (hR : CxR X (some .int) Q) {K60 : Int32 → Int32 → Int32 → Int32 → Int32 → Int32 → Int32 → Int32 → Int32 → Int32 → Int32 → St → Prop} (hK60 : ∀ (x1 : Int32) (x2 : Int32) (x3 : Int32) (x4 : Int32) (x5 : Int32) (x6 : Int32) (x7 : Int32) (x8 : Int32) (x9 : Int32) (x10 : Int32) (x11 : Int32) (σ : St), K60 x1 x2 x3 x4 x5 x6 x7 x8 x9 x10 x11 σ → At X 19 60 [(0, .ref (X.kad 49)), (1, .int (x1)), (2, .int (x2)), (3, .int (x3)), (4, .int (x4)), (5, .int (x5)), (6, .int (x6)), (7, .int (x7)), (8, .int (x8)), (9, .int (x9)), (10, .int (x10)), (11, .int (x11))] [] σ) (x1 : Int32) (x2 : Int32) (x3 : Int32) (x4 : Int32) (x5 : Int32) (x6 : Int32) (x7 : Int32) (x8 : Int32) (x9 : Int32) (x10 : Int32) (x11 : Int32) (x12 : Int32) (s0 : Int32) (s1 : Int32) (s2 : Int32) (s3 : Int32) (s4 : Int32) (s6 : Int32) (σ : St) (hw : wp_X3_leastRest_b141 Rw (aI Q) K60 x1 x2 x3 x4 x5 x6 x7 x8 x9 x10 x11 x12 s0 s1 s2 s3 s4 s6 σ) : At X 19 141 [(0, .ref (X.kad 49)), (1, .int (x1)), (2, .int (x2)), (3, .int (x3)), (4, .int (x4)), (5, .int (x5)), (6, .int (x6)), (7, .int (x7)), (8, .int (x8)), (9, .int (x9)), (10, .int (x10)), (11, .int (x11)), (12, .int (x12))] [.int (s0), .int (s1), .int (s2), .int (s3), .int (s4), .ref (X.kad 49), .int (s6)] σ := by
  unfold wp_X3_leastRest_b141 at hw
  refine k_X3_97_X3_leftBy 144 hX (by omega) (s4) (s3) (s2) (s1) (s0) (Nat.le_of_ble_eq_true rfl) dX3_leastRest_141 rfl hw (fun r141 σ141 hw => ?_)
  refine r_iand 145 hX dX3_leastRest_144 rfl ?_
  refine r_istore (lv' := [(13, .int (s6 &&& r141)), (0, .ref (X.kad 49)), (1, .int (x1)), (2, .int (x2)), (3, .int (x3)), (4, .int (x4)), (5, .int (x5)), (6, .int (x6)), (7, .int (x7)), (8, .int (x8)), (9, .int (x9)), (10, .int (x10)), (11, .int (x11)), (12, .int (x12))]) 147 hX dX3_leastRest_145 rfl (by decide) rfl ?_
  refine r_iload 149 hX dX3_leastRest_147 rfl 8 rfl ?_
  refine r_istore (lv' := [(14, .int (x7)), (13, .int (s6 &&& r141)), (0, .ref (X.kad 49)), (1, .int (x1)), (2, .int (x2)), (3, .int (x3)), (4, .int (x4)), (5, .int (x5)), (6, .int (x6)), (7, .int (x7)), (8, .int (x8)), (9, .int (x9)), (10, .int (x10)), (11, .int (x11)), (12, .int (x12))]) 151 hX dX3_leastRest_149 rfl (by decide) rfl ?_
  refine r_sub [2, 3, 4, 5, 6, 7, 8, 9, 10, 11, 12, 13, 14, 1, 0] rfl ?_
  obtain ⟨n, hw⟩ := hw
  exact w_X3_leastRest_l151 hRc hX hR hK60 n _ _ _ _ _ _ _ _ _ _ _ _ _ _ _ hw
set_option maxRecDepth 20000 in
set_option maxHeartbeats 4000000 in
theorem w_X3_leastRest_b110 {Rw : Int32 → Int32 → (Int32 → St → Prop) → St → Prop} {dR : Nat} (hRc : ∀ a b : Int32, Con yX3_restFrom cX3_restFrom 3 (some .int) dR (fun ad => [.ref (ad 49), .int a, .int b]) (fun Q σ => Rw a b (aI Q) σ)) {X : Cx} {Q : RV → St → Prop} (hX : CxB X RX3 cX3_leastRest 19 (dR + 4)) (hR : CxR X (some .int) Q) {K60 : Int32 → Int32 → Int32 → Int32 → Int32 → Int32 → Int32 → Int32 → Int32 → Int32 → Int32 → St → Prop} (hK60 : ∀ (x1 : Int32) (x2 : Int32) (x3 : Int32) (x4 : Int32) (x5 : Int32) (x6 : Int32) (x7 : Int32) (x8 : Int32) (x9 : Int32) (x10 : Int32) (x11 : Int32) (σ : St), K60 x1 x2 x3 x4 x5 x6 x7 x8 x9 x10 x11 σ → At X 19 60 [(0, .ref (X.kad 49)), (1, .int (x1)), (2, .int (x2)), (3, .int (x3)), (4, .int (x4)), (5, .int (x5)), (6, .int (x6)), (7, .int (x7)), (8, .int (x8)), (9, .int (x9)), (10, .int (x10)), (11, .int (x11))] [] σ) (x1 : Int32) (x2 : Int32) (x3 : Int32) (x4 : Int32) (x5 : Int32) (x6 : Int32) (x7 : Int32) (x8 : Int32) (x9 : Int32) (x10 : Int32) (x11 : Int32) (s0 : Int32) (s1 : Int32) (s2 : Int32) (s3 : Int32) (s4 : Int32) (s6 : Int32) (σ : St) (hw : wp_X3_leastRest_b110 Rw (aI Q) K60 x1 x2 x3 x4 x5 x6 x7 x8 x9 x10 x11 s0 s1 s2 s3 s4 s6 σ) : At X 19 110 [(0, .ref (X.kad 49)), (1, .int (x1)), (2, .int (x2)), (3, .int (x3)), (4, .int (x4)), (5, .int (x5)), (6, .int (x6)), (7, .int (x7)), (8, .int (x8)), (9, .int (x9)), (10, .int (x10)), (11, .int (x11))] [.int (s0), .int (s1), .int (s2), .int (s3), .int (s4), .ref (X.kad 49), .int (s6)] σ := by
  unfold wp_X3_leastRest_b110 at hw
  refine k_X3_97_X3_leftBy 113 hX (by omega) (s4) (s3) (s2) (s1) (s0) (Nat.le_of_ble_eq_true rfl) dX3_leastRest_110 rfl hw (fun r110 σ110 hw => ?_)
  refine r_iand 114 hX dX3_leastRest_113 rfl ?_
  refine r_istore (lv' := [(12, .int (s6 &&& r110)), (0, .ref (X.kad 49)), (1, .int (x1)), (2, .int (x2)), (3, .int (x3)), (4, .int (x4)), (5, .int (x5)), (6, .int (x6)), (7, .int (x7)), (8, .int (x8)), (9, .int (x9)), (10, .int (x10)), (11, .int (x11))]) 116 hX dX3_leastRest_114 rfl (by decide) rfl ?_
  refine r_aload_n 117 hX dX3_leastRest_116 rfl rfl 1 rfl ?_
  refine g_X3_20_49 120 hX dX3_leastRest_117 rfl ?_
  refine r_iconst 121 hX dX3_leastRest_120 rfl 2 ic_2 ?_
  refine r_aald 122 hX sh_70 dX3_leastRest_121 rfl hw (fun hv121 hw => ?_)
  refine r_iload_n 123 hX dX3_leastRest_122 rfl rfl 2 rfl ?_
  refine r_iald 124 hX (shr_70 hv121) dX3_leastRest_123 rfl hw (fun hw => ?_)
  refine r_aload_n 125 hX dX3_leastRest_124 rfl rfl 1 rfl ?_
  refine r_iconst 126 hX dX3_leastRest_125 rfl 0 ic_0 ?_
  refine r_iload 128 hX dX3_leastRest_126 rfl 12 rfl ?_
  refine r_iconst 129 hX dX3_leastRest_128 rfl 2 ic_2 ?_
  refine r_iload_n 130 hX dX3_leastRest_129 rfl rfl 2 rfl ?_
  refine r_iload_n 131 hX dX3_leastRest_130 rfl rfl 3 rfl ?_
  refine r_iload 133 hX dX3_leastRest_131 rfl 5 rfl ?_
  refine r_icmp_ge 140 136 hX dX3_leastRest_133 (by decide) rfl hw (fun hw => ?_) (fun hw => ?_)
  · refine r_iconst 141 hX dX3_leastRest_140 rfl 0 ic_0 ?_
    refine r_sub [1, 2, 3, 4, 5, 6, 7, 8, 9, 10, 11, 12, 0] rfl ?_
    exact w_X3_leastRest_b141 hRc hX hR hK60 _ _ _ _ _ _ _ _ _ _ _ _ _ _ _ _ _ _ _ hw
  · refine r_iconst 137 hX dX3_leastRest_136 rfl 1 ic_1 ?_
    refine r_goto 141 hX dX3_leastRest_137 (by decide) ?_
    refine r_sub [1, 2, 3, 4, 5, 6, 7, 8, 9, 10, 11, 12, 0] rfl ?_
    exact w_X3_leastRest_b141 hRc hX hR hK60 _ _ _ _ _ _ _ _ _ _ _ _ _ _ _ _ _ _ _ hw
set_option maxRecDepth 20000 in
set_option maxHeartbeats 4000000 in
theorem w_X3_leastRest_b60 {Rw : Int32 → Int32 → (Int32 → St → Prop) → St → Prop} {dR : Nat} (hRc : ∀ a b : Int32, Con yX3_restFrom cX3_restFrom 3 (some .int) dR (fun ad => [.ref (ad 49), .int a, .int b]) (fun Q σ => Rw a b (aI Q) σ)) {X : Cx} {Q : RV → St → Prop} (hX : CxB X RX3 cX3_leastRest 19 (dR + 4)) (hR : CxR X (some .int) Q) {K60 : Int32 → Int32 → Int32 → Int32 → Int32 → Int32 → Int32 → Int32 → Int32 → Int32 → Int32 → St → Prop} (hK60 : ∀ (x1 : Int32) (x2 : Int32) (x3 : Int32) (x4 : Int32) (x5 : Int32) (x6 : Int32) (x7 : Int32) (x8 : Int32) (x9 : Int32) (x10 : Int32) (x11 : Int32) (σ : St), K60 x1 x2 x3 x4 x5 x6 x7 x8 x9 x10 x11 σ → At X 19 60 [(0, .ref (X.kad 49)), (1, .int (x1)), (2, .int (x2)), (3, .int (x3)), (4, .int (x4)), (5, .int (x5)), (6, .int (x6)), (7, .int (x7)), (8, .int (x8)), (9, .int (x9)), (10, .int (x10)), (11, .int (x11))] [] σ) (x1 : Int32) (x2 : Int32) (x3 : Int32) (x4 : Int32) (x5 : Int32) (x6 : Int32) (x7 : Int32) (x8 : Int32) (x9 : Int32) (x10 : Int32) (x11 : Int32) (σ : St) (hw : wp_X3_leastRest_b60 Rw (aI Q) K60 x1 x2 x3 x4 x5 x6 x7 x8 x9 x10 x11 σ) : At X 19 60 [(0, .ref (X.kad 49)), (1, .int (x1)), (2, .int (x2)), (3, .int (x3)), (4, .int (x4)), (5, .int (x5)), (6, .int (x6)), (7, .int (x7)), (8, .int (x8)), (9, .int (x9)), (10, .int (x10)), (11, .int (x11))] [] σ := by
  unfold wp_X3_leastRest_b60 at hw
  refine r_iload 62 hX dX3_leastRest_60 rfl 11 rfl ?_
  refine r_iload 64 hX dX3_leastRest_62 rfl 6 rfl ?_
  refine r_icmp_gt 322 67 hX dX3_leastRest_64 (by decide) rfl hw (fun hw => ?_) (fun hw => ?_)
  · refine r_iload 324 hX dX3_leastRest_322 rfl 5 rfl ?_
    exact r_iret hX hR dX3_leastRest_324 hw
  · refine r_aload_n 68 hX dX3_leastRest_67 rfl rfl 0 rfl ?_
    refine g_X3_20_49 71 hX dX3_leastRest_68 rfl ?_
    refine r_iconst 72 hX dX3_leastRest_71 rfl 0 ic_0 ?_
    refine r_aald 73 hX sh_70 dX3_leastRest_72 rfl hw (fun hv72 hw => ?_)
    refine r_iload_n 74 hX dX3_leastRest_73 rfl rfl 1 rfl ?_
    refine r_iald 75 hX (shr_70 hv72) dX3_leastRest_74 rfl hw (fun hw => ?_)
    refine r_iload 77 hX dX3_leastRest_75 rfl 11 rfl ?_
    refine r_ishr 78 hX dX3_leastRest_77 rfl ?_
    refine r_iconst 79 hX dX3_leastRest_78 rfl 1 ic_1 ?_
    refine r_iand 80 hX dX3_leastRest_79 rfl ?_
    refine r_if_ne 86 83 hX dX3_leastRest_80 (by decide) rfl hw (fun hw => ?_) (fun hw => ?_)
    · refine r_aload_n 87 hX dX3_leastRest_86 rfl rfl 0 rfl ?_
      refine g_X3_20_49 90 hX dX3_leastRest_87 rfl ?_
      refine r_iconst 91 hX dX3_leastRest_90 rfl 1 ic_1 ?_
      refine r_aald 92 hX sh_70 dX3_leastRest_91 rfl hw (fun hv91 hw => ?_)
      refine r_iload_n 93 hX dX3_leastRest_92 rfl rfl 1 rfl ?_
      refine r_iald 94 hX (shr_70 hv91) dX3_leastRest_93 rfl hw (fun hw => ?_)
      refine r_aload_n 95 hX dX3_leastRest_94 rfl rfl 0 rfl ?_
      refine r_iconst 96 hX dX3_leastRest_95 rfl 0 ic_0 ?_
      refine r_iload 98 hX dX3_leastRest_96 rfl 11 rfl ?_
      refine r_iconst 99 hX dX3_leastRest_98 rfl 1 ic_1 ?_
      refine r_iload_n 100 hX dX3_leastRest_99 rfl rfl 1 rfl ?_
      refine r_iload_n 101 hX dX3_leastRest_100 rfl rfl 2 rfl ?_
      refine r_iload_n 102 hX dX3_leastRest_101 rfl rfl 3 rfl ?_
      refine r_icmp_ge 109 105 hX dX3_leastRest_102 (by decide) rfl hw (fun hw => ?_) (fun hw => ?_)
      · refine r_iconst 110 hX dX3_leastRest_109 rfl 0 ic_0 ?_
        exact w_X3_leastRest_b110 hRc hX hR hK60 _ _ _ _ _ _ _ _ _ _ _ _ _ _ _ _ _ _ hw
      · refine r_iconst 106 hX dX3_leastRest_105 rfl 1 ic_1 ?_
        refine r_goto 110 hX dX3_leastRest_106 (by decide) ?_
        exact w_X3_leastRest_b110 hRc hX hR hK60 _ _ _ _ _ _ _ _ _ _ _ _ _ _ _ _ _ _ hw
    · refine r_goto 316 hX dX3_leastRest_83 (by decide) ?_
      refine r_iinc (lv' := [(11, .int (x11 + 1)), (0, .ref (X.kad 49)), (1, .int (x1)), (2, .int (x2)), (3, .int (x3)), (4, .int (x4)), (5, .int (x5)), (6, .int (x6)), (7, .int (x7)), (8, .int (x8)), (9, .int (x9)), (10, .int (x10))]) 319 hX dX3_leastRest_316 rfl 11 rfl (x11 + 1) (ici_1 _) (by decide) rfl ?_
      refine r_goto 60 hX dX3_leastRest_319 (by decide) ?_
      refine r_sub [1, 2, 3, 4, 5, 6, 7, 8, 9, 10, 11, 0] rfl ?_
      exact hK60 _ _ _ _ _ _ _ _ _ _ _ _ hw
set_option maxRecDepth 20000 in
set_option maxHeartbeats 4000000 in
theorem w_X3_leastRest_l60 {Rw : Int32 → Int32 → (Int32 → St → Prop) → St → Prop} {dR : Nat} (hRc : ∀ a b : Int32, Con yX3_restFrom cX3_restFrom 3 (some .int) dR (fun ad => [.ref (ad 49), .int a, .int b]) (fun Q σ => Rw a b (aI Q) σ)) {X : Cx} {Q : RV → St → Prop} (hX : CxB X RX3 cX3_leastRest 19 (dR + 4)) (hR : CxR X (some .int) Q) (n : Nat) : ∀ (x1 : Int32) (x2 : Int32) (x3 : Int32) (x4 : Int32) (x5 : Int32) (x6 : Int32) (x7 : Int32) (x8 : Int32) (x9 : Int32) (x10 : Int32) (x11 : Int32) (σ : St), wp_X3_leastRest_l60 Rw (aI Q)  n x1 x2 x3 x4 x5 x6 x7 x8 x9 x10 x11 σ → At X 19 60 [(0, .ref (X.kad 49)), (1, .int (x1)), (2, .int (x2)), (3, .int (x3)), (4, .int (x4)), (5, .int (x5)), (6, .int (x6)), (7, .int (x7)), (8, .int (x8)), (9, .int (x9)), (10, .int (x10)), (11, .int (x11))] [] σ := by
  induction n with
  | zero => intro x1 x2 x3 x4 x5 x6 x7 x8 x9 x10 x11 σ h; exact h.elim
  | succ n ih => intro x1 x2 x3 x4 x5 x6 x7 x8 x9 x10 x11 σ h; exact w_X3_leastRest_b60 hRc hX hR ih x1 x2 x3 x4 x5 x6 x7 x8 x9 x10 x11 σ h
set_option maxRecDepth 20000 in
set_option maxHeartbeats 4000000 in
theorem c_X3_leastRest {Rw : Int32 → Int32 → (Int32 → St → Prop) → St → Prop} {dR : Nat} (hRc : ∀ a b : Int32, Con yX3_restFrom cX3_restFrom 3 (some .int) dR (fun ad => [.ref (ad 49), .int a, .int b]) (fun Q σ => Rw a b (aI Q) σ)) (x1 : Int32) (x2 : Int32) (x3 : Int32) (x4 : Int32) : Con yX3_leastRest cX3_leastRest 19 (some .int) (dR + 4) (fun ad => [.ref (ad 49), .int (x1), .int (x2), .int (x3), .int (x4)]) (fun Q σ => wp_X3_leastRest Rw x1 x2 x3 x4 (aI Q) σ) := by
  refine con_intro (by decide +kernel) (fun _ => Nat.le_of_ble_eq_true rfl) (by omega) (fun X Q σ hX hR hw => ?_)
  have hX : CxB X RX3 cX3_leastRest 19 (dR + 4) := hX
  unfold wp_X3_leastRest at hw
  show At X 19 0 [(0, .ref (X.kad 49)), (1, .int (x1)), (2, .int (x2)), (3, .int (x3)), (4, .int (x4))] [] σ
  refine r_ldc 2 hX 1000000000 tw_146 dX3_leastRest_0 rfl ?_
  refine r_istore (lv' := [(5, .int (1000000000)), (0, .ref (X.kad 49)), (1, .int (x1)), (2, .int (x2)), (3, .int (x3)), (4, .int (x4))]) 4 hX dX3_leastRest_2 rfl (by decide) rfl ?_
  refine r_aload_n 5 hX dX3_leastRest_4 rfl rfl 1 rfl ?_
  refine r_iconst 6 hX dX3_leastRest_5 rfl 0 ic_0 ?_
  refine r_iload_n 7 hX dX3_leastRest_6 rfl rfl 2 rfl ?_
  refine r_iload_n 8 hX dX3_leastRest_7 rfl rfl 3 rfl ?_
  refine k_X3_90_X3_highest 11 hX (by omega) (0) (x1) (x2) (Nat.le_of_ble_eq_true rfl) dX3_leastRest_8 rfl hw (fun r8 σ8 hw => ?_)
  refine r_istore (lv' := [(6, .int (r8)), (5, .int (1000000000)), (0, .ref (X.kad 49)), (1, .int (x1)), (2, .int (x2)), (3, .int (x3)), (4, .int (x4))]) 13 hX dX3_leastRest_11 rfl (by decide) rfl ?_
  refine r_aload_n 14 hX dX3_leastRest_13 rfl rfl 2 rfl ?_
  refine r_iconst 15 hX dX3_leastRest_14 rfl 1 ic_1 ?_
  refine r_iload_n 16 hX dX3_leastRest_15 rfl rfl 3 rfl ?_
  refine r_iload_n 17 hX dX3_leastRest_16 rfl rfl 5 rfl ?_
  refine k_X3_94_X3_lowest 20 hX (by omega) (1) (x1) (x3) (Nat.le_of_ble_eq_true rfl) dX3_leastRest_17 rfl hw (fun r17 σ17 hw => ?_)
  refine r_istore (lv' := [(7, .int (r17)), (6, .int (r8)), (5, .int (1000000000)), (0, .ref (X.kad 49)), (1, .int (x1)), (2, .int (x2)), (3, .int (x3)), (4, .int (x4))]) 22 hX dX3_leastRest_20 rfl (by decide) rfl ?_
  refine r_aload_n 23 hX dX3_leastRest_22 rfl rfl 3 rfl ?_
  refine r_iconst 24 hX dX3_leastRest_23 rfl 1 ic_1 ?_
  refine r_iload_n 25 hX dX3_leastRest_24 rfl rfl 4 rfl ?_
  refine r_iload_n 26 hX dX3_leastRest_25 rfl rfl 6 rfl ?_
  refine k_X3_90_X3_highest 29 hX (by omega) (1) (x1) (x3) (Nat.le_of_ble_eq_true rfl) dX3_leastRest_26 rfl hw (fun r26 σ26 hw => ?_)
  refine r_istore (lv' := [(8, .int (r26)), (7, .int (r17)), (6, .int (r8)), (5, .int (1000000000)), (0, .ref (X.kad 49)), (1, .int (x1)), (2, .int (x2)), (3, .int (x3)), (4, .int (x4))]) 31 hX dX3_leastRest_29 rfl (by decide) rfl ?_
  refine r_aload_n 32 hX dX3_leastRest_31 rfl rfl 4 rfl ?_
  refine r_iconst 33 hX dX3_leastRest_32 rfl 2 ic_2 ?_
  refine r_iload_n 34 hX dX3_leastRest_33 rfl rfl 5 rfl ?_
  refine r_iload 36 hX dX3_leastRest_34 rfl 8 rfl ?_
  refine k_X3_94_X3_lowest 39 hX (by omega) (2) (x1) (x4) (Nat.le_of_ble_eq_true rfl) dX3_leastRest_36 rfl hw (fun r36 σ36 hw => ?_)
  refine r_istore (lv' := [(9, .int (r36)), (8, .int (r26)), (7, .int (r17)), (6, .int (r8)), (5, .int (1000000000)), (0, .ref (X.kad 49)), (1, .int (x1)), (2, .int (x2)), (3, .int (x3)), (4, .int (x4))]) 41 hX dX3_leastRest_39 rfl (by decide) rfl ?_
  refine r_aload_n 42 hX dX3_leastRest_41 rfl rfl 5 rfl ?_
  refine r_iconst 43 hX dX3_leastRest_42 rfl 2 ic_2 ?_
  refine r_iload_n 44 hX dX3_leastRest_43 rfl rfl 6 rfl ?_
  refine r_iload 46 hX dX3_leastRest_44 rfl 9 rfl ?_
  refine k_X3_90_X3_highest 49 hX (by omega) (2) (x1) (x4) (Nat.le_of_ble_eq_true rfl) dX3_leastRest_46 rfl hw (fun r46 σ46 hw => ?_)
  refine r_istore (lv' := [(10, .int (r46)), (9, .int (r36)), (8, .int (r26)), (7, .int (r17)), (6, .int (r8)), (5, .int (1000000000)), (0, .ref (X.kad 49)), (1, .int (x1)), (2, .int (x2)), (3, .int (x3)), (4, .int (x4))]) 51 hX dX3_leastRest_49 rfl (by decide) rfl ?_
  refine r_aload_n 52 hX dX3_leastRest_51 rfl rfl 6 rfl ?_
  refine r_iconst 53 hX dX3_leastRest_52 rfl 0 ic_0 ?_
  refine r_iload_n 54 hX dX3_leastRest_53 rfl rfl 7 rfl ?_
  refine r_iload_n 55 hX dX3_leastRest_54 rfl rfl 8 rfl ?_
  refine k_X3_94_X3_lowest 58 hX (by omega) (0) (x1) (x2) (Nat.le_of_ble_eq_true rfl) dX3_leastRest_55 rfl hw (fun r55 σ55 hw => ?_)
  refine r_istore (lv' := [(11, .int (r55)), (10, .int (r46)), (9, .int (r36)), (8, .int (r26)), (7, .int (r17)), (6, .int (r8)), (5, .int (1000000000)), (0, .ref (X.kad 49)), (1, .int (x1)), (2, .int (x2)), (3, .int (x3)), (4, .int (x4))]) 60 hX dX3_leastRest_58 rfl (by decide) rfl ?_
  refine r_sub [7, 8, 9, 10, 11, 6, 5, 4, 3, 2, 1, 0] rfl ?_
  obtain ⟨n, hw⟩ := hw
  exact w_X3_leastRest_l60 hRc hX hR n _ _ _ _ _ _ _ _ _ _ _ _ hw
theorem k_X3_78_X3_leastRest {Rw : Int32 → Int32 → (Int32 → St → Prop) → St → Prop} {dR : Nat} (hRc : ∀ a b : Int32, Con yX3_restFrom cX3_restFrom 3 (some .int) dR (fun ad => [.ref (ad 49), .int a, .int b]) (fun Q σ => Rw a b (aI Q) σ)) {X : Cx} {cc : ByteArray} {nL d pc : Nat} {lv : List (Nat × Value)} {rest : List Value} {σ : St} {K : Int32 → St → Prop} (q : Nat) (hX : CxB X RX3 cc nL d) (hdc : dR + 4 + 1 ≤ d) (x1 : Int32) (x2 : Int32) (x3 : Int32) (x4 : Int32) (hst : (rest.map fun v => v.category).sum ≤ 8) (hd : decode cc pc = .ok (.invokevirtual 78, 3)) (hq : pc + 3 = q) (hw : wp_X3_leastRest Rw x1 x2 x3 x4 K σ) (kk : ∀ (r : Int32) (τ : St), K r τ → At X nL q lv (.int r :: rest) τ) : At X nL pc lv (.int (x4) :: .int (x3) :: .int (x2) :: .int (x1) :: .ref (X.kad 49) :: rest) σ := r_callV (n := 4) q hX (k0 := 49) (c_X3_leastRest hRc x1 x2 x3 x4) tw_170 tw_171 tw_172 tw_144 tw_173 ⟨by decide +kernel, by decide +kernel, by decide +kernel⟩ hdc (by decide) (As := [.int (x1), .int (x2), .int (x3), .int (x4)]) rfl rfl (by decide) ⟨_, _, _, rfl, rfl, rfl⟩ hst hd hq rfl (K := qI K) hw (kI kk)
theorem k_X3_75_X3_breadthOf {X : Cx} {cc : ByteArray} {nL d pc : Nat} {lv : List (Nat × Value)} {rest : List Value} {σ : St} {K : Int32 → St → Prop} (q : Nat) (hX : CxB X RX3 cc nL d) (hdc : 2 + 1 ≤ d) (x1 : Int32) (hst : (rest.map fun v => v.category).sum ≤ 8) (hd : decode cc pc = .ok (.invokevirtual 75, 3)) (hq : pc + 3 = q) (hw : wp_X3_breadthOf x1 K σ) (kk : ∀ (r : Int32) (τ : St), K r τ → At X nL q lv (.int r :: rest) τ) : At X nL pc lv (.int (x1) :: .ref (X.kad 49) :: rest) σ := r_callV (n := 1) q hX (k0 := 49) (c_X3_breadthOf x1) tw_174 tw_175 tw_176 tw_144 tw_177 ⟨by decide +kernel, by decide +kernel, by decide +kernel⟩ hdc (by decide) (As := [.int (x1)]) rfl rfl (by decide) ⟨_, _, _, rfl, rfl, rfl⟩ hst hd hq rfl (K := qI K) hw (kI kk)
set_option maxRecDepth 20000 in
set_option maxHeartbeats 4000000 in
theorem w_X3_restFromF_b86 {Rw : Int32 → Int32 → (Int32 → St → Prop) → St → Prop} {dR : Nat} (hRc : ∀ a b : Int32, Con yX3_restFrom cX3_restFrom 3 (some .int) dR (fun ad => [.ref (ad 49), .int a, .int b]) (fun Q σ => Rw a b (aI Q) σ)) {X : Cx} {Q : RV → St → Prop} (hX : CxB X RX3 cX3_restFrom 3 (dR + 6)) (hR : CxR X (some .int) Q) (x1 : Int32) (x2 : Int32) (σ : St) (hw : wp_X3_restFromF_b86 Rw (aI Q)  x1 x2 σ) : At X 3 86 [(0, .ref (X.kad 49)), (1, .int (x1)), (2, .int (x2))] [] σ := by
  unfold wp_X3_restFromF_b86 at hw
  refine r_aload_n 87 hX dX3_restFrom_86 rfl rfl 0 rfl ?_
  refine g_X3_13_49 90 hX dX3_restFrom_87 rfl ?_
  refine r_iload_n 91 hX dX3_restFrom_90 rfl rfl 1 rfl ?_
  refine r_aald 92 hX sh_50 dX3_restFrom_91 rfl hw (fun hv91 hw => ?_)
  refine r_iload_n 93 hX dX3_restFrom_92 rfl rfl 2 rfl ?_
  refine r_iald 94 hX (shr_50 hv91) dX3_restFrom_93 rfl hw (fun hw => ?_)
  exact r_iret hX hR dX3_restFrom_94 hw
set_option maxRecDepth 20000 in
set_option maxHeartbeats 4000000 in
theorem w_X3_restFromF_b85 {Rw : Int32 → Int32 → (Int32 → St → Prop) → St → Prop} {dR : Nat} (hRc : ∀ a b : Int32, Con yX3_restFrom cX3_restFrom 3 (some .int) dR (fun ad => [.ref (ad 49), .int a, .int b]) (fun Q σ => Rw a b (aI Q) σ)) {X : Cx} {Q : RV → St → Prop} (hX : CxB X RX3 cX3_restFrom 3 (dR + 6)) (hR : CxR X (some .int) Q) (x1 : Int32) (x2 : Int32) (s0 : Int32) (s1 : Int32) (z2 : Nat) (hz2 : wS z2 = (9, 1000)) (σ : St) (hw : wp_X3_restFromF_b85 Rw (aI Q)  x1 x2 s0 s1 z2 σ) : At X 3 85 [(0, .ref (X.kad 49)), (1, .int (x1)), (2, .int (x2))] [.int (s0), .int (s1), .ref (X.kad z2)] σ := by
  unfold wp_X3_restFromF_b85 at hw
  refine r_iast 86 hX hz2 dX3_restFrom_85 rfl hw (fun hw => ?_)
  exact w_X3_restFromF_b86 hRc hX hR _ _ _ hw
set_option maxRecDepth 20000 in
set_option maxHeartbeats 4000000 in
theorem c_X3_restFromF {Rw : Int32 → Int32 → (Int32 → St → Prop) → St → Prop} {dR : Nat} (hRc : ∀ a b : Int32, Con yX3_restFrom cX3_restFrom 3 (some .int) dR (fun ad => [.ref (ad 49), .int a, .int b]) (fun Q σ => Rw a b (aI Q) σ)) (x1 : Int32) (x2 : Int32) : Con yX3_restFrom cX3_restFrom 3 (some .int) (dR + 6) (fun ad => [.ref (ad 49), .int (x1), .int (x2)]) (fun Q σ => wp_X3_restFromF Rw x1 x2 (aI Q) σ) := by
  refine con_intro (by decide +kernel) (fun _ => Nat.le_of_ble_eq_true rfl) (by omega) (fun X Q σ hX hR hw => ?_)
  have hX : CxB X RX3 cX3_restFrom 3 (dR + 6) := hX
  unfold wp_X3_restFromF at hw
  show At X 3 0 [(0, .ref (X.kad 49)), (1, .int (x1)), (2, .int (x2))] [] σ
  refine r_iload_n 1 hX dX3_restFrom_0 rfl rfl 1 rfl ?_
  refine r_if_lt 21 4 hX dX3_restFrom_1 (by decide) rfl hw (fun hw => ?_) (fun hw => ?_)
  · refine r_ldc 23 hX 1000000000 tw_146 dX3_restFrom_21 rfl ?_
    exact r_iret hX hR dX3_restFrom_23 hw
  · refine r_iload_n 5 hX dX3_restFrom_4 rfl rfl 1 rfl ?_
    refine r_bipush 7 hX dX3_restFrom_5 rfl 16 bi_16 ?_
    refine r_icmp_gt 21 10 hX dX3_restFrom_7 (by decide) rfl hw (fun hw => ?_) (fun hw => ?_)
    · refine r_ldc 23 hX 1000000000 tw_146 dX3_restFrom_21 rfl ?_
      exact r_iret hX hR dX3_restFrom_23 hw
    · refine r_iload_n 11 hX dX3_restFrom_10 rfl rfl 2 rfl ?_
      refine r_if_lt 21 14 hX dX3_restFrom_11 (by decide) rfl hw (fun hw => ?_) (fun hw => ?_)
      · refine r_ldc 23 hX 1000000000 tw_146 dX3_restFrom_21 rfl ?_
        exact r_iret hX hR dX3_restFrom_23 hw
      · refine r_iload_n 15 hX dX3_restFrom_14 rfl rfl 2 rfl ?_
        refine r_sipush 18 hX dX3_restFrom_15 rfl 1000 si_1000 ?_
        refine r_icmp_lt 24 21 hX dX3_restFrom_18 (by decide) rfl hw (fun hw => ?_) (fun hw => ?_)
        · refine r_aload_n 25 hX dX3_restFrom_24 rfl rfl 0 rfl ?_
          refine g_X3_13_49 28 hX dX3_restFrom_25 rfl ?_
          refine r_iload_n 29 hX dX3_restFrom_28 rfl rfl 1 rfl ?_
          refine r_aald 30 hX sh_50 dX3_restFrom_29 rfl hw (fun hv29 hw => ?_)
          refine r_iload_n 31 hX dX3_restFrom_30 rfl rfl 2 rfl ?_
          refine r_iald 32 hX (shr_50 hv29) dX3_restFrom_31 rfl hw (fun hw => ?_)
          refine r_if_ne 86 35 hX dX3_restFrom_32 (by decide) rfl hw (fun hw => ?_) (fun hw => ?_)
          · exact w_X3_restFromF_b86 hRc hX hR _ _ _ hw
          · refine r_aload_n 36 hX dX3_restFrom_35 rfl rfl 0 rfl ?_
            refine g_X3_13_49 39 hX dX3_restFrom_36 rfl ?_
            refine r_iload_n 40 hX dX3_restFrom_39 rfl rfl 1 rfl ?_
            refine r_aald 41 hX sh_50 dX3_restFrom_40 rfl hw (fun hv40 hw => ?_)
            refine r_iload_n 42 hX dX3_restFrom_41 rfl rfl 2 rfl ?_
            refine r_iload_n 43 hX dX3_restFrom_42 rfl rfl 1 rfl ?_
            refine r_aload_n 44 hX dX3_restFrom_43 rfl rfl 0 rfl ?_
            refine g_X3_32_49 47 hX dX3_restFrom_44 rfl ?_
            refine r_icmp_le 65 50 hX dX3_restFrom_47 (by decide) rfl hw (fun hw => ?_) (fun hw => ?_)
            · refine r_aload_n 66 hX dX3_restFrom_65 rfl rfl 0 rfl ?_
              refine r_iload_n 67 hX dX3_restFrom_66 rfl rfl 1 rfl ?_
              refine r_iload_n 68 hX dX3_restFrom_67 rfl rfl 2 rfl ?_
              refine r_iconst 69 hX dX3_restFrom_68 rfl 0 ic_0 ?_
              refine k_X3_72_X3_columnIn 72 hX (by omega) (x2) (0) (Nat.le_of_ble_eq_true rfl) dX3_restFrom_69 rfl hw (fun r69 σ69 hw => ?_)
              refine r_iload_n 73 hX dX3_restFrom_72 rfl rfl 2 rfl ?_
              refine r_iconst 74 hX dX3_restFrom_73 rfl 1 ic_1 ?_
              refine k_X3_72_X3_columnIn 77 hX (by omega) (x2) (1) (Nat.le_of_ble_eq_true rfl) dX3_restFrom_74 rfl hw (fun r74 σ74 hw => ?_)
              refine r_iload_n 78 hX dX3_restFrom_77 rfl rfl 2 rfl ?_
              refine r_iconst 79 hX dX3_restFrom_78 rfl 2 ic_2 ?_
              refine k_X3_72_X3_columnIn 82 hX (by omega) (x2) (2) (Nat.le_of_ble_eq_true rfl) dX3_restFrom_79 rfl hw (fun r79 σ79 hw => ?_)
              refine k_X3_78_X3_leastRest hRc 85 hX (by omega) (x1) (r69) (r74) (r79) (Nat.le_of_ble_eq_true rfl) dX3_restFrom_82 rfl hw (fun r82 σ82 hw => ?_)
              exact w_X3_restFromF_b85 hRc hX hR _ _ _ _ _ (shr_50 hv40) _ hw
            · refine r_aload_n 51 hX dX3_restFrom_50 rfl rfl 0 rfl ?_
              refine r_iload_n 52 hX dX3_restFrom_51 rfl rfl 2 rfl ?_
              refine k_X3_75_X3_breadthOf 55 hX (by omega) (x2) (Nat.le_of_ble_eq_true rfl) dX3_restFrom_52 rfl hw (fun r52 σ52 hw => ?_)
              refine r_bipush 57 hX dX3_restFrom_55 rfl 100 bi_100 ?_
              refine r_imul 58 hX dX3_restFrom_57 rfl ?_
              refine r_sipush 61 hX dX3_restFrom_58 rfl 1000 si_1000 ?_
              refine r_imul 62 hX dX3_restFrom_61 rfl ?_
              refine r_goto 85 hX dX3_restFrom_62 (by decide) ?_
              exact w_X3_restFromF_b85 hRc hX hR _ _ _ _ _ (shr_50 hv40) _ hw
        · refine r_ldc 23 hX 1000000000 tw_146 dX3_restFrom_21 rfl ?_
          exact r_iret hX hR dX3_restFrom_23 hw
theorem c_restN (n : Nat) : ∀ a b : Int32, Con yX3_restFrom cX3_restFrom 3 (some .int) (6 * n + 1) (fun ad => [.ref (ad 49), .int a, .int b]) (fun Q σ => wp_restN n a b (aI Q) σ) := by
  induction n with
  | zero => intro a b l D cy ad hi σ sz Q h; exact h.elim
  | succ n ih =>
    intro a b
    have h := c_X3_restFromF (Rw := wp_restN n) ih a b
    rw [show 6 * n + 1 + 6 = 6 * (n + 1) + 1 by omega] at h
    exact h
theorem c_X3_restFrom (x1 x2 : Int32) : Con yX3_restFrom cX3_restFrom 3 (some .int) 121 (fun ad => [.ref (ad 49), .int x1, .int x2]) (fun Q σ => wp_X3_restFrom x1 x2 (aI Q) σ) := c_restN 20 x1 x2
theorem k_X3_42_fillI {X : Cx} {cc : ByteArray} {nL d pc : Nat} {lv : List (Nat × Value)} {rest : List Value} {σ : St} {K : St → Prop} (q : Nat) (hX : CxB X RX3 cc nL d) (hdc : 1 + 1 ≤ d) {a n : Nat} (hs : wS a = (9, n)) (v : Int32) (hst : (rest.map fun v => v.category).sum ≤ 8) (hd : decode cc pc = .ok (.invokestatic 42, 3)) (hq : pc + 3 = q) (hw : wp_fillI a n v K σ) (kk : ∀ τ : St, K τ → At X nL q lv rest τ) : At X nL pc lv (.int v :: .ref (X.kad a) :: rest) σ := r_callS (n := 2) q hX (c_fillI a n hs v) tw_178 tw_31 tw_32 tw_33 ⟨by decide +kernel, by decide +kernel, by decide +kernel⟩ hdc (by decide) (As := [.ref (X.kad a), .int v]) rfl rfl hst hd hq rfl (K := qV K) hw (kV kk)
set_option maxRecDepth 20000 in
set_option maxHeartbeats 4000000 in
theorem w_X3_forgetUpTo_b2 {X : Cx} {Q : RV → St → Prop} (hX : CxB X RX3 cX3_forgetUpTo 3 (2)) (hR : CxR X (none) Q) {K2 : Int32 → Int32 → St → Prop} (hK2 : ∀ (x1 : Int32) (x2 : Int32) (σ : St), K2 x1 x2 σ → At X 3 2 [(0, .ref (X.kad 49)), (1, .int (x1)), (2, .int (x2))] [] σ) (x1 : Int32) (x2 : Int32) (σ : St) (hw : wp_X3_forgetUpTo_b2 (aV Q) K2 x1 x2 σ) : At X 3 2 [(0, .ref (X.kad 49)), (1, .int (x1)), (2, .int (x2))] [] σ := by
  unfold wp_X3_forgetUpTo_b2 at hw
  refine r_iload_n 3 hX dX3_forgetUpTo_2 rfl rfl 2 rfl ?_
  refine r_iload_n 4 hX dX3_forgetUpTo_3 rfl rfl 1 rfl ?_
  refine r_icmp_gt 29 7 hX dX3_forgetUpTo_4 (by decide) rfl hw (fun hw => ?_) (fun hw => ?_)
  · exact r_vret hX hR dX3_forgetUpTo_29 hw
  · refine r_iload_n 8 hX dX3_forgetUpTo_7 rfl rfl 2 rfl ?_
    refine r_bipush 10 hX dX3_forgetUpTo_8 rfl 16 bi_16 ?_
    refine r_icmp_gt 29 13 hX dX3_forgetUpTo_10 (by decide) rfl hw (fun hw => ?_) (fun hw => ?_)
    · exact r_vret hX hR dX3_forgetUpTo_29 hw
    · refine r_aload_n 14 hX dX3_forgetUpTo_13 rfl rfl 0 rfl ?_
      refine g_X3_13_49 17 hX dX3_forgetUpTo_14 rfl ?_
      refine r_iload_n 18 hX dX3_forgetUpTo_17 rfl rfl 2 rfl ?_
      refine r_aald 19 hX sh_50 dX3_forgetUpTo_18 rfl hw (fun hv18 hw => ?_)
      refine r_iconst 20 hX dX3_forgetUpTo_19 rfl 0 ic_0 ?_
      refine k_X3_42_fillI 23 hX (by omega) (shr_50 hv18) (0) (Nat.le_of_ble_eq_true rfl) dX3_forgetUpTo_20 rfl hw (fun σ20 hw => ?_)
      refine r_iinc (lv' := [(2, .int (x2 + 1)), (0, .ref (X.kad 49)), (1, .int (x1))]) 26 hX dX3_forgetUpTo_23 rfl 2 rfl (x2 + 1) (ici_1 _) (by decide) rfl ?_
      refine r_goto 2 hX dX3_forgetUpTo_26 (by decide) ?_
      refine r_sub [1, 2, 0] rfl ?_
      exact hK2 _ _ _ hw
set_option maxRecDepth 20000 in
set_option maxHeartbeats 4000000 in
theorem w_X3_forgetUpTo_l2 {X : Cx} {Q : RV → St → Prop} (hX : CxB X RX3 cX3_forgetUpTo 3 (2)) (hR : CxR X (none) Q) (n : Nat) : ∀ (x1 : Int32) (x2 : Int32) (σ : St), wp_X3_forgetUpTo_l2 (aV Q)  n x1 x2 σ → At X 3 2 [(0, .ref (X.kad 49)), (1, .int (x1)), (2, .int (x2))] [] σ := by
  induction n with
  | zero => intro x1 x2 σ h; exact h.elim
  | succ n ih => intro x1 x2 σ h; exact w_X3_forgetUpTo_b2  hX hR ih x1 x2 σ h
set_option maxRecDepth 20000 in
set_option maxHeartbeats 4000000 in
theorem c_X3_forgetUpTo (x1 : Int32) : Con yX3_forgetUpTo cX3_forgetUpTo 3 (none) (2) (fun ad => [.ref (ad 49), .int (x1)]) (fun Q σ => wp_X3_forgetUpTo x1 (aV Q) σ) := by
  refine con_intro (by decide +kernel) (fun _ => Nat.le_of_ble_eq_true rfl) (by omega) (fun X Q σ hX hR hw => ?_)
  have hX : CxB X RX3 cX3_forgetUpTo 3 (2) := hX
  unfold wp_X3_forgetUpTo at hw
  show At X 3 0 [(0, .ref (X.kad 49)), (1, .int (x1))] [] σ
  refine r_iconst 1 hX dX3_forgetUpTo_0 rfl 0 ic_0 ?_
  refine r_istore_n (lv' := [(2, .int (0)), (0, .ref (X.kad 49)), (1, .int (x1))]) 2 hX dX3_forgetUpTo_1 rfl rfl (by decide) rfl ?_
  refine r_sub [1, 2, 0] rfl ?_
  obtain ⟨n, hw⟩ := hw
  exact w_X3_forgetUpTo_l2 hX hR n _ _ _ hw
theorem k_X3_48_X3_forgetUpTo {X : Cx} {cc : ByteArray} {nL d pc : Nat} {lv : List (Nat × Value)} {rest : List Value} {σ : St} {K : St → Prop} (q : Nat) (hX : CxB X RX3 cc nL d) (hdc : 2 + 1 ≤ d) (x1 : Int32) (hst : (rest.map fun v => v.category).sum ≤ 8) (hd : decode cc pc = .ok (.invokevirtual 48, 3)) (hq : pc + 3 = q) (hw : wp_X3_forgetUpTo x1 K σ) (kk : ∀ (τ : St), K τ → At X nL q lv (rest) τ) : At X nL pc lv (.int (x1) :: .ref (X.kad 49) :: rest) σ := r_callV (n := 1) q hX (k0 := 49) (c_X3_forgetUpTo x1) tw_180 tw_181 tw_182 tw_144 tw_183 ⟨by decide +kernel, by decide +kernel, by decide +kernel⟩ hdc (by decide) (As := [.int (x1)]) rfl rfl (by decide) ⟨_, _, _, rfl, rfl, rfl⟩ hst hd hq rfl (K := qV K) hw (kV kk)
theorem k_X3_38_X4_freeColumns {X : Cx} {cc : ByteArray} {nL d pc : Nat} {lv : List (Nat × Value)} {rest : List Value} {σ : St} {K : Int32 → St → Prop} (q : Nat) (hX : CxB X RX3 cc nL d) (hdc : 1 + 1 ≤ d) (x1 : Int32) (hst : (rest.map fun v => v.category).sum ≤ 8) (hd : decode cc pc = .ok (.invokevirtual 38, 3)) (hq : pc + 3 = q) (hw : wp_X4_freeColumns x1 K σ) (kk : ∀ (r : Int32) (τ : St), K r τ → At X nL q lv (.int r :: rest) τ) : At X nL pc lv (.int (x1) :: .ref (X.kad 4) :: rest) σ := r_callV (n := 1) q hX (k0 := 4) (c_X4_freeColumns x1) tw_185 tw_23 tw_24 tw_8 tw_25 ⟨by decide +kernel, by decide +kernel, by decide +kernel⟩ hdc (by decide) (As := [.int (x1)]) rfl rfl (by decide) ⟨_, _, _, rfl, rfl, rfl⟩ hst hd hq rfl (K := qI K) hw (kI kk)
set_option maxRecDepth 20000 in
set_option maxHeartbeats 4000000 in
theorem w_X3_prepare_b53 {X : Cx} {Q : RV → St → Prop} (hX : CxB X RX3 cX3_prepare 5 (3)) (hR : CxR X (none) Q) {K53 : Int32 → St → Prop} (hK53 : ∀ (x4 : Int32) (σ : St), K53 x4 σ → At X 5 53 [(0, .ref (X.kad 49)), (4, .int (x4))] [] σ) (x4 : Int32) (σ : St) (hw : wp_X3_prepare_b53 (aV Q) K53 x4 σ) : At X 5 53 [(0, .ref (X.kad 49)), (4, .int (x4))] [] σ := by
  unfold wp_X3_prepare_b53 at hw
  refine r_iload 55 hX dX3_prepare_53 rfl 1 rfl ?_
  refine r_iconst 56 hX dX3_prepare_55 rfl 3 ic_3 ?_
  refine r_icmp_ge 85 59 hX dX3_prepare_56 (by decide) rfl hw (fun hw => ?_) (fun hw => ?_)
  · refine r_aload_n 86 hX dX3_prepare_85 rfl rfl 0 rfl ?_
    refine r_aload_n 87 hX dX3_prepare_86 rfl rfl 0 rfl ?_
    refine g_X3_32_49 90 hX dX3_prepare_87 rfl ?_
    refine r_iconst 91 hX dX3_prepare_90 rfl 1 ic_1 ?_
    refine r_iadd 92 hX dX3_prepare_91 rfl ?_
    refine k_X3_48_X3_forgetUpTo 95 hX (by omega) ((σ.1 49 4) + 1) (Nat.le_of_ble_eq_true rfl) dX3_prepare_92 rfl hw (fun σ92 hw => ?_)
    exact r_vret hX hR dX3_prepare_95 hw
  · refine r_aload_n 60 hX dX3_prepare_59 rfl rfl 0 rfl ?_
    refine g_X3_23_49 63 hX dX3_prepare_60 rfl ?_
    refine r_iload 65 hX dX3_prepare_63 rfl 1 rfl ?_
    refine r_bipush 67 hX dX3_prepare_65 rfl 16 bi_16 ?_
    refine r_iast 68 hX sh_68 dX3_prepare_67 rfl hw (fun hw => ?_)
    refine r_aload_n 69 hX dX3_prepare_68 rfl rfl 0 rfl ?_
    refine g_X3_20_49 72 hX dX3_prepare_69 rfl ?_
    refine r_iload 74 hX dX3_prepare_72 rfl 1 rfl ?_
    refine r_aald 75 hX sh_70 dX3_prepare_74 rfl hw (fun hv74 hw => ?_)
    refine r_iconst 76 hX dX3_prepare_75 rfl 1 ic_1 ?_
    refine k_X3_42_fillI 79 hX (by omega) (shr_70 hv74) (1) (Nat.le_of_ble_eq_true rfl) dX3_prepare_76 rfl hw (fun σ76 hw => ?_)
    refine r_iinc (lv' := [(4, .int (x4 + 1)), (0, .ref (X.kad 49))]) 82 hX dX3_prepare_79 rfl 1 rfl (x4 + 1) (ici_1 _) (by decide) rfl ?_
    refine r_goto 53 hX dX3_prepare_82 (by decide) ?_
    refine r_sub [1, 0] rfl ?_
    exact hK53 _ _ hw
set_option maxRecDepth 20000 in
set_option maxHeartbeats 4000000 in
theorem w_X3_prepare_l53 {X : Cx} {Q : RV → St → Prop} (hX : CxB X RX3 cX3_prepare 5 (3)) (hR : CxR X (none) Q) (n : Nat) : ∀ (x4 : Int32) (σ : St), wp_X3_prepare_l53 (aV Q)  n x4 σ → At X 5 53 [(0, .ref (X.kad 49)), (4, .int (x4))] [] σ := by
  induction n with
  | zero => intro x4 σ h; exact h.elim
  | succ n ih => intro x4 σ h; exact w_X3_prepare_b53  hX hR ih x4 σ h
set_option maxRecDepth 20000 in
set_option maxHeartbeats 4000000 in
theorem w_X3_prepare_b18 {X : Cx} {Q : RV → St → Prop} (hX : CxB X RX3 cX3_prepare 5 (3)) (hR : CxR X (none) Q) {K18 : Int32 → Int32 → St → Prop} (hK18 : ∀ (x3 : Int32) (x4 : Int32) (σ : St), K18 x3 x4 σ → At X 5 18 [(0, .ref (X.kad 49)), (1, .ref (X.kad 4)), (3, .int (x3)), (4, .int (x4))] [] σ) (x3 : Int32) (x4 : Int32) (σ : St) (hw : wp_X3_prepare_b18 (aV Q) K18 x3 x4 σ) : At X 5 18 [(0, .ref (X.kad 49)), (1, .ref (X.kad 4)), (3, .int (x3)), (4, .int (x4))] [] σ := by
  unfold wp_X3_prepare_b18 at hw
  refine r_iload 20 hX dX3_prepare_18 rfl 3 rfl ?_
  refine r_aload_n 21 hX dX3_prepare_20 rfl rfl 0 rfl ?_
  refine g_X3_32_49 24 hX dX3_prepare_21 rfl ?_
  refine r_icmp_gt 50 27 hX dX3_prepare_24 (by decide) rfl hw (fun hw => ?_) (fun hw => ?_)
  · refine r_iconst 51 hX dX3_prepare_50 rfl 0 ic_0 ?_
    refine r_istore (lv' := [(4, .int (0)), (0, .ref (X.kad 49)), (1, .ref (X.kad 4)), (3, .int (x3))]) 53 hX dX3_prepare_51 rfl (by decide) rfl ?_
    refine r_sub [1, 0] rfl ?_
    obtain ⟨n, hw⟩ := hw
    exact w_X3_prepare_l53 hX hR n _ _ hw
  · refine r_aload_n 28 hX dX3_prepare_27 rfl rfl 0 rfl ?_
    refine g_X3_16_49 31 hX dX3_prepare_28 rfl ?_
    refine r_iload 33 hX dX3_prepare_31 rfl 3 rfl ?_
    refine r_aload_n 34 hX dX3_prepare_33 rfl rfl 1 rfl ?_
    refine r_iload 36 hX dX3_prepare_34 rfl 3 rfl ?_
    refine k_X3_38_X4_freeColumns 39 hX (by omega) (x4) (Nat.le_of_ble_eq_true rfl) dX3_prepare_36 rfl hw (fun r36 σ36 hw => ?_)
    refine r_iload_n 40 hX dX3_prepare_39 rfl rfl 2 rfl ?_
    refine r_iconst 41 hX dX3_prepare_40 rfl (-1) ic_m1 ?_
    refine r_ixor 42 hX dX3_prepare_41 rfl ?_
    refine r_iand 43 hX dX3_prepare_42 rfl ?_
    refine r_iast 44 hX sh_69 dX3_prepare_43 rfl hw (fun hw => ?_)
    refine r_iinc (lv' := [(4, .int (x4 + 1)), (0, .ref (X.kad 49)), (1, .ref (X.kad 4)), (3, .int (x3))]) 47 hX dX3_prepare_44 rfl 3 rfl (x4 + 1) (ici_1 _) (by decide) rfl ?_
    refine r_goto 18 hX dX3_prepare_47 (by decide) ?_
    refine r_sub [1, 2, 3, 0] rfl ?_
    exact hK18 _ _ _ hw
set_option maxRecDepth 20000 in
set_option maxHeartbeats 4000000 in
theorem w_X3_prepare_l18 {X : Cx} {Q : RV → St → Prop} (hX : CxB X RX3 cX3_prepare 5 (3)) (hR : CxR X (none) Q) (n : Nat) : ∀ (x3 : Int32) (x4 : Int32) (σ : St), wp_X3_prepare_l18 (aV Q)  n x3 x4 σ → At X 5 18 [(0, .ref (X.kad 49)), (1, .ref (X.kad 4)), (3, .int (x3)), (4, .int (x4))] [] σ := by
  induction n with
  | zero => intro x3 x4 σ h; exact h.elim
  | succ n ih => intro x3 x4 σ h; exact w_X3_prepare_b18  hX hR ih x3 x4 σ h
set_option maxRecDepth 20000 in
set_option maxHeartbeats 4000000 in
theorem c_X3_prepare (x2 : Int32) (x3 : Int32) : Con yX3_prepare cX3_prepare 5 (none) (3) (fun ad => [.ref (ad 49), .ref (ad 4), .int (x2), .int (x3)]) (fun Q σ => wp_X3_prepare x2 x3 (aV Q) σ) := by
  refine con_intro (by decide +kernel) (fun _ => Nat.le_of_ble_eq_true rfl) (by omega) (fun X Q σ hX hR hw => ?_)
  have hX : CxB X RX3 cX3_prepare 5 (3) := hX
  unfold wp_X3_prepare at hw
  show At X 5 0 [(0, .ref (X.kad 49)), (1, .ref (X.kad 4)), (2, .int (x2)), (3, .int (x3))] [] σ
  refine r_aload_n 1 hX dX3_prepare_0 rfl rfl 0 rfl ?_
  refine r_aload_n 2 hX dX3_prepare_1 rfl rfl 1 rfl ?_
  refine g_X3_26_4 5 hX dX3_prepare_2 rfl ?_
  refine r_iconst 6 hX dX3_prepare_5 rfl 1 ic_1 ?_
  refine r_isub 7 hX dX3_prepare_6 rfl ?_
  refine p_X3_32_49 10 hX dX3_prepare_7 rfl ?_
  refine r_aload_n 11 hX dX3_prepare_10 rfl rfl 0 rfl ?_
  refine r_iload_n 12 hX dX3_prepare_11 rfl rfl 2 rfl ?_
  refine p_X3_35_49 15 hX dX3_prepare_12 rfl ?_
  refine r_iconst 16 hX dX3_prepare_15 rfl 0 ic_0 ?_
  refine r_istore (lv' := [(4, .int (0)), (0, .ref (X.kad 49)), (1, .ref (X.kad 4)), (2, .int (x2)), (3, .int (x3))]) 18 hX dX3_prepare_16 rfl (by decide) rfl ?_
  refine r_sub [1, 2, 4, 0] rfl ?_
  obtain ⟨n, hw⟩ := hw
  exact w_X3_prepare_l18 hX hR n _ _ _ hw
set_option maxRecDepth 20000 in
set_option maxHeartbeats 4000000 in
theorem c_X3_put (x1 : Int32) (x2 : Int32) (x3 : Int32) : Con yX3_put cX3_put 4 (none) (1) (fun ad => [.ref (ad 49), .int (x1), .int (x2), .int (x3)]) (fun Q σ => wp_X3_put x1 x2 x3 (aV Q) σ) := by
  refine con_intro (by decide +kernel) (fun _ => Nat.le_of_ble_eq_true rfl) (by omega) (fun X Q σ hX hR hw => ?_)
  have hX : CxB X RX3 cX3_put 4 (1) := hX
  unfold wp_X3_put at hw
  show At X 4 0 [(0, .ref (X.kad 49)), (1, .int (x1)), (2, .int (x2)), (3, .int (x3))] [] σ
  refine r_aload_n 1 hX dX3_put_0 rfl rfl 0 rfl ?_
  refine g_X3_23_49 4 hX dX3_put_1 rfl ?_
  refine r_iload_n 5 hX dX3_put_4 rfl rfl 1 rfl ?_
  refine r_iload_n 6 hX dX3_put_5 rfl rfl 2 rfl ?_
  refine r_iast 7 hX sh_68 dX3_put_6 rfl hw (fun hw => ?_)
  refine r_aload_n 8 hX dX3_put_7 rfl rfl 0 rfl ?_
  refine g_X3_16_49 11 hX dX3_put_8 rfl ?_
  refine r_iload_n 12 hX dX3_put_11 rfl rfl 2 rfl ?_
  refine r_aload_n 13 hX dX3_put_12 rfl rfl 0 rfl ?_
  refine g_X3_20_49 16 hX dX3_put_13 rfl ?_
  refine r_iload_n 17 hX dX3_put_16 rfl rfl 1 rfl ?_
  refine r_aald 18 hX sh_70 dX3_put_17 rfl hw (fun hv17 hw => ?_)
  refine r_iload_n 19 hX dX3_put_18 rfl rfl 2 rfl ?_
  refine r_bipush 21 hX dX3_put_19 rfl 16 bi_16 ?_
  refine r_iload_n 22 hX dX3_put_21 rfl rfl 2 rfl ?_
  refine r_isub 23 hX dX3_put_22 rfl ?_
  refine r_copyi 26 hX sh_69 (shr_70 hv17) tw_186 tw_35 tw_36 tw_37 rfl nfw dX3_put_23 rfl hw (fun hw => ?_)
  refine r_aload_n 27 hX dX3_put_26 rfl rfl 0 rfl ?_
  refine g_X3_20_49 30 hX dX3_put_27 rfl ?_
  refine r_iload_n 31 hX dX3_put_30 rfl rfl 1 rfl ?_
  refine r_aald 32 hX sh_70 dX3_put_31 rfl hw (fun hv31 hw => ?_)
  refine r_iload_n 33 hX dX3_put_32 rfl rfl 2 rfl ?_
  refine r_dup2 34 hX dX3_put_33 rfl rfl rfl ?_
  refine r_iald 35 hX (shr_70 hv31) dX3_put_34 rfl hw (fun hw => ?_)
  refine r_iconst 36 hX dX3_put_35 rfl 1 ic_1 ?_
  refine r_iload_n 37 hX dX3_put_36 rfl rfl 3 rfl ?_
  refine r_ishl 38 hX dX3_put_37 rfl ?_
  refine r_iand 39 hX dX3_put_38 rfl ?_
  refine r_iast 40 hX (shr_70 hv31) dX3_put_39 rfl hw (fun hw => ?_)
  exact r_vret hX hR dX3_put_40 hw
set_option maxRecDepth 20000 in
set_option maxHeartbeats 4000000 in
theorem w_X3_fix_b7 {X : Cx} {Q : RV → St → Prop} (hX : CxB X RX3 cX3_fix 4 (1)) (hR : CxR X (none) Q) {K7 : Int32 → Int32 → St → Prop} (hK7 : ∀ (x1 : Int32) (x3 : Int32) (σ : St), K7 x1 x3 σ → At X 4 7 [(0, .ref (X.kad 49)), (1, .int (x1)), (2, .ref (X.kad 20)), (3, .int (x3))] [] σ) (x1 : Int32) (x3 : Int32) (σ : St) (hw : wp_X3_fix_b7 (aV Q) K7 x1 x3 σ) : At X 4 7 [(0, .ref (X.kad 49)), (1, .int (x1)), (2, .ref (X.kad 20)), (3, .int (x3))] [] σ := by
  unfold wp_X3_fix_b7 at hw
  refine r_iload_n 8 hX dX3_fix_7 rfl rfl 3 rfl ?_
  refine r_aload_n 9 hX dX3_fix_8 rfl rfl 0 rfl ?_
  refine g_X3_32_49 12 hX dX3_fix_9 rfl ?_
  refine r_icmp_gt 42 15 hX dX3_fix_12 (by decide) rfl hw (fun hw => ?_) (fun hw => ?_)
  · exact r_vret hX hR dX3_fix_42 hw
  · refine r_aload_n 16 hX dX3_fix_15 rfl rfl 0 rfl ?_
    refine g_X3_20_49 19 hX dX3_fix_16 rfl ?_
    refine r_iload_n 20 hX dX3_fix_19 rfl rfl 1 rfl ?_
    refine r_aald 21 hX sh_70 dX3_fix_20 rfl hw (fun hv20 hw => ?_)
    refine r_iload_n 22 hX dX3_fix_21 rfl rfl 3 rfl ?_
    refine r_dup2 23 hX dX3_fix_22 rfl rfl rfl ?_
    refine r_iald 24 hX (shr_70 hv20) dX3_fix_23 rfl hw (fun hw => ?_)
    refine r_iconst 25 hX dX3_fix_24 rfl 1 ic_1 ?_
    refine r_aload_n 26 hX dX3_fix_25 rfl rfl 2 rfl ?_
    refine g_X3_58_20 29 hX dX3_fix_26 rfl ?_
    refine r_iload_n 30 hX dX3_fix_29 rfl rfl 1 rfl ?_
    refine r_aald 31 hX sh_21 dX3_fix_30 rfl hw (fun hv30 hw => ?_)
    refine r_iload_n 32 hX dX3_fix_31 rfl rfl 3 rfl ?_
    refine r_iald 33 hX (shr_21 hv30) dX3_fix_32 rfl hw (fun hw => ?_)
    refine r_ishl 34 hX dX3_fix_33 rfl ?_
    refine r_iand 35 hX dX3_fix_34 rfl ?_
    refine r_iast 36 hX (shr_70 hv20) dX3_fix_35 rfl hw (fun hw => ?_)
    refine r_iinc (lv' := [(3, .int (x3 + 1)), (0, .ref (X.kad 49)), (1, .int (x1)), (2, .ref (X.kad 20))]) 39 hX dX3_fix_36 rfl 3 rfl (x3 + 1) (ici_1 _) (by decide) rfl ?_
    refine r_goto 7 hX dX3_fix_39 (by decide) ?_
    refine r_sub [1, 2, 3, 0] rfl ?_
    exact hK7 _ _ _ hw
set_option maxRecDepth 20000 in
set_option maxHeartbeats 4000000 in
theorem w_X3_fix_l7 {X : Cx} {Q : RV → St → Prop} (hX : CxB X RX3 cX3_fix 4 (1)) (hR : CxR X (none) Q) (n : Nat) : ∀ (x1 : Int32) (x3 : Int32) (σ : St), wp_X3_fix_l7 (aV Q)  n x1 x3 σ → At X 4 7 [(0, .ref (X.kad 49)), (1, .int (x1)), (2, .ref (X.kad 20)), (3, .int (x3))] [] σ := by
  induction n with
  | zero => intro x1 x3 σ h; exact h.elim
  | succ n ih => intro x1 x3 σ h; exact w_X3_fix_b7  hX hR ih x1 x3 σ h
set_option maxRecDepth 20000 in
set_option maxHeartbeats 4000000 in
theorem c_X3_fix (x1 : Int32) : Con yX3_fix cX3_fix 4 (none) (1) (fun ad => [.ref (ad 49), .int (x1), .ref (ad 20)]) (fun Q σ => wp_X3_fix x1 (aV Q) σ) := by
  refine con_intro (by decide +kernel) (fun _ => Nat.le_of_ble_eq_true rfl) (by omega) (fun X Q σ hX hR hw => ?_)
  have hX : CxB X RX3 cX3_fix 4 (1) := hX
  unfold wp_X3_fix at hw
  show At X 4 0 [(0, .ref (X.kad 49)), (1, .int (x1)), (2, .ref (X.kad 20))] [] σ
  refine r_aload_n 1 hX dX3_fix_0 rfl rfl 0 rfl ?_
  refine g_X3_23_49 4 hX dX3_fix_1 rfl ?_
  refine r_iload_n 5 hX dX3_fix_4 rfl rfl 1 rfl ?_
  refine r_iald 6 hX sh_68 dX3_fix_5 rfl hw (fun hw => ?_)
  refine r_istore_n (lv' := [(3, .int (σ.1 68 x1.toNatClampNeg)), (0, .ref (X.kad 49)), (1, .int (x1)), (2, .ref (X.kad 20))]) 7 hX dX3_fix_6 rfl rfl (by decide) rfl ?_
  refine r_sub [1, 2, 3, 0] rfl ?_
  obtain ⟨n, hw⟩ := hw
  exact w_X3_fix_l7 hX hR n _ _ _ hw
theorem k_X3_67_X3_restFrom {X : Cx} {cc : ByteArray} {nL d pc : Nat} {lv : List (Nat × Value)} {rest : List Value} {σ : St} {K : Int32 → St → Prop} (q : Nat) (hX : CxB X RX3 cc nL d) (hdc : 121 + 1 ≤ d) (x1 : Int32) (x2 : Int32) (hst : (rest.map fun v => v.category).sum ≤ 8) (hd : decode cc pc = .ok (.invokevirtual 67, 3)) (hq : pc + 3 = q) (hw : wp_X3_restFrom x1 x2 K σ) (kk : ∀ (r : Int32) (τ : St), K r τ → At X nL q lv (.int r :: rest) τ) : At X nL pc lv (.int (x2) :: .int (x1) :: .ref (X.kad 49) :: rest) σ := r_callV (n := 2) q hX (k0 := 49) (c_X3_restFrom x1 x2) tw_188 tw_189 tw_190 tw_144 tw_191 ⟨by decide +kernel, by decide +kernel, by decide +kernel⟩ hdc (by decide) (As := [.int (x1), .int (x2)]) rfl rfl (by decide) ⟨_, _, _, rfl, rfl, rfl⟩ hst hd hq rfl (K := qI K) hw (kI kk)
set_option maxRecDepth 20000 in
set_option maxHeartbeats 4000000 in
theorem c_X3_findsAny : Con yX3_findsAny cX3_findsAny 1 (some .boolean) (122) (fun ad => [.ref (ad 49)]) (fun Q σ => wp_X3_findsAny  (aI Q) σ) := by
  refine con_intro (by decide +kernel) (fun _ => Nat.le_of_ble_eq_true rfl) (by omega) (fun X Q σ hX hR hw => ?_)
  have hX : CxB X RX3 cX3_findsAny 1 (122) := hX
  unfold wp_X3_findsAny at hw
  show At X 1 0 [(0, .ref (X.kad 49))] [] σ
  refine r_aload_n 1 hX dX3_findsAny_0 rfl rfl 0 rfl ?_
  refine r_iconst 2 hX dX3_findsAny_1 rfl 1 ic_1 ?_
  refine p_X3_63_49 5 hX (Or.inr rfl) dX3_findsAny_2 rfl ?_
  refine r_aload_n 6 hX dX3_findsAny_5 rfl rfl 0 rfl ?_
  refine r_iconst 7 hX dX3_findsAny_6 rfl 0 ic_0 ?_
  refine r_iconst 8 hX dX3_findsAny_7 rfl 0 ic_0 ?_
  refine k_X3_67_X3_restFrom 11 hX (by omega) (0) (0) (Nat.le_of_ble_eq_true rfl) dX3_findsAny_8 rfl hw (fun r8 σ8 hw => ?_)
  refine r_ldc 13 hX 1000000000 tw_146 dX3_findsAny_11 rfl ?_
  refine r_icmp_ge 20 16 hX dX3_findsAny_13 (by decide) rfl hw (fun hw => ?_) (fun hw => ?_)
  · refine r_iconst 21 hX dX3_findsAny_20 rfl 0 ic_0 ?_
    exact r_zret hX hR narrow_b0 dX3_findsAny_21 hw
  · refine r_iconst 17 hX dX3_findsAny_16 rfl 1 ic_1 ?_
    refine r_goto 21 hX dX3_findsAny_17 (by decide) ?_
    exact r_zret hX hR narrow_b1 dX3_findsAny_21 hw
set_option maxRecDepth 20000 in
set_option maxHeartbeats 4000000 in
theorem c_X3_findsBest : Con yX3_findsBest cX3_findsBest 1 (some .boolean) (122) (fun ad => [.ref (ad 49)]) (fun Q σ => wp_X3_findsBest  (aI Q) σ) := by
  refine con_intro (by decide +kernel) (fun _ => Nat.le_of_ble_eq_true rfl) (by omega) (fun X Q σ hX hR hw => ?_)
  have hX : CxB X RX3 cX3_findsBest 1 (122) := hX
  unfold wp_X3_findsBest at hw
  show At X 1 0 [(0, .ref (X.kad 49))] [] σ
  refine r_aload_n 1 hX dX3_findsBest_0 rfl rfl 0 rfl ?_
  refine r_iconst 2 hX dX3_findsBest_1 rfl 0 ic_0 ?_
  refine p_X3_63_49 5 hX (Or.inl rfl) dX3_findsBest_2 rfl ?_
  refine r_aload_n 6 hX dX3_findsBest_5 rfl rfl 0 rfl ?_
  refine r_iconst 7 hX dX3_findsBest_6 rfl 0 ic_0 ?_
  refine r_iconst 8 hX dX3_findsBest_7 rfl 0 ic_0 ?_
  refine k_X3_67_X3_restFrom 11 hX (by omega) (0) (0) (Nat.le_of_ble_eq_true rfl) dX3_findsBest_8 rfl hw (fun r8 σ8 hw => ?_)
  refine r_ldc 13 hX 1000000000 tw_146 dX3_findsBest_11 rfl ?_
  refine r_icmp_ge 20 16 hX dX3_findsBest_13 (by decide) rfl hw (fun hw => ?_) (fun hw => ?_)
  · refine r_iconst 21 hX dX3_findsBest_20 rfl 0 ic_0 ?_
    exact r_zret hX hR narrow_b0 dX3_findsBest_21 hw
  · refine r_iconst 17 hX dX3_findsBest_16 rfl 1 ic_1 ?_
    refine r_goto 21 hX dX3_findsBest_17 (by decide) ?_
    exact r_zret hX hR narrow_b1 dX3_findsBest_21 hw
set_option maxRecDepth 20000 in
set_option maxHeartbeats 4000000 in
theorem c_X3_breadth : Con yX3_breadth cX3_breadth 1 (some .int) (122) (fun ad => [.ref (ad 49)]) (fun Q σ => wp_X3_breadth  (aI Q) σ) := by
  refine con_intro (by decide +kernel) (fun _ => Nat.le_of_ble_eq_true rfl) (by omega) (fun X Q σ hX hR hw => ?_)
  have hX : CxB X RX3 cX3_breadth 1 (122) := hX
  unfold wp_X3_breadth at hw
  show At X 1 0 [(0, .ref (X.kad 49))] [] σ
  refine r_aload_n 1 hX dX3_breadth_0 rfl rfl 0 rfl ?_
  refine r_iconst 2 hX dX3_breadth_1 rfl 0 ic_0 ?_
  refine r_iconst 3 hX dX3_breadth_2 rfl 0 ic_0 ?_
  refine k_X3_67_X3_restFrom 6 hX (by omega) (0) (0) (Nat.le_of_ble_eq_true rfl) dX3_breadth_3 rfl hw (fun r3 σ3 hw => ?_)
  refine r_sipush 9 hX dX3_breadth_6 rfl 1000 si_1000 ?_
  refine r_idiv 10 hX dX3_breadth_9 rfl hw (fun hw => ?_)
  refine r_bipush 12 hX dX3_breadth_10 rfl 100 bi_100 ?_
  refine r_idiv 13 hX dX3_breadth_12 rfl hw (fun hw => ?_)
  exact r_iret hX hR dX3_breadth_13 hw
set_option maxRecDepth 20000 in
set_option maxHeartbeats 4000000 in
theorem c_X3_leans : Con yX3_leans cX3_leans 1 (some .int) (122) (fun ad => [.ref (ad 49)]) (fun Q σ => wp_X3_leans  (aI Q) σ) := by
  refine con_intro (by decide +kernel) (fun _ => Nat.le_of_ble_eq_true rfl) (by omega) (fun X Q σ hX hR hw => ?_)
  have hX : CxB X RX3 cX3_leans 1 (122) := hX
  unfold wp_X3_leans at hw
  show At X 1 0 [(0, .ref (X.kad 49))] [] σ
  refine r_aload_n 1 hX dX3_leans_0 rfl rfl 0 rfl ?_
  refine r_iconst 2 hX dX3_leans_1 rfl 0 ic_0 ?_
  refine r_iconst 3 hX dX3_leans_2 rfl 0 ic_0 ?_
  refine k_X3_67_X3_restFrom 6 hX (by omega) (0) (0) (Nat.le_of_ble_eq_true rfl) dX3_leans_3 rfl hw (fun r3 σ3 hw => ?_)
  refine r_sipush 9 hX dX3_leans_6 rfl 1000 si_1000 ?_
  refine r_idiv 10 hX dX3_leans_9 rfl hw (fun hw => ?_)
  refine r_bipush 12 hX dX3_leans_10 rfl 100 bi_100 ?_
  refine r_irem 13 hX dX3_leans_12 rfl hw (fun hw => ?_)
  exact r_iret hX hR dX3_leans_13 hw
set_option maxRecDepth 20000 in
set_option maxHeartbeats 4000000 in
theorem w_X3_tell_b38 {X : Cx} {Q : RV → St → Prop} (hX : CxB X RX3 cX3_tell 6 (122)) (hR : CxR X (none) Q) {K4 : Int32 → Int32 → St → Prop} (hK4 : ∀ (x2 : Int32) (x3 : Int32) (σ : St), K4 x2 x3 σ → At X 6 4 [(0, .ref (X.kad 49)), (1, .ref (X.kad 20)), (2, .int (x2)), (3, .int (x3))] [] σ) {K38 : Int32 → Int32 → Int32 → St → Prop} (hK38 : ∀ (x2 : Int32) (x3 : Int32) (x5 : Int32) (σ : St), K38 x2 x3 x5 σ → At X 6 38 [(0, .ref (X.kad 49)), (1, .ref (X.kad 20)), (2, .int (x2)), (3, .int (x3)), (5, .int (x5))] [] σ) (x2 : Int32) (x3 : Int32) (x5 : Int32) (σ : St) (hw : wp_X3_tell_b38 (aV Q) K4 K38 x2 x3 x5 σ) : At X 6 38 [(0, .ref (X.kad 49)), (1, .ref (X.kad 20)), (2, .int (x2)), (3, .int (x3)), (5, .int (x5))] [] σ := by
  unfold wp_X3_tell_b38 at hw
  refine r_iload 40 hX dX3_tell_38 rfl 4 rfl ?_
  refine r_iconst 41 hX dX3_tell_40 rfl 3 ic_3 ?_
  refine r_icmp_ge 76 44 hX dX3_tell_41 (by decide) rfl hw (fun hw => ?_) (fun hw => ?_)
  · refine r_iinc (lv' := [(3, .int (x3 + 1)), (0, .ref (X.kad 49)), (1, .ref (X.kad 20)), (2, .int (x2)), (5, .int (x5))]) 79 hX dX3_tell_76 rfl 3 rfl (x3 + 1) (ici_1 _) (by decide) rfl ?_
    refine r_goto 4 hX dX3_tell_79 (by decide) ?_
    refine r_sub [1, 2, 3, 0] rfl ?_
    exact hK4 _ _ _ hw
  · refine r_iload_n 45 hX dX3_tell_44 rfl rfl 3 rfl ?_
    refine r_aload_n 46 hX dX3_tell_45 rfl rfl 0 rfl ?_
    refine g_X3_23_49 49 hX dX3_tell_46 rfl ?_
    refine r_iload 51 hX dX3_tell_49 rfl 4 rfl ?_
    refine r_iald 52 hX sh_68 dX3_tell_51 rfl hw (fun hw => ?_)
    refine r_icmp_lt 70 55 hX dX3_tell_52 (by decide) rfl hw (fun hw => ?_) (fun hw => ?_)
    · refine r_iinc (lv' := [(5, .int (x5 + 1)), (0, .ref (X.kad 49)), (1, .ref (X.kad 20)), (2, .int (x2)), (3, .int (x3))]) 73 hX dX3_tell_70 rfl 4 rfl (x5 + 1) (ici_1 _) (by decide) rfl ?_
      refine r_goto 38 hX dX3_tell_73 (by decide) ?_
      refine r_sub [1, 2, 3, 4, 0] rfl ?_
      exact hK38 _ _ _ _ hw
    · refine r_aload_n 56 hX dX3_tell_55 rfl rfl 1 rfl ?_
      refine g_X3_58_20 59 hX dX3_tell_56 rfl ?_
      refine r_iload 61 hX dX3_tell_59 rfl 4 rfl ?_
      refine r_aald 62 hX sh_21 dX3_tell_61 rfl hw (fun hv61 hw => ?_)
      refine r_iload_n 63 hX dX3_tell_62 rfl rfl 3 rfl ?_
      refine r_iload_n 64 hX dX3_tell_63 rfl rfl 2 rfl ?_
      refine r_iload 66 hX dX3_tell_64 rfl 4 rfl ?_
      refine k_X3_72_X3_columnIn 69 hX (by omega) (x2) (x5) (Nat.le_of_ble_eq_true rfl) dX3_tell_66 rfl hw (fun r66 σ66 hw => ?_)
      refine r_iast 70 hX (shr_21 hv61) dX3_tell_69 rfl hw (fun hw => ?_)
      refine r_iinc (lv' := [(5, .int (x5 + 1)), (0, .ref (X.kad 49)), (1, .ref (X.kad 20)), (2, .int (x2)), (3, .int (x3))]) 73 hX dX3_tell_70 rfl 4 rfl (x5 + 1) (ici_1 _) (by decide) rfl ?_
      refine r_goto 38 hX dX3_tell_73 (by decide) ?_
      refine r_sub [1, 2, 3, 4, 0] rfl ?_
      exact hK38 _ _ _ _ hw
set_option maxRecDepth 20000 in
set_option maxHeartbeats 4000000 in
theorem w_X3_tell_l38 {X : Cx} {Q : RV → St → Prop} (hX : CxB X RX3 cX3_tell 6 (122)) (hR : CxR X (none) Q) {K4 : Int32 → Int32 → St → Prop} (hK4 : ∀ (x2 : Int32) (x3 : Int32) (σ : St), K4 x2 x3 σ → At X 6 4 [(0, .ref (X.kad 49)), (1, .ref (X.kad 20)), (2, .int (x2)), (3, .int (x3))] [] σ) (n : Nat) : ∀ (x2 : Int32) (x3 : Int32) (x5 : Int32) (σ : St), wp_X3_tell_l38 (aV Q) K4 n x2 x3 x5 σ → At X 6 38 [(0, .ref (X.kad 49)), (1, .ref (X.kad 20)), (2, .int (x2)), (3, .int (x3)), (5, .int (x5))] [] σ := by
  induction n with
  | zero => intro x2 x3 x5 σ h; exact h.elim
  | succ n ih => intro x2 x3 x5 σ h; exact w_X3_tell_b38  hX hR hK4 ih x2 x3 x5 σ h
set_option maxRecDepth 20000 in
set_option maxHeartbeats 4000000 in
theorem w_X3_tell_b4 {X : Cx} {Q : RV → St → Prop} (hX : CxB X RX3 cX3_tell 6 (122)) (hR : CxR X (none) Q) {K4 : Int32 → Int32 → St → Prop} (hK4 : ∀ (x2 : Int32) (x3 : Int32) (σ : St), K4 x2 x3 σ → At X 6 4 [(0, .ref (X.kad 49)), (1, .ref (X.kad 20)), (2, .int (x2)), (3, .int (x3))] [] σ) (x2 : Int32) (x3 : Int32) (σ : St) (hw : wp_X3_tell_b4 (aV Q) K4 x2 x3 σ) : At X 6 4 [(0, .ref (X.kad 49)), (1, .ref (X.kad 20)), (2, .int (x2)), (3, .int (x3))] [] σ := by
  unfold wp_X3_tell_b4 at hw
  refine r_iload_n 5 hX dX3_tell_4 rfl rfl 3 rfl ?_
  refine r_aload_n 6 hX dX3_tell_5 rfl rfl 0 rfl ?_
  refine g_X3_32_49 9 hX dX3_tell_6 rfl ?_
  refine r_icmp_gt 82 12 hX dX3_tell_9 (by decide) rfl hw (fun hw => ?_) (fun hw => ?_)
  · exact r_vret hX hR dX3_tell_82 hw
  · refine r_aload_n 13 hX dX3_tell_12 rfl rfl 0 rfl ?_
    refine r_iload_n 14 hX dX3_tell_13 rfl rfl 3 rfl ?_
    refine r_iload_n 15 hX dX3_tell_14 rfl rfl 2 rfl ?_
    refine k_X3_67_X3_restFrom 18 hX (by omega) (x3) (x2) (Nat.le_of_ble_eq_true rfl) dX3_tell_15 rfl hw (fun r15 σ15 hw => ?_)
    refine r_istore (lv' := [(4, .int (r15)), (0, .ref (X.kad 49)), (1, .ref (X.kad 20)), (2, .int (x2)), (3, .int (x3))]) 20 hX dX3_tell_18 rfl (by decide) rfl ?_
    refine r_iload 22 hX dX3_tell_20 rfl 0 rfl ?_
    refine r_ldc 24 hX 1000000000 tw_146 dX3_tell_22 rfl ?_
    refine r_icmp_lt 28 27 hX dX3_tell_24 (by decide) rfl hw (fun hw => ?_) (fun hw => ?_)
    · refine r_iload 30 hX dX3_tell_28 rfl 0 rfl ?_
      refine r_sipush 33 hX dX3_tell_30 rfl 1000 si_1000 ?_
      refine r_irem 34 hX dX3_tell_33 rfl hw (fun hw => ?_)
      refine r_istore_n (lv' := [(2, .int (r15 - r15 / 1000 * 1000)), (4, .int (r15)), (0, .ref (X.kad 49)), (1, .ref (X.kad 20)), (3, .int (x3))]) 35 hX dX3_tell_34 rfl rfl (by decide) rfl ?_
      refine r_iconst 36 hX dX3_tell_35 rfl 0 ic_0 ?_
      refine r_istore (lv' := [(5, .int (0)), (2, .int (r15 - r15 / 1000 * 1000)), (4, .int (r15)), (0, .ref (X.kad 49)), (1, .ref (X.kad 20)), (3, .int (x3))]) 38 hX dX3_tell_36 rfl (by decide) rfl ?_
      refine r_sub [3, 4, 1, 5, 0] rfl ?_
      obtain ⟨n, hw⟩ := hw
      exact w_X3_tell_l38 hX hR hK4 n _ _ _ _ hw
    · exact r_vret hX hR dX3_tell_27 hw
set_option maxRecDepth 20000 in
set_option maxHeartbeats 4000000 in
theorem w_X3_tell_l4 {X : Cx} {Q : RV → St → Prop} (hX : CxB X RX3 cX3_tell 6 (122)) (hR : CxR X (none) Q) (n : Nat) : ∀ (x2 : Int32) (x3 : Int32) (σ : St), wp_X3_tell_l4 (aV Q)  n x2 x3 σ → At X 6 4 [(0, .ref (X.kad 49)), (1, .ref (X.kad 20)), (2, .int (x2)), (3, .int (x3))] [] σ := by
  induction n with
  | zero => intro x2 x3 σ h; exact h.elim
  | succ n ih => intro x2 x3 σ h; exact w_X3_tell_b4  hX hR ih x2 x3 σ h
set_option maxRecDepth 20000 in
set_option maxHeartbeats 4000000 in
theorem c_X3_tell : Con yX3_tell cX3_tell 6 (none) (122) (fun ad => [.ref (ad 49), .ref (ad 20)]) (fun Q σ => wp_X3_tell  (aV Q) σ) := by
  refine con_intro (by decide +kernel) (fun _ => Nat.le_of_ble_eq_true rfl) (by omega) (fun X Q σ hX hR hw => ?_)
  have hX : CxB X RX3 cX3_tell 6 (122) := hX
  unfold wp_X3_tell at hw
  show At X 6 0 [(0, .ref (X.kad 49)), (1, .ref (X.kad 20))] [] σ
  refine r_iconst 1 hX dX3_tell_0 rfl 0 ic_0 ?_
  refine r_istore_n (lv' := [(2, .int (0)), (0, .ref (X.kad 49)), (1, .ref (X.kad 20))]) 2 hX dX3_tell_1 rfl rfl (by decide) rfl ?_
  refine r_iconst 3 hX dX3_tell_2 rfl 0 ic_0 ?_
  refine r_istore_n (lv' := [(3, .int (0)), (2, .int (0)), (0, .ref (X.kad 49)), (1, .ref (X.kad 20))]) 4 hX dX3_tell_3 rfl rfl (by decide) rfl ?_
  refine r_sub [2, 3, 1, 0] rfl ?_
  obtain ⟨n, hw⟩ := hw
  exact w_X3_tell_l4 hX hR n _ _ _ hw
