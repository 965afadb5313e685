set_option maxRecDepth 20000 in
set_option maxHeartbeats 4000000 in
theorem c_X5_isOpen (x1 : Int32) (x2 : Int32) : Con yX5_isOpen cX5_isOpen 3 (some .boolean) (1) (fun ad => [.ref (ad 43), .int (x1), .int (x2)]) (fun Q σ => wp_X5_isOpen x1 x2 (aI Q) σ) := by
  refine con_intro (by decide +kernel) (fun _ => Nat.le_of_ble_eq_true rfl) (by omega) (fun X Q σ hX hR hw => ?_)
  have hX : CxB X RX5 cX5_isOpen 3 (1) := hX
  unfold wp_X5_isOpen at hw
  show At X 3 0 [(0, .ref (X.kad 43)), (1, .int (x1)), (2, .int (x2))] [] σ
  refine r_iload_n 1 hX dX5_isOpen_0 rfl rfl 2 rfl ?_
  refine r_if_lt 29 4 hX dX5_isOpen_1 (by decide) rfl hw (fun hw => ?_) (fun hw => ?_)
  · refine r_iconst 30 hX dX5_isOpen_29 rfl 0 ic_0 ?_
    exact r_zret hX hR narrow_b0 dX5_isOpen_30 hw
  · refine r_iload_n 5 hX dX5_isOpen_4 rfl rfl 2 rfl ?_
    refine r_aload_n 6 hX dX5_isOpen_5 rfl rfl 0 rfl ?_
    refine g_X5_34_43 9 hX dX5_isOpen_6 rfl ?_
    refine r_icmp_ge 29 12 hX dX5_isOpen_9 (by decide) rfl hw (fun hw => ?_) (fun hw => ?_)
    · refine r_iconst 30 hX dX5_isOpen_29 rfl 0 ic_0 ?_
      exact r_zret hX hR narrow_b0 dX5_isOpen_30 hw
    · refine r_aload_n 13 hX dX5_isOpen_12 rfl rfl 0 rfl ?_
      refine g_X5_9_43 16 hX dX5_isOpen_13 rfl ?_
      refine r_iload_n 17 hX dX5_isOpen_16 rfl rfl 1 rfl ?_
      refine r_iald 18 hX sh_44 dX5_isOpen_17 rfl hw (fun hw => ?_)
      refine r_iload_n 19 hX dX5_isOpen_18 rfl rfl 2 rfl ?_
      refine r_ishr 20 hX dX5_isOpen_19 rfl ?_
      refine r_iconst 21 hX dX5_isOpen_20 rfl 1 ic_1 ?_
      refine r_iand 22 hX dX5_isOpen_21 rfl ?_
      refine r_if_eq 29 25 hX dX5_isOpen_22 (by decide) rfl hw (fun hw => ?_) (fun hw => ?_)
      · refine r_iconst 30 hX dX5_isOpen_29 rfl 0 ic_0 ?_
        exact r_zret hX hR narrow_b0 dX5_isOpen_30 hw
      · refine r_iconst 26 hX dX5_isOpen_25 rfl 1 ic_1 ?_
        refine r_goto 30 hX dX5_isOpen_26 (by decide) ?_
        exact r_zret hX hR narrow_b1 dX5_isOpen_30 hw
set_option maxRecDepth 20000 in
set_option maxHeartbeats 4000000 in
theorem w_X5_numberBelow_b39 {X : Cx} {Q : RV → St → Prop} (hX : CxB X RX5 cX5_numberBelow 6 (1)) (hR : CxR X (some .long) Q) (x1 : Int32) (x2 : Int64) (s0 : Int64) (σ : St) (hw : wp_X5_numberBelow_b39 (aJ Q)  x1 x2 s0 σ) : At X 6 39 [(0, .ref (X.kad 43)), (1, .int (x1)), (2, .long (x2))] [.long (s0)] σ := by
  unfold wp_X5_numberBelow_b39 at hw
  refine r_lstore (lv' := [(4, .long (s0)), (0, .ref (X.kad 43)), (1, .int (x1)), (2, .long (x2))]) 41 hX dX5_numberBelow_39 rfl (by decide) rfl ?_
  refine r_lload_n 42 hX dX5_numberBelow_41 rfl rfl 3 rfl ?_
  refine r_aload_n 43 hX dX5_numberBelow_42 rfl rfl 1 rfl ?_
  refine g_X5_15_43 46 hX dX5_numberBelow_43 rfl ?_
  refine r_iload_n 47 hX dX5_numberBelow_46 rfl rfl 2 rfl ?_
  refine r_lald 48 hX sh_45 dX5_numberBelow_47 rfl hw (fun hw => ?_)
  refine r_ladd 49 hX dX5_numberBelow_48 rfl ?_
  refine r_lload 51 hX dX5_numberBelow_49 rfl 0 rfl ?_
  refine r_ladd 52 hX dX5_numberBelow_51 rfl ?_
  exact r_lret hX hR dX5_numberBelow_52 hw
set_option maxRecDepth 20000 in
set_option maxHeartbeats 4000000 in
theorem w_X5_numberBelow_b16 {X : Cx} {Q : RV → St → Prop} (hX : CxB X RX5 cX5_numberBelow 6 (1)) (hR : CxR X (some .long) Q) (x1 : Int32) (s0 : Int64) (σ : St) (hw : wp_X5_numberBelow_b16 (aJ Q)  x1 s0 σ) : At X 6 16 [(0, .ref (X.kad 43)), (1, .int (x1))] [.long (s0)] σ := by
  unfold wp_X5_numberBelow_b16 at hw
  refine r_lstore_n (lv' := [(2, .long (s0)), (0, .ref (X.kad 43)), (1, .int (x1))]) 17 hX dX5_numberBelow_16 rfl rfl (by decide) rfl ?_
  refine r_iload_n 18 hX dX5_numberBelow_17 rfl rfl 2 rfl ?_
  refine r_iconst 19 hX dX5_numberBelow_18 rfl 1 ic_1 ?_
  refine r_iadd 20 hX dX5_numberBelow_19 rfl ?_
  refine r_aload_n 21 hX dX5_numberBelow_20 rfl rfl 1 rfl ?_
  refine g_X5_34_43 24 hX dX5_numberBelow_21 rfl ?_
  refine r_icmp_ge 38 27 hX dX5_numberBelow_24 (by decide) rfl hw (fun hw => ?_) (fun hw => ?_)
  · refine r_lconst 39 hX dX5_numberBelow_38 rfl 0 lc_0 ?_
    refine r_sub [1, 2, 0] rfl ?_
    exact w_X5_numberBelow_b39 hX hR _ _ _ _ hw
  · refine r_aload_n 28 hX dX5_numberBelow_27 rfl rfl 1 rfl ?_
    refine g_X5_15_43 31 hX dX5_numberBelow_28 rfl ?_
    refine r_iload_n 32 hX dX5_numberBelow_31 rfl rfl 2 rfl ?_
    refine r_iconst 33 hX dX5_numberBelow_32 rfl 1 ic_1 ?_
    refine r_iadd 34 hX dX5_numberBelow_33 rfl ?_
    refine r_lald 35 hX sh_45 dX5_numberBelow_34 rfl hw (fun hw => ?_)
    refine r_goto 39 hX dX5_numberBelow_35 (by decide) ?_
    refine r_sub [1, 2, 0] rfl ?_
    exact w_X5_numberBelow_b39 hX hR _ _ _ _ hw
set_option maxRecDepth 20000 in
set_option maxHeartbeats 4000000 in
theorem c_X5_numberBelow (x1 : Int32) : Con yX5_numberBelow cX5_numberBelow 6 (some .long) (1) (fun ad => [.ref (ad 43), .int (x1)]) (fun Q σ => wp_X5_numberBelow x1 (aJ Q) σ) := by
  refine con_intro (by decide +kernel) (fun _ => Nat.le_of_ble_eq_true rfl) (by omega) (fun X Q σ hX hR hw => ?_)
  have hX : CxB X RX5 cX5_numberBelow 6 (1) := hX
  unfold wp_X5_numberBelow at hw
  show At X 6 0 [(0, .ref (X.kad 43)), (1, .int (x1))] [] σ
  refine r_iload_n 1 hX dX5_numberBelow_0 rfl rfl 1 rfl ?_
  refine r_if_le 15 4 hX dX5_numberBelow_1 (by decide) rfl hw (fun hw => ?_) (fun hw => ?_)
  · refine r_lconst 16 hX dX5_numberBelow_15 rfl 0 lc_0 ?_
    exact w_X5_numberBelow_b16 hX hR _ _ _ hw
  · refine r_aload_n 5 hX dX5_numberBelow_4 rfl rfl 0 rfl ?_
    refine g_X5_15_43 8 hX dX5_numberBelow_5 rfl ?_
    refine r_iload_n 9 hX dX5_numberBelow_8 rfl rfl 1 rfl ?_
    refine r_iconst 10 hX dX5_numberBelow_9 rfl 1 ic_1 ?_
    refine r_isub 11 hX dX5_numberBelow_10 rfl ?_
    refine r_lald 12 hX sh_45 dX5_numberBelow_11 rfl hw (fun hw => ?_)
    refine r_goto 16 hX dX5_numberBelow_12 (by decide) ?_
    exact w_X5_numberBelow_b16 hX hR _ _ _ hw
set_option maxRecDepth 20000 in
set_option maxHeartbeats 4000000 in
theorem c_X5_place (x0 : Int32) (x1 : Int32) (x2 : Int32) : Con yX5_place cX5_place 3 (some .int) (1) (fun ad => [.int (x0), .int (x1), .int (x2)]) (fun Q σ => wp_X5_place x0 x1 x2 (aI Q) σ) := by
  refine con_intro (by decide +kernel) (fun _ => Nat.le_of_ble_eq_true rfl) (by omega) (fun X Q σ hX hR hw => ?_)
  have hX : CxB X RX5 cX5_place 3 (1) := hX
  unfold wp_X5_place at hw
  show At X 3 0 [(0, .int (x0)), (1, .int (x1)), (2, .int (x2))] [] σ
  refine r_iload_n 1 hX dX5_place_0 rfl rfl 0 rfl ?_
  refine r_bipush 3 hX dX5_place_1 rfl 10 bi_10 ?_
  refine r_imul 4 hX dX5_place_3 rfl ?_
  refine r_iload_n 5 hX dX5_place_4 rfl rfl 1 rfl ?_
  refine r_iadd 6 hX dX5_place_5 rfl ?_
  refine r_iconst 7 hX dX5_place_6 rfl 4 ic_4 ?_
  refine r_imul 8 hX dX5_place_7 rfl ?_
  refine r_iload_n 9 hX dX5_place_8 rfl rfl 2 rfl ?_
  refine r_iadd 10 hX dX5_place_9 rfl ?_
  exact r_iret hX hR dX5_place_10 hw
theorem k_X5_74_X5_isOpen {X : Cx} {cc : ByteArray} {nL d pc : Nat} {lv : List (Nat × Value)} {rest : List Value} {σ : St} {K : Int32 → St → Prop} (q : Nat) (hX : CxB X RX5 cc nL d) (hdc : 1 + 1 ≤ d) (x1 : Int32) (x2 : Int32) (hst : (rest.map fun v => v.category).sum ≤ 8) (hd : decode cc pc = .ok (.invokevirtual 74, 3)) (hq : pc + 3 = q) (hw : wp_X5_isOpen x1 x2 K σ) (kk : ∀ (r : Int32) (τ : St), K r τ → At X nL q lv (.int r :: rest) τ) : At X nL pc lv (.int (x2) :: .int (x1) :: .ref (X.kad 43) :: rest) σ := r_callV (n := 2) q hX (k0 := 43) (c_X5_isOpen x1 x2) tw_87 tw_88 tw_89 tw_90 tw_91 ⟨by decide +kernel, by decide +kernel, by decide +kernel⟩ hdc (by decide) (As := [.int (x1), .int (x2)]) rfl rfl (by decide) ⟨_, _, _, rfl, rfl, rfl⟩ hst hd hq rfl (K := qI K) hw (kI kk)
theorem k_X5_88_X5_place {X : Cx} {cc : ByteArray} {nL d pc : Nat} {lv : List (Nat × Value)} {rest : List Value} {σ : St} {K : Int32 → St → Prop} (q : Nat) (hX : CxB X RX5 cc nL d) (hdc : 1 + 1 ≤ d) (x0 : Int32) (x1 : Int32) (x2 : Int32) (hst : (rest.map fun v => v.category).sum ≤ 8) (hd : decode cc pc = .ok (.invokestatic 88, 3)) (hq : pc + 3 = q) (hw : wp_X5_place x0 x1 x2 K σ) (kk : ∀ (r : Int32) (τ : St), K r τ → At X nL q lv (.int r :: rest) τ) : At X nL pc lv (.int (x2) :: .int (x1) :: .int (x0) :: rest) σ := r_callS (n := 3) q hX (c_X5_place x0 x1 x2) tw_93 tw_94 tw_90 tw_95 ⟨by decide +kernel, by decide +kernel, by decide +kernel⟩ hdc (by decide) (As := [.int (x0), .int (x1), .int (x2)]) rfl rfl hst hd hq rfl (K := qI K) hw (kI kk)
set_option maxRecDepth 20000 in
set_option maxHeartbeats 4000000 in
theorem w_X5_restBy_b66 {X : Cx} {Q : RV → St → Prop} (hX : CxB X RX5 cX5_restBy 8 (2)) (hR : CxR X (some .int) Q) (x4 : Int32) (x5 : Int32) (x6 : Int32) (s0 : Int32) (σ : St) (hw : wp_X5_restBy_b66 (aI Q)  x4 x5 x6 s0 σ) : At X 8 66 [(4, .int (x4)), (5, .int (x5)), (6, .int (x6))] [.int (s0)] σ := by
  unfold wp_X5_restBy_b66 at hw
  refine r_istore (lv' := [(7, .int (s0)), (4, .int (x4)), (5, .int (x5)), (6, .int (x6))]) 68 hX dX5_restBy_66 rfl (by decide) rfl ?_
  refine r_iload 70 hX dX5_restBy_68 rfl 2 rfl ?_
  refine r_iconst 71 hX dX5_restBy_70 rfl 4 ic_4 ?_
  refine r_idiv 72 hX dX5_restBy_71 rfl hw (fun hw => ?_)
  refine r_iload 74 hX dX5_restBy_72 rfl 3 rfl ?_
  refine r_iadd 75 hX dX5_restBy_74 rfl ?_
  refine r_iload 77 hX dX5_restBy_75 rfl 0 rfl ?_
  refine r_iadd 78 hX dX5_restBy_77 rfl ?_
  refine r_iconst 79 hX dX5_restBy_78 rfl 4 ic_4 ?_
  refine r_imul 80 hX dX5_restBy_79 rfl ?_
  refine r_iload 82 hX dX5_restBy_80 rfl 1 rfl ?_
  refine r_iadd 83 hX dX5_restBy_82 rfl ?_
  exact r_iret hX hR dX5_restBy_83 hw
set_option maxRecDepth 20000 in
set_option maxHeartbeats 4000000 in
theorem w_X5_restBy_b53 {X : Cx} {Q : RV → St → Prop} (hX : CxB X RX5 cX5_restBy 8 (2)) (hR : CxR X (some .int) Q) (x4 : Int32) (x5 : Int32) (s0 : Int32) (σ : St) (hw : wp_X5_restBy_b53 (aI Q)  x4 x5 s0 σ) : At X 8 53 [(4, .int (x4)), (5, .int (x5))] [.int (s0)] σ := by
  unfold wp_X5_restBy_b53 at hw
  refine r_istore (lv' := [(6, .int (s0)), (4, .int (x4)), (5, .int (x5))]) 55 hX dX5_restBy_53 rfl (by decide) rfl ?_
  refine r_iload 57 hX dX5_restBy_55 rfl 1 rfl ?_
  refine r_iconst 58 hX dX5_restBy_57 rfl 1 ic_1 ?_
  refine r_icmp_eq 65 61 hX dX5_restBy_58 (by decide) rfl hw (fun hw => ?_) (fun hw => ?_)
  · refine r_iconst 66 hX dX5_restBy_65 rfl 0 ic_0 ?_
    refine r_sub [1, 2, 0] rfl ?_
    exact w_X5_restBy_b66 hX hR _ _ _ _ _ hw
  · refine r_iconst 62 hX dX5_restBy_61 rfl 1 ic_1 ?_
    refine r_goto 66 hX dX5_restBy_62 (by decide) ?_
    refine r_sub [1, 2, 0] rfl ?_
    exact w_X5_restBy_b66 hX hR _ _ _ _ _ hw
set_option maxRecDepth 20000 in
set_option maxHeartbeats 4000000 in
theorem w_X5_restBy_b52 {X : Cx} {Q : RV → St → Prop} (hX : CxB X RX5 cX5_restBy 8 (2)) (hR : CxR X (some .int) Q) (x4 : Int32) (x5 : Int32) (σ : St) (hw : wp_X5_restBy_b52 (aI Q)  x4 x5 σ) : At X 8 52 [(4, .int (x4)), (5, .int (x5))] [] σ := by
  unfold wp_X5_restBy_b52 at hw
  refine r_iconst 53 hX dX5_restBy_52 rfl 0 ic_0 ?_
  exact w_X5_restBy_b53 hX hR _ _ _ _ hw
set_option maxRecDepth 20000 in
set_option maxHeartbeats 4000000 in
theorem c_X5_restBy (x1 : Int32) (x2 : Int32) (x3 : Int32) (x4 : Int32) : Con yX5_restBy cX5_restBy 8 (some .int) (2) (fun ad => [.ref (ad 43), .int (x1), .int (x2), .int (x3), .int (x4)]) (fun Q σ => wp_X5_restBy x1 x2 x3 x4 (aI Q) σ) := by
  refine con_intro (by decide +kernel) (fun _ => Nat.le_of_ble_eq_true rfl) (by omega) (fun X Q σ hX hR hw => ?_)
  have hX : CxB X RX5 cX5_restBy 8 (2) := hX
  unfold wp_X5_restBy at hw
  show At X 8 0 [(0, .ref (X.kad 43)), (1, .int (x1)), (2, .int (x2)), (3, .int (x3)), (4, .int (x4))] [] σ
  refine r_aload_n 1 hX dX5_restBy_0 rfl rfl 0 rfl ?_
  refine r_iload_n 2 hX dX5_restBy_1 rfl rfl 1 rfl ?_
  refine r_iload_n 3 hX dX5_restBy_2 rfl rfl 2 rfl ?_
  refine k_X5_74_X5_isOpen 6 hX (by omega) (x1) (x2) (Nat.le_of_ble_eq_true rfl) dX5_restBy_3 rfl hw (fun r3 σ3 hw => ?_)
  refine r_if_ne 12 9 hX dX5_restBy_6 (by decide) rfl hw (fun hw => ?_) (fun hw => ?_)
  · refine r_aload_n 13 hX dX5_restBy_12 rfl rfl 0 rfl ?_
    refine g_X5_22_43 16 hX dX5_restBy_13 rfl ?_
    refine r_iload_n 17 hX dX5_restBy_16 rfl rfl 1 rfl ?_
    refine r_iload_n 18 hX dX5_restBy_17 rfl rfl 2 rfl ?_
    refine r_iload 20 hX dX5_restBy_18 rfl 4 rfl ?_
    refine k_X5_88_X5_place 23 hX (by omega) (x1) (x2) (x4) (Nat.le_of_ble_eq_true rfl) dX5_restBy_20 rfl hw (fun r20 σ20 hw => ?_)
    refine r_iald 24 hX sh_47 dX5_restBy_23 rfl hw (fun hw => ?_)
    refine r_istore (lv' := [(5, .int (σ20.1 47 r20.toNatClampNeg)), (0, .ref (X.kad 43)), (1, .int (x1)), (2, .int (x2)), (3, .int (x3)), (4, .int (x4))]) 26 hX dX5_restBy_24 rfl (by decide) rfl ?_
    refine r_iload 28 hX dX5_restBy_26 rfl 0 rfl ?_
    refine r_ldc 30 hX 1000000 tw_96 dX5_restBy_28 rfl ?_
    refine r_icmp_lt 36 33 hX dX5_restBy_30 (by decide) rfl hw (fun hw => ?_) (fun hw => ?_)
    · refine r_iload_n 37 hX dX5_restBy_36 rfl rfl 4 rfl ?_
      refine r_iconst 38 hX dX5_restBy_37 rfl 3 ic_3 ?_
      refine r_icmp_eq 52 41 hX dX5_restBy_38 (by decide) rfl hw (fun hw => ?_) (fun hw => ?_)
      · refine r_sub [5, 0] rfl ?_
        exact w_X5_restBy_b52 hX hR _ _ _ hw
      · refine r_iload_n 42 hX dX5_restBy_41 rfl rfl 4 rfl ?_
        refine r_iload 44 hX dX5_restBy_42 rfl 5 rfl ?_
        refine r_icmp_eq 52 47 hX dX5_restBy_44 (by decide) rfl hw (fun hw => ?_) (fun hw => ?_)
        · refine r_sub [5, 0] rfl ?_
          exact w_X5_restBy_b52 hX hR _ _ _ hw
        · refine r_bipush 49 hX dX5_restBy_47 rfl 100 bi_100 ?_
          refine r_goto 53 hX dX5_restBy_49 (by decide) ?_
          refine r_sub [5, 0] rfl ?_
          exact w_X5_restBy_b53 hX hR _ _ _ _ hw
    · refine r_ldc 35 hX 1000000 tw_96 dX5_restBy_33 rfl ?_
      exact r_iret hX hR dX5_restBy_35 hw
  · refine r_ldc 11 hX 1000000 tw_96 dX5_restBy_9 rfl ?_
    exact r_iret hX hR dX5_restBy_11 hw
theorem k_X5_105_X5_restBy {X : Cx} {cc : ByteArray} {nL d pc : Nat} {lv : List (Nat × Value)} {rest : List Value} {σ : St} {K : Int32 → St → Prop} (q : Nat) (hX : CxB X RX5 cc nL d) (hdc : 2 + 1 ≤ d) (x1 : Int32) (x2 : Int32) (x3 : Int32) (x4 : Int32) (hst : (rest.map fun v => v.category).sum ≤ 8) (hd : decode cc pc = .ok (.invokevirtual 105, 3)) (hq : pc + 3 = q) (hw : wp_X5_restBy x1 x2 x3 x4 K σ) (kk : ∀ (r : Int32) (τ : St), K r τ → At X nL q lv (.int r :: rest) τ) : At X nL pc lv (.int (x4) :: .int (x3) :: .int (x2) :: .int (x1) :: .ref (X.kad 43) :: rest) σ := r_callV (n := 4) q hX (k0 := 43) (c_X5_restBy x1 x2 x3 x4) tw_98 tw_99 tw_100 tw_90 tw_101 ⟨by decide +kernel, by decide +kernel, by decide +kernel⟩ hdc (by decide) (As := [.int (x1), .int (x2), .int (x3), .int (x4)]) rfl rfl (by decide) ⟨_, _, _, rfl, rfl, rfl⟩ hst hd hq rfl (K := qI K) hw (kI kk)
set_option maxRecDepth 20000 in
set_option maxHeartbeats 4000000 in
theorem w_X5_leastRest_b17 {X : Cx} {Q : RV → St → Prop} (hX : CxB X RX5 cX5_leastRest 6 (3)) (hR : CxR X (some .int) Q) {K17 : Int32 → Int32 → Int32 → Int32 → Int32 → St → Prop} (hK17 : ∀ (x1 : Int32) (x2 : Int32) (x3 : Int32) (x4 : Int32) (x5 : Int32) (σ : St), K17 x1 x2 x3 x4 x5 σ → At X 6 17 [(0, .ref (X.kad 43)), (1, .int (x1)), (2, .int (x2)), (3, .int (x3)), (4, .int (x4)), (5, .int (x5))] [] σ) (x1 : Int32) (x2 : Int32) (x3 : Int32) (x4 : Int32) (x5 : Int32) (σ : St) (hw : wp_X5_leastRest_b17 (aI Q) K17 x1 x2 x3 x4 x5 σ) : At X 6 17 [(0, .ref (X.kad 43)), (1, .int (x1)), (2, .int (x2)), (3, .int (x3)), (4, .int (x4)), (5, .int (x5))] [] σ := by
  unfold wp_X5_leastRest_b17 at hw
  refine r_iload 19 hX dX5_leastRest_17 rfl 5 rfl ?_
  refine r_iconst 20 hX dX5_leastRest_19 rfl 3 ic_3 ?_
  refine r_icmp_ge 52 23 hX dX5_leastRest_20 (by decide) rfl hw (fun hw => ?_) (fun hw => ?_)
  · refine r_iload 54 hX dX5_leastRest_52 rfl 4 rfl ?_
    exact r_iret hX hR dX5_leastRest_54 hw
  · refine r_iload 25 hX dX5_leastRest_23 rfl 4 rfl ?_
    refine r_aload_n 26 hX dX5_leastRest_25 rfl rfl 0 rfl ?_
    refine r_iload_n 27 hX dX5_leastRest_26 rfl rfl 1 rfl ?_
    refine r_iconst 28 hX dX5_leastRest_27 rfl 1 ic_1 ?_
    refine r_iadd 29 hX dX5_leastRest_28 rfl ?_
    refine r_iload_n 30 hX dX5_leastRest_29 rfl rfl 2 rfl ?_
    refine r_iload 32 hX dX5_leastRest_30 rfl 5 rfl ?_
    refine r_iadd 33 hX dX5_leastRest_32 rfl ?_
    refine r_iconst 34 hX dX5_leastRest_33 rfl 1 ic_1 ?_
    refine r_isub 35 hX dX5_leastRest_34 rfl ?_
    refine r_iload_n 36 hX dX5_leastRest_35 rfl rfl 3 rfl ?_
    refine r_iload 38 hX dX5_leastRest_36 rfl 5 rfl ?_
    refine k_X5_105_X5_restBy 41 hX (by omega) (x1 + 1) ((x2 + x5) - 1) (x3) (x5) (Nat.le_of_ble_eq_true rfl) dX5_leastRest_38 rfl hw (fun r38 σ38 hw => ?_)
    refine r_mmin 44 hX tw_102 tw_103 tw_74 tw_104 (Nat.le_of_ble_eq_true rfl) dX5_leastRest_41 rfl ?_
    refine r_istore (lv' := [(4, .int ((if r38 < x4 then r38 else x4))), (0, .ref (X.kad 43)), (1, .int (x1)), (2, .int (x2)), (3, .int (x3)), (5, .int (x5))]) 46 hX dX5_leastRest_44 rfl (by decide) rfl ?_
    refine r_iinc (lv' := [(5, .int (x5 + 1)), (4, .int ((if r38 < x4 then r38 else x4))), (0, .ref (X.kad 43)), (1, .int (x1)), (2, .int (x2)), (3, .int (x3))]) 49 hX dX5_leastRest_46 rfl 5 rfl (x5 + 1) (ici_1 _) (by decide) rfl ?_
    refine r_goto 17 hX dX5_leastRest_49 (by decide) ?_
    refine r_sub [2, 3, 4, 5, 1, 0] rfl ?_
    exact hK17 _ _ _ _ _ _ hw
set_option maxRecDepth 20000 in
set_option maxHeartbeats 4000000 in
theorem w_X5_leastRest_l17 {X : Cx} {Q : RV → St → Prop} (hX : CxB X RX5 cX5_leastRest 6 (3)) (hR : CxR X (some .int) Q) (n : Nat) : ∀ (x1 : Int32) (x2 : Int32) (x3 : Int32) (x4 : Int32) (x5 : Int32) (σ : St), wp_X5_leastRest_l17 (aI Q)  n x1 x2 x3 x4 x5 σ → At X 6 17 [(0, .ref (X.kad 43)), (1, .int (x1)), (2, .int (x2)), (3, .int (x3)), (4, .int (x4)), (5, .int (x5))] [] σ := by
  induction n with
  | zero => intro x1 x2 x3 x4 x5 σ h; exact h.elim
  | succ n ih => intro x1 x2 x3 x4 x5 σ h; exact w_X5_leastRest_b17  hX hR ih x1 x2 x3 x4 x5 σ h
set_option maxRecDepth 20000 in
set_option maxHeartbeats 4000000 in
theorem c_X5_leastRest (x1 : Int32) (x2 : Int32) (x3 : Int32) : Con yX5_leastRest cX5_leastRest 6 (some .int) (3) (fun ad => [.ref (ad 43), .int (x1), .int (x2), .int (x3)]) (fun Q σ => wp_X5_leastRest x1 x2 x3 (aI Q) σ) := by
  refine con_intro (by decide +kernel) (fun _ => Nat.le_of_ble_eq_true rfl) (by omega) (fun X Q σ hX hR hw => ?_)
  have hX : CxB X RX5 cX5_leastRest 6 (3) := hX
  unfold wp_X5_leastRest at hw
  show At X 6 0 [(0, .ref (X.kad 43)), (1, .int (x1)), (2, .int (x2)), (3, .int (x3))] [] σ
  refine r_iload_n 1 hX dX5_leastRest_0 rfl rfl 1 rfl ?_
  refine r_aload_n 2 hX dX5_leastRest_1 rfl rfl 0 rfl ?_
  refine g_X5_44_43 5 hX dX5_leastRest_2 rfl ?_
  refine r_icmp_ne 10 8 hX dX5_leastRest_5 (by decide) rfl hw (fun hw => ?_) (fun hw => ?_)
  · refine r_ldc 12 hX 1000000 tw_96 dX5_leastRest_10 rfl ?_
    refine r_istore (lv' := [(4, .int (1000000)), (0, .ref (X.kad 43)), (1, .int (x1)), (2, .int (x2)), (3, .int (x3))]) 14 hX dX5_leastRest_12 rfl (by decide) rfl ?_
    refine r_iconst 15 hX dX5_leastRest_14 rfl 0 ic_0 ?_
    refine r_istore (lv' := [(5, .int (0)), (4, .int (1000000)), (0, .ref (X.kad 43)), (1, .int (x1)), (2, .int (x2)), (3, .int (x3))]) 17 hX dX5_leastRest_15 rfl (by decide) rfl ?_
    refine r_sub [2, 3, 4, 5, 1, 0] rfl ?_
    obtain ⟨n, hw⟩ := hw
    exact w_X5_leastRest_l17 hX hR n _ _ _ _ _ _ hw
  · refine r_iconst 9 hX dX5_leastRest_8 rfl 0 ic_0 ?_
    exact r_iret hX hR dX5_leastRest_9 hw
set_option maxRecDepth 20000 in
set_option maxHeartbeats 4000000 in
theorem w_X5_walk_b22 {X : Cx} {Q : RV → St → Prop} (hX : CxB X RX5 cX5_walk 4 (2)) (hR : CxR X (none) Q) {K22 : Int32 → Int32 → Int32 → St → Prop} (hK22 : ∀ (x1 : Int32) (x2 : Int32) (x3 : Int32) (σ : St), K22 x1 x2 x3 σ → At X 4 22 [(0, .ref (X.kad 43)), (1, .int (x1)), (2, .int (x2)), (3, .int (x3))] [] σ) (x1 : Int32) (x2 : Int32) (x3 : Int32) (σ : St) (hw : wp_X5_walk_b22 (aV Q) K22 x1 x2 x3 σ) : At X 4 22 [(0, .ref (X.kad 43)), (1, .int (x1)), (2, .int (x2)), (3, .int (x3))] [] σ := by
  unfold wp_X5_walk_b22 at hw
  refine r_iload_n 23 hX dX5_walk_22 rfl rfl 3 rfl ?_
  refine r_aload_n 24 hX dX5_walk_23 rfl rfl 0 rfl ?_
  refine g_X5_44_43 27 hX dX5_walk_24 rfl ?_
  refine r_icmp_ge 74 30 hX dX5_walk_27 (by decide) rfl hw (fun hw => ?_) (fun hw => ?_)
  · exact r_vret hX hR dX5_walk_74 hw
  · refine r_aload_n 31 hX dX5_walk_30 rfl rfl 0 rfl ?_
    refine r_iload_n 32 hX dX5_walk_31 rfl rfl 3 rfl ?_
    refine r_iload_n 33 hX dX5_walk_32 rfl rfl 1 rfl ?_
    refine k_X5_74_X5_isOpen 36 hX (by omega) (x3) (x1) (Nat.le_of_ble_eq_true rfl) dX5_walk_33 rfl hw (fun r33 σ33 hw => ?_)
    refine r_if_eq 74 39 hX dX5_walk_36 (by decide) rfl hw (fun hw => ?_) (fun hw => ?_)
    · exact r_vret hX hR dX5_walk_74 hw
    · refine r_aload_n 40 hX dX5_walk_39 rfl rfl 0 rfl ?_
      refine g_X5_22_43 43 hX dX5_walk_40 rfl ?_
      refine r_iload_n 44 hX dX5_walk_43 rfl rfl 3 rfl ?_
      refine r_iload_n 45 hX dX5_walk_44 rfl rfl 1 rfl ?_
      refine r_iload_n 46 hX dX5_walk_45 rfl rfl 2 rfl ?_
      refine k_X5_88_X5_place 49 hX (by omega) (x3) (x1) (x2) (Nat.le_of_ble_eq_true rfl) dX5_walk_46 rfl hw (fun r46 σ46 hw => ?_)
      refine r_iald 50 hX sh_47 dX5_walk_49 rfl hw (fun hw => ?_)
      refine r_iconst 51 hX dX5_walk_50 rfl 4 ic_4 ?_
      refine r_irem 52 hX dX5_walk_51 rfl hw (fun hw => ?_)
      refine r_topi hw (fun v52 hw => ?_)
      refine r_istore_n (lv' := [(2, .int (v52)), (0, .ref (X.kad 43)), (1, .int (x1)), (3, .int (x3))]) 53 hX dX5_walk_52 rfl rfl (by decide) rfl ?_
      refine r_iload_n 54 hX dX5_walk_53 rfl rfl 2 rfl ?_
      refine r_iload_n 55 hX dX5_walk_54 rfl rfl 0 rfl ?_
      refine r_iconst 56 hX dX5_walk_55 rfl 1 ic_1 ?_
      refine r_isub 57 hX dX5_walk_56 rfl ?_
      refine r_iadd 58 hX dX5_walk_57 rfl ?_
      refine r_istore_n (lv' := [(1, .int (x1 + (v52 - 1))), (2, .int (v52)), (0, .ref (X.kad 43)), (3, .int (x3))]) 59 hX dX5_walk_58 rfl rfl (by decide) rfl ?_
      refine r_aload_n 60 hX dX5_walk_59 rfl rfl 2 rfl ?_
      refine g_X5_25_43 63 hX dX5_walk_60 rfl ?_
      refine r_iload_n 64 hX dX5_walk_63 rfl rfl 3 rfl ?_
      refine r_iconst 65 hX dX5_walk_64 rfl 1 ic_1 ?_
      refine r_iadd 66 hX dX5_walk_65 rfl ?_
      refine r_iload_n 67 hX dX5_walk_66 rfl rfl 0 rfl ?_
      refine r_iast 68 hX sh_48 dX5_walk_67 rfl hw (fun hw => ?_)
      refine r_iinc (lv' := [(3, .int (x3 + 1)), (1, .int (x1 + (v52 - 1))), (2, .int (v52)), (0, .ref (X.kad 43))]) 71 hX dX5_walk_68 rfl 3 rfl (x3 + 1) (ici_1 _) (by decide) rfl ?_
      refine r_goto 22 hX dX5_walk_71 (by decide) ?_
      refine r_sub [3, 1, 2, 0] rfl ?_
      exact hK22 _ _ _ _ hw
set_option maxRecDepth 20000 in
set_option maxHeartbeats 4000000 in
theorem w_X5_walk_l22 {X : Cx} {Q : RV → St → Prop} (hX : CxB X RX5 cX5_walk 4 (2)) (hR : CxR X (none) Q) (n : Nat) : ∀ (x1 : Int32) (x2 : Int32) (x3 : Int32) (σ : St), wp_X5_walk_l22 (aV Q)  n x1 x2 x3 σ → At X 4 22 [(0, .ref (X.kad 43)), (1, .int (x1)), (2, .int (x2)), (3, .int (x3))] [] σ := by
  induction n with
  | zero => intro x1 x2 x3 σ h; exact h.elim
  | succ n ih => intro x1 x2 x3 σ h; exact w_X5_walk_b22  hX hR ih x1 x2 x3 σ h
set_option maxRecDepth 20000 in
set_option maxHeartbeats 4000000 in
theorem c_X5_walk : Con yX5_walk cX5_walk 4 (none) (2) (fun ad => [.ref (ad 43)]) (fun Q σ => wp_X5_walk  (aV Q) σ) := by
  refine con_intro (by decide +kernel) (fun _ => Nat.le_of_ble_eq_true rfl) (by omega) (fun X Q σ hX hR hw => ?_)
  have hX : CxB X RX5 cX5_walk 4 (2) := hX
  unfold wp_X5_walk at hw
  show At X 4 0 [(0, .ref (X.kad 43))] [] σ
  refine r_aload_n 1 hX dX5_walk_0 rfl rfl 0 rfl ?_
  refine g_X5_50_43 4 hX dX5_walk_1 rfl ?_
  refine r_istore_n (lv' := [(1, .int (σ.1 43 7)), (0, .ref (X.kad 43))]) 5 hX dX5_walk_4 rfl rfl (by decide) rfl ?_
  refine r_iconst 6 hX dX5_walk_5 rfl 3 ic_3 ?_
  refine r_istore_n (lv' := [(2, .int (3)), (1, .int (σ.1 43 7)), (0, .ref (X.kad 43))]) 7 hX dX5_walk_6 rfl rfl (by decide) rfl ?_
  refine r_aload_n 8 hX dX5_walk_7 rfl rfl 2 rfl ?_
  refine g_X5_25_43 11 hX dX5_walk_8 rfl ?_
  refine r_aload_n 12 hX dX5_walk_11 rfl rfl 2 rfl ?_
  refine g_X5_38_43 15 hX dX5_walk_12 rfl ?_
  refine r_iload_n 16 hX dX5_walk_15 rfl rfl 1 rfl ?_
  refine r_iast 17 hX sh_48 dX5_walk_16 rfl hw (fun hw => ?_)
  refine r_aload_n 18 hX dX5_walk_17 rfl rfl 2 rfl ?_
  refine g_X5_38_43 21 hX dX5_walk_18 rfl ?_
  refine r_topi hw (fun v21 hw => ?_)
  refine r_istore_n (lv' := [(3, .int (v21)), (2, .int (3)), (1, .int (σ.1 43 7)), (0, .ref (X.kad 43))]) 22 hX dX5_walk_21 rfl rfl (by decide) rfl ?_
  refine r_sub [3, 2, 1, 0] rfl ?_
  obtain ⟨n, hw⟩ := hw
  exact w_X5_walk_l22 hX hR n _ _ _ _ hw
theorem k_X5_102_X5_walk {X : Cx} {cc : ByteArray} {nL d pc : Nat} {lv : List (Nat × Value)} {rest : List Value} {σ : St} {K : St → Prop} (q : Nat) (hX : CxB X RX5 cc nL d) (hdc : 2 + 1 ≤ d) (hst : (rest.map fun v => v.category).sum ≤ 8) (hd : decode cc pc = .ok (.invokevirtual 102, 3)) (hq : pc + 3 = q) (hw : wp_X5_walk  K σ) (kk : ∀ (τ : St), K τ → At X nL q lv (rest) τ) : At X nL pc lv (.ref (X.kad 43) :: rest) σ := r_callV (n := 0) q hX (k0 := 43) (c_X5_walk ) tw_110 tw_111 tw_112 tw_90 tw_113 ⟨by decide +kernel, by decide +kernel, by decide +kernel⟩ hdc (by decide) (As := []) rfl rfl (by decide) ⟨_, _, _, rfl, rfl, rfl⟩ hst hd hq rfl (K := qV K) hw (kV kk)
theorem k_X5_92_X5_leastRest {X : Cx} {cc : ByteArray} {nL d pc : Nat} {lv : List (Nat × Value)} {rest : List Value} {σ : St} {K : Int32 → St → Prop} (q : Nat) (hX : CxB X RX5 cc nL d) (hdc : 3 + 1 ≤ d) (x1 : Int32) (x2 : Int32) (x3 : Int32) (hst : (rest.map fun v => v.category).sum ≤ 8) (hd : decode cc pc = .ok (.invokevirtual 92, 3)) (hq : pc + 3 = q) (hw : wp_X5_leastRest x1 x2 x3 K σ) (kk : ∀ (r : Int32) (τ : St), K r τ → At X nL q lv (.int r :: rest) τ) : At X nL pc lv (.int (x3) :: .int (x2) :: .int (x1) :: .ref (X.kad 43) :: rest) σ := r_callV (n := 3) q hX (k0 := 43) (c_X5_leastRest x1 x2 x3) tw_114 tw_115 tw_116 tw_90 tw_117 ⟨by decide +kernel, by decide +kernel, by decide +kernel⟩ hdc (by decide) (As := [.int (x1), .int (x2), .int (x3)]) rfl rfl (by decide) ⟨_, _, _, rfl, rfl, rfl⟩ hst hd hq rfl (K := qI K) hw (kI kk)
set_option maxRecDepth 20000 in
set_option maxHeartbeats 4000000 in
theorem w_X5_findFewestBends_b42 {X : Cx} {Q : RV → St → Prop} (hX : CxB X RX5 cX5_findFewestBends 4 (4)) (hR : CxR X (some .boolean) Q) {K22 : Int32 → St → Prop} (hK22 : ∀ (x1 : Int32) (σ : St), K22 x1 σ → At X 4 22 [(0, .ref (X.kad 43)), (1, .int (x1))] [] σ) {K32 : Int32 → Int32 → St → Prop} (hK32 : ∀ (x1 : Int32) (x2 : Int32) (σ : St), K32 x1 x2 σ → At X 4 32 [(0, .ref (X.kad 43)), (1, .int (x1)), (2, .int (x2))] [] σ) {K42 : Int32 → Int32 → Int32 → St → Prop} (hK42 : ∀ (x1 : Int32) (x2 : Int32) (x3 : Int32) (σ : St), K42 x1 x2 x3 σ → At X 4 42 [(0, .ref (X.kad 43)), (1, .int (x1)), (2, .int (x2)), (3, .int (x3))] [] σ) (x1 : Int32) (x2 : Int32) (x3 : Int32) (σ : St) (hw : wp_X5_findFewestBends_b42 (aI Q) K22 K32 K42 x1 x2 x3 σ) : At X 4 42 [(0, .ref (X.kad 43)), (1, .int (x1)), (2, .int (x2)), (3, .int (x3))] [] σ := by
  unfold wp_X5_findFewestBends_b42 at hw
  refine r_iload_n 43 hX dX5_findFewestBends_42 rfl rfl 3 rfl ?_
  refine r_iconst 44 hX dX5_findFewestBends_43 rfl 4 ic_4 ?_
  refine r_icmp_ge 71 47 hX dX5_findFewestBends_44 (by decide) rfl hw (fun hw => ?_) (fun hw => ?_)
  · refine r_iinc (lv' := [(2, .int (x2 + 1)), (0, .ref (X.kad 43)), (1, .int (x1)), (3, .int (x3))]) 74 hX dX5_findFewestBends_71 rfl 2 rfl (x2 + 1) (ici_1 _) (by decide) rfl ?_
    refine r_goto 32 hX dX5_findFewestBends_74 (by decide) ?_
    refine r_sub [1, 2, 0] rfl ?_
    exact hK32 _ _ _ hw
  · refine r_aload_n 48 hX dX5_findFewestBends_47 rfl rfl 0 rfl ?_
    refine g_X5_22_43 51 hX dX5_findFewestBends_48 rfl ?_
    refine r_iload_n 52 hX dX5_findFewestBends_51 rfl rfl 1 rfl ?_
    refine r_iload_n 53 hX dX5_findFewestBends_52 rfl rfl 2 rfl ?_
    refine r_iload_n 54 hX dX5_findFewestBends_53 rfl rfl 3 rfl ?_
    refine k_X5_88_X5_place 57 hX (by omega) (x1) (x2) (x3) (Nat.le_of_ble_eq_true rfl) dX5_findFewestBends_54 rfl hw (fun r54 σ54 hw => ?_)
    refine r_aload_n 58 hX dX5_findFewestBends_57 rfl rfl 0 rfl ?_
    refine r_iload_n 59 hX dX5_findFewestBends_58 rfl rfl 1 rfl ?_
    refine r_iload_n 60 hX dX5_findFewestBends_59 rfl rfl 2 rfl ?_
    refine r_iload_n 61 hX dX5_findFewestBends_60 rfl rfl 3 rfl ?_
    refine k_X5_92_X5_leastRest 64 hX (by omega) (x1) (x2) (x3) (Nat.le_of_ble_eq_true rfl) dX5_findFewestBends_61 rfl hw (fun r61 σ61 hw => ?_)
    refine r_iast 65 hX sh_47 dX5_findFewestBends_64 rfl hw (fun hw => ?_)
    refine r_iinc (lv' := [(3, .int (x3 + 1)), (0, .ref (X.kad 43)), (1, .int (x1)), (2, .int (x2))]) 68 hX dX5_findFewestBends_65 rfl 3 rfl (x3 + 1) (ici_1 _) (by decide) rfl ?_
    refine r_goto 42 hX dX5_findFewestBends_68 (by decide) ?_
    refine r_sub [1, 2, 3, 0] rfl ?_
    exact hK42 _ _ _ _ hw
set_option maxRecDepth 20000 in
set_option maxHeartbeats 4000000 in
theorem w_X5_findFewestBends_l42 {X : Cx} {Q : RV → St → Prop} (hX : CxB X RX5 cX5_findFewestBends 4 (4)) (hR : CxR X (some .boolean) Q) {K22 : Int32 → St → Prop} (hK22 : ∀ (x1 : Int32) (σ : St), K22 x1 σ → At X 4 22 [(0, .ref (X.kad 43)), (1, .int (x1))] [] σ) {K32 : Int32 → Int32 → St → Prop} (hK32 : ∀ (x1 : Int32) (x2 : Int32) (σ : St), K32 x1 x2 σ → At X 4 32 [(0, .ref (X.kad 43)), (1, .int (x1)), (2, .int (x2))] [] σ) (n : Nat) : ∀ (x1 : Int32) (x2 : Int32) (x3 : Int32) (σ : St), wp_X5_findFewestBends_l42 (aI Q) K22 K32 n x1 x2 x3 σ → At X 4 42 [(0, .ref (X.kad 43)), (1, .int (x1)), (2, .int (x2)), (3, .int (x3))] [] σ := by
  induction n with
  | zero => intro x1 x2 x3 σ h; exact h.elim
  | succ n ih => intro x1 x2 x3 σ h; exact w_X5_findFewestBends_b42  hX hR hK22 hK32 ih x1 x2 x3 σ h
set_option maxRecDepth 20000 in
set_option maxHeartbeats 4000000 in
theorem w_X5_findFewestBends_b32 {X : Cx} {Q : RV → St → Prop} (hX : CxB X RX5 cX5_findFewestBends 4 (4)) (hR : CxR X (some .boolean) Q) {K22 : Int32 → St → Prop} (hK22 : ∀ (x1 : Int32) (σ : St), K22 x1 σ → At X 4 22 [(0, .ref (X.kad 43)), (1, .int (x1))] [] σ) {K32 : Int32 → Int32 → St → Prop} (hK32 : ∀ (x1 : Int32) (x2 : Int32) (σ : St), K32 x1 x2 σ → At X 4 32 [(0, .ref (X.kad 43)), (1, .int (x1)), (2, .int (x2))] [] σ) (x1 : Int32) (x2 : Int32) (σ : St) (hw : wp_X5_findFewestBends_b32 (aI Q) K22 K32 x1 x2 σ) : At X 4 32 [(0, .ref (X.kad 43)), (1, .int (x1)), (2, .int (x2))] [] σ := by
  unfold wp_X5_findFewestBends_b32 at hw
  refine r_iload_n 33 hX dX5_findFewestBends_32 rfl rfl 2 rfl ?_
  refine r_aload_n 34 hX dX5_findFewestBends_33 rfl rfl 0 rfl ?_
  refine g_X5_34_43 37 hX dX5_findFewestBends_34 rfl ?_
  refine r_icmp_ge 77 40 hX dX5_findFewestBends_37 (by decide) rfl hw (fun hw => ?_) (fun hw => ?_)
  · refine r_iinc (lv' := [(1, .int (x1 + (-1))), (0, .ref (X.kad 43)), (2, .int (x2))]) 80 hX dX5_findFewestBends_77 rfl 1 rfl (x1 + (-1)) (ici_m1 _) (by decide) rfl ?_
    refine r_goto 22 hX dX5_findFewestBends_80 (by decide) ?_
    refine r_sub [1, 0] rfl ?_
    exact hK22 _ _ hw
  · refine r_iconst 41 hX dX5_findFewestBends_40 rfl 0 ic_0 ?_
    refine r_istore_n (lv' := [(3, .int (0)), (0, .ref (X.kad 43)), (1, .int (x1)), (2, .int (x2))]) 42 hX dX5_findFewestBends_41 rfl rfl (by decide) rfl ?_
    refine r_sub [1, 2, 3, 0] rfl ?_
    obtain ⟨n, hw⟩ := hw
    exact w_X5_findFewestBends_l42 hX hR hK22 hK32 n _ _ _ _ hw
set_option maxRecDepth 20000 in
set_option maxHeartbeats 4000000 in
theorem w_X5_findFewestBends_l32 {X : Cx} {Q : RV → St → Prop} (hX : CxB X RX5 cX5_findFewestBends 4 (4)) (hR : CxR X (some .boolean) Q) {K22 : Int32 → St → Prop} (hK22 : ∀ (x1 : Int32) (σ : St), K22 x1 σ → At X 4 22 [(0, .ref (X.kad 43)), (1, .int (x1))] [] σ) (n : Nat) : ∀ (x1 : Int32) (x2 : Int32) (σ : St), wp_X5_findFewestBends_l32 (aI Q) K22 n x1 x2 σ → At X 4 32 [(0, .ref (X.kad 43)), (1, .int (x1)), (2, .int (x2))] [] σ := by
  induction n with
  | zero => intro x1 x2 σ h; exact h.elim
  | succ n ih => intro x1 x2 σ h; exact w_X5_findFewestBends_b32  hX hR hK22 ih x1 x2 σ h
set_option maxRecDepth 20000 in
set_option maxHeartbeats 4000000 in
theorem w_X5_findFewestBends_b22 {X : Cx} {Q : RV → St → Prop} (hX : CxB X RX5 cX5_findFewestBends 4 (4)) (hR : CxR X (some .boolean) Q) {K22 : Int32 → St → Prop} (hK22 : ∀ (x1 : Int32) (σ : St), K22 x1 σ → At X 4 22 [(0, .ref (X.kad 43)), (1, .int (x1))] [] σ) (x1 : Int32) (σ : St) (hw : wp_X5_findFewestBends_b22 (aI Q) K22 x1 σ) : At X 4 22 [(0, .ref (X.kad 43)), (1, .int (x1))] [] σ := by
  unfold wp_X5_findFewestBends_b22 at hw
  refine r_iload_n 23 hX dX5_findFewestBends_22 rfl rfl 1 rfl ?_
  refine r_aload_n 24 hX dX5_findFewestBends_23 rfl rfl 0 rfl ?_
  refine g_X5_38_43 27 hX dX5_findFewestBends_24 rfl ?_
  refine r_icmp_lt 83 30 hX dX5_findFewestBends_27 (by decide) rfl hw (fun hw => ?_) (fun hw => ?_)
  · refine r_aload_n 84 hX dX5_findFewestBends_83 rfl rfl 0 rfl ?_
    refine g_X5_22_43 87 hX dX5_findFewestBends_84 rfl ?_
    refine r_aload_n 88 hX dX5_findFewestBends_87 rfl rfl 0 rfl ?_
    refine g_X5_38_43 91 hX dX5_findFewestBends_88 rfl ?_
    refine r_aload_n 92 hX dX5_findFewestBends_91 rfl rfl 0 rfl ?_
    refine g_X5_50_43 95 hX dX5_findFewestBends_92 rfl ?_
    refine r_iconst 96 hX dX5_findFewestBends_95 rfl 3 ic_3 ?_
    refine k_X5_88_X5_place 99 hX (by omega) (σ.1 43 5) (σ.1 43 7) (3) (Nat.le_of_ble_eq_true rfl) dX5_findFewestBends_96 rfl hw (fun r96 σ96 hw => ?_)
    refine r_iald 100 hX sh_47 dX5_findFewestBends_99 rfl hw (fun hw => ?_)
    refine r_istore_n (lv' := [(1, .int (σ96.1 47 r96.toNatClampNeg)), (0, .ref (X.kad 43))]) 101 hX dX5_findFewestBends_100 rfl rfl (by decide) rfl ?_
    refine r_iload_n 102 hX dX5_findFewestBends_101 rfl rfl 0 rfl ?_
    refine r_ldc 104 hX 1000000 tw_96 dX5_findFewestBends_102 rfl ?_
    refine r_icmp_lt 109 107 hX dX5_findFewestBends_104 (by decide) rfl hw (fun hw => ?_) (fun hw => ?_)
    · refine r_aload_n 110 hX dX5_findFewestBends_109 rfl rfl 1 rfl ?_
      refine r_iload_n 111 hX dX5_findFewestBends_110 rfl rfl 0 rfl ?_
      refine r_iconst 112 hX dX5_findFewestBends_111 rfl 4 ic_4 ?_
      refine r_idiv 113 hX dX5_findFewestBends_112 rfl hw (fun hw => ?_)
      refine r_bipush 115 hX dX5_findFewestBends_113 rfl 100 bi_100 ?_
      refine r_idiv 116 hX dX5_findFewestBends_115 rfl hw (fun hw => ?_)
      refine p_X5_96_43 119 hX dX5_findFewestBends_116 rfl ?_
      refine r_aload_n 120 hX dX5_findFewestBends_119 rfl rfl 1 rfl ?_
      refine r_iload_n 121 hX dX5_findFewestBends_120 rfl rfl 0 rfl ?_
      refine r_iconst 122 hX dX5_findFewestBends_121 rfl 4 ic_4 ?_
      refine r_idiv 123 hX dX5_findFewestBends_122 rfl hw (fun hw => ?_)
      refine r_bipush 125 hX dX5_findFewestBends_123 rfl 100 bi_100 ?_
      refine r_irem 126 hX dX5_findFewestBends_125 rfl hw (fun hw => ?_)
      refine p_X5_99_43 129 hX dX5_findFewestBends_126 rfl ?_
      refine r_aload_n 130 hX dX5_findFewestBends_129 rfl rfl 1 rfl ?_
      refine k_X5_102_X5_walk 133 hX (by omega)  (Nat.le_of_ble_eq_true rfl) dX5_findFewestBends_130 rfl hw (fun σ130 hw => ?_)
      refine r_iconst 134 hX dX5_findFewestBends_133 rfl 1 ic_1 ?_
      exact r_zret hX hR narrow_b1 dX5_findFewestBends_134 hw
    · refine r_iconst 108 hX dX5_findFewestBends_107 rfl 0 ic_0 ?_
      exact r_zret hX hR narrow_b0 dX5_findFewestBends_108 hw
  · refine r_iconst 31 hX dX5_findFewestBends_30 rfl 0 ic_0 ?_
    refine r_istore_n (lv' := [(2, .int (0)), (0, .ref (X.kad 43)), (1, .int (x1))]) 32 hX dX5_findFewestBends_31 rfl rfl (by decide) rfl ?_
    refine r_sub [1, 2, 0] rfl ?_
    obtain ⟨n, hw⟩ := hw
    exact w_X5_findFewestBends_l32 hX hR hK22 n _ _ _ hw
set_option maxRecDepth 20000 in
set_option maxHeartbeats 4000000 in
theorem w_X5_findFewestBends_l22 {X : Cx} {Q : RV → St → Prop} (hX : CxB X RX5 cX5_findFewestBends 4 (4)) (hR : CxR X (some .boolean) Q) (n : Nat) : ∀ (x1 : Int32) (σ : St), wp_X5_findFewestBends_l22 (aI Q)  n x1 σ → At X 4 22 [(0, .ref (X.kad 43)), (1, .int (x1))] [] σ := by
  induction n with
  | zero => intro x1 σ h; exact h.elim
  | succ n ih => intro x1 σ h; exact w_X5_findFewestBends_b22  hX hR ih x1 σ h
set_option maxRecDepth 20000 in
set_option maxHeartbeats 4000000 in
theorem c_X5_findFewestBends : Con yX5_findFewestBends cX5_findFewestBends 4 (some .boolean) (4) (fun ad => [.ref (ad 43)]) (fun Q σ => wp_X5_findFewestBends  (aI Q) σ) := by
  refine con_intro (by decide +kernel) (fun _ => Nat.le_of_ble_eq_true rfl) (by omega) (fun X Q σ hX hR hw => ?_)
  have hX : CxB X RX5 cX5_findFewestBends 4 (4) := hX
  unfold wp_X5_findFewestBends at hw
  show At X 4 0 [(0, .ref (X.kad 43))] [] σ
  refine r_aload_n 1 hX dX5_findFewestBends_0 rfl rfl 0 rfl ?_
  refine r_aload_n 2 hX dX5_findFewestBends_1 rfl rfl 0 rfl ?_
  refine g_X5_38_43 5 hX dX5_findFewestBends_2 rfl ?_
  refine r_aload_n 6 hX dX5_findFewestBends_5 rfl rfl 0 rfl ?_
  refine g_X5_50_43 9 hX dX5_findFewestBends_6 rfl ?_
  refine k_X5_74_X5_isOpen 12 hX (by omega) (σ.1 43 5) (σ.1 43 7) (Nat.le_of_ble_eq_true rfl) dX5_findFewestBends_9 rfl hw (fun r9 σ9 hw => ?_)
  refine r_if_ne 17 15 hX dX5_findFewestBends_12 (by decide) rfl hw (fun hw => ?_) (fun hw => ?_)
  · refine r_aload_n 18 hX dX5_findFewestBends_17 rfl rfl 0 rfl ?_
    refine g_X5_44_43 21 hX dX5_findFewestBends_18 rfl ?_
    refine r_istore_n (lv' := [(1, .int (σ9.1 43 6)), (0, .ref (X.kad 43))]) 22 hX dX5_findFewestBends_21 rfl rfl (by decide) rfl ?_
    refine r_sub [1, 0] rfl ?_
    obtain ⟨n, hw⟩ := hw
    exact w_X5_findFewestBends_l22 hX hR n _ _ hw
  · refine r_iconst 16 hX dX5_findFewestBends_15 rfl 0 ic_0 ?_
    exact r_zret hX hR narrow_b0 dX5_findFewestBends_16 hw
theorem k_X5_78_X5_numberBelow {X : Cx} {cc : ByteArray} {nL d pc : Nat} {lv : List (Nat × Value)} {rest : List Value} {σ : St} {K : Int64 → St → Prop} (q : Nat) (hX : CxB X RX5 cc nL d) (hdc : 1 + 1 ≤ d) (x1 : Int32) (hst : (rest.map fun v => v.category).sum ≤ 8) (hd : decode cc pc = .ok (.invokevirtual 78, 3)) (hq : pc + 3 = q) (hw : wp_X5_numberBelow x1 K σ) (kk : ∀ (r : Int64) (τ : St), K r τ → At X nL q lv (.long r :: rest) τ) : At X nL pc lv (.int (x1) :: .ref (X.kad 43) :: rest) σ := r_callV (n := 1) q hX (k0 := 43) (c_X5_numberBelow x1) tw_123 tw_124 tw_125 tw_90 tw_126 ⟨by decide +kernel, by decide +kernel, by decide +kernel⟩ hdc (by decide) (As := [.int (x1)]) rfl rfl (by decide) ⟨_, _, _, rfl, rfl, rfl⟩ hst hd hq rfl (K := qJ K) hw (kJ kk)
theorem k_X5_68_fillJ {X : Cx} {cc : ByteArray} {nL d pc : Nat} {lv : List (Nat × Value)} {rest : List Value} {σ : St} {K : St → Prop} (q : Nat) (hX : CxB X RX5 cc nL d) (hdc : 1 + 1 ≤ d) {a n : Nat} (hs : wS a = (10, n)) (v : Int64) (hst : (rest.map fun v => v.category).sum ≤ 8) (hd : decode cc pc = .ok (.invokestatic 68, 3)) (hq : pc + 3 = q) (hw : wp_fillJ a n v K σ) (kk : ∀ τ : St, K τ → At X nL q lv rest τ) : At X nL pc lv (.long v :: .ref (X.kad a) :: rest) σ := r_callS (n := 2) q hX (c_fillJ a n hs v) tw_118 tw_119 tw_32 tw_120 ⟨by decide +kernel, by decide +kernel, by decide +kernel⟩ hdc (by decide) (As := [.ref (X.kad a), .long v]) rfl rfl hst hd hq rfl (K := qV K) hw (kV kk)
set_option maxRecDepth 20000 in
set_option maxHeartbeats 4000000 in
theorem w_X5_number_b119 {X : Cx} {Q : RV → St → Prop} (hX : CxB X RX5 cX5_number 4 (2)) (hR : CxR X (some .long) Q) {K119 : Int64 → Int32 → St → Prop} (hK119 : ∀ (x1 : Int64) (x3 : Int32) (σ : St), K119 x1 x3 σ → At X 4 119 [(0, .ref (X.kad 43)), (1, .long (x1)), (3, .int (x3))] [] σ) (x1 : Int64) (x3 : Int32) (σ : St) (hw : wp_X5_number_b119 (aJ Q) K119 x1 x3 σ) : At X 4 119 [(0, .ref (X.kad 43)), (1, .long (x1)), (3, .int (x3))] [] σ := by
  unfold wp_X5_number_b119 at hw
  refine r_iload_n 120 hX dX5_number_119 rfl rfl 2 rfl ?_
  refine r_aload_n 121 hX dX5_number_120 rfl rfl 0 rfl ?_
  refine g_X5_34_43 124 hX dX5_number_121 rfl ?_
  refine r_icmp_ge 142 127 hX dX5_number_124 (by decide) rfl hw (fun hw => ?_) (fun hw => ?_)
  · refine r_lload_n 143 hX dX5_number_142 rfl rfl 1 rfl ?_
    exact r_lret hX hR dX5_number_143 hw
  · refine r_lload_n 128 hX dX5_number_127 rfl rfl 1 rfl ?_
    refine r_aload_n 129 hX dX5_number_128 rfl rfl 0 rfl ?_
    refine g_X5_15_43 132 hX dX5_number_129 rfl ?_
    refine r_iload_n 133 hX dX5_number_132 rfl rfl 2 rfl ?_
    refine r_lald 134 hX sh_45 dX5_number_133 rfl hw (fun hw => ?_)
    refine r_ladd 135 hX dX5_number_134 rfl ?_
    refine r_lstore_n (lv' := [(1, .long (x1 + (σ.2 45 x3.toNatClampNeg))), (0, .ref (X.kad 43)), (3, .int (x3))]) 136 hX dX5_number_135 rfl rfl (by decide) rfl ?_
    refine r_iinc (lv' := [(3, .int (x3 + 1)), (1, .long (x1 + (σ.2 45 x3.toNatClampNeg))), (0, .ref (X.kad 43))]) 139 hX dX5_number_136 rfl 2 rfl (x3 + 1) (ici_1 _) (by decide) rfl ?_
    refine r_goto 119 hX dX5_number_139 (by decide) ?_
    refine r_sub [2, 1, 0] rfl ?_
    exact hK119 _ _ _ hw
set_option maxRecDepth 20000 in
set_option maxHeartbeats 4000000 in
theorem w_X5_number_l119 {X : Cx} {Q : RV → St → Prop} (hX : CxB X RX5 cX5_number 4 (2)) (hR : CxR X (some .long) Q) (n : Nat) : ∀ (x1 : Int64) (x3 : Int32) (σ : St), wp_X5_number_l119 (aJ Q)  n x1 x3 σ → At X 4 119 [(0, .ref (X.kad 43)), (1, .long (x1)), (3, .int (x3))] [] σ := by
  induction n with
  | zero => intro x1 x3 σ h; exact h.elim
  | succ n ih => intro x1 x3 σ h; exact w_X5_number_b119  hX hR ih x1 x3 σ h
set_option maxRecDepth 20000 in
set_option maxHeartbeats 4000000 in
theorem w_X5_number_b54 {X : Cx} {Q : RV → St → Prop} (hX : CxB X RX5 cX5_number 4 (2)) (hR : CxR X (some .long) Q) {K44 : Int32 → St → Prop} (hK44 : ∀ (x1 : Int32) (σ : St), K44 x1 σ → At X 4 44 [(0, .ref (X.kad 43)), (1, .int (x1))] [] σ) {K54 : Int32 → Int32 → St → Prop} (hK54 : ∀ (x1 : Int32) (x2 : Int32) (σ : St), K54 x1 x2 σ → At X 4 54 [(0, .ref (X.kad 43)), (1, .int (x1)), (2, .int (x2))] [] σ) (x1 : Int32) (x2 : Int32) (σ : St) (hw : wp_X5_number_b54 (aJ Q) K44 K54 x1 x2 σ) : At X 4 54 [(0, .ref (X.kad 43)), (1, .int (x1)), (2, .int (x2))] [] σ := by
  unfold wp_X5_number_b54 at hw
  refine r_iload_n 55 hX dX5_number_54 rfl rfl 2 rfl ?_
  refine r_aload_n 56 hX dX5_number_55 rfl rfl 0 rfl ?_
  refine g_X5_34_43 59 hX dX5_number_56 rfl ?_
  refine r_icmp_ge 92 62 hX dX5_number_59 (by decide) rfl hw (fun hw => ?_) (fun hw => ?_)
  · refine r_aload_n 93 hX dX5_number_92 rfl rfl 0 rfl ?_
    refine g_X5_19_43 96 hX dX5_number_93 rfl ?_
    refine r_iconst 97 hX dX5_number_96 rfl 0 ic_0 ?_
    refine r_aload_n 98 hX dX5_number_97 rfl rfl 0 rfl ?_
    refine g_X5_15_43 101 hX dX5_number_98 rfl ?_
    refine r_iconst 102 hX dX5_number_101 rfl 0 ic_0 ?_
    refine r_aload_n 103 hX dX5_number_102 rfl rfl 0 rfl ?_
    refine g_X5_34_43 106 hX dX5_number_103 rfl ?_
    refine r_copyl 109 hX sh_46 sh_45 tw_122 tw_35 tw_36 tw_37 rfl nfw dX5_number_106 rfl hw (fun hw => ?_)
    refine r_iinc (lv' := [(1, .int (x1 + 1)), (0, .ref (X.kad 43)), (2, .int (x2))]) 112 hX dX5_number_109 rfl 1 rfl (x1 + 1) (ici_1 _) (by decide) rfl ?_
    refine r_goto 44 hX dX5_number_112 (by decide) ?_
    refine r_sub [1, 0] rfl ?_
    exact hK44 _ _ hw
  · refine r_aload_n 63 hX dX5_number_62 rfl rfl 0 rfl ?_
    refine g_X5_19_43 66 hX dX5_number_63 rfl ?_
    refine r_iload_n 67 hX dX5_number_66 rfl rfl 2 rfl ?_
    refine r_aload_n 68 hX dX5_number_67 rfl rfl 0 rfl ?_
    refine r_iload_n 69 hX dX5_number_68 rfl rfl 1 rfl ?_
    refine r_iload_n 70 hX dX5_number_69 rfl rfl 2 rfl ?_
    refine k_X5_74_X5_isOpen 73 hX (by omega) (x1) (x2) (Nat.le_of_ble_eq_true rfl) dX5_number_70 rfl hw (fun r70 σ70 hw => ?_)
    refine r_if_eq 84 76 hX dX5_number_73 (by decide) rfl hw (fun hw => ?_) (fun hw => ?_)
    · refine r_lconst 85 hX dX5_number_84 rfl 0 lc_0 ?_
      refine r_last 86 hX sh_46 dX5_number_85 rfl hw (fun hw => ?_)
      refine r_iinc (lv' := [(2, .int (x2 + 1)), (0, .ref (X.kad 43)), (1, .int (x1))]) 89 hX dX5_number_86 rfl 2 rfl (x2 + 1) (ici_1 _) (by decide) rfl ?_
      refine r_goto 54 hX dX5_number_89 (by decide) ?_
      refine r_sub [1, 2, 0] rfl ?_
      exact hK54 _ _ _ hw
    · refine r_aload_n 77 hX dX5_number_76 rfl rfl 0 rfl ?_
      refine r_iload_n 78 hX dX5_number_77 rfl rfl 2 rfl ?_
      refine k_X5_78_X5_numberBelow 81 hX (by omega) (x2) (Nat.le_of_ble_eq_true rfl) dX5_number_78 rfl hw (fun r78 σ78 hw => ?_)
      refine r_goto 85 hX dX5_number_81 (by decide) ?_
      refine r_last 86 hX sh_46 dX5_number_85 rfl hw (fun hw => ?_)
      refine r_iinc (lv' := [(2, .int (x2 + 1)), (0, .ref (X.kad 43)), (1, .int (x1))]) 89 hX dX5_number_86 rfl 2 rfl (x2 + 1) (ici_1 _) (by decide) rfl ?_
      refine r_goto 54 hX dX5_number_89 (by decide) ?_
      refine r_sub [1, 2, 0] rfl ?_
      exact hK54 _ _ _ hw
set_option maxRecDepth 20000 in
set_option maxHeartbeats 4000000 in
theorem w_X5_number_l54 {X : Cx} {Q : RV → St → Prop} (hX : CxB X RX5 cX5_number 4 (2)) (hR : CxR X (some .long) Q) {K44 : Int32 → St → Prop} (hK44 : ∀ (x1 : Int32) (σ : St), K44 x1 σ → At X 4 44 [(0, .ref (X.kad 43)), (1, .int (x1))] [] σ) (n : Nat) : ∀ (x1 : Int32) (x2 : Int32) (σ : St), wp_X5_number_l54 (aJ Q) K44 n x1 x2 σ → At X 4 54 [(0, .ref (X.kad 43)), (1, .int (x1)), (2, .int (x2))] [] σ := by
  induction n with
  | zero => intro x1 x2 σ h; exact h.elim
  | succ n ih => intro x1 x2 σ h; exact w_X5_number_b54  hX hR hK44 ih x1 x2 σ h
set_option maxRecDepth 20000 in
set_option maxHeartbeats 4000000 in
theorem w_X5_number_b44 {X : Cx} {Q : RV → St → Prop} (hX : CxB X RX5 cX5_number 4 (2)) (hR : CxR X (some .long) Q) {K44 : Int32 → St → Prop} (hK44 : ∀ (x1 : Int32) (σ : St), K44 x1 σ → At X 4 44 [(0, .ref (X.kad 43)), (1, .int (x1))] [] σ) (x1 : Int32) (σ : St) (hw : wp_X5_number_b44 (aJ Q) K44 x1 σ) : At X 4 44 [(0, .ref (X.kad 43)), (1, .int (x1))] [] σ := by
  unfold wp_X5_number_b44 at hw
  refine r_iload_n 45 hX dX5_number_44 rfl rfl 1 rfl ?_
  refine r_aload_n 46 hX dX5_number_45 rfl rfl 0 rfl ?_
  refine g_X5_44_43 49 hX dX5_number_46 rfl ?_
  refine r_icmp_gt 115 52 hX dX5_number_49 (by decide) rfl hw (fun hw => ?_) (fun hw => ?_)
  · refine r_lconst 116 hX dX5_number_115 rfl 0 lc_0 ?_
    refine r_lstore_n (lv' := [(1, .long (0)), (0, .ref (X.kad 43))]) 117 hX dX5_number_116 rfl rfl (by decide) rfl ?_
    refine r_iconst 118 hX dX5_number_117 rfl 0 ic_0 ?_
    refine r_istore_n (lv' := [(3, .int (0)), (1, .long (0)), (0, .ref (X.kad 43))]) 119 hX dX5_number_118 rfl rfl (by decide) rfl ?_
    refine r_sub [2, 1, 0] rfl ?_
    obtain ⟨n, hw⟩ := hw
    exact w_X5_number_l119 hX hR n _ _ _ hw
  · refine r_iconst 53 hX dX5_number_52 rfl 0 ic_0 ?_
    refine r_istore_n (lv' := [(2, .int (0)), (0, .ref (X.kad 43)), (1, .int (x1))]) 54 hX dX5_number_53 rfl rfl (by decide) rfl ?_
    refine r_sub [1, 2, 0] rfl ?_
    obtain ⟨n, hw⟩ := hw
    exact w_X5_number_l54 hX hR hK44 n _ _ _ hw
set_option maxRecDepth 20000 in
set_option maxHeartbeats 4000000 in
theorem w_X5_number_l44 {X : Cx} {Q : RV → St → Prop} (hX : CxB X RX5 cX5_number 4 (2)) (hR : CxR X (some .long) Q) (n : Nat) : ∀ (x1 : Int32) (σ : St), wp_X5_number_l44 (aJ Q)  n x1 σ → At X 4 44 [(0, .ref (X.kad 43)), (1, .int (x1))] [] σ := by
  induction n with
  | zero => intro x1 σ h; exact h.elim
  | succ n ih => intro x1 σ h; exact w_X5_number_b44  hX hR ih x1 σ h
set_option maxRecDepth 20000 in
set_option maxHeartbeats 4000000 in
theorem w_X5_number_b36 {X : Cx} {Q : RV → St → Prop} (hX : CxB X RX5 cX5_number 4 (2)) (hR : CxR X (some .long) Q) (s0 : Int64) (s1 : Int32) (σ : St) (hw : wp_X5_number_b36 (aJ Q)  s0 s1 σ) : At X 4 36 [(0, .ref (X.kad 43))] [.long (s0), .int (s1), .ref (X.kad 45)] σ := by
  unfold wp_X5_number_b36 at hw
  refine r_last 37 hX sh_45 dX5_number_36 rfl hw (fun hw => ?_)
  refine r_aload_n 38 hX dX5_number_37 rfl rfl 0 rfl ?_
  refine g_X5_38_43 41 hX dX5_number_38 rfl ?_
  refine r_iconst 42 hX dX5_number_41 rfl 1 ic_1 ?_
  refine r_iadd 43 hX dX5_number_42 rfl ?_
  refine r_topi hw (fun v43 hw => ?_)
  refine r_istore_n (lv' := [(1, .int (v43)), (0, .ref (X.kad 43))]) 44 hX dX5_number_43 rfl rfl (by decide) rfl ?_
  refine r_sub [1, 0] rfl ?_
  obtain ⟨n, hw⟩ := hw
  exact w_X5_number_l44 hX hR n _ _ hw
set_option maxRecDepth 20000 in
set_option maxHeartbeats 4000000 in
theorem c_X5_number : Con yX5_number cX5_number 4 (some .long) (2) (fun ad => [.ref (ad 43)]) (fun Q σ => wp_X5_number  (aJ Q) σ) := by
  refine con_intro (by decide +kernel) (fun _ => Nat.le_of_ble_eq_true rfl) (by omega) (fun X Q σ hX hR hw => ?_)
  have hX : CxB X RX5 cX5_number 4 (2) := hX
  unfold wp_X5_number at hw
  show At X 4 0 [(0, .ref (X.kad 43))] [] σ
  refine r_aload_n 1 hX dX5_number_0 rfl rfl 0 rfl ?_
  refine g_X5_15_43 4 hX dX5_number_1 rfl ?_
  refine r_lconst 5 hX dX5_number_4 rfl 0 lc_0 ?_
  refine k_X5_68_fillJ 8 hX (by omega) sh_45 (0) (Nat.le_of_ble_eq_true rfl) dX5_number_5 rfl hw (fun σ5 hw => ?_)
  refine r_aload_n 9 hX dX5_number_8 rfl rfl 0 rfl ?_
  refine g_X5_15_43 12 hX dX5_number_9 rfl ?_
  refine r_aload_n 13 hX dX5_number_12 rfl rfl 0 rfl ?_
  refine g_X5_50_43 16 hX dX5_number_13 rfl ?_
  refine r_aload_n 17 hX dX5_number_16 rfl rfl 0 rfl ?_
  refine r_aload_n 18 hX dX5_number_17 rfl rfl 0 rfl ?_
  refine g_X5_38_43 21 hX dX5_number_18 rfl ?_
  refine r_aload_n 22 hX dX5_number_21 rfl rfl 0 rfl ?_
  refine g_X5_50_43 25 hX dX5_number_22 rfl ?_
  refine k_X5_74_X5_isOpen 28 hX (by omega) (σ5.1 43 5) (σ5.1 43 7) (Nat.le_of_ble_eq_true rfl) dX5_number_25 rfl hw (fun r25 σ25 hw => ?_)
  refine r_if_eq 35 31 hX dX5_number_28 (by decide) rfl hw (fun hw => ?_) (fun hw => ?_)
  · refine r_lconst 36 hX dX5_number_35 rfl 0 lc_0 ?_
    exact w_X5_number_b36 hX hR _ _ _ hw
  · refine r_lconst 32 hX dX5_number_31 rfl 1 lc_1 ?_
    refine r_goto 36 hX dX5_number_32 (by decide) ?_
    exact w_X5_number_b36 hX hR _ _ _ hw
theorem k_X5_53_X4_freeColumns {X : Cx} {cc : ByteArray} {nL d pc : Nat} {lv : List (Nat × Value)} {rest : List Value} {σ : St} {K : Int32 → St → Prop} (q : Nat) (hX : CxB X RX5 cc nL d) (hdc : 1 + 1 ≤ d) (x1 : Int32) (hst : (rest.map fun v => v.category).sum ≤ 8) (hd : decode cc pc = .ok (.invokevirtual 53, 3)) (hq : pc + 3 = q) (hw : wp_X4_freeColumns x1 K σ) (kk : ∀ (r : Int32) (τ : St), K r τ → At X nL q lv (.int r :: rest) τ) : At X nL pc lv (.int (x1) :: .ref (X.kad 4) :: rest) σ := r_callV (n := 1) q hX (k0 := 4) (c_X4_freeColumns x1) tw_131 tw_23 tw_24 tw_8 tw_25 ⟨by decide +kernel, by decide +kernel, by decide +kernel⟩ hdc (by decide) (As := [.int (x1)]) rfl rfl (by decide) ⟨_, _, _, rfl, rfl, rfl⟩ hst hd hq rfl (K := qI K) hw (kI kk)
set_option maxRecDepth 20000 in
set_option maxHeartbeats 4000000 in
theorem w_X5_prepare_b40 {X : Cx} {Q : RV → St → Prop} (hX : CxB X RX5 cX5_prepare 4 (2)) (hR : CxR X (none) Q) {K40 : Int32 → St → Prop} (hK40 : ∀ (x3 : Int32) (σ : St), K40 x3 σ → At X 4 40 [(0, .ref (X.kad 43)), (1, .ref (X.kad 4)), (3, .int (x3))] [] σ) (x3 : Int32) (σ : St) (hw : wp_X5_prepare_b40 (aV Q) K40 x3 σ) : At X 4 40 [(0, .ref (X.kad 43)), (1, .ref (X.kad 4)), (3, .int (x3))] [] σ := by
  unfold wp_X5_prepare_b40 at hw
  refine r_iload_n 41 hX dX5_prepare_40 rfl rfl 2 rfl ?_
  refine r_aload_n 42 hX dX5_prepare_41 rfl rfl 0 rfl ?_
  refine g_X5_44_43 45 hX dX5_prepare_42 rfl ?_
  refine r_icmp_gt 65 48 hX dX5_prepare_45 (by decide) rfl hw (fun hw => ?_) (fun hw => ?_)
  · exact r_vret hX hR dX5_prepare_65 hw
  · refine r_aload_n 49 hX dX5_prepare_48 rfl rfl 0 rfl ?_
    refine g_X5_9_43 52 hX dX5_prepare_49 rfl ?_
    refine r_iload_n 53 hX dX5_prepare_52 rfl rfl 2 rfl ?_
    refine r_aload_n 54 hX dX5_prepare_53 rfl rfl 1 rfl ?_
    refine r_iload_n 55 hX dX5_prepare_54 rfl rfl 2 rfl ?_
    refine k_X5_53_X4_freeColumns 58 hX (by omega) (x3) (Nat.le_of_ble_eq_true rfl) dX5_prepare_55 rfl hw (fun r55 σ55 hw => ?_)
    refine r_iast 59 hX sh_44 dX5_prepare_58 rfl hw (fun hw => ?_)
    refine r_iinc (lv' := [(3, .int (x3 + 1)), (0, .ref (X.kad 43)), (1, .ref (X.kad 4))]) 62 hX dX5_prepare_59 rfl 2 rfl (x3 + 1) (ici_1 _) (by decide) rfl ?_
    refine r_goto 40 hX dX5_prepare_62 (by decide) ?_
    refine r_sub [1, 2, 0] rfl ?_
    exact hK40 _ _ hw
set_option maxRecDepth 20000 in
set_option maxHeartbeats 4000000 in
theorem w_X5_prepare_l40 {X : Cx} {Q : RV → St → Prop} (hX : CxB X RX5 cX5_prepare 4 (2)) (hR : CxR X (none) Q) (n : Nat) : ∀ (x3 : Int32) (σ : St), wp_X5_prepare_l40 (aV Q)  n x3 σ → At X 4 40 [(0, .ref (X.kad 43)), (1, .ref (X.kad 4)), (3, .int (x3))] [] σ := by
  induction n with
  | zero => intro x3 σ h; exact h.elim
  | succ n ih => intro x3 σ h; exact w_X5_prepare_b40  hX hR ih x3 σ h
set_option maxRecDepth 20000 in
set_option maxHeartbeats 4000000 in
theorem c_X5_prepare (x2 : Int32) : Con yX5_prepare cX5_prepare 4 (none) (2) (fun ad => [.ref (ad 43), .ref (ad 4), .int (x2)]) (fun Q σ => wp_X5_prepare x2 (aV Q) σ) := by
  refine con_intro (by decide +kernel) (fun _ => Nat.le_of_ble_eq_true rfl) (by omega) (fun X Q σ hX hR hw => ?_)
  have hX : CxB X RX5 cX5_prepare 4 (2) := hX
  unfold wp_X5_prepare at hw
  show At X 4 0 [(0, .ref (X.kad 43)), (1, .ref (X.kad 4)), (2, .int (x2))] [] σ
  refine r_aload_n 1 hX dX5_prepare_0 rfl rfl 0 rfl ?_
  refine r_aload_n 2 hX dX5_prepare_1 rfl rfl 1 rfl ?_
  refine g_X5_28_4 5 hX dX5_prepare_2 rfl ?_
  refine p_X5_34_43 8 hX dX5_prepare_5 rfl ?_
  refine r_aload_n 9 hX dX5_prepare_8 rfl rfl 0 rfl ?_
  refine r_aload_n 10 hX dX5_prepare_9 rfl rfl 1 rfl ?_
  refine g_X5_35_4 13 hX dX5_prepare_10 rfl ?_
  refine r_iload_n 14 hX dX5_prepare_13 rfl rfl 2 rfl ?_
  refine r_iald 15 hX sh_6 dX5_prepare_14 rfl hw (fun hw => ?_)
  refine p_X5_38_43 18 hX dX5_prepare_15 rfl ?_
  refine r_aload_n 19 hX dX5_prepare_18 rfl rfl 0 rfl ?_
  refine r_aload_n 20 hX dX5_prepare_19 rfl rfl 1 rfl ?_
  refine g_X5_41_4 23 hX dX5_prepare_20 rfl ?_
  refine r_iconst 24 hX dX5_prepare_23 rfl 1 ic_1 ?_
  refine r_isub 25 hX dX5_prepare_24 rfl ?_
  refine p_X5_44_43 28 hX dX5_prepare_25 rfl ?_
  refine r_aload_n 29 hX dX5_prepare_28 rfl rfl 0 rfl ?_
  refine r_aload_n 30 hX dX5_prepare_29 rfl rfl 1 rfl ?_
  refine g_X5_47_4 33 hX dX5_prepare_30 rfl ?_
  refine r_iload_n 34 hX dX5_prepare_33 rfl rfl 2 rfl ?_
  refine r_iald 35 hX sh_7 dX5_prepare_34 rfl hw (fun hw => ?_)
  refine p_X5_50_43 38 hX dX5_prepare_35 rfl ?_
  refine r_iconst 39 hX dX5_prepare_38 rfl 0 ic_0 ?_
  refine r_istore_n (lv' := [(3, .int (0)), (0, .ref (X.kad 43)), (1, .ref (X.kad 4)), (2, .int (x2))]) 40 hX dX5_prepare_39 rfl rfl (by decide) rfl ?_
  refine r_sub [1, 2, 0] rfl ?_
  obtain ⟨n, hw⟩ := hw
  exact w_X5_prepare_l40 hX hR n _ _ hw
set_option maxRecDepth 20000 in
set_option maxHeartbeats 4000000 in
theorem w_X5_hear_b2 {X : Cx} {Q : RV → St → Prop} (hX : CxB X RX5 cX5_hear 3 (1)) (hR : CxR X (none) Q) {K2 : Int32 → St → Prop} (hK2 : ∀ (x2 : Int32) (σ : St), K2 x2 σ → At X 3 2 [(0, .ref (X.kad 43)), (1, .ref (X.kad 20)), (2, .int (x2))] [] σ) (x2 : Int32) (σ : St) (hw : wp_X5_hear_b2 (aV Q) K2 x2 σ) : At X 3 2 [(0, .ref (X.kad 43)), (1, .ref (X.kad 20)), (2, .int (x2))] [] σ := by
  unfold wp_X5_hear_b2 at hw
  refine r_iload_n 3 hX dX5_hear_2 rfl rfl 2 rfl ?_
  refine r_aload_n 4 hX dX5_hear_3 rfl rfl 1 rfl ?_
  refine g_X5_57_20 7 hX dX5_hear_4 rfl ?_
  refine r_icmp_ge 38 10 hX dX5_hear_7 (by decide) rfl hw (fun hw => ?_) (fun hw => ?_)
  · exact r_vret hX hR dX5_hear_38 hw
  · refine r_aload_n 11 hX dX5_hear_10 rfl rfl 0 rfl ?_
    refine g_X5_9_43 14 hX dX5_hear_11 rfl ?_
    refine r_aload_n 15 hX dX5_hear_14 rfl rfl 1 rfl ?_
    refine g_X5_62_20 18 hX dX5_hear_15 rfl ?_
    refine r_iload_n 19 hX dX5_hear_18 rfl rfl 2 rfl ?_
    refine r_iald 20 hX sh_25 dX5_hear_19 rfl hw (fun hw => ?_)
    refine r_dup2 21 hX dX5_hear_20 rfl rfl rfl ?_
    refine r_iald 22 hX sh_44 dX5_hear_21 rfl hw (fun hw => ?_)
    refine r_iconst 23 hX dX5_hear_22 rfl 1 ic_1 ?_
    refine r_aload_n 24 hX dX5_hear_23 rfl rfl 1 rfl ?_
    refine g_X5_65_20 27 hX dX5_hear_24 rfl ?_
    refine r_iload_n 28 hX dX5_hear_27 rfl rfl 2 rfl ?_
    refine r_iald 29 hX sh_26 dX5_hear_28 rfl hw (fun hw => ?_)
    refine r_ishl 30 hX dX5_hear_29 rfl ?_
    refine r_iand 31 hX dX5_hear_30 rfl ?_
    refine r_iast 32 hX sh_44 dX5_hear_31 rfl hw (fun hw => ?_)
    refine r_iinc (lv' := [(2, .int (x2 + 1)), (0, .ref (X.kad 43)), (1, .ref (X.kad 20))]) 35 hX dX5_hear_32 rfl 2 rfl (x2 + 1) (ici_1 _) (by decide) rfl ?_
    refine r_goto 2 hX dX5_hear_35 (by decide) ?_
    refine r_sub [1, 2, 0] rfl ?_
    exact hK2 _ _ hw
set_option maxRecDepth 20000 in
set_option maxHeartbeats 4000000 in
theorem w_X5_hear_l2 {X : Cx} {Q : RV → St → Prop} (hX : CxB X RX5 cX5_hear 3 (1)) (hR : CxR X (none) Q) (n : Nat) : ∀ (x2 : Int32) (σ : St), wp_X5_hear_l2 (aV Q)  n x2 σ → At X 3 2 [(0, .ref (X.kad 43)), (1, .ref (X.kad 20)), (2, .int (x2))] [] σ := by
  induction n with
  | zero => intro x2 σ h; exact h.elim
  | succ n ih => intro x2 σ h; exact w_X5_hear_b2  hX hR ih x2 σ h
set_option maxRecDepth 20000 in
set_option maxHeartbeats 4000000 in
theorem c_X5_hear : Con yX5_hear cX5_hear 3 (none) (1) (fun ad => [.ref (ad 43), .ref (ad 20)]) (fun Q σ => wp_X5_hear  (aV Q) σ) := by
  refine con_intro (by decide +kernel) (fun _ => Nat.le_of_ble_eq_true rfl) (by omega) (fun X Q σ hX hR hw => ?_)
  have hX : CxB X RX5 cX5_hear 3 (1) := hX
  unfold wp_X5_hear at hw
  show At X 3 0 [(0, .ref (X.kad 43)), (1, .ref (X.kad 20))] [] σ
  refine r_iconst 1 hX dX5_hear_0 rfl 0 ic_0 ?_
  refine r_istore_n (lv' := [(2, .int (0)), (0, .ref (X.kad 43)), (1, .ref (X.kad 20))]) 2 hX dX5_hear_1 rfl rfl (by decide) rfl ?_
  refine r_sub [1, 2, 0] rfl ?_
  obtain ⟨n, hw⟩ := hw
  exact w_X5_hear_l2 hX hR n _ _ hw
