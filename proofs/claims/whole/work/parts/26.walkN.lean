set_option maxRecDepth 20000 in
set_option maxHeartbeats 4000000 in
theorem c_X7_spots : Con yX7_spots cX7_spots 1 (some .int) (1) (fun ad => [.ref (ad 75)]) (fun Q σ => wp_X7_spots  (aI Q) σ) := by
  refine con_intro (by decide +kernel) (fun _ => Nat.le_of_ble_eq_true rfl) (by omega) (fun X Q σ hX hR hw => ?_)
  have hX : CxB X RX7 cX7_spots 1 (1) := hX
  unfold wp_X7_spots at hw
  show At X 1 0 [(0, .ref (X.kad 75))] [] σ
  refine r_aload_n 1 hX dX7_spots_0 rfl rfl 0 rfl ?_
  refine g_X7_177_75 4 hX dX7_spots_1 rfl ?_
  refine r_if_ne 11 7 hX dX7_spots_4 (by decide) rfl hw (fun hw => ?_) (fun hw => ?_)
  · refine r_aload_n 12 hX dX7_spots_11 rfl rfl 0 rfl ?_
    refine g_X7_177_75 15 hX dX7_spots_12 rfl ?_
    refine r_iconst 16 hX dX7_spots_15 rfl 1 ic_1 ?_
    refine r_icmp_ne 24 19 hX dX7_spots_16 (by decide) rfl hw (fun hw => ?_) (fun hw => ?_)
    · refine r_aload_n 25 hX dX7_spots_24 rfl rfl 0 rfl ?_
      refine g_X7_177_75 28 hX dX7_spots_25 rfl ?_
      refine r_iconst 29 hX dX7_spots_28 rfl 2 ic_2 ?_
      refine r_icmp_ne 37 32 hX dX7_spots_29 (by decide) rfl hw (fun hw => ?_) (fun hw => ?_)
      · refine r_sipush 40 hX dX7_spots_37 rfl 1000 si_1000 ?_
        exact r_iret hX hR dX7_spots_40 hw
      · refine r_bipush 34 hX dX7_spots_32 rfl 100 bi_100 ?_
        refine r_goto 40 hX dX7_spots_34 (by decide) ?_
        exact r_iret hX hR dX7_spots_40 hw
    · refine r_bipush 21 hX dX7_spots_19 rfl 10 bi_10 ?_
      refine r_goto 40 hX dX7_spots_21 (by decide) ?_
      exact r_iret hX hR dX7_spots_40 hw
  · refine r_iconst 8 hX dX7_spots_7 rfl 1 ic_1 ?_
    refine r_goto 40 hX dX7_spots_8 (by decide) ?_
    exact r_iret hX hR dX7_spots_40 hw
set_option maxRecDepth 20000 in
set_option maxHeartbeats 4000000 in
theorem c_X7_firstOf (x1 : Int32) (x2 : Int32) (x3 : Int32) : Con yX7_firstOf cX7_firstOf 4 (some .int) (2) (fun ad => [.ref (ad 75), .int (x1), .int (x2), .int (x3)]) (fun Q σ => wp_X7_firstOf x1 x2 x3 (aI Q) σ) := by
  refine con_intro (by decide +kernel) (fun _ => Nat.le_of_ble_eq_true rfl) (by omega) (fun X Q σ hX hR hw => ?_)
  have hX : CxB X RX7 cX7_firstOf 4 (2) := hX
  unfold wp_X7_firstOf at hw
  show At X 4 0 [(0, .ref (X.kad 75)), (1, .int (x1)), (2, .int (x2)), (3, .int (x3))] [] σ
  refine r_iload_n 1 hX dX7_firstOf_0 rfl rfl 1 rfl ?_
  refine r_aload_n 2 hX dX7_firstOf_1 rfl rfl 0 rfl ?_
  refine g_X7_177_75 5 hX dX7_firstOf_2 rfl ?_
  refine r_icmp_ge 20 8 hX dX7_firstOf_5 (by decide) rfl hw (fun hw => ?_) (fun hw => ?_)
  · refine r_iconst 21 hX dX7_firstOf_20 rfl 0 ic_0 ?_
    refine r_goto 66 hX dX7_firstOf_21 (by decide) ?_
    exact r_iret hX hR dX7_firstOf_66 hw
  · refine r_iload_n 9 hX dX7_firstOf_8 rfl rfl 2 rfl ?_
    refine r_iconst 10 hX dX7_firstOf_9 rfl 1 ic_1 ?_
    refine r_iadd 11 hX dX7_firstOf_10 rfl ?_
    refine r_aload_n 12 hX dX7_firstOf_11 rfl rfl 0 rfl ?_
    refine g_X7_54_75 15 hX dX7_firstOf_12 rfl ?_
    refine r_iload_n 16 hX dX7_firstOf_15 rfl rfl 1 rfl ?_
    refine r_iald 17 hX sh_90 dX7_firstOf_16 rfl hw (fun hw => ?_)
    refine r_icmp_ge 24 20 hX dX7_firstOf_17 (by decide) rfl hw (fun hw => ?_) (fun hw => ?_)
    · refine r_iload_n 25 hX dX7_firstOf_24 rfl rfl 2 rfl ?_
      refine r_iconst 26 hX dX7_firstOf_25 rfl 1 ic_1 ?_
      refine r_iadd 27 hX dX7_firstOf_26 rfl ?_
      refine r_aload_n 28 hX dX7_firstOf_27 rfl rfl 0 rfl ?_
      refine g_X7_54_75 31 hX dX7_firstOf_28 rfl ?_
      refine r_iload_n 32 hX dX7_firstOf_31 rfl rfl 1 rfl ?_
      refine r_iald 33 hX sh_90 dX7_firstOf_32 rfl hw (fun hw => ?_)
      refine r_icmp_ne 45 36 hX dX7_firstOf_33 (by decide) rfl hw (fun hw => ?_) (fun hw => ?_)
      · refine r_aload_n 46 hX dX7_firstOf_45 rfl rfl 0 rfl ?_
        refine r_iload_n 47 hX dX7_firstOf_46 rfl rfl 3 rfl ?_
        refine r_iload_n 48 hX dX7_firstOf_47 rfl rfl 1 rfl ?_
        refine k_X7_190_X7_placeIn 51 hX (by omega) (x3) (x1) (Nat.le_of_ble_eq_true rfl) dX7_firstOf_48 rfl hw (fun r48 σ48 hw => ?_)
        refine r_if_le 65 54 hX dX7_firstOf_51 (by decide) rfl hw (fun hw => ?_) (fun hw => ?_)
        · refine r_iconst 66 hX dX7_firstOf_65 rfl 0 ic_0 ?_
          exact r_iret hX hR dX7_firstOf_66 hw
        · refine r_aload_n 55 hX dX7_firstOf_54 rfl rfl 0 rfl ?_
          refine r_iload_n 56 hX dX7_firstOf_55 rfl rfl 3 rfl ?_
          refine r_iload_n 57 hX dX7_firstOf_56 rfl rfl 1 rfl ?_
          refine k_X7_190_X7_placeIn 60 hX (by omega) (x3) (x1) (Nat.le_of_ble_eq_true rfl) dX7_firstOf_57 rfl hw (fun r57 σ57 hw => ?_)
          refine r_iconst 61 hX dX7_firstOf_60 rfl 1 ic_1 ?_
          refine r_isub 62 hX dX7_firstOf_61 rfl ?_
          refine r_goto 66 hX dX7_firstOf_62 (by decide) ?_
          exact r_iret hX hR dX7_firstOf_66 hw
      · refine r_aload_n 37 hX dX7_firstOf_36 rfl rfl 0 rfl ?_
        refine g_X7_57_75 40 hX dX7_firstOf_37 rfl ?_
        refine r_iload_n 41 hX dX7_firstOf_40 rfl rfl 1 rfl ?_
        refine r_iald 42 hX sh_91 dX7_firstOf_41 rfl hw (fun hw => ?_)
        refine r_goto 66 hX dX7_firstOf_42 (by decide) ?_
        exact r_iret hX hR dX7_firstOf_66 hw
    · refine r_iconst 21 hX dX7_firstOf_20 rfl 0 ic_0 ?_
      refine r_goto 66 hX dX7_firstOf_21 (by decide) ?_
      exact r_iret hX hR dX7_firstOf_66 hw
set_option maxRecDepth 20000 in
set_option maxHeartbeats 4000000 in
theorem c_X7_lastOf (x1 : Int32) (x2 : Int32) (x3 : Int32) : Con yX7_lastOf cX7_lastOf 4 (some .int) (2) (fun ad => [.ref (ad 75), .int (x1), .int (x2), .int (x3)]) (fun Q σ => wp_X7_lastOf x1 x2 x3 (aI Q) σ) := by
  refine con_intro (by decide +kernel) (fun _ => Nat.le_of_ble_eq_true rfl) (by omega) (fun X Q σ hX hR hw => ?_)
  have hX : CxB X RX7 cX7_lastOf 4 (2) := hX
  unfold wp_X7_lastOf at hw
  show At X 4 0 [(0, .ref (X.kad 75)), (1, .int (x1)), (2, .int (x2)), (3, .int (x3))] [] σ
  refine r_iload_n 1 hX dX7_lastOf_0 rfl rfl 1 rfl ?_
  refine r_aload_n 2 hX dX7_lastOf_1 rfl rfl 0 rfl ?_
  refine g_X7_177_75 5 hX dX7_lastOf_2 rfl ?_
  refine r_icmp_ge 20 8 hX dX7_lastOf_5 (by decide) rfl hw (fun hw => ?_) (fun hw => ?_)
  · refine r_iconst 21 hX dX7_lastOf_20 rfl 0 ic_0 ?_
    refine r_goto 69 hX dX7_lastOf_21 (by decide) ?_
    exact r_iret hX hR dX7_lastOf_69 hw
  · refine r_iload_n 9 hX dX7_lastOf_8 rfl rfl 2 rfl ?_
    refine r_iconst 10 hX dX7_lastOf_9 rfl 1 ic_1 ?_
    refine r_iadd 11 hX dX7_lastOf_10 rfl ?_
    refine r_aload_n 12 hX dX7_lastOf_11 rfl rfl 0 rfl ?_
    refine g_X7_54_75 15 hX dX7_lastOf_12 rfl ?_
    refine r_iload_n 16 hX dX7_lastOf_15 rfl rfl 1 rfl ?_
    refine r_iald 17 hX sh_90 dX7_lastOf_16 rfl hw (fun hw => ?_)
    refine r_icmp_ge 24 20 hX dX7_lastOf_17 (by decide) rfl hw (fun hw => ?_) (fun hw => ?_)
    · refine r_iload_n 25 hX dX7_lastOf_24 rfl rfl 2 rfl ?_
      refine r_iconst 26 hX dX7_lastOf_25 rfl 1 ic_1 ?_
      refine r_iadd 27 hX dX7_lastOf_26 rfl ?_
      refine r_aload_n 28 hX dX7_lastOf_27 rfl rfl 0 rfl ?_
      refine g_X7_54_75 31 hX dX7_lastOf_28 rfl ?_
      refine r_iload_n 32 hX dX7_lastOf_31 rfl rfl 1 rfl ?_
      refine r_iald 33 hX sh_90 dX7_lastOf_32 rfl hw (fun hw => ?_)
      refine r_icmp_ne 45 36 hX dX7_lastOf_33 (by decide) rfl hw (fun hw => ?_) (fun hw => ?_)
      · refine r_aload_n 46 hX dX7_lastOf_45 rfl rfl 0 rfl ?_
        refine r_iload_n 47 hX dX7_lastOf_46 rfl rfl 3 rfl ?_
        refine r_iload_n 48 hX dX7_lastOf_47 rfl rfl 1 rfl ?_
        refine k_X7_190_X7_placeIn 51 hX (by omega) (x3) (x1) (Nat.le_of_ble_eq_true rfl) dX7_lastOf_48 rfl hw (fun r48 σ48 hw => ?_)
        refine r_bipush 53 hX dX7_lastOf_51 rfl 9 bi_9 ?_
        refine r_icmp_ge 67 56 hX dX7_lastOf_53 (by decide) rfl hw (fun hw => ?_) (fun hw => ?_)
        · refine r_bipush 69 hX dX7_lastOf_67 rfl 9 bi_9 ?_
          exact r_iret hX hR dX7_lastOf_69 hw
        · refine r_aload_n 57 hX dX7_lastOf_56 rfl rfl 0 rfl ?_
          refine r_iload_n 58 hX dX7_lastOf_57 rfl rfl 3 rfl ?_
          refine r_iload_n 59 hX dX7_lastOf_58 rfl rfl 1 rfl ?_
          refine k_X7_190_X7_placeIn 62 hX (by omega) (x3) (x1) (Nat.le_of_ble_eq_true rfl) dX7_lastOf_59 rfl hw (fun r59 σ59 hw => ?_)
          refine r_iconst 63 hX dX7_lastOf_62 rfl 1 ic_1 ?_
          refine r_iadd 64 hX dX7_lastOf_63 rfl ?_
          refine r_goto 69 hX dX7_lastOf_64 (by decide) ?_
          exact r_iret hX hR dX7_lastOf_69 hw
      · refine r_aload_n 37 hX dX7_lastOf_36 rfl rfl 0 rfl ?_
        refine g_X7_57_75 40 hX dX7_lastOf_37 rfl ?_
        refine r_iload_n 41 hX dX7_lastOf_40 rfl rfl 1 rfl ?_
        refine r_iald 42 hX sh_91 dX7_lastOf_41 rfl hw (fun hw => ?_)
        refine r_goto 69 hX dX7_lastOf_42 (by decide) ?_
        exact r_iret hX hR dX7_lastOf_69 hw
    · refine r_iconst 21 hX dX7_lastOf_20 rfl 0 ic_0 ?_
      refine r_goto 69 hX dX7_lastOf_21 (by decide) ?_
      exact r_iret hX hR dX7_lastOf_69 hw
theorem k_X7_199_X7_firstOf {X : Cx} {cc : ByteArray} {nL d pc : Nat} {lv : List (Nat × Value)} {rest : List Value} {σ : St} {K : Int32 → St → Prop} (q : Nat) (hX : CxB X RX7 cc nL d) (hdc : 2 + 1 ≤ d) (x1 : Int32) (x2 : Int32) (x3 : Int32) (hst : (rest.map fun v => v.category).sum ≤ 8) (hd : decode cc pc = .ok (.invokevirtual 199, 3)) (hq : pc + 3 = q) (hw : wp_X7_firstOf x1 x2 x3 K σ) (kk : ∀ (r : Int32) (τ : St), K r τ → At X nL q lv (.int r :: rest) τ) : At X nL pc lv (.int (x3) :: .int (x2) :: .int (x1) :: .ref (X.kad 75) :: rest) σ := r_callV (n := 3) q hX (k0 := 75) (c_X7_firstOf x1 x2 x3) tw_636 tw_637 tw_638 tw_517 tw_639 ⟨by decide +kernel, by decide +kernel, by decide +kernel⟩ hdc (by decide) (As := [.int (x1), .int (x2), .int (x3)]) rfl rfl (by decide) ⟨_, _, _, rfl, rfl, rfl⟩ hst hd hq rfl (K := qI K) hw (kI kk)
theorem k_X7_202_X7_lastOf {X : Cx} {cc : ByteArray} {nL d pc : Nat} {lv : List (Nat × Value)} {rest : List Value} {σ : St} {K : Int32 → St → Prop} (q : Nat) (hX : CxB X RX7 cc nL d) (hdc : 2 + 1 ≤ d) (x1 : Int32) (x2 : Int32) (x3 : Int32) (hst : (rest.map fun v => v.category).sum ≤ 8) (hd : decode cc pc = .ok (.invokevirtual 202, 3)) (hq : pc + 3 = q) (hw : wp_X7_lastOf x1 x2 x3 K σ) (kk : ∀ (r : Int32) (τ : St), K r τ → At X nL q lv (.int r :: rest) τ) : At X nL pc lv (.int (x3) :: .int (x2) :: .int (x1) :: .ref (X.kad 75) :: rest) σ := r_callV (n := 3) q hX (k0 := 75) (c_X7_lastOf x1 x2 x3) tw_640 tw_641 tw_642 tw_517 tw_643 ⟨by decide +kernel, by decide +kernel, by decide +kernel⟩ hdc (by decide) (As := [.int (x1), .int (x2), .int (x3)]) rfl rfl (by decide) ⟨_, _, _, rfl, rfl, rfl⟩ hst hd hq rfl (K := qI K) hw (kI kk)
theorem k_X7_205_X7_leansTo {X : Cx} {cc : ByteArray} {nL d pc : Nat} {lv : List (Nat × Value)} {rest : List Value} {σ : St} {K : Int32 → St → Prop} (q : Nat) (hX : CxB X RX7 cc nL d) (hdc : 2 + 1 ≤ d) (x1 : Int32) (x2 : Int32) (x3 : Int32) (hst : (rest.map fun v => v.category).sum ≤ 8) (hd : decode cc pc = .ok (.invokevirtual 205, 3)) (hq : pc + 3 = q) (hw : wp_X7_leansTo x1 x2 x3 K σ) (kk : ∀ (r : Int32) (τ : St), K r τ → At X nL q lv (.int r :: rest) τ) : At X nL pc lv (.int (x3) :: .int (x2) :: .int (x1) :: .ref (X.kad 75) :: rest) σ := r_callV (n := 3) q hX (k0 := 75) (c_X7_leansTo x1 x2 x3) tw_645 tw_646 tw_647 tw_517 tw_648 ⟨by decide +kernel, by decide +kernel, by decide +kernel⟩ hdc (by decide) (As := [.int (x1), .int (x2), .int (x3)]) rfl rfl (by decide) ⟨_, _, _, rfl, rfl, rfl⟩ hst hd hq rfl (K := qI K) hw (kI kk)
set_option maxRecDepth 20000 in
set_option maxHeartbeats 4000000 in
theorem w_X7_leastNext_b146 {X : Cx} {Q : RV → St → Prop} (hX : CxB X RX7 cX7_leastNext 10 (3)) (hR : CxR X (some .int) Q) {K18 : Int32 → Int32 → Int32 → Int32 → St → Prop} (hK18 : ∀ (x1 : Int32) (x2 : Int32) (x3 : Int32) (x4 : Int32) (σ : St), K18 x1 x2 x3 x4 σ → At X 10 18 [(0, .ref (X.kad 75)), (1, .int (x1)), (2, .int (x2)), (3, .int (x3)), (4, .int (x4))] [] σ) {K39 : Int32 → Int32 → Int32 → Int32 → Int32 → St → Prop} (hK39 : ∀ (x1 : Int32) (x2 : Int32) (x3 : Int32) (x4 : Int32) (x5 : Int32) (σ : St), K39 x1 x2 x3 x4 x5 σ → At X 10 39 [(0, .ref (X.kad 75)), (1, .int (x1)), (2, .int (x2)), (3, .int (x3)), (4, .int (x4)), (5, .int (x5))] [] σ) {K60 : Int32 → Int32 → Int32 → Int32 → Int32 → Int32 → St → Prop} (hK60 : ∀ (x1 : Int32) (x2 : Int32) (x3 : Int32) (x4 : Int32) (x5 : Int32) (x6 : Int32) (σ : St), K60 x1 x2 x3 x4 x5 x6 σ → At X 10 60 [(0, .ref (X.kad 75)), (1, .int (x1)), (2, .int (x2)), (3, .int (x3)), (4, .int (x4)), (5, .int (x5)), (6, .int (x6))] [] σ) (x1 : Int32) (x2 : Int32) (x3 : Int32) (x4 : Int32) (x5 : Int32) (x6 : Int32) (x9 : Int32) (s0 : Int32) (σ : St) (hw : wp_X7_leastNext_b146 (aI Q) K18 K39 K60 x1 x2 x3 x4 x5 x6 x9 s0 σ) : At X 10 146 [(0, .ref (X.kad 75)), (1, .int (x1)), (2, .int (x2)), (3, .int (x3)), (4, .int (x4)), (5, .int (x5)), (6, .int (x6)), (9, .int (x9))] [.int (s0), .ref (X.kad 75)] σ := by
  unfold wp_X7_leastNext_b146 at hw
  refine p_X7_196_75 149 hX dX7_leastNext_146 rfl ?_
  refine r_iload 151 hX dX7_leastNext_149 rfl 7 rfl ?_
  refine r_iload_n 152 hX dX7_leastNext_151 rfl rfl 3 rfl ?_
  refine r_icmp_ge 160 155 hX dX7_leastNext_152 (by decide) rfl hw (fun hw => ?_) (fun hw => ?_)
  · refine r_iload_n 161 hX dX7_leastNext_160 rfl rfl 3 rfl ?_
    refine r_istore_n (lv' := [(3, .int (x3)), (0, .ref (X.kad 75)), (1, .int (x1)), (2, .int (x2)), (4, .int (x4)), (5, .int (x5)), (6, .int (x6)), (9, .int (x9))]) 162 hX dX7_leastNext_161 rfl rfl (by decide) rfl ?_
    refine r_iinc (lv' := [(6, .int (x6 + 1)), (3, .int (x3)), (0, .ref (X.kad 75)), (1, .int (x1)), (2, .int (x2)), (4, .int (x4)), (5, .int (x5)), (9, .int (x9))]) 165 hX dX7_leastNext_162 rfl 6 rfl (x6 + 1) (ici_1 _) (by decide) rfl ?_
    refine r_goto 60 hX dX7_leastNext_165 (by decide) ?_
    refine r_sub [2, 3, 4, 1, 5, 6, 0] rfl ?_
    exact hK60 _ _ _ _ _ _ _ hw
  · refine r_iload 157 hX dX7_leastNext_155 rfl 7 rfl ?_
    refine r_goto 161 hX dX7_leastNext_157 (by decide) ?_
    refine r_istore_n (lv' := [(3, .int (x9)), (0, .ref (X.kad 75)), (1, .int (x1)), (2, .int (x2)), (4, .int (x4)), (5, .int (x5)), (6, .int (x6)), (9, .int (x9))]) 162 hX dX7_leastNext_161 rfl rfl (by decide) rfl ?_
    refine r_iinc (lv' := [(6, .int (x6 + 1)), (3, .int (x9)), (0, .ref (X.kad 75)), (1, .int (x1)), (2, .int (x2)), (4, .int (x4)), (5, .int (x5)), (9, .int (x9))]) 165 hX dX7_leastNext_162 rfl 6 rfl (x6 + 1) (ici_1 _) (by decide) rfl ?_
    refine r_goto 60 hX dX7_leastNext_165 (by decide) ?_
    refine r_sub [2, 3, 4, 1, 5, 6, 0] rfl ?_
    exact hK60 _ _ _ _ _ _ _ hw
set_option maxRecDepth 20000 in
set_option maxHeartbeats 4000000 in
theorem w_X7_leastNext_b128 {X : Cx} {Q : RV → St → Prop} (hX : CxB X RX7 cX7_leastNext 10 (3)) (hR : CxR X (some .int) Q) {K18 : Int32 → Int32 → Int32 → Int32 → St → Prop} (hK18 : ∀ (x1 : Int32) (x2 : Int32) (x3 : Int32) (x4 : Int32) (σ : St), K18 x1 x2 x3 x4 σ → At X 10 18 [(0, .ref (X.kad 75)), (1, .int (x1)), (2, .int (x2)), (3, .int (x3)), (4, .int (x4))] [] σ) {K39 : Int32 → Int32 → Int32 → Int32 → Int32 → St → Prop} (hK39 : ∀ (x1 : Int32) (x2 : Int32) (x3 : Int32) (x4 : Int32) (x5 : Int32) (σ : St), K39 x1 x2 x3 x4 x5 σ → At X 10 39 [(0, .ref (X.kad 75)), (1, .int (x1)), (2, .int (x2)), (3, .int (x3)), (4, .int (x4)), (5, .int (x5))] [] σ) {K60 : Int32 → Int32 → Int32 → Int32 → Int32 → Int32 → St → Prop} (hK60 : ∀ (x1 : Int32) (x2 : Int32) (x3 : Int32) (x4 : Int32) (x5 : Int32) (x6 : Int32) (σ : St), K60 x1 x2 x3 x4 x5 x6 σ → At X 10 60 [(0, .ref (X.kad 75)), (1, .int (x1)), (2, .int (x2)), (3, .int (x3)), (4, .int (x4)), (5, .int (x5)), (6, .int (x6))] [] σ) (x1 : Int32) (x2 : Int32) (x3 : Int32) (x4 : Int32) (x5 : Int32) (x6 : Int32) (x7 : Int32) (s0 : Int32) (σ : St) (hw : wp_X7_leastNext_b128 (aI Q) K18 K39 K60 x1 x2 x3 x4 x5 x6 x7 s0 σ) : At X 10 128 [(0, .ref (X.kad 75)), (1, .int (x1)), (2, .int (x2)), (3, .int (x3)), (4, .int (x4)), (5, .int (x5)), (6, .int (x6)), (7, .int (x7))] [.int (s0)] σ := by
  unfold wp_X7_leastNext_b128 at hw
  refine r_istore (lv' := [(9, .int (s0)), (0, .ref (X.kad 75)), (1, .int (x1)), (2, .int (x2)), (3, .int (x3)), (4, .int (x4)), (5, .int (x5)), (6, .int (x6)), (7, .int (x7))]) 130 hX dX7_leastNext_128 rfl (by decide) rfl ?_
  refine r_aload_n 131 hX dX7_leastNext_130 rfl rfl 1 rfl ?_
  refine r_iload 133 hX dX7_leastNext_131 rfl 0 rfl ?_
  refine r_iload_n 134 hX dX7_leastNext_133 rfl rfl 4 rfl ?_
  refine r_icmp_ge 142 137 hX dX7_leastNext_134 (by decide) rfl hw (fun hw => ?_) (fun hw => ?_)
  · refine r_aload_n 143 hX dX7_leastNext_142 rfl rfl 1 rfl ?_
    refine g_X7_196_75 146 hX dX7_leastNext_143 rfl ?_
    refine r_sub [1, 2, 3, 4, 5, 6, 7, 0] rfl ?_
    exact w_X7_leastNext_b146 hX hR hK18 hK39 hK60 _ _ _ _ _ _ _ _ _ hw
  · refine r_iload 139 hX dX7_leastNext_137 rfl 8 rfl ?_
    refine r_goto 146 hX dX7_leastNext_139 (by decide) ?_
    refine r_sub [1, 2, 3, 4, 5, 6, 7, 0] rfl ?_
    exact w_X7_leastNext_b146 hX hR hK18 hK39 hK60 _ _ _ _ _ _ _ _ _ hw
set_option maxRecDepth 20000 in
set_option maxHeartbeats 4000000 in
theorem w_X7_leastNext_b60 {X : Cx} {Q : RV → St → Prop} (hX : CxB X RX7 cX7_leastNext 10 (3)) (hR : CxR X (some .int) Q) {K18 : Int32 → Int32 → Int32 → Int32 → St → Prop} (hK18 : ∀ (x1 : Int32) (x2 : Int32) (x3 : Int32) (x4 : Int32) (σ : St), K18 x1 x2 x3 x4 σ → At X 10 18 [(0, .ref (X.kad 75)), (1, .int (x1)), (2, .int (x2)), (3, .int (x3)), (4, .int (x4))] [] σ) {K39 : Int32 → Int32 → Int32 → Int32 → Int32 → St → Prop} (hK39 : ∀ (x1 : Int32) (x2 : Int32) (x3 : Int32) (x4 : Int32) (x5 : Int32) (σ : St), K39 x1 x2 x3 x4 x5 σ → At X 10 39 [(0, .ref (X.kad 75)), (1, .int (x1)), (2, .int (x2)), (3, .int (x3)), (4, .int (x4)), (5, .int (x5))] [] σ) {K60 : Int32 → Int32 → Int32 → Int32 → Int32 → Int32 → St → Prop} (hK60 : ∀ (x1 : Int32) (x2 : Int32) (x3 : Int32) (x4 : Int32) (x5 : Int32) (x6 : Int32) (σ : St), K60 x1 x2 x3 x4 x5 x6 σ → At X 10 60 [(0, .ref (X.kad 75)), (1, .int (x1)), (2, .int (x2)), (3, .int (x3)), (4, .int (x4)), (5, .int (x5)), (6, .int (x6))] [] σ) (x1 : Int32) (x2 : Int32) (x3 : Int32) (x4 : Int32) (x5 : Int32) (x6 : Int32) (σ : St) (hw : wp_X7_leastNext_b60 (aI Q) K18 K39 K60 x1 x2 x3 x4 x5 x6 σ) : At X 10 60 [(0, .ref (X.kad 75)), (1, .int (x1)), (2, .int (x2)), (3, .int (x3)), (4, .int (x4)), (5, .int (x5)), (6, .int (x6))] [] σ := by
  unfold wp_X7_leastNext_b60 at hw
  refine r_iload 62 hX dX7_leastNext_60 rfl 6 rfl ?_
  refine r_aload_n 63 hX dX7_leastNext_62 rfl rfl 0 rfl ?_
  refine r_iconst 64 hX dX7_leastNext_63 rfl 2 ic_2 ?_
  refine r_iload_n 65 hX dX7_leastNext_64 rfl rfl 1 rfl ?_
  refine r_iload_n 66 hX dX7_leastNext_65 rfl rfl 2 rfl ?_
  refine k_X7_202_X7_lastOf 69 hX (by omega) (2) (x1) (x2) (Nat.le_of_ble_eq_true rfl) dX7_leastNext_66 rfl hw (fun r66 σ66 hw => ?_)
  refine r_icmp_gt 168 72 hX dX7_leastNext_69 (by decide) rfl hw (fun hw => ?_) (fun hw => ?_)
  · refine r_iinc (lv' := [(5, .int (x5 + 1)), (0, .ref (X.kad 75)), (1, .int (x1)), (2, .int (x2)), (3, .int (x3)), (4, .int (x4)), (6, .int (x6))]) 171 hX dX7_leastNext_168 rfl 5 rfl (x5 + 1) (ici_1 _) (by decide) rfl ?_
    refine r_goto 39 hX dX7_leastNext_171 (by decide) ?_
    refine r_sub [1, 2, 3, 4, 5, 0] rfl ?_
    exact hK39 _ _ _ _ _ _ hw
  · refine r_iload 74 hX dX7_leastNext_72 rfl 4 rfl ?_
    refine r_bipush 76 hX dX7_leastNext_74 rfl 10 bi_10 ?_
    refine r_iload 78 hX dX7_leastNext_76 rfl 5 rfl ?_
    refine r_imul 79 hX dX7_leastNext_78 rfl ?_
    refine r_iadd 80 hX dX7_leastNext_79 rfl ?_
    refine r_bipush 82 hX dX7_leastNext_80 rfl 100 bi_100 ?_
    refine r_iload 84 hX dX7_leastNext_82 rfl 6 rfl ?_
    refine r_imul 85 hX dX7_leastNext_84 rfl ?_
    refine r_iadd 86 hX dX7_leastNext_85 rfl ?_
    refine r_istore (lv' := [(7, .int ((x4 + (10 * x5)) + (100 * x6))), (0, .ref (X.kad 75)), (1, .int (x1)), (2, .int (x2)), (3, .int (x3)), (4, .int (x4)), (5, .int (x5)), (6, .int (x6))]) 88 hX dX7_leastNext_86 rfl (by decide) rfl ?_
    refine r_aload_n 89 hX dX7_leastNext_88 rfl rfl 1 rfl ?_
    refine g_X7_63_75 92 hX dX7_leastNext_89 rfl ?_
    refine r_sipush 95 hX dX7_leastNext_92 rfl 1000 si_1000 ?_
    refine r_iload_n 96 hX dX7_leastNext_95 rfl rfl 2 rfl ?_
    refine r_iconst 97 hX dX7_leastNext_96 rfl 1 ic_1 ?_
    refine r_iadd 98 hX dX7_leastNext_97 rfl ?_
    refine r_imul 99 hX dX7_leastNext_98 rfl ?_
    refine r_iload 101 hX dX7_leastNext_99 rfl 0 rfl ?_
    refine r_iadd 102 hX dX7_leastNext_101 rfl ?_
    refine r_iald 103 hX sh_93 dX7_leastNext_102 rfl hw (fun hw => ?_)
    refine r_topi hw (fun v103 hw => ?_)
    refine r_istore (lv' := [(8, .int (v103)), (7, .int ((x4 + (10 * x5)) + (100 * x6))), (0, .ref (X.kad 75)), (1, .int (x1)), (2, .int (x2)), (3, .int (x3)), (4, .int (x4)), (5, .int (x5)), (6, .int (x6))]) 105 hX dX7_leastNext_103 rfl (by decide) rfl ?_
    refine r_iload 107 hX dX7_leastNext_105 rfl 0 rfl ?_
    refine r_ldc 109 hX 100000 tw_603 dX7_leastNext_107 rfl ?_
    refine r_icmp_lt 117 112 hX dX7_leastNext_109 (by decide) rfl hw (fun hw => ?_) (fun hw => ?_)
    · refine r_iload 119 hX dX7_leastNext_117 rfl 0 rfl ?_
      refine r_aload_n 120 hX dX7_leastNext_119 rfl rfl 2 rfl ?_
      refine r_iload_n 121 hX dX7_leastNext_120 rfl rfl 3 rfl ?_
      refine r_iload_n 122 hX dX7_leastNext_121 rfl rfl 4 rfl ?_
      refine r_iload 124 hX dX7_leastNext_122 rfl 1 rfl ?_
      refine k_X7_205_X7_leansTo 127 hX (by omega) (x1) (x2) ((x4 + (10 * x5)) + (100 * x6)) (Nat.le_of_ble_eq_true rfl) dX7_leastNext_124 rfl hw (fun r124 σ124 hw => ?_)
      refine r_iadd 128 hX dX7_leastNext_127 rfl ?_
      refine r_sub [2, 3, 4, 5, 6, 7, 8, 1] rfl ?_
      exact w_X7_leastNext_b128 hX hR hK18 hK39 hK60 _ _ _ _ _ _ _ _ _ hw
    · refine r_ldc 114 hX 100000 tw_603 dX7_leastNext_112 rfl ?_
      refine r_goto 128 hX dX7_leastNext_114 (by decide) ?_
      refine r_sub [2, 3, 4, 5, 6, 7, 8, 1] rfl ?_
      exact w_X7_leastNext_b128 hX hR hK18 hK39 hK60 _ _ _ _ _ _ _ _ _ hw
set_option maxRecDepth 20000 in
set_option maxHeartbeats 4000000 in
theorem w_X7_leastNext_l60 {X : Cx} {Q : RV → St → Prop} (hX : CxB X RX7 cX7_leastNext 10 (3)) (hR : CxR X (some .int) Q) {K18 : Int32 → Int32 → Int32 → Int32 → St → Prop} (hK18 : ∀ (x1 : Int32) (x2 : Int32) (x3 : Int32) (x4 : Int32) (σ : St), K18 x1 x2 x3 x4 σ → At X 10 18 [(0, .ref (X.kad 75)), (1, .int (x1)), (2, .int (x2)), (3, .int (x3)), (4, .int (x4))] [] σ) {K39 : Int32 → Int32 → Int32 → Int32 → Int32 → St → Prop} (hK39 : ∀ (x1 : Int32) (x2 : Int32) (x3 : Int32) (x4 : Int32) (x5 : Int32) (σ : St), K39 x1 x2 x3 x4 x5 σ → At X 10 39 [(0, .ref (X.kad 75)), (1, .int (x1)), (2, .int (x2)), (3, .int (x3)), (4, .int (x4)), (5, .int (x5))] [] σ) (n : Nat) : ∀ (x1 : Int32) (x2 : Int32) (x3 : Int32) (x4 : Int32) (x5 : Int32) (x6 : Int32) (σ : St), wp_X7_leastNext_l60 (aI Q) K18 K39 n x1 x2 x3 x4 x5 x6 σ → At X 10 60 [(0, .ref (X.kad 75)), (1, .int (x1)), (2, .int (x2)), (3, .int (x3)), (4, .int (x4)), (5, .int (x5)), (6, .int (x6))] [] σ := by
  induction n with
  | zero => intro x1 x2 x3 x4 x5 x6 σ h; exact h.elim
  | succ n ih => intro x1 x2 x3 x4 x5 x6 σ h; exact w_X7_leastNext_b60  hX hR hK18 hK39 ih x1 x2 x3 x4 x5 x6 σ h
set_option maxRecDepth 20000 in
set_option maxHeartbeats 4000000 in
theorem w_X7_leastNext_b39 {X : Cx} {Q : RV → St → Prop} (hX : CxB X RX7 cX7_leastNext 10 (3)) (hR : CxR X (some .int) Q) {K18 : Int32 → Int32 → Int32 → Int32 → St → Prop} (hK18 : ∀ (x1 : Int32) (x2 : Int32) (x3 : Int32) (x4 : Int32) (σ : St), K18 x1 x2 x3 x4 σ → At X 10 18 [(0, .ref (X.kad 75)), (1, .int (x1)), (2, .int (x2)), (3, .int (x3)), (4, .int (x4))] [] σ) {K39 : Int32 → Int32 → Int32 → Int32 → Int32 → St → Prop} (hK39 : ∀ (x1 : Int32) (x2 : Int32) (x3 : Int32) (x4 : Int32) (x5 : Int32) (σ : St), K39 x1 x2 x3 x4 x5 σ → At X 10 39 [(0, .ref (X.kad 75)), (1, .int (x1)), (2, .int (x2)), (3, .int (x3)), (4, .int (x4)), (5, .int (x5))] [] σ) (x1 : Int32) (x2 : Int32) (x3 : Int32) (x4 : Int32) (x5 : Int32) (σ : St) (hw : wp_X7_leastNext_b39 (aI Q) K18 K39 x1 x2 x3 x4 x5 σ) : At X 10 39 [(0, .ref (X.kad 75)), (1, .int (x1)), (2, .int (x2)), (3, .int (x3)), (4, .int (x4)), (5, .int (x5))] [] σ := by
  unfold wp_X7_leastNext_b39 at hw
  refine r_iload 41 hX dX7_leastNext_39 rfl 5 rfl ?_
  refine r_aload_n 42 hX dX7_leastNext_41 rfl rfl 0 rfl ?_
  refine r_iconst 43 hX dX7_leastNext_42 rfl 1 ic_1 ?_
  refine r_iload_n 44 hX dX7_leastNext_43 rfl rfl 1 rfl ?_
  refine r_iload_n 45 hX dX7_leastNext_44 rfl rfl 2 rfl ?_
  refine k_X7_202_X7_lastOf 48 hX (by omega) (1) (x1) (x2) (Nat.le_of_ble_eq_true rfl) dX7_leastNext_45 rfl hw (fun r45 σ45 hw => ?_)
  refine r_icmp_gt 174 51 hX dX7_leastNext_48 (by decide) rfl hw (fun hw => ?_) (fun hw => ?_)
  · refine r_iinc (lv' := [(4, .int (x4 + 1)), (0, .ref (X.kad 75)), (1, .int (x1)), (2, .int (x2)), (3, .int (x3)), (5, .int (x5))]) 177 hX dX7_leastNext_174 rfl 4 rfl (x4 + 1) (ici_1 _) (by decide) rfl ?_
    refine r_goto 18 hX dX7_leastNext_177 (by decide) ?_
    refine r_sub [1, 2, 3, 4, 0] rfl ?_
    exact hK18 _ _ _ _ _ hw
  · refine r_aload_n 52 hX dX7_leastNext_51 rfl rfl 0 rfl ?_
    refine r_iconst 53 hX dX7_leastNext_52 rfl 2 ic_2 ?_
    refine r_iload_n 54 hX dX7_leastNext_53 rfl rfl 1 rfl ?_
    refine r_iload_n 55 hX dX7_leastNext_54 rfl rfl 2 rfl ?_
    refine k_X7_199_X7_firstOf 58 hX (by omega) (2) (x1) (x2) (Nat.le_of_ble_eq_true rfl) dX7_leastNext_55 rfl hw (fun r55 σ55 hw => ?_)
    refine r_istore (lv' := [(6, .int (r55)), (0, .ref (X.kad 75)), (1, .int (x1)), (2, .int (x2)), (3, .int (x3)), (4, .int (x4)), (5, .int (x5))]) 60 hX dX7_leastNext_58 rfl (by decide) rfl ?_
    refine r_sub [1, 2, 3, 4, 5, 6, 0] rfl ?_
    obtain ⟨n, hw⟩ := hw
    exact w_X7_leastNext_l60 hX hR hK18 hK39 n _ _ _ _ _ _ _ hw
set_option maxRecDepth 20000 in
set_option maxHeartbeats 4000000 in
theorem w_X7_leastNext_l39 {X : Cx} {Q : RV → St → Prop} (hX : CxB X RX7 cX7_leastNext 10 (3)) (hR : CxR X (some .int) Q) {K18 : Int32 → Int32 → Int32 → Int32 → St → Prop} (hK18 : ∀ (x1 : Int32) (x2 : Int32) (x3 : Int32) (x4 : Int32) (σ : St), K18 x1 x2 x3 x4 σ → At X 10 18 [(0, .ref (X.kad 75)), (1, .int (x1)), (2, .int (x2)), (3, .int (x3)), (4, .int (x4))] [] σ) (n : Nat) : ∀ (x1 : Int32) (x2 : Int32) (x3 : Int32) (x4 : Int32) (x5 : Int32) (σ : St), wp_X7_leastNext_l39 (aI Q) K18 n x1 x2 x3 x4 x5 σ → At X 10 39 [(0, .ref (X.kad 75)), (1, .int (x1)), (2, .int (x2)), (3, .int (x3)), (4, .int (x4)), (5, .int (x5))] [] σ := by
  induction n with
  | zero => intro x1 x2 x3 x4 x5 σ h; exact h.elim
  | succ n ih => intro x1 x2 x3 x4 x5 σ h; exact w_X7_leastNext_b39  hX hR hK18 ih x1 x2 x3 x4 x5 σ h
set_option maxRecDepth 20000 in
set_option maxHeartbeats 4000000 in
theorem w_X7_leastNext_b18 {X : Cx} {Q : RV → St → Prop} (hX : CxB X RX7 cX7_leastNext 10 (3)) (hR : CxR X (some .int) Q) {K18 : Int32 → Int32 → Int32 → Int32 → St → Prop} (hK18 : ∀ (x1 : Int32) (x2 : Int32) (x3 : Int32) (x4 : Int32) (σ : St), K18 x1 x2 x3 x4 σ → At X 10 18 [(0, .ref (X.kad 75)), (1, .int (x1)), (2, .int (x2)), (3, .int (x3)), (4, .int (x4))] [] σ) (x1 : Int32) (x2 : Int32) (x3 : Int32) (x4 : Int32) (σ : St) (hw : wp_X7_leastNext_b18 (aI Q) K18 x1 x2 x3 x4 σ) : At X 10 18 [(0, .ref (X.kad 75)), (1, .int (x1)), (2, .int (x2)), (3, .int (x3)), (4, .int (x4))] [] σ := by
  unfold wp_X7_leastNext_b18 at hw
  refine r_iload 20 hX dX7_leastNext_18 rfl 4 rfl ?_
  refine r_aload_n 21 hX dX7_leastNext_20 rfl rfl 0 rfl ?_
  refine r_iconst 22 hX dX7_leastNext_21 rfl 0 ic_0 ?_
  refine r_iload_n 23 hX dX7_leastNext_22 rfl rfl 1 rfl ?_
  refine r_iload_n 24 hX dX7_leastNext_23 rfl rfl 2 rfl ?_
  refine k_X7_202_X7_lastOf 27 hX (by omega) (0) (x1) (x2) (Nat.le_of_ble_eq_true rfl) dX7_leastNext_24 rfl hw (fun r24 σ24 hw => ?_)
  refine r_icmp_gt 180 30 hX dX7_leastNext_27 (by decide) rfl hw (fun hw => ?_) (fun hw => ?_)
  · refine r_iload_n 181 hX dX7_leastNext_180 rfl rfl 3 rfl ?_
    exact r_iret hX hR dX7_leastNext_181 hw
  · refine r_aload_n 31 hX dX7_leastNext_30 rfl rfl 0 rfl ?_
    refine r_iconst 32 hX dX7_leastNext_31 rfl 1 ic_1 ?_
    refine r_iload_n 33 hX dX7_leastNext_32 rfl rfl 1 rfl ?_
    refine r_iload_n 34 hX dX7_leastNext_33 rfl rfl 2 rfl ?_
    refine k_X7_199_X7_firstOf 37 hX (by omega) (1) (x1) (x2) (Nat.le_of_ble_eq_true rfl) dX7_leastNext_34 rfl hw (fun r34 σ34 hw => ?_)
    refine r_istore (lv' := [(5, .int (r34)), (0, .ref (X.kad 75)), (1, .int (x1)), (2, .int (x2)), (3, .int (x3)), (4, .int (x4))]) 39 hX dX7_leastNext_37 rfl (by decide) rfl ?_
    refine r_sub [1, 2, 3, 4, 5, 0] rfl ?_
    obtain ⟨n, hw⟩ := hw
    exact w_X7_leastNext_l39 hX hR hK18 n _ _ _ _ _ _ hw
set_option maxRecDepth 20000 in
set_option maxHeartbeats 4000000 in
theorem w_X7_leastNext_l18 {X : Cx} {Q : RV → St → Prop} (hX : CxB X RX7 cX7_leastNext 10 (3)) (hR : CxR X (some .int) Q) (n : Nat) : ∀ (x1 : Int32) (x2 : Int32) (x3 : Int32) (x4 : Int32) (σ : St), wp_X7_leastNext_l18 (aI Q)  n x1 x2 x3 x4 σ → At X 10 18 [(0, .ref (X.kad 75)), (1, .int (x1)), (2, .int (x2)), (3, .int (x3)), (4, .int (x4))] [] σ := by
  induction n with
  | zero => intro x1 x2 x3 x4 σ h; exact h.elim
  | succ n ih => intro x1 x2 x3 x4 σ h; exact w_X7_leastNext_b18  hX hR ih x1 x2 x3 x4 σ h
set_option maxRecDepth 20000 in
set_option maxHeartbeats 4000000 in
theorem c_X7_leastNext (x1 : Int32) (x2 : Int32) : Con yX7_leastNext cX7_leastNext 10 (some .int) (3) (fun ad => [.ref (ad 75), .int (x1), .int (x2)]) (fun Q σ => wp_X7_leastNext x1 x2 (aI Q) σ) := by
  refine con_intro (by decide +kernel) (fun _ => Nat.le_of_ble_eq_true rfl) (by omega) (fun X Q σ hX hR hw => ?_)
  have hX : CxB X RX7 cX7_leastNext 10 (3) := hX
  unfold wp_X7_leastNext at hw
  show At X 10 0 [(0, .ref (X.kad 75)), (1, .int (x1)), (2, .int (x2))] [] σ
  refine r_ldc 2 hX 100000 tw_603 dX7_leastNext_0 rfl ?_
  refine r_istore_n (lv' := [(3, .int (100000)), (0, .ref (X.kad 75)), (1, .int (x1)), (2, .int (x2))]) 3 hX dX7_leastNext_2 rfl rfl (by decide) rfl ?_
  refine r_aload_n 4 hX dX7_leastNext_3 rfl rfl 1 rfl ?_
  refine r_bipush 6 hX dX7_leastNext_4 rfl (-9) bi_m9 ?_
  refine p_X7_196_75 9 hX dX7_leastNext_6 rfl ?_
  refine r_aload_n 10 hX dX7_leastNext_9 rfl rfl 1 rfl ?_
  refine r_iconst 11 hX dX7_leastNext_10 rfl 0 ic_0 ?_
  refine r_iload_n 12 hX dX7_leastNext_11 rfl rfl 2 rfl ?_
  refine r_iload_n 13 hX dX7_leastNext_12 rfl rfl 3 rfl ?_
  refine k_X7_199_X7_firstOf 16 hX (by omega) (0) (x1) (x2) (Nat.le_of_ble_eq_true rfl) dX7_leastNext_13 rfl hw (fun r13 σ13 hw => ?_)
  refine r_istore (lv' := [(4, .int (r13)), (3, .int (100000)), (0, .ref (X.kad 75)), (1, .int (x1)), (2, .int (x2))]) 18 hX dX7_leastNext_16 rfl (by decide) rfl ?_
  refine r_sub [2, 3, 4, 1, 0] rfl ?_
  obtain ⟨n, hw⟩ := hw
  exact w_X7_leastNext_l18 hX hR n _ _ _ _ _ hw
set_option maxRecDepth 20000 in
set_option maxHeartbeats 4000000 in
theorem w_X7_firstSpot_b4 {X : Cx} {Q : RV → St → Prop} (hX : CxB X RX7 cX7_firstSpot 3 (1)) (hR : CxR X (some .int) Q) {K4 : Int32 → Int32 → St → Prop} (hK4 : ∀ (x1 : Int32) (x2 : Int32) (σ : St), K4 x1 x2 σ → At X 3 4 [(0, .ref (X.kad 75)), (1, .int (x1)), (2, .int (x2))] [] σ) (x1 : Int32) (x2 : Int32) (σ : St) (hw : wp_X7_firstSpot_b4 (aI Q) K4 x1 x2 σ) : At X 3 4 [(0, .ref (X.kad 75)), (1, .int (x1)), (2, .int (x2))] [] σ := by
  unfold wp_X7_firstSpot_b4 at hw
  refine r_iload_n 5 hX dX7_firstSpot_4 rfl rfl 2 rfl ?_
  refine r_aload_n 6 hX dX7_firstSpot_5 rfl rfl 0 rfl ?_
  refine g_X7_177_75 9 hX dX7_firstSpot_6 rfl ?_
  refine r_icmp_ge 51 12 hX dX7_firstSpot_9 (by decide) rfl hw (fun hw => ?_) (fun hw => ?_)
  · refine r_iload_n 52 hX dX7_firstSpot_51 rfl rfl 1 rfl ?_
    exact r_iret hX hR dX7_firstSpot_52 hw
  · refine r_iload_n 13 hX dX7_firstSpot_12 rfl rfl 1 rfl ?_
    refine r_aload_n 14 hX dX7_firstSpot_13 rfl rfl 0 rfl ?_
    refine g_X7_54_75 17 hX dX7_firstSpot_14 rfl ?_
    refine r_iload_n 18 hX dX7_firstSpot_17 rfl rfl 2 rfl ?_
    refine r_iald 19 hX sh_90 dX7_firstSpot_18 rfl hw (fun hw => ?_)
    refine r_aload_n 20 hX dX7_firstSpot_19 rfl rfl 0 rfl ?_
    refine g_X7_180_75 23 hX dX7_firstSpot_20 rfl ?_
    refine r_icmp_ne 42 26 hX dX7_firstSpot_23 (by decide) rfl hw (fun hw => ?_) (fun hw => ?_)
    · refine r_iconst 43 hX dX7_firstSpot_42 rfl 0 ic_0 ?_
      refine r_iadd 44 hX dX7_firstSpot_43 rfl ?_
      refine r_istore_n (lv' := [(1, .int (x1 + 0)), (0, .ref (X.kad 75)), (2, .int (x2))]) 45 hX dX7_firstSpot_44 rfl rfl (by decide) rfl ?_
      refine r_iinc (lv' := [(2, .int (x2 + 1)), (1, .int (x1 + 0)), (0, .ref (X.kad 75))]) 48 hX dX7_firstSpot_45 rfl 2 rfl (x2 + 1) (ici_1 _) (by decide) rfl ?_
      refine r_goto 4 hX dX7_firstSpot_48 (by decide) ?_
      refine r_sub [2, 1, 0] rfl ?_
      exact hK4 _ _ _ hw
    · refine r_aload_n 27 hX dX7_firstSpot_26 rfl rfl 0 rfl ?_
      refine g_X7_57_75 30 hX dX7_firstSpot_27 rfl ?_
      refine r_iload_n 31 hX dX7_firstSpot_30 rfl rfl 2 rfl ?_
      refine r_iald 32 hX sh_91 dX7_firstSpot_31 rfl hw (fun hw => ?_)
      refine r_aload_n 33 hX dX7_firstSpot_32 rfl rfl 0 rfl ?_
      refine g_X7_66_75 36 hX dX7_firstSpot_33 rfl ?_
      refine r_iload_n 37 hX dX7_firstSpot_36 rfl rfl 2 rfl ?_
      refine r_iald 38 hX sh_94 dX7_firstSpot_37 rfl hw (fun hw => ?_)
      refine r_imul 39 hX dX7_firstSpot_38 rfl ?_
      refine r_goto 43 hX dX7_firstSpot_39 (by decide) ?_
      refine r_iadd 44 hX dX7_firstSpot_43 rfl ?_
      refine r_topi hw (fun v44 hw => ?_)
      refine r_istore_n (lv' := [(1, .int (v44)), (0, .ref (X.kad 75)), (2, .int (x2))]) 45 hX dX7_firstSpot_44 rfl rfl (by decide) rfl ?_
      refine r_iinc (lv' := [(2, .int (x2 + 1)), (1, .int (v44)), (0, .ref (X.kad 75))]) 48 hX dX7_firstSpot_45 rfl 2 rfl (x2 + 1) (ici_1 _) (by decide) rfl ?_
      refine r_goto 4 hX dX7_firstSpot_48 (by decide) ?_
      refine r_sub [2, 1, 0] rfl ?_
      exact hK4 _ _ _ hw
set_option maxRecDepth 20000 in
set_option maxHeartbeats 4000000 in
theorem w_X7_firstSpot_l4 {X : Cx} {Q : RV → St → Prop} (hX : CxB X RX7 cX7_firstSpot 3 (1)) (hR : CxR X (some .int) Q) (n : Nat) : ∀ (x1 : Int32) (x2 : Int32) (σ : St), wp_X7_firstSpot_l4 (aI Q)  n x1 x2 σ → At X 3 4 [(0, .ref (X.kad 75)), (1, .int (x1)), (2, .int (x2))] [] σ := by
  induction n with
  | zero => intro x1 x2 σ h; exact h.elim
  | succ n ih => intro x1 x2 σ h; exact w_X7_firstSpot_b4  hX hR ih x1 x2 σ h
set_option maxRecDepth 20000 in
set_option maxHeartbeats 4000000 in
theorem c_X7_firstSpot : Con yX7_firstSpot cX7_firstSpot 3 (some .int) (1) (fun ad => [.ref (ad 75)]) (fun Q σ => wp_X7_firstSpot  (aI Q) σ) := by
  refine con_intro (by decide +kernel) (fun _ => Nat.le_of_ble_eq_true rfl) (by omega) (fun X Q σ hX hR hw => ?_)
  have hX : CxB X RX7 cX7_firstSpot 3 (1) := hX
  unfold wp_X7_firstSpot at hw
  show At X 3 0 [(0, .ref (X.kad 75))] [] σ
  refine r_iconst 1 hX dX7_firstSpot_0 rfl 0 ic_0 ?_
  refine r_istore_n (lv' := [(1, .int (0)), (0, .ref (X.kad 75))]) 2 hX dX7_firstSpot_1 rfl rfl (by decide) rfl ?_
  refine r_iconst 3 hX dX7_firstSpot_2 rfl 0 ic_0 ?_
  refine r_istore_n (lv' := [(2, .int (0)), (1, .int (0)), (0, .ref (X.kad 75))]) 4 hX dX7_firstSpot_3 rfl rfl (by decide) rfl ?_
  refine r_sub [2, 1, 0] rfl ?_
  obtain ⟨n, hw⟩ := hw
  exact w_X7_firstSpot_l4 hX hR n _ _ _ hw
theorem k_X7_220_X7_firstSpot {X : Cx} {cc : ByteArray} {nL d pc : Nat} {lv : List (Nat × Value)} {rest : List Value} {σ : St} {K : Int32 → St → Prop} (q : Nat) (hX : CxB X RX7 cc nL d) (hdc : 1 + 1 ≤ d) (hst : (rest.map fun v => v.category).sum ≤ 8) (hd : decode cc pc = .ok (.invokevirtual 220, 3)) (hq : pc + 3 = q) (hw : wp_X7_firstSpot  K σ) (kk : ∀ (r : Int32) (τ : St), K r τ → At X nL q lv (.int r :: rest) τ) : At X nL pc lv (.ref (X.kad 75) :: rest) σ := r_callV (n := 0) q hX (k0 := 75) (c_X7_firstSpot ) tw_649 tw_650 tw_651 tw_517 tw_652 ⟨by decide +kernel, by decide +kernel, by decide +kernel⟩ hdc (by decide) (As := []) rfl rfl (by decide) ⟨_, _, _, rfl, rfl, rfl⟩ hst hd hq rfl (K := qI K) hw (kI kk)
theorem k_X7_208_X7_spots {X : Cx} {cc : ByteArray} {nL d pc : Nat} {lv : List (Nat × Value)} {rest : List Value} {σ : St} {K : Int32 → St → Prop} (q : Nat) (hX : CxB X RX7 cc nL d) (hdc : 1 + 1 ≤ d) (hst : (rest.map fun v => v.category).sum ≤ 8) (hd : decode cc pc = .ok (.invokevirtual 208, 3)) (hq : pc + 3 = q) (hw : wp_X7_spots  K σ) (kk : ∀ (r : Int32) (τ : St), K r τ → At X nL q lv (.int r :: rest) τ) : At X nL pc lv (.ref (X.kad 75) :: rest) σ := r_callV (n := 0) q hX (k0 := 75) (c_X7_spots ) tw_653 tw_654 tw_655 tw_517 tw_656 ⟨by decide +kernel, by decide +kernel, by decide +kernel⟩ hdc (by decide) (As := []) rfl rfl (by decide) ⟨_, _, _, rfl, rfl, rfl⟩ hst hd hq rfl (K := qI K) hw (kI kk)
theorem k_X7_211_X7_isSpot {X : Cx} {cc : ByteArray} {nL d pc : Nat} {lv : List (Nat × Value)} {rest : List Value} {σ : St} {K : Int32 → St → Prop} (q : Nat) (hX : CxB X RX7 cc nL d) (hdc : 4 + 1 ≤ d) (x1 : Int32) (x2 : Int32) (hst : (rest.map fun v => v.category).sum ≤ 8) (hd : decode cc pc = .ok (.invokevirtual 211, 3)) (hq : pc + 3 = q) (hw : wp_X7_isSpot x1 x2 K σ) (kk : ∀ (r : Int32) (τ : St), K r τ → At X nL q lv (.int r :: rest) τ) : At X nL pc lv (.int (x2) :: .int (x1) :: .ref (X.kad 75) :: rest) σ := r_callV (n := 2) q hX (k0 := 75) (c_X7_isSpot x1 x2) tw_657 tw_658 tw_659 tw_517 tw_660 ⟨by decide +kernel, by decide +kernel, by decide +kernel⟩ hdc (by decide) (As := [.int (x1), .int (x2)]) rfl rfl (by decide) ⟨_, _, _, rfl, rfl, rfl⟩ hst hd hq rfl (K := qI K) hw (kI kk)
theorem k_X7_217_X7_breadthOf {X : Cx} {cc : ByteArray} {nL d pc : Nat} {lv : List (Nat × Value)} {rest : List Value} {σ : St} {K : Int32 → St → Prop} (q : Nat) (hX : CxB X RX7 cc nL d) (hdc : 2 + 1 ≤ d) (x1 : Int32) (hst : (rest.map fun v => v.category).sum ≤ 8) (hd : decode cc pc = .ok (.invokevirtual 217, 3)) (hq : pc + 3 = q) (hw : wp_X7_breadthOf x1 K σ) (kk : ∀ (r : Int32) (τ : St), K r τ → At X nL q lv (.int r :: rest) τ) : At X nL pc lv (.int (x1) :: .ref (X.kad 75) :: rest) σ := r_callV (n := 1) q hX (k0 := 75) (c_X7_breadthOf x1) tw_661 tw_662 tw_663 tw_517 tw_664 ⟨by decide +kernel, by decide +kernel, by decide +kernel⟩ hdc (by decide) (As := [.int (x1)]) rfl rfl (by decide) ⟨_, _, _, rfl, rfl, rfl⟩ hst hd hq rfl (K := qI K) hw (kI kk)
theorem k_X7_214_X7_leastNext {X : Cx} {cc : ByteArray} {nL d pc : Nat} {lv : List (Nat × Value)} {rest : List Value} {σ : St} {K : Int32 → St → Prop} (q : Nat) (hX : CxB X RX7 cc nL d) (hdc : 3 + 1 ≤ d) (x1 : Int32) (x2 : Int32) (hst : (rest.map fun v => v.category).sum ≤ 8) (hd : decode cc pc = .ok (.invokevirtual 214, 3)) (hq : pc + 3 = q) (hw : wp_X7_leastNext x1 x2 K σ) (kk : ∀ (r : Int32) (τ : St), K r τ → At X nL q lv (.int r :: rest) τ) : At X nL pc lv (.int (x2) :: .int (x1) :: .ref (X.kad 75) :: rest) σ := r_callV (n := 2) q hX (k0 := 75) (c_X7_leastNext x1 x2) tw_665 tw_666 tw_667 tw_517 tw_668 ⟨by decide +kernel, by decide +kernel, by decide +kernel⟩ hdc (by decide) (As := [.int (x1), .int (x2)]) rfl rfl (by decide) ⟨_, _, _, rfl, rfl, rfl⟩ hst hd hq rfl (K := qI K) hw (kI kk)
set_option maxRecDepth 20000 in
set_option maxHeartbeats 4000000 in
theorem w_X7_goBroad_b82 {X : Cx} {Q : RV → St → Prop} (hX : CxB X RX7 cX7_goBroad 6 (5)) (hR : CxR X (some .int) Q) {K9 : Int32 → Int32 → St → Prop} (hK9 : ∀ (x1 : Int32) (x2 : Int32) (σ : St), K9 x1 x2 σ → At X 6 9 [(0, .ref (X.kad 75)), (1, .int (x1)), (2, .int (x2))] [] σ) {K19 : Int32 → Int32 → Int32 → St → Prop} (hK19 : ∀ (x1 : Int32) (x2 : Int32) (x3 : Int32) (σ : St), K19 x1 x2 x3 σ → At X 6 19 [(0, .ref (X.kad 75)), (1, .int (x1)), (2, .int (x2)), (3, .int (x3))] [] σ) (x1 : Int32) (x2 : Int32) (x3 : Int32) (x5 : Int32) (σ : St) (hw : wp_X7_goBroad_b82 (aI Q) K9 K19 x1 x2 x3 x5 σ) : At X 6 82 [(0, .ref (X.kad 75)), (1, .int (x1)), (2, .int (x2)), (3, .int (x3)), (5, .int (x5))] [] σ := by
  unfold wp_X7_goBroad_b82 at hw
  refine r_aload_n 83 hX dX7_goBroad_82 rfl rfl 0 rfl ?_
  refine g_X7_63_75 86 hX dX7_goBroad_83 rfl ?_
  refine r_sipush 89 hX dX7_goBroad_86 rfl 1000 si_1000 ?_
  refine r_iload_n 90 hX dX7_goBroad_89 rfl rfl 2 rfl ?_
  refine r_imul 91 hX dX7_goBroad_90 rfl ?_
  refine r_iload_n 92 hX dX7_goBroad_91 rfl rfl 3 rfl ?_
  refine r_iadd 93 hX dX7_goBroad_92 rfl ?_
  refine r_iload 95 hX dX7_goBroad_93 rfl 4 rfl ?_
  refine r_iast 96 hX sh_93 dX7_goBroad_95 rfl hw (fun hw => ?_)
  refine r_iinc (lv' := [(3, .int (x3 + 1)), (0, .ref (X.kad 75)), (1, .int (x1)), (2, .int (x2)), (5, .int (x5))]) 99 hX dX7_goBroad_96 rfl 3 rfl (x3 + 1) (ici_1 _) (by decide) rfl ?_
  refine r_goto 19 hX dX7_goBroad_99 (by decide) ?_
  refine r_sub [1, 2, 3, 0] rfl ?_
  exact hK19 _ _ _ _ hw
set_option maxRecDepth 20000 in
set_option maxHeartbeats 4000000 in
theorem w_X7_goBroad_b80 {X : Cx} {Q : RV → St → Prop} (hX : CxB X RX7 cX7_goBroad 6 (5)) (hR : CxR X (some .int) Q) {K9 : Int32 → Int32 → St → Prop} (hK9 : ∀ (x1 : Int32) (x2 : Int32) (σ : St), K9 x1 x2 σ → At X 6 9 [(0, .ref (X.kad 75)), (1, .int (x1)), (2, .int (x2))] [] σ) {K19 : Int32 → Int32 → Int32 → St → Prop} (hK19 : ∀ (x1 : Int32) (x2 : Int32) (x3 : Int32) (σ : St), K19 x1 x2 x3 σ → At X 6 19 [(0, .ref (X.kad 75)), (1, .int (x1)), (2, .int (x2)), (3, .int (x3))] [] σ) (x1 : Int32) (x2 : Int32) (x3 : Int32) (s0 : Int32) (σ : St) (hw : wp_X7_goBroad_b80 (aI Q) K9 K19 x1 x2 x3 s0 σ) : At X 6 80 [(0, .ref (X.kad 75)), (1, .int (x1)), (2, .int (x2)), (3, .int (x3))] [.int (s0)] σ := by
  unfold wp_X7_goBroad_b80 at hw
  refine r_istore (lv' := [(5, .int (s0)), (0, .ref (X.kad 75)), (1, .int (x1)), (2, .int (x2)), (3, .int (x3))]) 82 hX dX7_goBroad_80 rfl (by decide) rfl ?_
  refine r_sub [1, 2, 3, 4, 0] rfl ?_
  exact w_X7_goBroad_b82 hX hR hK9 hK19 _ _ _ _ _ hw
set_option maxRecDepth 20000 in
set_option maxHeartbeats 4000000 in
theorem w_X7_goBroad_b19 {X : Cx} {Q : RV → St → Prop} (hX : CxB X RX7 cX7_goBroad 6 (5)) (hR : CxR X (some .int) Q) {K9 : Int32 → Int32 → St → Prop} (hK9 : ∀ (x1 : Int32) (x2 : Int32) (σ : St), K9 x1 x2 σ → At X 6 9 [(0, .ref (X.kad 75)), (1, .int (x1)), (2, .int (x2))] [] σ) {K19 : Int32 → Int32 → Int32 → St → Prop} (hK19 : ∀ (x1 : Int32) (x2 : Int32) (x3 : Int32) (σ : St), K19 x1 x2 x3 σ → At X 6 19 [(0, .ref (X.kad 75)), (1, .int (x1)), (2, .int (x2)), (3, .int (x3))] [] σ) (x1 : Int32) (x2 : Int32) (x3 : Int32) (σ : St) (hw : wp_X7_goBroad_b19 (aI Q) K9 K19 x1 x2 x3 σ) : At X 6 19 [(0, .ref (X.kad 75)), (1, .int (x1)), (2, .int (x2)), (3, .int (x3))] [] σ := by
  unfold wp_X7_goBroad_b19 at hw
  refine r_iload_n 20 hX dX7_goBroad_19 rfl rfl 3 rfl ?_
  refine r_aload_n 21 hX dX7_goBroad_20 rfl rfl 0 rfl ?_
  refine k_X7_208_X7_spots 24 hX (by omega)  (Nat.le_of_ble_eq_true rfl) dX7_goBroad_21 rfl hw (fun r21 σ21 hw => ?_)
  refine r_icmp_ge 102 27 hX dX7_goBroad_24 (by decide) rfl hw (fun hw => ?_) (fun hw => ?_)
  · refine r_iinc (lv' := [(2, .int (x2 + (-1))), (0, .ref (X.kad 75)), (1, .int (x1)), (3, .int (x3))]) 105 hX dX7_goBroad_102 rfl 2 rfl (x2 + (-1)) (ici_m1 _) (by decide) rfl ?_
    refine r_goto 9 hX dX7_goBroad_105 (by decide) ?_
    refine r_sub [1, 2, 0] rfl ?_
    exact hK9 _ _ _ hw
  · refine r_aload_n 28 hX dX7_goBroad_27 rfl rfl 0 rfl ?_
    refine r_iload_n 29 hX dX7_goBroad_28 rfl rfl 2 rfl ?_
    refine r_iload_n 30 hX dX7_goBroad_29 rfl rfl 3 rfl ?_
    refine k_X7_211_X7_isSpot 33 hX (by omega) (x2) (x3) (Nat.le_of_ble_eq_true rfl) dX7_goBroad_30 rfl hw (fun r30 σ30 hw => ?_)
    refine r_istore (lv' := [(4, .int (r30)), (0, .ref (X.kad 75)), (1, .int (x1)), (2, .int (x2)), (3, .int (x3))]) 35 hX dX7_goBroad_33 rfl (by decide) rfl ?_
    refine r_ldc 37 hX 100000 tw_603 dX7_goBroad_35 rfl ?_
    refine r_istore (lv' := [(5, .int (100000)), (4, .int (r30)), (0, .ref (X.kad 75)), (1, .int (x1)), (2, .int (x2)), (3, .int (x3))]) 39 hX dX7_goBroad_37 rfl (by decide) rfl ?_
    refine r_iload 41 hX dX7_goBroad_39 rfl 1 rfl ?_
    refine r_if_eq 82 44 hX dX7_goBroad_41 (by decide) rfl hw (fun hw => ?_) (fun hw => ?_)
    · refine r_sub [2, 3, 4, 5, 0] rfl ?_
      exact w_X7_goBroad_b82 hX hR hK9 hK19 _ _ _ _ _ hw
    · refine r_iload_n 45 hX dX7_goBroad_44 rfl rfl 4 rfl ?_
      refine r_aload_n 46 hX dX7_goBroad_45 rfl rfl 2 rfl ?_
      refine g_X7_17_75 49 hX dX7_goBroad_46 rfl ?_
      refine r_iconst 50 hX dX7_goBroad_49 rfl 0 ic_0 ?_
      refine r_iald 51 hX sh_78 dX7_goBroad_50 rfl hw (fun hw => ?_)
      refine r_iconst 52 hX dX7_goBroad_51 rfl 1 ic_1 ?_
      refine r_isub 53 hX dX7_goBroad_52 rfl ?_
      refine r_icmp_ge 65 56 hX dX7_goBroad_53 (by decide) rfl hw (fun hw => ?_) (fun hw => ?_)
      · refine r_aload_n 66 hX dX7_goBroad_65 rfl rfl 2 rfl ?_
        refine r_iload_n 67 hX dX7_goBroad_66 rfl rfl 5 rfl ?_
        refine k_X7_217_X7_breadthOf 70 hX (by omega) (x3) (Nat.le_of_ble_eq_true rfl) dX7_goBroad_67 rfl hw (fun r67 σ67 hw => ?_)
        refine r_iload_n 71 hX dX7_goBroad_70 rfl rfl 3 rfl ?_
        refine r_icmp_ne 78 74 hX dX7_goBroad_71 (by decide) rfl hw (fun hw => ?_) (fun hw => ?_)
        · refine r_ldc 80 hX 100000 tw_603 dX7_goBroad_78 rfl ?_
          refine r_sub [2, 3, 4, 5] rfl ?_
          exact w_X7_goBroad_b80 hX hR hK9 hK19 _ _ _ _ _ hw
        · refine r_iconst 75 hX dX7_goBroad_74 rfl 0 ic_0 ?_
          refine r_goto 80 hX dX7_goBroad_75 (by decide) ?_
          refine r_sub [2, 3, 4, 5] rfl ?_
          exact w_X7_goBroad_b80 hX hR hK9 hK19 _ _ _ _ _ hw
      · refine r_aload_n 57 hX dX7_goBroad_56 rfl rfl 2 rfl ?_
        refine r_iload_n 58 hX dX7_goBroad_57 rfl rfl 4 rfl ?_
        refine r_iload_n 59 hX dX7_goBroad_58 rfl rfl 5 rfl ?_
        refine k_X7_214_X7_leastNext 62 hX (by omega) (x2) (x3) (Nat.le_of_ble_eq_true rfl) dX7_goBroad_59 rfl hw (fun r59 σ59 hw => ?_)
        refine r_goto 80 hX dX7_goBroad_62 (by decide) ?_
        refine r_sub [2, 3, 4, 5] rfl ?_
        exact w_X7_goBroad_b80 hX hR hK9 hK19 _ _ _ _ _ hw
set_option maxRecDepth 20000 in
set_option maxHeartbeats 4000000 in
theorem w_X7_goBroad_l19 {X : Cx} {Q : RV → St → Prop} (hX : CxB X RX7 cX7_goBroad 6 (5)) (hR : CxR X (some .int) Q) {K9 : Int32 → Int32 → St → Prop} (hK9 : ∀ (x1 : Int32) (x2 : Int32) (σ : St), K9 x1 x2 σ → At X 6 9 [(0, .ref (X.kad 75)), (1, .int (x1)), (2, .int (x2))] [] σ) (n : Nat) : ∀ (x1 : Int32) (x2 : Int32) (x3 : Int32) (σ : St), wp_X7_goBroad_l19 (aI Q) K9 n x1 x2 x3 σ → At X 6 19 [(0, .ref (X.kad 75)), (1, .int (x1)), (2, .int (x2)), (3, .int (x3))] [] σ := by
  induction n with
  | zero => intro x1 x2 x3 σ h; exact h.elim
  | succ n ih => intro x1 x2 x3 σ h; exact w_X7_goBroad_b19  hX hR hK9 ih x1 x2 x3 σ h
set_option maxRecDepth 20000 in
set_option maxHeartbeats 4000000 in
theorem w_X7_goBroad_b9 {X : Cx} {Q : RV → St → Prop} (hX : CxB X RX7 cX7_goBroad 6 (5)) (hR : CxR X (some .int) Q) {K9 : Int32 → Int32 → St → Prop} (hK9 : ∀ (x1 : Int32) (x2 : Int32) (σ : St), K9 x1 x2 σ → At X 6 9 [(0, .ref (X.kad 75)), (1, .int (x1)), (2, .int (x2))] [] σ) (x1 : Int32) (x2 : Int32) (σ : St) (hw : wp_X7_goBroad_b9 (aI Q) K9 x1 x2 σ) : At X 6 9 [(0, .ref (X.kad 75)), (1, .int (x1)), (2, .int (x2))] [] σ := by
  unfold wp_X7_goBroad_b9 at hw
  refine r_iload_n 10 hX dX7_goBroad_9 rfl rfl 2 rfl ?_
  refine r_aload_n 11 hX dX7_goBroad_10 rfl rfl 0 rfl ?_
  refine g_X7_180_75 14 hX dX7_goBroad_11 rfl ?_
  refine r_icmp_lt 108 17 hX dX7_goBroad_14 (by decide) rfl hw (fun hw => ?_) (fun hw => ?_)
  · refine r_aload_n 109 hX dX7_goBroad_108 rfl rfl 0 rfl ?_
    refine g_X7_63_75 112 hX dX7_goBroad_109 rfl ?_
    refine r_sipush 115 hX dX7_goBroad_112 rfl 1000 si_1000 ?_
    refine r_aload_n 116 hX dX7_goBroad_115 rfl rfl 0 rfl ?_
    refine g_X7_180_75 119 hX dX7_goBroad_116 rfl ?_
    refine r_imul 120 hX dX7_goBroad_119 rfl ?_
    refine r_aload_n 121 hX dX7_goBroad_120 rfl rfl 0 rfl ?_
    refine k_X7_220_X7_firstSpot 124 hX (by omega)  (Nat.le_of_ble_eq_true rfl) dX7_goBroad_121 rfl hw (fun r121 σ121 hw => ?_)
    refine r_iadd 125 hX dX7_goBroad_124 rfl ?_
    refine r_iald 126 hX sh_93 dX7_goBroad_125 rfl hw (fun hw => ?_)
    exact r_iret hX hR dX7_goBroad_126 hw
  · refine r_iconst 18 hX dX7_goBroad_17 rfl 0 ic_0 ?_
    refine r_istore_n (lv' := [(3, .int (0)), (0, .ref (X.kad 75)), (1, .int (x1)), (2, .int (x2))]) 19 hX dX7_goBroad_18 rfl rfl (by decide) rfl ?_
    refine r_sub [1, 2, 3, 0] rfl ?_
    obtain ⟨n, hw⟩ := hw
    exact w_X7_goBroad_l19 hX hR hK9 n _ _ _ _ hw
set_option maxRecDepth 20000 in
set_option maxHeartbeats 4000000 in
theorem w_X7_goBroad_l9 {X : Cx} {Q : RV → St → Prop} (hX : CxB X RX7 cX7_goBroad 6 (5)) (hR : CxR X (some .int) Q) (n : Nat) : ∀ (x1 : Int32) (x2 : Int32) (σ : St), wp_X7_goBroad_l9 (aI Q)  n x1 x2 σ → At X 6 9 [(0, .ref (X.kad 75)), (1, .int (x1)), (2, .int (x2))] [] σ := by
  induction n with
  | zero => intro x1 x2 σ h; exact h.elim
  | succ n ih => intro x1 x2 σ h; exact w_X7_goBroad_b9  hX hR ih x1 x2 σ h
set_option maxRecDepth 20000 in
set_option maxHeartbeats 4000000 in
theorem c_X7_goBroad (x1 : Int32) : Con yX7_goBroad cX7_goBroad 6 (some .int) (5) (fun ad => [.ref (ad 75), .int (x1)]) (fun Q σ => wp_X7_goBroad x1 (aI Q) σ) := by
  refine con_intro (by decide +kernel) (fun _ => Nat.le_of_ble_eq_true rfl) (by omega) (fun X Q σ hX hR hw => ?_)
  have hX : CxB X RX7 cX7_goBroad 6 (5) := hX
  unfold wp_X7_goBroad at hw
  show At X 6 0 [(0, .ref (X.kad 75)), (1, .int (x1))] [] σ
  refine r_aload_n 1 hX dX7_goBroad_0 rfl rfl 0 rfl ?_
  refine g_X7_17_75 4 hX dX7_goBroad_1 rfl ?_
  refine r_iconst 5 hX dX7_goBroad_4 rfl 0 ic_0 ?_
  refine r_iald 6 hX sh_78 dX7_goBroad_5 rfl hw (fun hw => ?_)
  refine r_iconst 7 hX dX7_goBroad_6 rfl 1 ic_1 ?_
  refine r_isub 8 hX dX7_goBroad_7 rfl ?_
  refine r_topi hw (fun v8 hw => ?_)
  refine r_istore_n (lv' := [(2, .int (v8)), (0, .ref (X.kad 75)), (1, .int (x1))]) 9 hX dX7_goBroad_8 rfl rfl (by decide) rfl ?_
  refine r_sub [1, 2, 0] rfl ?_
  obtain ⟨n, hw⟩ := hw
  exact w_X7_goBroad_l9 hX hR n _ _ _ hw
theorem k_X7_223_X7_goBroad {X : Cx} {cc : ByteArray} {nL d pc : Nat} {lv : List (Nat × Value)} {rest : List Value} {σ : St} {K : Int32 → St → Prop} (q : Nat) (hX : CxB X RX7 cc nL d) (hdc : 5 + 1 ≤ d) (x1 : Int32) (hst : (rest.map fun v => v.category).sum ≤ 8) (hd : decode cc pc = .ok (.invokevirtual 223, 3)) (hq : pc + 3 = q) (hw : wp_X7_goBroad x1 K σ) (kk : ∀ (r : Int32) (τ : St), K r τ → At X nL q lv (.int r :: rest) τ) : At X nL pc lv (.int (x1) :: .ref (X.kad 75) :: rest) σ := r_callV (n := 1) q hX (k0 := 75) (c_X7_goBroad x1) tw_669 tw_670 tw_671 tw_517 tw_672 ⟨by decide +kernel, by decide +kernel, by decide +kernel⟩ hdc (by decide) (As := [.int (x1)]) rfl rfl (by decide) ⟨_, _, _, rfl, rfl, rfl⟩ hst hd hq rfl (K := qI K) hw (kI kk)
set_option maxRecDepth 20000 in
set_option maxHeartbeats 4000000 in
theorem w_X7_goTogether_b2 {X : Cx} {Q : RV → St → Prop} (hX : CxB X RX7 cX7_goTogether 2 (6)) (hR : CxR X (some .int) Q) {K2 : Int32 → St → Prop} (hK2 : ∀ (x1 : Int32) (σ : St), K2 x1 σ → At X 2 2 [(0, .ref (X.kad 75)), (1, .int (x1))] [] σ) (x1 : Int32) (σ : St) (hw : wp_X7_goTogether_b2 (aI Q) K2 x1 σ) : At X 2 2 [(0, .ref (X.kad 75)), (1, .int (x1))] [] σ := by
  unfold wp_X7_goTogether_b2 at hw
  refine r_iload_n 3 hX dX7_goTogether_2 rfl rfl 1 rfl ?_
  refine r_aload_n 4 hX dX7_goTogether_3 rfl rfl 0 rfl ?_
  refine g_X7_13_75 7 hX dX7_goTogether_4 rfl ?_
  refine r_iconst 8 hX dX7_goTogether_7 rfl 0 ic_0 ?_
  refine r_iald 9 hX sh_77 dX7_goTogether_8 rfl hw (fun hw => ?_)
  refine r_icmp_gt 37 12 hX dX7_goTogether_9 (by decide) rfl hw (fun hw => ?_) (fun hw => ?_)
  · refine r_bipush 39 hX dX7_goTogether_37 rfl (-9) bi_m9 ?_
    exact r_iret hX hR dX7_goTogether_39 hw
  · refine r_aload_n 13 hX dX7_goTogether_12 rfl rfl 0 rfl ?_
    refine g_X7_177_75 16 hX dX7_goTogether_13 rfl ?_
    refine r_if_le 37 19 hX dX7_goTogether_16 (by decide) rfl hw (fun hw => ?_) (fun hw => ?_)
    · refine r_bipush 39 hX dX7_goTogether_37 rfl (-9) bi_m9 ?_
      exact r_iret hX hR dX7_goTogether_39 hw
    · refine r_aload_n 20 hX dX7_goTogether_19 rfl rfl 0 rfl ?_
      refine r_iload_n 21 hX dX7_goTogether_20 rfl rfl 1 rfl ?_
      refine k_X7_223_X7_goBroad 24 hX (by omega) (x1) (Nat.le_of_ble_eq_true rfl) dX7_goTogether_21 rfl hw (fun r21 σ21 hw => ?_)
      refine r_ldc 26 hX 100000 tw_603 dX7_goTogether_24 rfl ?_
      refine r_icmp_ge 31 29 hX dX7_goTogether_26 (by decide) rfl hw (fun hw => ?_) (fun hw => ?_)
      · refine r_iinc (lv' := [(1, .int (x1 + 1)), (0, .ref (X.kad 75))]) 34 hX dX7_goTogether_31 rfl 1 rfl (x1 + 1) (ici_1 _) (by decide) rfl ?_
        refine r_goto 2 hX dX7_goTogether_34 (by decide) ?_
        refine r_sub [1, 0] rfl ?_
        exact hK2 _ _ hw
      · refine r_iload_n 30 hX dX7_goTogether_29 rfl rfl 1 rfl ?_
        exact r_iret hX hR dX7_goTogether_30 hw
set_option maxRecDepth 20000 in
set_option maxHeartbeats 4000000 in
theorem w_X7_goTogether_l2 {X : Cx} {Q : RV → St → Prop} (hX : CxB X RX7 cX7_goTogether 2 (6)) (hR : CxR X (some .int) Q) (n : Nat) : ∀ (x1 : Int32) (σ : St), wp_X7_goTogether_l2 (aI Q)  n x1 σ → At X 2 2 [(0, .ref (X.kad 75)), (1, .int (x1))] [] σ := by
  induction n with
  | zero => intro x1 σ h; exact h.elim
  | succ n ih => intro x1 σ h; exact w_X7_goTogether_b2  hX hR ih x1 σ h
set_option maxRecDepth 20000 in
set_option maxHeartbeats 4000000 in
theorem c_X7_goTogether : Con yX7_goTogether cX7_goTogether 2 (some .int) (6) (fun ad => [.ref (ad 75)]) (fun Q σ => wp_X7_goTogether  (aI Q) σ) := by
  refine con_intro (by decide +kernel) (fun _ => Nat.le_of_ble_eq_true rfl) (by omega) (fun X Q σ hX hR hw => ?_)
  have hX : CxB X RX7 cX7_goTogether 2 (6) := hX
  unfold wp_X7_goTogether at hw
  show At X 2 0 [(0, .ref (X.kad 75))] [] σ
  refine r_iconst 1 hX dX7_goTogether_0 rfl 1 ic_1 ?_
  refine r_istore_n (lv' := [(1, .int (1)), (0, .ref (X.kad 75))]) 2 hX dX7_goTogether_1 rfl rfl (by decide) rfl ?_
  refine r_sub [1, 0] rfl ?_
  obtain ⟨n, hw⟩ := hw
  exact w_X7_goTogether_l2 hX hR n _ _ hw
set_option maxRecDepth 20000 in
set_option maxHeartbeats 4000000 in
theorem c_X7_isSet (x1 : Int32) : Con yX7_isSet cX7_isSet 2 (some .boolean) (2) (fun ad => [.ref (ad 75), .int (x1)]) (fun Q σ => wp_X7_isSet x1 (aI Q) σ) := by
  refine con_intro (by decide +kernel) (fun _ => Nat.le_of_ble_eq_true rfl) (by omega) (fun X Q σ hX hR hw => ?_)
  have hX : CxB X RX7 cX7_isSet 2 (2) := hX
  unfold wp_X7_isSet at hw
  show At X 2 0 [(0, .ref (X.kad 75)), (1, .int (x1))] [] σ
  refine r_iload_n 1 hX dX7_isSet_0 rfl rfl 1 rfl ?_
  refine r_iconst 2 hX dX7_isSet_1 rfl 1 ic_1 ?_
  refine r_iconst 3 hX dX7_isSet_2 rfl 1 ic_1 ?_
  refine r_aload_n 4 hX dX7_isSet_3 rfl rfl 0 rfl ?_
  refine g_X7_20_75 7 hX dX7_isSet_4 rfl ?_
  refine r_iconst 8 hX dX7_isSet_7 rfl 0 ic_0 ?_
  refine r_iald 9 hX sh_79 dX7_isSet_8 rfl hw (fun hw => ?_)
  refine r_ishl 10 hX dX7_isSet_9 rfl ?_
  refine r_iconst 11 hX dX7_isSet_10 rfl 1 ic_1 ?_
  refine r_isub 12 hX dX7_isSet_11 rfl ?_
  refine k_X7_85_X7_in 15 hX (by omega) (x1) (1) (((1 : Int32) <<< ((σ.1 79 (0 : Int32).toNatClampNeg) &&& 31)) - 1) (Nat.le_of_ble_eq_true rfl) dX7_isSet_12 rfl hw (fun r12 σ12 hw => ?_)
  exact r_zret hX hR (nar01 hw.1) dX7_isSet_15 hw.2
theorem k_X7_226_X7_isSet {X : Cx} {cc : ByteArray} {nL d pc : Nat} {lv : List (Nat × Value)} {rest : List Value} {σ : St} {K : Int32 → St → Prop} (q : Nat) (hX : CxB X RX7 cc nL d) (hdc : 2 + 1 ≤ d) (x1 : Int32) (hst : (rest.map fun v => v.category).sum ≤ 8) (hd : decode cc pc = .ok (.invokevirtual 226, 3)) (hq : pc + 3 = q) (hw : wp_X7_isSet x1 K σ) (kk : ∀ (r : Int32) (τ : St), K r τ → At X nL q lv (.int r :: rest) τ) : At X nL pc lv (.int (x1) :: .ref (X.kad 75) :: rest) σ := r_callV (n := 1) q hX (k0 := 75) (c_X7_isSet x1) tw_673 tw_674 tw_675 tw_517 tw_676 ⟨by decide +kernel, by decide +kernel, by decide +kernel⟩ hdc (by decide) (As := [.int (x1)]) rfl rfl (by decide) ⟨_, _, _, rfl, rfl, rfl⟩ hst hd hq rfl (K := qI K) hw (kI kk)
theorem k_X7_229_X7_gather {X : Cx} {cc : ByteArray} {nL d pc : Nat} {lv : List (Nat × Value)} {rest : List Value} {σ : St} {K : St → Prop} (q : Nat) (hX : CxB X RX7 cc nL d) (hdc : 2 + 1 ≤ d) (x1 : Int32) (hst : (rest.map fun v => v.category).sum ≤ 8) (hd : decode cc pc = .ok (.invokevirtual 229, 3)) (hq : pc + 3 = q) (hw : wp_X7_gather x1 K σ) (kk : ∀ (τ : St), K τ → At X nL q lv (rest) τ) : At X nL pc lv (.int (x1) :: .ref (X.kad 75) :: rest) σ := r_callV (n := 1) q hX (k0 := 75) (c_X7_gather x1) tw_677 tw_678 tw_679 tw_517 tw_680 ⟨by decide +kernel, by decide +kernel, by decide +kernel⟩ hdc (by decide) (As := [.int (x1)]) rfl rfl (by decide) ⟨_, _, _, rfl, rfl, rfl⟩ hst hd hq rfl (K := qV K) hw (kV kk)
theorem k_X7_233_X7_goTogether {X : Cx} {cc : ByteArray} {nL d pc : Nat} {lv : List (Nat × Value)} {rest : List Value} {σ : St} {K : Int32 → St → Prop} (q : Nat) (hX : CxB X RX7 cc nL d) (hdc : 6 + 1 ≤ d) (hst : (rest.map fun v => v.category).sum ≤ 8) (hd : decode cc pc = .ok (.invokevirtual 233, 3)) (hq : pc + 3 = q) (hw : wp_X7_goTogether  K σ) (kk : ∀ (r : Int32) (τ : St), K r τ → At X nL q lv (.int r :: rest) τ) : At X nL pc lv (.ref (X.kad 75) :: rest) σ := r_callV (n := 0) q hX (k0 := 75) (c_X7_goTogether ) tw_681 tw_682 tw_683 tw_517 tw_684 ⟨by decide +kernel, by decide +kernel, by decide +kernel⟩ hdc (by decide) (As := []) rfl rfl (by decide) ⟨_, _, _, rfl, rfl, rfl⟩ hst hd hq rfl (K := qI K) hw (kI kk)
set_option maxRecDepth 20000 in
set_option maxHeartbeats 4000000 in
theorem c_X7_together (x1 : Int32) (x2 : Int32) : Con yX7_together cX7_together 4 (some .int) (7) (fun ad => [.ref (ad 75), .int (x1), .int (x2)]) (fun Q σ => wp_X7_together x1 x2 (aI Q) σ) := by
  refine con_intro (by decide +kernel) (fun _ => Nat.le_of_ble_eq_true rfl) (by omega) (fun X Q σ hX hR hw => ?_)
  have hX : CxB X RX7 cX7_together 4 (7) := hX
  unfold wp_X7_together at hw
  show At X 4 0 [(0, .ref (X.kad 75)), (1, .int (x1)), (2, .int (x2))] [] σ
  refine r_aload_n 1 hX dX7_together_0 rfl rfl 0 rfl ?_
  refine r_iload_n 2 hX dX7_together_1 rfl rfl 1 rfl ?_
  refine k_X7_226_X7_isSet 5 hX (by omega) (x1) (Nat.le_of_ble_eq_true rfl) dX7_together_2 rfl hw (fun r2 σ2 hw => ?_)
  refine r_if_eq 17 8 hX dX7_together_5 (by decide) rfl hw (fun hw => ?_) (fun hw => ?_)
  · refine r_iconst 18 hX dX7_together_17 rfl (-1) ic_m1 ?_
    exact r_iret hX hR dX7_together_18 hw
  · refine r_iload_n 9 hX dX7_together_8 rfl rfl 2 rfl ?_
    refine r_iconst 10 hX dX7_together_9 rfl 0 ic_0 ?_
    refine r_iconst 11 hX dX7_together_10 rfl 1 ic_1 ?_
    refine k_X7_85_X7_in 14 hX (by omega) (x2) (0) (1) (Nat.le_of_ble_eq_true rfl) dX7_together_11 rfl hw (fun r11 σ11 hw => ?_)
    refine r_if_ne 19 17 hX dX7_together_14 (by decide) rfl hw (fun hw => ?_) (fun hw => ?_)
    · refine r_aload_n 20 hX dX7_together_19 rfl rfl 0 rfl ?_
      refine r_iload_n 21 hX dX7_together_20 rfl rfl 1 rfl ?_
      refine k_X7_229_X7_gather 24 hX (by omega) (x1) (Nat.le_of_ble_eq_true rfl) dX7_together_21 rfl hw (fun σ21 hw => ?_)
      refine r_aload_n 25 hX dX7_together_24 rfl rfl 0 rfl ?_
      refine k_X7_233_X7_goTogether 28 hX (by omega)  (Nat.le_of_ble_eq_true rfl) dX7_together_25 rfl hw (fun r25 σ25 hw => ?_)
      refine r_istore_n (lv' := [(3, .int (r25)), (0, .ref (X.kad 75)), (1, .int (x1)), (2, .int (x2))]) 29 hX dX7_together_28 rfl rfl (by decide) rfl ?_
      refine r_iload_n 30 hX dX7_together_29 rfl rfl 0 rfl ?_
      refine r_bipush 32 hX dX7_together_30 rfl (-9) bi_m9 ?_
      refine r_icmp_eq 39 35 hX dX7_together_32 (by decide) rfl hw (fun hw => ?_) (fun hw => ?_)
      · refine r_iload_n 40 hX dX7_together_39 rfl rfl 0 rfl ?_
        refine r_goto 61 hX dX7_together_40 (by decide) ?_
        exact r_iret hX hR dX7_together_61 hw
      · refine r_iload_n 36 hX dX7_together_35 rfl rfl 3 rfl ?_
        refine r_if_ne 43 39 hX dX7_together_36 (by decide) rfl hw (fun hw => ?_) (fun hw => ?_)
        · refine r_aload_n 44 hX dX7_together_43 rfl rfl 1 rfl ?_
          refine g_X7_63_75 47 hX dX7_together_44 rfl ?_
          refine r_sipush 50 hX dX7_together_47 rfl 1000 si_1000 ?_
          refine r_aload_n 51 hX dX7_together_50 rfl rfl 1 rfl ?_
          refine g_X7_180_75 54 hX dX7_together_51 rfl ?_
          refine r_imul 55 hX dX7_together_54 rfl ?_
          refine r_aload_n 56 hX dX7_together_55 rfl rfl 1 rfl ?_
          refine k_X7_220_X7_firstSpot 59 hX (by omega)  (Nat.le_of_ble_eq_true rfl) dX7_together_56 rfl hw (fun r56 σ56 hw => ?_)
          refine r_iadd 60 hX dX7_together_59 rfl ?_
          refine r_iald 61 hX sh_93 dX7_together_60 rfl hw (fun hw => ?_)
          exact r_iret hX hR dX7_together_61 hw
        · refine r_iload_n 40 hX dX7_together_39 rfl rfl 0 rfl ?_
          refine r_goto 61 hX dX7_together_40 (by decide) ?_
          exact r_iret hX hR dX7_together_61 hw
    · refine r_iconst 18 hX dX7_together_17 rfl (-1) ic_m1 ?_
      exact r_iret hX hR dX7_together_18 hw
set_option maxRecDepth 20000 in
set_option maxHeartbeats 4000000 in
theorem c_X7_bitsIn (x0 : Int32) : Con yX7_bitsIn cX7_bitsIn 1 (some .int) (1) (fun ad => [.int (x0)]) (fun Q σ => wp_X7_bitsIn x0 (aI Q) σ) := by
  refine con_intro (by decide +kernel) (fun _ => Nat.le_of_ble_eq_true rfl) (by omega) (fun X Q σ hX hR hw => ?_)
  have hX : CxB X RX7 cX7_bitsIn 1 (1) := hX
  unfold wp_X7_bitsIn at hw
  show At X 1 0 [(0, .int (x0))] [] σ
  refine r_iload_n 1 hX dX7_bitsIn_0 rfl rfl 0 rfl ?_
  refine r_iconst 2 hX dX7_bitsIn_1 rfl 1 ic_1 ?_
  refine r_iand 3 hX dX7_bitsIn_2 rfl ?_
  refine r_iload_n 4 hX dX7_bitsIn_3 rfl rfl 0 rfl ?_
  refine r_iconst 5 hX dX7_bitsIn_4 rfl 1 ic_1 ?_
  refine r_ishr 6 hX dX7_bitsIn_5 rfl ?_
  refine r_iconst 7 hX dX7_bitsIn_6 rfl 1 ic_1 ?_
  refine r_iand 8 hX dX7_bitsIn_7 rfl ?_
  refine r_iadd 9 hX dX7_bitsIn_8 rfl ?_
  refine r_iload_n 10 hX dX7_bitsIn_9 rfl rfl 0 rfl ?_
  refine r_iconst 11 hX dX7_bitsIn_10 rfl 2 ic_2 ?_
  refine r_ishr 12 hX dX7_bitsIn_11 rfl ?_
  refine r_iconst 13 hX dX7_bitsIn_12 rfl 1 ic_1 ?_
  refine r_iand 14 hX dX7_bitsIn_13 rfl ?_
  refine r_iadd 15 hX dX7_bitsIn_14 rfl ?_
  exact r_iret hX hR dX7_bitsIn_15 hw
theorem k_X7_236_X7_bitsIn {X : Cx} {cc : ByteArray} {nL d pc : Nat} {lv : List (Nat × Value)} {rest : List Value} {σ : St} {K : Int32 → St → Prop} (q : Nat) (hX : CxB X RX7 cc nL d) (hdc : 1 + 1 ≤ d) (x0 : Int32) (hst : (rest.map fun v => v.category).sum ≤ 8) (hd : decode cc pc = .ok (.invokestatic 236, 3)) (hq : pc + 3 = q) (hw : wp_X7_bitsIn x0 K σ) (kk : ∀ (r : Int32) (τ : St), K r τ → At X nL q lv (.int r :: rest) τ) : At X nL pc lv (.int (x0) :: rest) σ := r_callS (n := 1) q hX (c_X7_bitsIn x0) tw_685 tw_686 tw_517 tw_687 ⟨by decide +kernel, by decide +kernel, by decide +kernel⟩ hdc (by decide) (As := [.int (x0)]) rfl rfl hst hd hq rfl (K := qI K) hw (kI kk)
set_option maxRecDepth 20000 in
set_option maxHeartbeats 4000000 in
theorem w_X7_share_b57 {X : Cx} {Q : RV → St → Prop} (hX : CxB X RX7 cX7_share 4 (7)) (hR : CxR X (some .int) Q) {K15 : Int32 → Int32 → Int32 → St → Prop} (hK15 : ∀ (x1 : Int32) (x2 : Int32) (x3 : Int32) (σ : St), K15 x1 x2 x3 σ → At X 4 15 [(0, .ref (X.kad 75)), (1, .int (x1)), (2, .int (x2)), (3, .int (x3))] [] σ) (x1 : Int32) (x3 : Int32) (s0 : Int32) (σ : St) (hw : wp_X7_share_b57 (aI Q) K15 x1 x3 s0 σ) : At X 4 57 [(0, .ref (X.kad 75)), (1, .int (x1)), (3, .int (x3))] [.int (s0)] σ := by
  unfold wp_X7_share_b57 at hw
  refine r_istore_n (lv' := [(2, .int (s0)), (0, .ref (X.kad 75)), (1, .int (x1)), (3, .int (x3))]) 58 hX dX7_share_57 rfl rfl (by decide) rfl ?_
  refine r_iinc (lv' := [(3, .int (x3 + 1)), (2, .int (s0)), (0, .ref (X.kad 75)), (1, .int (x1))]) 61 hX dX7_share_58 rfl 3 rfl (x3 + 1) (ici_1 _) (by decide) rfl ?_
  refine r_goto 15 hX dX7_share_61 (by decide) ?_
  refine r_sub [2, 3, 1, 0] rfl ?_
  exact hK15 _ _ _ _ hw
set_option maxRecDepth 20000 in
set_option maxHeartbeats 4000000 in
theorem w_X7_share_b15 {X : Cx} {Q : RV → St → Prop} (hX : CxB X RX7 cX7_share 4 (7)) (hR : CxR X (some .int) Q) {K15 : Int32 → Int32 → Int32 → St → Prop} (hK15 : ∀ (x1 : Int32) (x2 : Int32) (x3 : Int32) (σ : St), K15 x1 x2 x3 σ → At X 4 15 [(0, .ref (X.kad 75)), (1, .int (x1)), (2, .int (x2)), (3, .int (x3))] [] σ) (x1 : Int32) (x2 : Int32) (x3 : Int32) (σ : St) (hw : wp_X7_share_b15 (aI Q) K15 x1 x2 x3 σ) : At X 4 15 [(0, .ref (X.kad 75)), (1, .int (x1)), (2, .int (x2)), (3, .int (x3))] [] σ := by
  unfold wp_X7_share_b15 at hw
  refine r_iload_n 16 hX dX7_share_15 rfl rfl 3 rfl ?_
  refine r_iconst 17 hX dX7_share_16 rfl 1 ic_1 ?_
  refine r_aload_n 18 hX dX7_share_17 rfl rfl 0 rfl ?_
  refine g_X7_20_75 21 hX dX7_share_18 rfl ?_
  refine r_iconst 22 hX dX7_share_21 rfl 0 ic_0 ?_
  refine r_iald 23 hX sh_79 dX7_share_22 rfl hw (fun hw => ?_)
  refine r_ishl 24 hX dX7_share_23 rfl ?_
  refine r_icmp_ge 64 27 hX dX7_share_24 (by decide) rfl hw (fun hw => ?_) (fun hw => ?_)
  · refine r_iload_n 65 hX dX7_share_64 rfl rfl 1 rfl ?_
    refine r_if_ne 72 68 hX dX7_share_65 (by decide) rfl hw (fun hw => ?_) (fun hw => ?_)
    · refine r_iload_n 73 hX dX7_share_72 rfl rfl 2 rfl ?_
      refine k_X7_236_X7_bitsIn 76 hX (by omega) (x2) (Nat.le_of_ble_eq_true rfl) dX7_share_73 rfl hw (fun r73 σ73 hw => ?_)
      exact r_iret hX hR dX7_share_76 hw
    · refine r_iload_n 69 hX dX7_share_68 rfl rfl 2 rfl ?_
      refine r_goto 76 hX dX7_share_69 (by decide) ?_
      exact r_iret hX hR dX7_share_76 hw
  · refine r_iload_n 28 hX dX7_share_27 rfl rfl 3 rfl ?_
    refine k_X7_236_X7_bitsIn 31 hX (by omega) (x3) (Nat.le_of_ble_eq_true rfl) dX7_share_28 rfl hw (fun r28 σ28 hw => ?_)
    refine r_iload_n 32 hX dX7_share_31 rfl rfl 2 rfl ?_
    refine k_X7_236_X7_bitsIn 35 hX (by omega) (x2) (Nat.le_of_ble_eq_true rfl) dX7_share_32 rfl hw (fun r32 σ32 hw => ?_)
    refine r_icmp_le 58 38 hX dX7_share_35 (by decide) rfl hw (fun hw => ?_) (fun hw => ?_)
    · refine r_iinc (lv' := [(3, .int (x3 + 1)), (0, .ref (X.kad 75)), (1, .int (x1)), (2, .int (x2))]) 61 hX dX7_share_58 rfl 3 rfl (x3 + 1) (ici_1 _) (by decide) rfl ?_
      refine r_goto 15 hX dX7_share_61 (by decide) ?_
      refine r_sub [1, 2, 3, 0] rfl ?_
      exact hK15 _ _ _ _ hw
    · refine r_aload_n 39 hX dX7_share_38 rfl rfl 0 rfl ?_
      refine r_iload_n 40 hX dX7_share_39 rfl rfl 3 rfl ?_
      refine k_X7_229_X7_gather 43 hX (by omega) (x3) (Nat.le_of_ble_eq_true rfl) dX7_share_40 rfl hw (fun σ40 hw => ?_)
      refine r_aload_n 44 hX dX7_share_43 rfl rfl 0 rfl ?_
      refine k_X7_233_X7_goTogether 47 hX (by omega)  (Nat.le_of_ble_eq_true rfl) dX7_share_44 rfl hw (fun r44 σ44 hw => ?_)
      refine r_bipush 49 hX dX7_share_47 rfl (-9) bi_m9 ?_
      refine r_icmp_ne 56 52 hX dX7_share_49 (by decide) rfl hw (fun hw => ?_) (fun hw => ?_)
      · refine r_iload_n 57 hX dX7_share_56 rfl rfl 3 rfl ?_
        refine r_sub [0, 1, 3] rfl ?_
        exact w_X7_share_b57 hX hR hK15 _ _ _ _ hw
      · refine r_iload_n 53 hX dX7_share_52 rfl rfl 2 rfl ?_
        refine r_goto 57 hX dX7_share_53 (by decide) ?_
        refine r_sub [0, 1, 3] rfl ?_
        exact w_X7_share_b57 hX hR hK15 _ _ _ _ hw
set_option maxRecDepth 20000 in
set_option maxHeartbeats 4000000 in
theorem w_X7_share_l15 {X : Cx} {Q : RV → St → Prop} (hX : CxB X RX7 cX7_share 4 (7)) (hR : CxR X (some .int) Q) (n : Nat) : ∀ (x1 : Int32) (x2 : Int32) (x3 : Int32) (σ : St), wp_X7_share_l15 (aI Q)  n x1 x2 x3 σ → At X 4 15 [(0, .ref (X.kad 75)), (1, .int (x1)), (2, .int (x2)), (3, .int (x3))] [] σ := by
  induction n with
  | zero => intro x1 x2 x3 σ h; exact h.elim
  | succ n ih => intro x1 x2 x3 σ h; exact w_X7_share_b15  hX hR ih x1 x2 x3 σ h
set_option maxRecDepth 20000 in
set_option maxHeartbeats 4000000 in
theorem c_X7_share (x1 : Int32) : Con yX7_share cX7_share 4 (some .int) (7) (fun ad => [.ref (ad 75), .int (x1)]) (fun Q σ => wp_X7_share x1 (aI Q) σ) := by
  refine con_intro (by decide +kernel) (fun _ => Nat.le_of_ble_eq_true rfl) (by omega) (fun X Q σ hX hR hw => ?_)
  have hX : CxB X RX7 cX7_share 4 (7) := hX
  unfold wp_X7_share at hw
  show At X 4 0 [(0, .ref (X.kad 75)), (1, .int (x1))] [] σ
  refine r_iload_n 1 hX dX7_share_0 rfl rfl 1 rfl ?_
  refine r_iconst 2 hX dX7_share_1 rfl 0 ic_0 ?_
  refine r_iconst 3 hX dX7_share_2 rfl 1 ic_1 ?_
  refine k_X7_85_X7_in 6 hX (by omega) (x1) (0) (1) (Nat.le_of_ble_eq_true rfl) dX7_share_3 rfl hw (fun r3 σ3 hw => ?_)
  refine r_if_ne 11 9 hX dX7_share_6 (by decide) rfl hw (fun hw => ?_) (fun hw => ?_)
  · refine r_iconst 12 hX dX7_share_11 rfl 0 ic_0 ?_
    refine r_istore_n (lv' := [(2, .int (0)), (0, .ref (X.kad 75)), (1, .int (x1))]) 13 hX dX7_share_12 rfl rfl (by decide) rfl ?_
    refine r_iconst 14 hX dX7_share_13 rfl 1 ic_1 ?_
    refine r_istore_n (lv' := [(3, .int (1)), (2, .int (0)), (0, .ref (X.kad 75)), (1, .int (x1))]) 15 hX dX7_share_14 rfl rfl (by decide) rfl ?_
    refine r_sub [2, 3, 1, 0] rfl ?_
    obtain ⟨n, hw⟩ := hw
    exact w_X7_share_l15 hX hR n _ _ _ _ hw
  · refine r_iconst 10 hX dX7_share_9 rfl (-1) ic_m1 ?_
    exact r_iret hX hR dX7_share_10 hw
set_option maxRecDepth 20000 in
set_option maxHeartbeats 4000000 in
theorem w_X7_more_b70 {X : Cx} {Q : RV → St → Prop} (hX : CxB X RX7 cX7_more 7 (7)) (hR : CxR X (some .int) Q) {K70 : Int32 → Int32 → Int32 → Int32 → Int32 → Int32 → St → Prop} (hK70 : ∀ (x1 : Int32) (x2 : Int32) (x3 : Int32) (x4 : Int32) (x5 : Int32) (x6 : Int32) (σ : St), K70 x1 x2 x3 x4 x5 x6 σ → At X 7 70 [(0, .ref (X.kad 75)), (1, .int (x1)), (2, .int (x2)), (3, .int (x3)), (4, .int (x4)), (5, .int (x5)), (6, .int (x6))] [] σ) (x1 : Int32) (x2 : Int32) (x3 : Int32) (x4 : Int32) (x5 : Int32) (x6 : Int32) (σ : St) (hw : wp_X7_more_b70 (aI Q) K70 x1 x2 x3 x4 x5 x6 σ) : At X 7 70 [(0, .ref (X.kad 75)), (1, .int (x1)), (2, .int (x2)), (3, .int (x3)), (4, .int (x4)), (5, .int (x5)), (6, .int (x6))] [] σ := by
  unfold wp_X7_more_b70 at hw
  refine r_iload 72 hX dX7_more_70 rfl 6 rfl ?_
  refine r_if_lt 110 75 hX dX7_more_72 (by decide) rfl hw (fun hw => ?_) (fun hw => ?_)
  · refine r_iload_n 111 hX dX7_more_110 rfl rfl 3 rfl ?_
    refine r_if_ne 119 114 hX dX7_more_111 (by decide) rfl hw (fun hw => ?_) (fun hw => ?_)
    · refine r_iload 121 hX dX7_more_119 rfl 5 rfl ?_
      exact r_iret hX hR dX7_more_121 hw
    · refine r_iload 116 hX dX7_more_114 rfl 4 rfl ?_
      refine r_goto 121 hX dX7_more_116 (by decide) ?_
      exact r_iret hX hR dX7_more_121 hw
  · refine r_aload_n 76 hX dX7_more_75 rfl rfl 0 rfl ?_
    refine r_iload_n 77 hX dX7_more_76 rfl rfl 1 rfl ?_
    refine k_X7_229_X7_gather 80 hX (by omega) (x1) (Nat.le_of_ble_eq_true rfl) dX7_more_77 rfl hw (fun σ77 hw => ?_)
    refine r_aload_n 81 hX dX7_more_80 rfl rfl 0 rfl ?_
    refine r_iload_n 82 hX dX7_more_81 rfl rfl 2 rfl ?_
    refine r_iload 84 hX dX7_more_82 rfl 6 rfl ?_
    refine r_iconst 85 hX dX7_more_84 rfl (-1) ic_m1 ?_
    refine k_X7_186_X7_add 88 hX (by omega) (x2) (x6) ((-1)) (Nat.le_of_ble_eq_true rfl) dX7_more_85 rfl hw (fun σ85 hw => ?_)
    refine r_aload_n 89 hX dX7_more_88 rfl rfl 0 rfl ?_
    refine k_X7_233_X7_goTogether 92 hX (by omega)  (Nat.le_of_ble_eq_true rfl) dX7_more_89 rfl hw (fun r89 σ89 hw => ?_)
    refine r_bipush 94 hX dX7_more_92 rfl (-9) bi_m9 ?_
    refine r_icmp_eq 104 97 hX dX7_more_94 (by decide) rfl hw (fun hw => ?_) (fun hw => ?_)
    · refine r_iinc (lv' := [(6, .int (x6 + (-1))), (0, .ref (X.kad 75)), (1, .int (x1)), (2, .int (x2)), (3, .int (x3)), (4, .int (x4)), (5, .int (x5))]) 107 hX dX7_more_104 rfl 6 rfl (x6 + (-1)) (ici_m1 _) (by decide) rfl ?_
      refine r_goto 70 hX dX7_more_107 (by decide) ?_
      refine r_sub [1, 2, 3, 4, 5, 6, 0] rfl ?_
      exact hK70 _ _ _ _ _ _ _ hw
    · refine r_iinc (lv' := [(4, .int (x4 + 1)), (0, .ref (X.kad 75)), (1, .int (x1)), (2, .int (x2)), (3, .int (x3)), (5, .int (x5)), (6, .int (x6))]) 100 hX dX7_more_97 rfl 4 rfl (x4 + 1) (ici_1 _) (by decide) rfl ?_
      refine r_iload 102 hX dX7_more_100 rfl 6 rfl ?_
      refine r_istore (lv' := [(5, .int (x6)), (4, .int (x4 + 1)), (0, .ref (X.kad 75)), (1, .int (x1)), (2, .int (x2)), (3, .int (x3)), (6, .int (x6))]) 104 hX dX7_more_102 rfl (by decide) rfl ?_
      refine r_iinc (lv' := [(6, .int (x6 + (-1))), (5, .int (x6)), (4, .int (x4 + 1)), (0, .ref (X.kad 75)), (1, .int (x1)), (2, .int (x2)), (3, .int (x3))]) 107 hX dX7_more_104 rfl 6 rfl (x6 + (-1)) (ici_m1 _) (by decide) rfl ?_
      refine r_goto 70 hX dX7_more_107 (by decide) ?_
      refine r_sub [3, 4, 5, 6, 2, 1, 0] rfl ?_
      exact hK70 _ _ _ _ _ _ _ hw
set_option maxRecDepth 20000 in
set_option maxHeartbeats 4000000 in
theorem w_X7_more_l70 {X : Cx} {Q : RV → St → Prop} (hX : CxB X RX7 cX7_more 7 (7)) (hR : CxR X (some .int) Q) (n : Nat) : ∀ (x1 : Int32) (x2 : Int32) (x3 : Int32) (x4 : Int32) (x5 : Int32) (x6 : Int32) (σ : St), wp_X7_more_l70 (aI Q)  n x1 x2 x3 x4 x5 x6 σ → At X 7 70 [(0, .ref (X.kad 75)), (1, .int (x1)), (2, .int (x2)), (3, .int (x3)), (4, .int (x4)), (5, .int (x5)), (6, .int (x6))] [] σ := by
  induction n with
  | zero => intro x1 x2 x3 x4 x5 x6 σ h; exact h.elim
  | succ n ih => intro x1 x2 x3 x4 x5 x6 σ h; exact w_X7_more_b70  hX hR ih x1 x2 x3 x4 x5 x6 σ h
set_option maxRecDepth 20000 in
set_option maxHeartbeats 4000000 in
theorem c_X7_more (x1 : Int32) (x2 : Int32) (x3 : Int32) : Con yX7_more cX7_more 7 (some .int) (7) (fun ad => [.ref (ad 75), .int (x1), .int (x2), .int (x3)]) (fun Q σ => wp_X7_more x1 x2 x3 (aI Q) σ) := by
  refine con_intro (by decide +kernel) (fun _ => Nat.le_of_ble_eq_true rfl) (by omega) (fun X Q σ hX hR hw => ?_)
  have hX : CxB X RX7 cX7_more 7 (7) := hX
  unfold wp_X7_more at hw
  show At X 7 0 [(0, .ref (X.kad 75)), (1, .int (x1)), (2, .int (x2)), (3, .int (x3))] [] σ
  refine r_iload_n 1 hX dX7_more_0 rfl rfl 1 rfl ?_
  refine r_iconst 2 hX dX7_more_1 rfl 0 ic_0 ?_
  refine r_iconst 3 hX dX7_more_2 rfl 1 ic_1 ?_
  refine r_aload_n 4 hX dX7_more_3 rfl rfl 0 rfl ?_
  refine g_X7_20_75 7 hX dX7_more_4 rfl ?_
  refine r_iconst 8 hX dX7_more_7 rfl 0 ic_0 ?_
  refine r_iald 9 hX sh_79 dX7_more_8 rfl hw (fun hw => ?_)
  refine r_ishl 10 hX dX7_more_9 rfl ?_
  refine r_iconst 11 hX dX7_more_10 rfl 1 ic_1 ?_
  refine r_isub 12 hX dX7_more_11 rfl ?_
  refine k_X7_85_X7_in 15 hX (by omega) (x1) (0) (((1 : Int32) <<< ((σ.1 79 (0 : Int32).toNatClampNeg) &&& 31)) - 1) (Nat.le_of_ble_eq_true rfl) dX7_more_12 rfl hw (fun r12 σ12 hw => ?_)
  refine r_if_eq 51 18 hX dX7_more_15 (by decide) rfl hw (fun hw => ?_) (fun hw => ?_)
  · refine r_iconst 52 hX dX7_more_51 rfl (-1) ic_m1 ?_
    exact r_iret hX hR dX7_more_52 hw
  · refine r_iload_n 19 hX dX7_more_18 rfl rfl 1 rfl ?_
    refine k_X7_236_X7_bitsIn 22 hX (by omega) (x1) (Nat.le_of_ble_eq_true rfl) dX7_more_19 rfl hw (fun r19 σ19 hw => ?_)
    refine r_iconst 23 hX dX7_more_22 rfl 3 ic_3 ?_
    refine r_icmp_eq 51 26 hX dX7_more_23 (by decide) rfl hw (fun hw => ?_) (fun hw => ?_)
    · refine r_iconst 52 hX dX7_more_51 rfl (-1) ic_m1 ?_
      exact r_iret hX hR dX7_more_52 hw
    · refine r_iload_n 27 hX dX7_more_26 rfl rfl 2 rfl ?_
      refine r_iconst 28 hX dX7_more_27 rfl 0 ic_0 ?_
      refine r_aload_n 29 hX dX7_more_28 rfl rfl 0 rfl ?_
      refine g_X7_17_75 32 hX dX7_more_29 rfl ?_
      refine r_iconst 33 hX dX7_more_32 rfl 0 ic_0 ?_
      refine r_iald 34 hX sh_78 dX7_more_33 rfl hw (fun hw => ?_)
      refine r_iconst 35 hX dX7_more_34 rfl 2 ic_2 ?_
      refine r_isub 36 hX dX7_more_35 rfl ?_
      refine k_X7_85_X7_in 39 hX (by omega) (x2) (0) ((σ19.1 78 (0 : Int32).toNatClampNeg) - 2) (Nat.le_of_ble_eq_true rfl) dX7_more_36 rfl hw (fun r36 σ36 hw => ?_)
      refine r_if_eq 51 42 hX dX7_more_39 (by decide) rfl hw (fun hw => ?_) (fun hw => ?_)
      · refine r_iconst 52 hX dX7_more_51 rfl (-1) ic_m1 ?_
        exact r_iret hX hR dX7_more_52 hw
      · refine r_iload_n 43 hX dX7_more_42 rfl rfl 3 rfl ?_
        refine r_iconst 44 hX dX7_more_43 rfl 0 ic_0 ?_
        refine r_iconst 45 hX dX7_more_44 rfl 1 ic_1 ?_
        refine k_X7_85_X7_in 48 hX (by omega) (x3) (0) (1) (Nat.le_of_ble_eq_true rfl) dX7_more_45 rfl hw (fun r45 σ45 hw => ?_)
        refine r_if_ne 53 51 hX dX7_more_48 (by decide) rfl hw (fun hw => ?_) (fun hw => ?_)
        · refine r_iconst 54 hX dX7_more_53 rfl 0 ic_0 ?_
          refine r_istore (lv' := [(4, .int (0)), (0, .ref (X.kad 75)), (1, .int (x1)), (2, .int (x2)), (3, .int (x3))]) 56 hX dX7_more_54 rfl (by decide) rfl ?_
          refine r_bipush 58 hX dX7_more_56 rfl (-9) bi_m9 ?_
          refine r_istore (lv' := [(5, .int ((-9))), (4, .int (0)), (0, .ref (X.kad 75)), (1, .int (x1)), (2, .int (x2)), (3, .int (x3))]) 60 hX dX7_more_58 rfl (by decide) rfl ?_
          refine r_aload_n 61 hX dX7_more_60 rfl rfl 2 rfl ?_
          refine g_X7_13_75 64 hX dX7_more_61 rfl ?_
          refine r_iconst 65 hX dX7_more_64 rfl 0 ic_0 ?_
          refine r_iald 66 hX sh_77 dX7_more_65 rfl hw (fun hw => ?_)
          refine r_iconst 67 hX dX7_more_66 rfl 1 ic_1 ?_
          refine r_isub 68 hX dX7_more_67 rfl ?_
          refine r_topi hw (fun v68 hw => ?_)
          refine r_istore (lv' := [(6, .int (v68)), (5, .int ((-9))), (4, .int (0)), (0, .ref (X.kad 75)), (1, .int (x1)), (2, .int (x2)), (3, .int (x3))]) 70 hX dX7_more_68 rfl (by decide) rfl ?_
          refine r_sub [3, 4, 5, 6, 2, 1, 0] rfl ?_
          obtain ⟨n, hw⟩ := hw
          exact w_X7_more_l70 hX hR n _ _ _ _ _ _ _ hw
        · refine r_iconst 52 hX dX7_more_51 rfl (-1) ic_m1 ?_
          exact r_iret hX hR dX7_more_52 hw
set_option maxRecDepth 20000 in
set_option maxHeartbeats 4000000 in
theorem w_X7_take_b99 {X : Cx} {Q : RV → St → Prop} (hX : CxB X RX7 cX7_take 6 (7)) (hR : CxR X (some .int) Q) {K37 : Int32 → Int32 → Int32 → St → Prop} (hK37 : ∀ (x1 : Int32) (x2 : Int32) (x3 : Int32) (σ : St), K37 x1 x2 x3 σ → At X 6 37 [(0, .ref (X.kad 75)), (1, .int (x1)), (2, .int (x2)), (3, .int (x3))] [] σ) {K53 : Int32 → Int32 → Int32 → Int32 → Int32 → St → Prop} (hK53 : ∀ (x1 : Int32) (x2 : Int32) (x3 : Int32) (x4 : Int32) (x5 : Int32) (σ : St), K53 x1 x2 x3 x4 x5 σ → At X 6 53 [(0, .ref (X.kad 75)), (1, .int (x1)), (2, .int (x2)), (3, .int (x3)), (4, .int (x4)), (5, .int (x5))] [] σ) (x1 : Int32) (x2 : Int32) (x3 : Int32) (x4 : Int32) (x5 : Int32) (σ : St) (hw : wp_X7_take_b99 (aI Q) K37 K53 x1 x2 x3 x4 x5 σ) : At X 6 99 [(0, .ref (X.kad 75)), (1, .int (x1)), (2, .int (x2)), (3, .int (x3)), (4, .int (x4)), (5, .int (x5))] [] σ := by
  unfold wp_X7_take_b99 at hw
  refine r_iinc (lv' := [(4, .int (x4 + 1)), (0, .ref (X.kad 75)), (1, .int (x1)), (2, .int (x2)), (3, .int (x3)), (5, .int (x5))]) 102 hX dX7_take_99 rfl 4 rfl (x4 + 1) (ici_1 _) (by decide) rfl ?_
  refine r_iinc (lv' := [(5, .int (x5 + 1)), (4, .int (x4 + 1)), (0, .ref (X.kad 75)), (1, .int (x1)), (2, .int (x2)), (3, .int (x3))]) 105 hX dX7_take_102 rfl 5 rfl (x5 + 1) (ici_1 _) (by decide) rfl ?_
  refine r_goto 53 hX dX7_take_105 (by decide) ?_
  refine r_sub [2, 3, 4, 5, 1, 0] rfl ?_
  exact hK53 _ _ _ _ _ _ hw
set_option maxRecDepth 20000 in
set_option maxHeartbeats 4000000 in
theorem w_X7_take_b53 {X : Cx} {Q : RV → St → Prop} (hX : CxB X RX7 cX7_take 6 (7)) (hR : CxR X (some .int) Q) {K37 : Int32 → Int32 → Int32 → St → Prop} (hK37 : ∀ (x1 : Int32) (x2 : Int32) (x3 : Int32) (σ : St), K37 x1 x2 x3 σ → At X 6 37 [(0, .ref (X.kad 75)), (1, .int (x1)), (2, .int (x2)), (3, .int (x3))] [] σ) {K53 : Int32 → Int32 → Int32 → Int32 → Int32 → St → Prop} (hK53 : ∀ (x1 : Int32) (x2 : Int32) (x3 : Int32) (x4 : Int32) (x5 : Int32) (σ : St), K53 x1 x2 x3 x4 x5 σ → At X 6 53 [(0, .ref (X.kad 75)), (1, .int (x1)), (2, .int (x2)), (3, .int (x3)), (4, .int (x4)), (5, .int (x5))] [] σ) (x1 : Int32) (x2 : Int32) (x3 : Int32) (x4 : Int32) (x5 : Int32) (σ : St) (hw : wp_X7_take_b53 (aI Q) K37 K53 x1 x2 x3 x4 x5 σ) : At X 6 53 [(0, .ref (X.kad 75)), (1, .int (x1)), (2, .int (x2)), (3, .int (x3)), (4, .int (x4)), (5, .int (x5))] [] σ := by
  unfold wp_X7_take_b53 at hw
  refine r_iload 55 hX dX7_take_53 rfl 5 rfl ?_
  refine r_iconst 56 hX dX7_take_55 rfl 3 ic_3 ?_
  refine r_icmp_ge 108 59 hX dX7_take_56 (by decide) rfl hw (fun hw => ?_) (fun hw => ?_)
  · refine r_iload_n 109 hX dX7_take_108 rfl rfl 3 rfl ?_
    refine r_aload_n 110 hX dX7_take_109 rfl rfl 0 rfl ?_
    refine g_X7_17_75 113 hX dX7_take_110 rfl ?_
    refine r_iconst 114 hX dX7_take_113 rfl 0 ic_0 ?_
    refine r_iald 115 hX sh_78 dX7_take_114 rfl hw (fun hw => ?_)
    refine r_iconst 116 hX dX7_take_115 rfl 1 ic_1 ?_
    refine r_isub 117 hX dX7_take_116 rfl ?_
    refine r_icmp_ge 132 120 hX dX7_take_117 (by decide) rfl hw (fun hw => ?_) (fun hw => ?_)
    · refine r_iinc (lv' := [(3, .int (x3 + 1)), (0, .ref (X.kad 75)), (1, .int (x1)), (2, .int (x2)), (4, .int (x4)), (5, .int (x5))]) 135 hX dX7_take_132 rfl 3 rfl (x3 + 1) (ici_1 _) (by decide) rfl ?_
      refine r_goto 37 hX dX7_take_135 (by decide) ?_
      refine r_sub [1, 2, 3, 0] rfl ?_
      exact hK37 _ _ _ _ hw
    · refine r_aload_n 121 hX dX7_take_120 rfl rfl 0 rfl ?_
      refine r_iload_n 122 hX dX7_take_121 rfl rfl 3 rfl ?_
      refine r_iload_n 123 hX dX7_take_122 rfl rfl 2 rfl ?_
      refine k_X7_214_X7_leastNext 126 hX (by omega) (x3) (x2) (Nat.le_of_ble_eq_true rfl) dX7_take_123 rfl hw (fun r123 σ123 hw => ?_)
      refine r_pop 127 hX dX7_take_126 rfl rfl ?_
      refine r_aload_n 128 hX dX7_take_127 rfl rfl 0 rfl ?_
      refine g_X7_196_75 131 hX dX7_take_128 rfl ?_
      refine r_istore_n (lv' := [(2, .int (σ123.1 75 29)), (0, .ref (X.kad 75)), (1, .int (x1)), (3, .int (x3)), (4, .int (x4)), (5, .int (x5))]) 132 hX dX7_take_131 rfl rfl (by decide) rfl ?_
      refine r_iinc (lv' := [(3, .int (x3 + 1)), (2, .int (σ123.1 75 29)), (0, .ref (X.kad 75)), (1, .int (x1)), (4, .int (x4)), (5, .int (x5))]) 135 hX dX7_take_132 rfl 3 rfl (x3 + 1) (ici_1 _) (by decide) rfl ?_
      refine r_goto 37 hX dX7_take_135 (by decide) ?_
      refine r_sub [2, 3, 1, 0] rfl ?_
      exact hK37 _ _ _ _ hw
  · refine r_iload_n 60 hX dX7_take_59 rfl rfl 1 rfl ?_
    refine r_iload 62 hX dX7_take_60 rfl 5 rfl ?_
    refine r_ishr 63 hX dX7_take_62 rfl ?_
    refine r_iconst 64 hX dX7_take_63 rfl 1 ic_1 ?_
    refine r_iand 65 hX dX7_take_64 rfl ?_
    refine r_iconst 66 hX dX7_take_65 rfl 1 ic_1 ?_
    refine r_icmp_ne 102 69 hX dX7_take_66 (by decide) rfl hw (fun hw => ?_) (fun hw => ?_)
    · refine r_iinc (lv' := [(5, .int (x5 + 1)), (0, .ref (X.kad 75)), (1, .int (x1)), (2, .int (x2)), (3, .int (x3)), (4, .int (x4))]) 105 hX dX7_take_102 rfl 5 rfl (x5 + 1) (ici_1 _) (by decide) rfl ?_
      refine r_goto 53 hX dX7_take_105 (by decide) ?_
      refine r_sub [1, 2, 3, 4, 5, 0] rfl ?_
      exact hK53 _ _ _ _ _ _ hw
    · refine r_iload_n 70 hX dX7_take_69 rfl rfl 3 rfl ?_
      refine r_aload_n 71 hX dX7_take_70 rfl rfl 0 rfl ?_
      refine g_X7_54_75 74 hX dX7_take_71 rfl ?_
      refine r_iload 76 hX dX7_take_74 rfl 4 rfl ?_
      refine r_iald 77 hX sh_90 dX7_take_76 rfl hw (fun hw => ?_)
      refine r_icmp_lt 99 80 hX dX7_take_77 (by decide) rfl hw (fun hw => ?_) (fun hw => ?_)
      · exact w_X7_take_b99 hX hR hK37 hK53 _ _ _ _ _ _ hw
      · refine r_aload_n 81 hX dX7_take_80 rfl rfl 0 rfl ?_
        refine g_X7_69_75 84 hX dX7_take_81 rfl ?_
        refine r_bipush 86 hX dX7_take_84 rfl 16 bi_16 ?_
        refine r_iload 88 hX dX7_take_86 rfl 5 rfl ?_
        refine r_imul 89 hX dX7_take_88 rfl ?_
        refine r_iload_n 90 hX dX7_take_89 rfl rfl 3 rfl ?_
        refine r_iadd 91 hX dX7_take_90 rfl ?_
        refine r_aload_n 92 hX dX7_take_91 rfl rfl 0 rfl ?_
        refine r_iload_n 93 hX dX7_take_92 rfl rfl 2 rfl ?_
        refine r_iload 95 hX dX7_take_93 rfl 4 rfl ?_
        refine k_X7_190_X7_placeIn 98 hX (by omega) (x2) (x4) (Nat.le_of_ble_eq_true rfl) dX7_take_95 rfl hw (fun r95 σ95 hw => ?_)
        refine r_iast 99 hX sh_95 dX7_take_98 rfl hw (fun hw => ?_)
        exact w_X7_take_b99 hX hR hK37 hK53 _ _ _ _ _ _ hw
set_option maxRecDepth 20000 in
set_option maxHeartbeats 4000000 in
theorem w_X7_take_l53 {X : Cx} {Q : RV → St → Prop} (hX : CxB X RX7 cX7_take 6 (7)) (hR : CxR X (some .int) Q) {K37 : Int32 → Int32 → Int32 → St → Prop} (hK37 : ∀ (x1 : Int32) (x2 : Int32) (x3 : Int32) (σ : St), K37 x1 x2 x3 σ → At X 6 37 [(0, .ref (X.kad 75)), (1, .int (x1)), (2, .int (x2)), (3, .int (x3))] [] σ) (n : Nat) : ∀ (x1 : Int32) (x2 : Int32) (x3 : Int32) (x4 : Int32) (x5 : Int32) (σ : St), wp_X7_take_l53 (aI Q) K37 n x1 x2 x3 x4 x5 σ → At X 6 53 [(0, .ref (X.kad 75)), (1, .int (x1)), (2, .int (x2)), (3, .int (x3)), (4, .int (x4)), (5, .int (x5))] [] σ := by
  induction n with
  | zero => intro x1 x2 x3 x4 x5 σ h; exact h.elim
  | succ n ih => intro x1 x2 x3 x4 x5 σ h; exact w_X7_take_b53  hX hR hK37 ih x1 x2 x3 x4 x5 σ h
set_option maxRecDepth 20000 in
set_option maxHeartbeats 4000000 in
theorem w_X7_take_b37 {X : Cx} {Q : RV → St → Prop} (hX : CxB X RX7 cX7_take 6 (7)) (hR : CxR X (some .int) Q) {K37 : Int32 → Int32 → Int32 → St → Prop} (hK37 : ∀ (x1 : Int32) (x2 : Int32) (x3 : Int32) (σ : St), K37 x1 x2 x3 σ → At X 6 37 [(0, .ref (X.kad 75)), (1, .int (x1)), (2, .int (x2)), (3, .int (x3))] [] σ) (x1 : Int32) (x2 : Int32) (x3 : Int32) (σ : St) (hw : wp_X7_take_b37 (aI Q) K37 x1 x2 x3 σ) : At X 6 37 [(0, .ref (X.kad 75)), (1, .int (x1)), (2, .int (x2)), (3, .int (x3))] [] σ := by
  unfold wp_X7_take_b37 at hw
  refine r_iload_n 38 hX dX7_take_37 rfl rfl 3 rfl ?_
  refine r_aload_n 39 hX dX7_take_38 rfl rfl 0 rfl ?_
  refine g_X7_17_75 42 hX dX7_take_39 rfl ?_
  refine r_iconst 43 hX dX7_take_42 rfl 0 ic_0 ?_
  refine r_iald 44 hX sh_78 dX7_take_43 rfl hw (fun hw => ?_)
  refine r_icmp_ge 138 47 hX dX7_take_44 (by decide) rfl hw (fun hw => ?_) (fun hw => ?_)
  · refine r_iconst 139 hX dX7_take_138 rfl 1 ic_1 ?_
    exact r_iret hX hR dX7_take_139 hw
  · refine r_iconst 48 hX dX7_take_47 rfl 0 ic_0 ?_
    refine r_istore (lv' := [(4, .int (0)), (0, .ref (X.kad 75)), (1, .int (x1)), (2, .int (x2)), (3, .int (x3))]) 50 hX dX7_take_48 rfl (by decide) rfl ?_
    refine r_iconst 51 hX dX7_take_50 rfl 0 ic_0 ?_
    refine r_istore (lv' := [(5, .int (0)), (4, .int (0)), (0, .ref (X.kad 75)), (1, .int (x1)), (2, .int (x2)), (3, .int (x3))]) 53 hX dX7_take_51 rfl (by decide) rfl ?_
    refine r_sub [2, 3, 4, 5, 1, 0] rfl ?_
    obtain ⟨n, hw⟩ := hw
    exact w_X7_take_l53 hX hR hK37 n _ _ _ _ _ _ hw
set_option maxRecDepth 20000 in
set_option maxHeartbeats 4000000 in
theorem w_X7_take_l37 {X : Cx} {Q : RV → St → Prop} (hX : CxB X RX7 cX7_take 6 (7)) (hR : CxR X (some .int) Q) (n : Nat) : ∀ (x1 : Int32) (x2 : Int32) (x3 : Int32) (σ : St), wp_X7_take_l37 (aI Q)  n x1 x2 x3 σ → At X 6 37 [(0, .ref (X.kad 75)), (1, .int (x1)), (2, .int (x2)), (3, .int (x3))] [] σ := by
  induction n with
  | zero => intro x1 x2 x3 σ h; exact h.elim
  | succ n ih => intro x1 x2 x3 σ h; exact w_X7_take_b37  hX hR ih x1 x2 x3 σ h
set_option maxRecDepth 20000 in
set_option maxHeartbeats 4000000 in
theorem c_X7_take (x1 : Int32) : Con yX7_take cX7_take 6 (some .int) (7) (fun ad => [.ref (ad 75), .int (x1)]) (fun Q σ => wp_X7_take x1 (aI Q) σ) := by
  refine con_intro (by decide +kernel) (fun _ => Nat.le_of_ble_eq_true rfl) (by omega) (fun X Q σ hX hR hw => ?_)
  have hX : CxB X RX7 cX7_take 6 (7) := hX
  unfold wp_X7_take at hw
  show At X 6 0 [(0, .ref (X.kad 75)), (1, .int (x1))] [] σ
  refine r_aload_n 1 hX dX7_take_0 rfl rfl 0 rfl ?_
  refine r_iload_n 2 hX dX7_take_1 rfl rfl 1 rfl ?_
  refine k_X7_226_X7_isSet 5 hX (by omega) (x1) (Nat.le_of_ble_eq_true rfl) dX7_take_2 rfl hw (fun r2 σ2 hw => ?_)
  refine r_if_ne 10 8 hX dX7_take_5 (by decide) rfl hw (fun hw => ?_) (fun hw => ?_)
  · refine r_aload_n 11 hX dX7_take_10 rfl rfl 0 rfl ?_
    refine r_iload_n 12 hX dX7_take_11 rfl rfl 1 rfl ?_
    refine k_X7_229_X7_gather 15 hX (by omega) (x1) (Nat.le_of_ble_eq_true rfl) dX7_take_12 rfl hw (fun σ12 hw => ?_)
    refine r_aload_n 16 hX dX7_take_15 rfl rfl 0 rfl ?_
    refine k_X7_233_X7_goTogether 19 hX (by omega)  (Nat.le_of_ble_eq_true rfl) dX7_take_16 rfl hw (fun r16 σ16 hw => ?_)
    refine r_bipush 21 hX dX7_take_19 rfl (-9) bi_m9 ?_
    refine r_icmp_ne 27 24 hX dX7_take_21 (by decide) rfl hw (fun hw => ?_) (fun hw => ?_)
    · refine r_aload_n 28 hX dX7_take_27 rfl rfl 0 rfl ?_
      refine k_X7_220_X7_firstSpot 31 hX (by omega)  (Nat.le_of_ble_eq_true rfl) dX7_take_28 rfl hw (fun r28 σ28 hw => ?_)
      refine r_istore_n (lv' := [(2, .int (r28)), (0, .ref (X.kad 75)), (1, .int (x1))]) 32 hX dX7_take_31 rfl rfl (by decide) rfl ?_
      refine r_aload_n 33 hX dX7_take_32 rfl rfl 1 rfl ?_
      refine g_X7_180_75 36 hX dX7_take_33 rfl ?_
      refine r_istore_n (lv' := [(3, .int (σ28.1 75 26)), (2, .int (r28)), (0, .ref (X.kad 75)), (1, .int (x1))]) 37 hX dX7_take_36 rfl rfl (by decide) rfl ?_
      refine r_sub [2, 3, 1, 0] rfl ?_
      obtain ⟨n, hw⟩ := hw
      exact w_X7_take_l37 hX hR n _ _ _ _ hw
    · refine r_bipush 26 hX dX7_take_24 rfl (-2) bi_m2 ?_
      exact r_iret hX hR dX7_take_26 hw
  · refine r_iconst 9 hX dX7_take_8 rfl (-1) ic_m1 ?_
    exact r_iret hX hR dX7_take_9 hw
set_option maxRecDepth 20000 in
set_option maxHeartbeats 4000000 in
theorem c_X7_way (x1 : Int32) (x2 : Int32) : Con yX7_way cX7_way 3 (some .int) (3) (fun ad => [.ref (ad 75), .int (x1), .int (x2)]) (fun Q σ => wp_X7_way x1 x2 (aI Q) σ) := by
  refine con_intro (by decide +kernel) (fun _ => Nat.le_of_ble_eq_true rfl) (by omega) (fun X Q σ hX hR hw => ?_)
  have hX : CxB X RX7 cX7_way 3 (3) := hX
  unfold wp_X7_way at hw
  show At X 3 0 [(0, .ref (X.kad 75)), (1, .int (x1)), (2, .int (x2))] [] σ
  refine r_aload_n 1 hX dX7_way_0 rfl rfl 0 rfl ?_
  refine r_iload_n 2 hX dX7_way_1 rfl rfl 1 rfl ?_
  refine k_X7_150_X7_isHearth 5 hX (by omega) (x1) (Nat.le_of_ble_eq_true rfl) dX7_way_2 rfl hw (fun r2 σ2 hw => ?_)
  refine r_if_eq 43 8 hX dX7_way_5 (by decide) rfl hw (fun hw => ?_) (fun hw => ?_)
  · refine r_ldc 45 hX (-1000000) tw_588 dX7_way_43 rfl ?_
    exact r_iret hX hR dX7_way_45 hw
  · refine r_iload_n 9 hX dX7_way_8 rfl rfl 2 rfl ?_
    refine r_aload_n 10 hX dX7_way_9 rfl rfl 0 rfl ?_
    refine g_X7_23_75 13 hX dX7_way_10 rfl ?_
    refine r_iload_n 14 hX dX7_way_13 rfl rfl 1 rfl ?_
    refine r_iald 15 hX sh_80 dX7_way_14 rfl hw (fun hw => ?_)
    refine r_aload_n 16 hX dX7_way_15 rfl rfl 0 rfl ?_
    refine g_X7_17_75 19 hX dX7_way_16 rfl ?_
    refine r_iconst 20 hX dX7_way_19 rfl 0 ic_0 ?_
    refine r_iald 21 hX sh_78 dX7_way_20 rfl hw (fun hw => ?_)
    refine r_iconst 22 hX dX7_way_21 rfl 1 ic_1 ?_
    refine r_isub 23 hX dX7_way_22 rfl ?_
    refine k_X7_85_X7_in 26 hX (by omega) (x2) (σ2.1 80 x1.toNatClampNeg) ((σ2.1 78 (0 : Int32).toNatClampNeg) - 1) (Nat.le_of_ble_eq_true rfl) dX7_way_23 rfl hw (fun r23 σ23 hw => ?_)
    refine r_if_eq 43 29 hX dX7_way_26 (by decide) rfl hw (fun hw => ?_) (fun hw => ?_)
    · refine r_ldc 45 hX (-1000000) tw_588 dX7_way_43 rfl ?_
      exact r_iret hX hR dX7_way_45 hw
    · refine r_aload_n 30 hX dX7_way_29 rfl rfl 0 rfl ?_
      refine g_X7_69_75 33 hX dX7_way_30 rfl ?_
      refine r_bipush 35 hX dX7_way_33 rfl 16 bi_16 ?_
      refine r_iload_n 36 hX dX7_way_35 rfl rfl 1 rfl ?_
      refine r_imul 37 hX dX7_way_36 rfl ?_
      refine r_iload_n 38 hX dX7_way_37 rfl rfl 2 rfl ?_
      refine r_iadd 39 hX dX7_way_38 rfl ?_
      refine r_iald 40 hX sh_95 dX7_way_39 rfl hw (fun hw => ?_)
      refine r_goto 45 hX dX7_way_40 (by decide) ?_
      exact r_iret hX hR dX7_way_45 hw
set_option maxRecDepth 20000 in
set_option maxHeartbeats 4000000 in
theorem w_X7_turn_b73 {X : Cx} {Q : RV → St → Prop} (hX : CxB X RX7 cX7_turn 6 (3)) (hR : CxR X (some .int) Q) {K73 : Int32 → Int32 → Int32 → Int32 → St → Prop} (hK73 : ∀ (x1 : Int32) (x3 : Int32) (x4 : Int32) (x5 : Int32) (σ : St), K73 x1 x3 x4 x5 σ → At X 6 73 [(0, .ref (X.kad 75)), (1, .int (x1)), (3, .int (x3)), (4, .int (x4)), (5, .int (x5))] [] σ) (x1 : Int32) (x3 : Int32) (x4 : Int32) (x5 : Int32) (σ : St) (hw : wp_X7_turn_b73 (aI Q) K73 x1 x3 x4 x5 σ) : At X 6 73 [(0, .ref (X.kad 75)), (1, .int (x1)), (3, .int (x3)), (4, .int (x4)), (5, .int (x5))] [] σ := by
  unfold wp_X7_turn_b73 at hw
  refine r_iload 75 hX dX7_turn_73 rfl 4 rfl ?_
  refine r_aload_n 76 hX dX7_turn_75 rfl rfl 0 rfl ?_
  refine g_X7_17_75 79 hX dX7_turn_76 rfl ?_
  refine r_iconst 80 hX dX7_turn_79 rfl 0 ic_0 ?_
  refine r_iald 81 hX sh_78 dX7_turn_80 rfl hw (fun hw => ?_)
  refine r_icmp_ge 109 84 hX dX7_turn_81 (by decide) rfl hw (fun hw => ?_) (fun hw => ?_)
  · refine r_iload 111 hX dX7_turn_109 rfl 3 rfl ?_
    exact r_iret hX hR dX7_turn_111 hw
  · refine r_aload_n 85 hX dX7_turn_84 rfl rfl 0 rfl ?_
    refine g_X7_69_75 88 hX dX7_turn_85 rfl ?_
    refine r_bipush 90 hX dX7_turn_88 rfl 16 bi_16 ?_
    refine r_iload_n 91 hX dX7_turn_90 rfl rfl 1 rfl ?_
    refine r_imul 92 hX dX7_turn_91 rfl ?_
    refine r_iload 94 hX dX7_turn_92 rfl 4 rfl ?_
    refine r_iadd 95 hX dX7_turn_94 rfl ?_
    refine r_dup2 96 hX dX7_turn_95 rfl rfl rfl ?_
    refine r_iald 97 hX sh_95 dX7_turn_96 rfl hw (fun hw => ?_)
    refine r_iload_n 98 hX dX7_turn_97 rfl rfl 2 rfl ?_
    refine r_iload 100 hX dX7_turn_98 rfl 3 rfl ?_
    refine r_isub 101 hX dX7_turn_100 rfl ?_
    refine r_iadd 102 hX dX7_turn_101 rfl ?_
    refine r_iast 103 hX sh_95 dX7_turn_102 rfl hw (fun hw => ?_)
    refine r_iinc (lv' := [(5, .int (x5 + 1)), (0, .ref (X.kad 75)), (1, .int (x1)), (3, .int (x3)), (4, .int (x4))]) 106 hX dX7_turn_103 rfl 4 rfl (x5 + 1) (ici_1 _) (by decide) rfl ?_
    refine r_goto 73 hX dX7_turn_106 (by decide) ?_
    refine r_sub [1, 2, 3, 4, 0] rfl ?_
    exact hK73 _ _ _ _ _ hw
set_option maxRecDepth 20000 in
set_option maxHeartbeats 4000000 in
theorem w_X7_turn_l73 {X : Cx} {Q : RV → St → Prop} (hX : CxB X RX7 cX7_turn 6 (3)) (hR : CxR X (some .int) Q) (n : Nat) : ∀ (x1 : Int32) (x3 : Int32) (x4 : Int32) (x5 : Int32) (σ : St), wp_X7_turn_l73 (aI Q)  n x1 x3 x4 x5 σ → At X 6 73 [(0, .ref (X.kad 75)), (1, .int (x1)), (3, .int (x3)), (4, .int (x4)), (5, .int (x5))] [] σ := by
  induction n with
  | zero => intro x1 x3 x4 x5 σ h; exact h.elim
  | succ n ih => intro x1 x3 x4 x5 σ h; exact w_X7_turn_b73  hX hR ih x1 x3 x4 x5 σ h
set_option maxRecDepth 20000 in
set_option maxHeartbeats 4000000 in
theorem c_X7_turn (x1 : Int32) (x2 : Int32) (x3 : Int32) : Con yX7_turn cX7_turn 6 (some .int) (3) (fun ad => [.ref (ad 75), .int (x1), .int (x2), .int (x3)]) (fun Q σ => wp_X7_turn x1 x2 x3 (aI Q) σ) := by
  refine con_intro (by decide +kernel) (fun _ => Nat.le_of_ble_eq_true rfl) (by omega) (fun X Q σ hX hR hw => ?_)
  have hX : CxB X RX7 cX7_turn 6 (3) := hX
  unfold wp_X7_turn at hw
  show At X 6 0 [(0, .ref (X.kad 75)), (1, .int (x1)), (2, .int (x2)), (3, .int (x3))] [] σ
  refine r_aload_n 1 hX dX7_turn_0 rfl rfl 0 rfl ?_
  refine r_iload_n 2 hX dX7_turn_1 rfl rfl 1 rfl ?_
  refine k_X7_150_X7_isHearth 5 hX (by omega) (x1) (Nat.le_of_ble_eq_true rfl) dX7_turn_2 rfl hw (fun r2 σ2 hw => ?_)
  refine r_if_eq 40 8 hX dX7_turn_5 (by decide) rfl hw (fun hw => ?_) (fun hw => ?_)
  · refine r_ldc 42 hX (-1000000) tw_588 dX7_turn_40 rfl ?_
    exact r_iret hX hR dX7_turn_42 hw
  · refine r_iload_n 9 hX dX7_turn_8 rfl rfl 2 rfl ?_
    refine r_aload_n 10 hX dX7_turn_9 rfl rfl 0 rfl ?_
    refine g_X7_23_75 13 hX dX7_turn_10 rfl ?_
    refine r_iload_n 14 hX dX7_turn_13 rfl rfl 1 rfl ?_
    refine r_iald 15 hX sh_80 dX7_turn_14 rfl hw (fun hw => ?_)
    refine r_iconst 16 hX dX7_turn_15 rfl 1 ic_1 ?_
    refine r_iadd 17 hX dX7_turn_16 rfl ?_
    refine r_aload_n 18 hX dX7_turn_17 rfl rfl 0 rfl ?_
    refine g_X7_17_75 21 hX dX7_turn_18 rfl ?_
    refine r_iconst 22 hX dX7_turn_21 rfl 0 ic_0 ?_
    refine r_iald 23 hX sh_78 dX7_turn_22 rfl hw (fun hw => ?_)
    refine r_iconst 24 hX dX7_turn_23 rfl 1 ic_1 ?_
    refine r_isub 25 hX dX7_turn_24 rfl ?_
    refine k_X7_85_X7_in 28 hX (by omega) (x2) ((σ2.1 80 x1.toNatClampNeg) + 1) ((σ2.1 78 (0 : Int32).toNatClampNeg) - 1) (Nat.le_of_ble_eq_true rfl) dX7_turn_25 rfl hw (fun r25 σ25 hw => ?_)
    refine r_if_eq 40 31 hX dX7_turn_28 (by decide) rfl hw (fun hw => ?_) (fun hw => ?_)
    · refine r_ldc 42 hX (-1000000) tw_588 dX7_turn_40 rfl ?_
      exact r_iret hX hR dX7_turn_42 hw
    · refine r_iload_n 32 hX dX7_turn_31 rfl rfl 3 rfl ?_
      refine r_iconst 33 hX dX7_turn_32 rfl (-1) ic_m1 ?_
      refine r_iconst 34 hX dX7_turn_33 rfl 1 ic_1 ?_
      refine k_X7_85_X7_in 37 hX (by omega) (x3) ((-1)) (1) (Nat.le_of_ble_eq_true rfl) dX7_turn_34 rfl hw (fun r34 σ34 hw => ?_)
      refine r_if_ne 43 40 hX dX7_turn_37 (by decide) rfl hw (fun hw => ?_) (fun hw => ?_)
      · refine r_aload_n 44 hX dX7_turn_43 rfl rfl 0 rfl ?_
        refine g_X7_69_75 47 hX dX7_turn_44 rfl ?_
        refine r_bipush 49 hX dX7_turn_47 rfl 16 bi_16 ?_
        refine r_iload_n 50 hX dX7_turn_49 rfl rfl 1 rfl ?_
        refine r_imul 51 hX dX7_turn_50 rfl ?_
        refine r_iload_n 52 hX dX7_turn_51 rfl rfl 2 rfl ?_
        refine r_iadd 53 hX dX7_turn_52 rfl ?_
        refine r_iald 54 hX sh_95 dX7_turn_53 rfl hw (fun hw => ?_)
        refine r_aload_n 55 hX dX7_turn_54 rfl rfl 0 rfl ?_
        refine g_X7_69_75 58 hX dX7_turn_55 rfl ?_
        refine r_bipush 60 hX dX7_turn_58 rfl 16 bi_16 ?_
        refine r_iload_n 61 hX dX7_turn_60 rfl rfl 1 rfl ?_
        refine r_imul 62 hX dX7_turn_61 rfl ?_
        refine r_iload_n 63 hX dX7_turn_62 rfl rfl 2 rfl ?_
        refine r_iadd 64 hX dX7_turn_63 rfl ?_
        refine r_iconst 65 hX dX7_turn_64 rfl 1 ic_1 ?_
        refine r_isub 66 hX dX7_turn_65 rfl ?_
        refine r_iald 67 hX sh_95 dX7_turn_66 rfl hw (fun hw => ?_)
        refine r_isub 68 hX dX7_turn_67 rfl ?_
        refine r_topi hw (fun v68 hw => ?_)
        refine r_istore (lv' := [(4, .int (v68)), (0, .ref (X.kad 75)), (1, .int (x1)), (2, .int (x2)), (3, .int (x3))]) 70 hX dX7_turn_68 rfl (by decide) rfl ?_
        refine r_iload_n 71 hX dX7_turn_70 rfl rfl 3 rfl ?_
        refine r_istore (lv' := [(5, .int (x2)), (4, .int (v68)), (0, .ref (X.kad 75)), (1, .int (x1)), (2, .int (x2)), (3, .int (x3))]) 73 hX dX7_turn_71 rfl (by decide) rfl ?_
        refine r_sub [2, 3, 5, 1, 0] rfl ?_
        obtain ⟨n, hw⟩ := hw
        exact w_X7_turn_l73 hX hR n _ _ _ _ _ hw
      · refine r_ldc 42 hX (-1000000) tw_588 dX7_turn_40 rfl ?_
        exact r_iret hX hR dX7_turn_42 hw
set_option maxRecDepth 20000 in
set_option maxHeartbeats 4000000 in
theorem w_X7_troubleAt_b210 {X : Cx} {Q : RV → St → Prop} (hX : CxB X RX7 cX7_troubleAt 10 (3)) (hR : CxR X (some .int) Q) {K42 : Int32 → Int32 → Int32 → Int32 → Int32 → Int32 → St → Prop} (hK42 : ∀ (x1 : Int32) (x2 : Int32) (x3 : Int32) (x4 : Int32) (x5 : Int32) (x6 : Int32) (σ : St), K42 x1 x2 x3 x4 x5 x6 σ → At X 10 42 [(0, .ref (X.kad 75)), (1, .int (x1)), (2, .int (x2)), (3, .int (x3)), (4, .int (x4)), (5, .int (x5)), (6, .int (x6))] [] σ) (x1 : Int32) (x2 : Int32) (x3 : Int32) (x4 : Int32) (x6 : Int32) (s0 : Int32) (σ : St) (hw : wp_X7_troubleAt_b210 (aI Q) K42 x1 x2 x3 x4 x6 s0 σ) : At X 10 210 [(0, .ref (X.kad 75)), (1, .int (x1)), (2, .int (x2)), (3, .int (x3)), (4, .int (x4)), (6, .int (x6))] [.int (s0)] σ := by
  unfold wp_X7_troubleAt_b210 at hw
  refine r_istore (lv' := [(5, .int (s0)), (0, .ref (X.kad 75)), (1, .int (x1)), (2, .int (x2)), (3, .int (x3)), (4, .int (x4)), (6, .int (x6))]) 212 hX dX7_troubleAt_210 rfl (by decide) rfl ?_
  refine r_iinc (lv' := [(6, .int (x6 + 1)), (5, .int (s0)), (0, .ref (X.kad 75)), (1, .int (x1)), (2, .int (x2)), (3, .int (x3)), (4, .int (x4))]) 215 hX dX7_troubleAt_212 rfl 6 rfl (x6 + 1) (ici_1 _) (by decide) rfl ?_
  refine r_goto 42 hX dX7_troubleAt_215 (by decide) ?_
  refine r_sub [2, 3, 4, 5, 6, 1, 0] rfl ?_
  exact hK42 _ _ _ _ _ _ _ hw
set_option maxRecDepth 20000 in
set_option maxHeartbeats 4000000 in
theorem w_X7_troubleAt_b205 {X : Cx} {Q : RV → St → Prop} (hX : CxB X RX7 cX7_troubleAt 10 (3)) (hR : CxR X (some .int) Q) {K42 : Int32 → Int32 → Int32 → Int32 → Int32 → Int32 → St → Prop} (hK42 : ∀ (x1 : Int32) (x2 : Int32) (x3 : Int32) (x4 : Int32) (x5 : Int32) (x6 : Int32) (σ : St), K42 x1 x2 x3 x4 x5 x6 σ → At X 10 42 [(0, .ref (X.kad 75)), (1, .int (x1)), (2, .int (x2)), (3, .int (x3)), (4, .int (x4)), (5, .int (x5)), (6, .int (x6))] [] σ) (x1 : Int32) (x2 : Int32) (x3 : Int32) (x4 : Int32) (x6 : Int32) (σ : St) (hw : wp_X7_troubleAt_b205 (aI Q) K42 x1 x2 x3 x4 x6 σ) : At X 10 205 [(0, .ref (X.kad 75)), (1, .int (x1)), (2, .int (x2)), (3, .int (x3)), (4, .int (x4)), (6, .int (x6))] [] σ := by
  unfold wp_X7_troubleAt_b205 at hw
  refine r_iconst 206 hX dX7_troubleAt_205 rfl 1 ic_1 ?_
  refine r_goto 210 hX dX7_troubleAt_206 (by decide) ?_
  exact w_X7_troubleAt_b210 hX hR hK42 _ _ _ _ _ _ _ hw
set_option maxRecDepth 20000 in
set_option maxHeartbeats 4000000 in
theorem w_X7_troubleAt_b202 {X : Cx} {Q : RV → St → Prop} (hX : CxB X RX7 cX7_troubleAt 10 (3)) (hR : CxR X (some .int) Q) {K42 : Int32 → Int32 → Int32 → Int32 → Int32 → Int32 → St → Prop} (hK42 : ∀ (x1 : Int32) (x2 : Int32) (x3 : Int32) (x4 : Int32) (x5 : Int32) (x6 : Int32) (σ : St), K42 x1 x2 x3 x4 x5 x6 σ → At X 10 42 [(0, .ref (X.kad 75)), (1, .int (x1)), (2, .int (x2)), (3, .int (x3)), (4, .int (x4)), (5, .int (x5)), (6, .int (x6))] [] σ) (x1 : Int32) (x2 : Int32) (x3 : Int32) (x4 : Int32) (x6 : Int32) (s0 : Int32) (s1 : Int32) (σ : St) (hw : wp_X7_troubleAt_b202 (aI Q) K42 x1 x2 x3 x4 x6 s0 s1 σ) : At X 10 202 [(0, .ref (X.kad 75)), (1, .int (x1)), (2, .int (x2)), (3, .int (x3)), (4, .int (x4)), (6, .int (x6))] [.int (s0), .int (s1)] σ := by
  unfold wp_X7_troubleAt_b202 at hw
  refine r_icmp_eq 209 205 hX dX7_troubleAt_202 (by decide) rfl hw (fun hw => ?_) (fun hw => ?_)
  · refine r_iconst 210 hX dX7_troubleAt_209 rfl 0 ic_0 ?_
    exact w_X7_troubleAt_b210 hX hR hK42 _ _ _ _ _ _ _ hw
  · exact w_X7_troubleAt_b205 hX hR hK42 _ _ _ _ _ _ hw
set_option maxRecDepth 20000 in
set_option maxHeartbeats 4000000 in
theorem w_X7_troubleAt_b192 {X : Cx} {Q : RV → St → Prop} (hX : CxB X RX7 cX7_troubleAt 10 (3)) (hR : CxR X (some .int) Q) {K42 : Int32 → Int32 → Int32 → Int32 → Int32 → Int32 → St → Prop} (hK42 : ∀ (x1 : Int32) (x2 : Int32) (x3 : Int32) (x4 : Int32) (x5 : Int32) (x6 : Int32) (σ : St), K42 x1 x2 x3 x4 x5 x6 σ → At X 10 42 [(0, .ref (X.kad 75)), (1, .int (x1)), (2, .int (x2)), (3, .int (x3)), (4, .int (x4)), (5, .int (x5)), (6, .int (x6))] [] σ) (x1 : Int32) (x2 : Int32) (x3 : Int32) (x4 : Int32) (x6 : Int32) (x9 : Int32) (s0 : Int32) (σ : St) (hw : wp_X7_troubleAt_b192 (aI Q) K42 x1 x2 x3 x4 x6 x9 s0 σ) : At X 10 192 [(0, .ref (X.kad 75)), (1, .int (x1)), (2, .int (x2)), (3, .int (x3)), (4, .int (x4)), (6, .int (x6)), (9, .int (x9))] [.int (s0)] σ := by
  unfold wp_X7_troubleAt_b192 at hw
  refine r_iload 194 hX dX7_troubleAt_192 rfl 6 rfl ?_
  refine r_if_ge 201 197 hX dX7_troubleAt_194 (by decide) rfl hw (fun hw => ?_) (fun hw => ?_)
  · refine r_iconst 202 hX dX7_troubleAt_201 rfl 0 ic_0 ?_
    refine r_sub [0, 1, 2, 3, 4, 5] rfl ?_
    exact w_X7_troubleAt_b202 hX hR hK42 _ _ _ _ _ _ _ _ hw
  · refine r_iconst 198 hX dX7_troubleAt_197 rfl 1 ic_1 ?_
    refine r_goto 202 hX dX7_troubleAt_198 (by decide) ?_
    refine r_sub [0, 1, 2, 3, 4, 5] rfl ?_
    exact w_X7_troubleAt_b202 hX hR hK42 _ _ _ _ _ _ _ _ hw
set_option maxRecDepth 20000 in
set_option maxHeartbeats 4000000 in
theorem w_X7_troubleAt_b175 {X : Cx} {Q : RV → St → Prop} (hX : CxB X RX7 cX7_troubleAt 10 (3)) (hR : CxR X (some .int) Q) {K42 : Int32 → Int32 → Int32 → Int32 → Int32 → Int32 → St → Prop} (hK42 : ∀ (x1 : Int32) (x2 : Int32) (x3 : Int32) (x4 : Int32) (x5 : Int32) (x6 : Int32) (σ : St), K42 x1 x2 x3 x4 x5 x6 σ → At X 10 42 [(0, .ref (X.kad 75)), (1, .int (x1)), (2, .int (x2)), (3, .int (x3)), (4, .int (x4)), (5, .int (x5)), (6, .int (x6))] [] σ) (x1 : Int32) (x2 : Int32) (x3 : Int32) (x4 : Int32) (x5 : Int32) (x6 : Int32) (x7 : Int32) (s0 : Int32) (σ : St) (hw : wp_X7_troubleAt_b175 (aI Q) K42 x1 x2 x3 x4 x5 x6 x7 s0 σ) : At X 10 175 [(0, .ref (X.kad 75)), (1, .int (x1)), (2, .int (x2)), (3, .int (x3)), (4, .int (x4)), (5, .int (x5)), (6, .int (x6)), (7, .int (x7))] [.int (s0)] σ := by
  unfold wp_X7_troubleAt_b175 at hw
  refine r_istore (lv' := [(9, .int (s0)), (0, .ref (X.kad 75)), (1, .int (x1)), (2, .int (x2)), (3, .int (x3)), (4, .int (x4)), (5, .int (x5)), (6, .int (x6)), (7, .int (x7))]) 177 hX dX7_troubleAt_175 rfl (by decide) rfl ?_
  refine r_iload 179 hX dX7_troubleAt_177 rfl 6 rfl ?_
  refine r_if_ne 205 182 hX dX7_troubleAt_179 (by decide) rfl hw (fun hw => ?_) (fun hw => ?_)
  · refine r_sub [1, 2, 3, 4, 5, 7] rfl ?_
    exact w_X7_troubleAt_b205 hX hR hK42 _ _ _ _ _ _ hw
  · refine r_iload 184 hX dX7_troubleAt_182 rfl 8 rfl ?_
    refine r_if_ge 191 187 hX dX7_troubleAt_184 (by decide) rfl hw (fun hw => ?_) (fun hw => ?_)
    · refine r_iconst 192 hX dX7_troubleAt_191 rfl 0 ic_0 ?_
      refine r_sub [1, 2, 3, 4, 5, 7, 0] rfl ?_
      exact w_X7_troubleAt_b192 hX hR hK42 _ _ _ _ _ _ _ _ hw
    · refine r_iconst 188 hX dX7_troubleAt_187 rfl 1 ic_1 ?_
      refine r_goto 192 hX dX7_troubleAt_188 (by decide) ?_
      refine r_sub [1, 2, 3, 4, 5, 7, 0] rfl ?_
      exact w_X7_troubleAt_b192 hX hR hK42 _ _ _ _ _ _ _ _ hw
set_option maxRecDepth 20000 in
set_option maxHeartbeats 4000000 in
theorem w_X7_troubleAt_b135 {X : Cx} {Q : RV → St → Prop} (hX : CxB X RX7 cX7_troubleAt 10 (3)) (hR : CxR X (some .int) Q) {K42 : Int32 → Int32 → Int32 → Int32 → Int32 → Int32 → St → Prop} (hK42 : ∀ (x1 : Int32) (x2 : Int32) (x3 : Int32) (x4 : Int32) (x5 : Int32) (x6 : Int32) (σ : St), K42 x1 x2 x3 x4 x5 x6 σ → At X 10 42 [(0, .ref (X.kad 75)), (1, .int (x1)), (2, .int (x2)), (3, .int (x3)), (4, .int (x4)), (5, .int (x5)), (6, .int (x6))] [] σ) (x1 : Int32) (x2 : Int32) (x3 : Int32) (x4 : Int32) (x5 : Int32) (x6 : Int32) (x7 : Int32) (s0 : Int32) (σ : St) (hw : wp_X7_troubleAt_b135 (aI Q) K42 x1 x2 x3 x4 x5 x6 x7 s0 σ) : At X 10 135 [(0, .ref (X.kad 75)), (1, .int (x1)), (2, .int (x2)), (3, .int (x3)), (4, .int (x4)), (5, .int (x5)), (6, .int (x6)), (7, .int (x7))] [.int (s0)] σ := by
  unfold wp_X7_troubleAt_b135 at hw
  refine r_istore (lv' := [(8, .int (s0)), (0, .ref (X.kad 75)), (1, .int (x1)), (2, .int (x2)), (3, .int (x3)), (4, .int (x4)), (5, .int (x5)), (6, .int (x6)), (7, .int (x7))]) 137 hX dX7_troubleAt_135 rfl (by decide) rfl ?_
  refine r_iload 139 hX dX7_troubleAt_137 rfl 0 rfl ?_
  refine r_if_eq 173 142 hX dX7_troubleAt_139 (by decide) rfl hw (fun hw => ?_) (fun hw => ?_)
  · refine r_iload 175 hX dX7_troubleAt_173 rfl 8 rfl ?_
    refine r_sub [1, 2, 3, 4, 5, 6, 7, 8] rfl ?_
    exact w_X7_troubleAt_b175 hX hR hK42 _ _ _ _ _ _ _ _ _ hw
  · refine r_aload_n 143 hX dX7_troubleAt_142 rfl rfl 1 rfl ?_
    refine g_X7_69_75 146 hX dX7_troubleAt_143 rfl ?_
    refine r_bipush 148 hX dX7_troubleAt_146 rfl 16 bi_16 ?_
    refine r_iload_n 149 hX dX7_troubleAt_148 rfl rfl 2 rfl ?_
    refine r_imul 150 hX dX7_troubleAt_149 rfl ?_
    refine r_iload_n 151 hX dX7_troubleAt_150 rfl rfl 3 rfl ?_
    refine r_iadd 152 hX dX7_troubleAt_151 rfl ?_
    refine r_iconst 153 hX dX7_troubleAt_152 rfl 1 ic_1 ?_
    refine r_isub 154 hX dX7_troubleAt_153 rfl ?_
    refine r_iald 155 hX sh_95 dX7_troubleAt_154 rfl hw (fun hw => ?_)
    refine r_aload_n 156 hX dX7_troubleAt_155 rfl rfl 1 rfl ?_
    refine g_X7_69_75 159 hX dX7_troubleAt_156 rfl ?_
    refine r_bipush 161 hX dX7_troubleAt_159 rfl 16 bi_16 ?_
    refine r_iload 163 hX dX7_troubleAt_161 rfl 7 rfl ?_
    refine r_imul 164 hX dX7_troubleAt_163 rfl ?_
    refine r_iload_n 165 hX dX7_troubleAt_164 rfl rfl 3 rfl ?_
    refine r_iadd 166 hX dX7_troubleAt_165 rfl ?_
    refine r_iconst 167 hX dX7_troubleAt_166 rfl 1 ic_1 ?_
    refine r_isub 168 hX dX7_troubleAt_167 rfl ?_
    refine r_iald 169 hX sh_95 dX7_troubleAt_168 rfl hw (fun hw => ?_)
    refine r_isub 170 hX dX7_troubleAt_169 rfl ?_
    refine r_goto 175 hX dX7_troubleAt_170 (by decide) ?_
    refine r_sub [1, 2, 3, 4, 5, 6, 7, 8] rfl ?_
    exact w_X7_troubleAt_b175 hX hR hK42 _ _ _ _ _ _ _ _ _ hw
set_option maxRecDepth 20000 in
set_option maxHeartbeats 4000000 in
theorem w_X7_troubleAt_b134 {X : Cx} {Q : RV → St → Prop} (hX : CxB X RX7 cX7_troubleAt 10 (3)) (hR : CxR X (some .int) Q) {K42 : Int32 → Int32 → Int32 → Int32 → Int32 → Int32 → St → Prop} (hK42 : ∀ (x1 : Int32) (x2 : Int32) (x3 : Int32) (x4 : Int32) (x5 : Int32) (x6 : Int32) (σ : St), K42 x1 x2 x3 x4 x5 x6 σ → At X 10 42 [(0, .ref (X.kad 75)), (1, .int (x1)), (2, .int (x2)), (3, .int (x3)), (4, .int (x4)), (5, .int (x5)), (6, .int (x6))] [] σ) (x1 : Int32) (x2 : Int32) (x3 : Int32) (x4 : Int32) (x5 : Int32) (x6 : Int32) (x7 : Int32) (σ : St) (hw : wp_X7_troubleAt_b134 (aI Q) K42 x1 x2 x3 x4 x5 x6 x7 σ) : At X 10 134 [(0, .ref (X.kad 75)), (1, .int (x1)), (2, .int (x2)), (3, .int (x3)), (4, .int (x4)), (5, .int (x5)), (6, .int (x6)), (7, .int (x7))] [] σ := by
  unfold wp_X7_troubleAt_b134 at hw
  refine r_iconst 135 hX dX7_troubleAt_134 rfl 0 ic_0 ?_
  exact w_X7_troubleAt_b135 hX hR hK42 _ _ _ _ _ _ _ _ _ hw
set_option maxRecDepth 20000 in
set_option maxHeartbeats 4000000 in
theorem w_X7_troubleAt_b107 {X : Cx} {Q : RV → St → Prop} (hX : CxB X RX7 cX7_troubleAt 10 (3)) (hR : CxR X (some .int) Q) {K42 : Int32 → Int32 → Int32 → Int32 → Int32 → Int32 → St → Prop} (hK42 : ∀ (x1 : Int32) (x2 : Int32) (x3 : Int32) (x4 : Int32) (x5 : Int32) (x6 : Int32) (σ : St), K42 x1 x2 x3 x4 x5 x6 σ → At X 10 42 [(0, .ref (X.kad 75)), (1, .int (x1)), (2, .int (x2)), (3, .int (x3)), (4, .int (x4)), (5, .int (x5)), (6, .int (x6))] [] σ) (x1 : Int32) (x2 : Int32) (x3 : Int32) (x5 : Int32) (x6 : Int32) (x7 : Int32) (s0 : Int32) (σ : St) (hw : wp_X7_troubleAt_b107 (aI Q) K42 x1 x2 x3 x5 x6 x7 s0 σ) : At X 10 107 [(0, .ref (X.kad 75)), (1, .int (x1)), (2, .int (x2)), (3, .int (x3)), (5, .int (x5)), (6, .int (x6)), (7, .int (x7))] [.int (s0)] σ := by
  unfold wp_X7_troubleAt_b107 at hw
  refine r_istore (lv' := [(4, .int (s0)), (0, .ref (X.kad 75)), (1, .int (x1)), (2, .int (x2)), (3, .int (x3)), (5, .int (x5)), (6, .int (x6)), (7, .int (x7))]) 109 hX dX7_troubleAt_107 rfl (by decide) rfl ?_
  refine r_iload_n 110 hX dX7_troubleAt_109 rfl rfl 3 rfl ?_
  refine r_aload_n 111 hX dX7_troubleAt_110 rfl rfl 1 rfl ?_
  refine g_X7_23_75 114 hX dX7_troubleAt_111 rfl ?_
  refine r_iload 116 hX dX7_troubleAt_114 rfl 6 rfl ?_
  refine r_iald 117 hX sh_80 dX7_troubleAt_116 rfl hw (fun hw => ?_)
  refine r_icmp_le 134 120 hX dX7_troubleAt_117 (by decide) rfl hw (fun hw => ?_) (fun hw => ?_)
  · refine r_sub [1, 2, 3, 4, 0, 5, 6, 7] rfl ?_
    exact w_X7_troubleAt_b134 hX hR hK42 _ _ _ _ _ _ _ _ hw
  · refine r_iload_n 121 hX dX7_troubleAt_120 rfl rfl 3 rfl ?_
    refine r_aload_n 122 hX dX7_troubleAt_121 rfl rfl 1 rfl ?_
    refine g_X7_23_75 125 hX dX7_troubleAt_122 rfl ?_
    refine r_iload_n 126 hX dX7_troubleAt_125 rfl rfl 2 rfl ?_
    refine r_iald 127 hX sh_80 dX7_troubleAt_126 rfl hw (fun hw => ?_)
    refine r_icmp_le 134 130 hX dX7_troubleAt_127 (by decide) rfl hw (fun hw => ?_) (fun hw => ?_)
    · refine r_sub [1, 2, 3, 4, 0, 5, 6, 7] rfl ?_
      exact w_X7_troubleAt_b134 hX hR hK42 _ _ _ _ _ _ _ _ hw
    · refine r_iconst 131 hX dX7_troubleAt_130 rfl 1 ic_1 ?_
      refine r_goto 135 hX dX7_troubleAt_131 (by decide) ?_
      refine r_sub [1, 2, 3, 4, 0, 5, 6, 7] rfl ?_
      exact w_X7_troubleAt_b135 hX hR hK42 _ _ _ _ _ _ _ _ _ hw
set_option maxRecDepth 20000 in
set_option maxHeartbeats 4000000 in
theorem w_X7_troubleAt_b102 {X : Cx} {Q : RV → St → Prop} (hX : CxB X RX7 cX7_troubleAt 10 (3)) (hR : CxR X (some .int) Q) {K42 : Int32 → Int32 → Int32 → Int32 → Int32 → Int32 → St → Prop} (hK42 : ∀ (x1 : Int32) (x2 : Int32) (x3 : Int32) (x4 : Int32) (x5 : Int32) (x6 : Int32) (σ : St), K42 x1 x2 x3 x4 x5 x6 σ → At X 10 42 [(0, .ref (X.kad 75)), (1, .int (x1)), (2, .int (x2)), (3, .int (x3)), (4, .int (x4)), (5, .int (x5)), (6, .int (x6))] [] σ) (x1 : Int32) (x2 : Int32) (x3 : Int32) (x5 : Int32) (x6 : Int32) (x7 : Int32) (σ : St) (hw : wp_X7_troubleAt_b102 (aI Q) K42 x1 x2 x3 x5 x6 x7 σ) : At X 10 102 [(0, .ref (X.kad 75)), (1, .int (x1)), (2, .int (x2)), (3, .int (x3)), (5, .int (x5)), (6, .int (x6)), (7, .int (x7))] [] σ := by
  unfold wp_X7_troubleAt_b102 at hw
  refine r_iconst 103 hX dX7_troubleAt_102 rfl 1 ic_1 ?_
  refine r_goto 107 hX dX7_troubleAt_103 (by decide) ?_
  exact w_X7_troubleAt_b107 hX hR hK42 _ _ _ _ _ _ _ _ hw
set_option maxRecDepth 20000 in
set_option maxHeartbeats 4000000 in
theorem w_X7_troubleAt_b93 {X : Cx} {Q : RV → St → Prop} (hX : CxB X RX7 cX7_troubleAt 10 (3)) (hR : CxR X (some .int) Q) {K42 : Int32 → Int32 → Int32 → Int32 → Int32 → Int32 → St → Prop} (hK42 : ∀ (x1 : Int32) (x2 : Int32) (x3 : Int32) (x4 : Int32) (x5 : Int32) (x6 : Int32) (σ : St), K42 x1 x2 x3 x4 x5 x6 σ → At X 10 42 [(0, .ref (X.kad 75)), (1, .int (x1)), (2, .int (x2)), (3, .int (x3)), (4, .int (x4)), (5, .int (x5)), (6, .int (x6))] [] σ) (x1 : Int32) (x2 : Int32) (x3 : Int32) (x5 : Int32) (x6 : Int32) (x7 : Int32) (s0 : Int32) (σ : St) (hw : wp_X7_troubleAt_b93 (aI Q) K42 x1 x2 x3 x5 x6 x7 s0 σ) : At X 10 93 [(0, .ref (X.kad 75)), (1, .int (x1)), (2, .int (x2)), (3, .int (x3)), (5, .int (x5)), (6, .int (x6)), (7, .int (x7))] [.int (s0)] σ := by
  unfold wp_X7_troubleAt_b93 at hw
  refine r_aload_n 94 hX dX7_troubleAt_93 rfl rfl 0 rfl ?_
  refine g_X7_38_75 97 hX dX7_troubleAt_94 rfl ?_
  refine r_iconst 98 hX dX7_troubleAt_97 rfl 0 ic_0 ?_
  refine r_iald 99 hX sh_85 dX7_troubleAt_98 rfl hw (fun hw => ?_)
  refine r_icmp_gt 106 102 hX dX7_troubleAt_99 (by decide) rfl hw (fun hw => ?_) (fun hw => ?_)
  · refine r_iconst 107 hX dX7_troubleAt_106 rfl 0 ic_0 ?_
    exact w_X7_troubleAt_b107 hX hR hK42 _ _ _ _ _ _ _ _ hw
  · exact w_X7_troubleAt_b102 hX hR hK42 _ _ _ _ _ _ _ hw
set_option maxRecDepth 20000 in
set_option maxHeartbeats 4000000 in
theorem w_X7_troubleAt_b42 {X : Cx} {Q : RV → St → Prop} (hX : CxB X RX7 cX7_troubleAt 10 (3)) (hR : CxR X (some .int) Q) {K42 : Int32 → Int32 → Int32 → Int32 → Int32 → Int32 → St → Prop} (hK42 : ∀ (x1 : Int32) (x2 : Int32) (x3 : Int32) (x4 : Int32) (x5 : Int32) (x6 : Int32) (σ : St), K42 x1 x2 x3 x4 x5 x6 σ → At X 10 42 [(0, .ref (X.kad 75)), (1, .int (x1)), (2, .int (x2)), (3, .int (x3)), (4, .int (x4)), (5, .int (x5)), (6, .int (x6))] [] σ) (x1 : Int32) (x2 : Int32) (x3 : Int32) (x4 : Int32) (x5 : Int32) (x6 : Int32) (σ : St) (hw : wp_X7_troubleAt_b42 (aI Q) K42 x1 x2 x3 x4 x5 x6 σ) : At X 10 42 [(0, .ref (X.kad 75)), (1, .int (x1)), (2, .int (x2)), (3, .int (x3)), (4, .int (x4)), (5, .int (x5)), (6, .int (x6))] [] σ := by
  unfold wp_X7_troubleAt_b42 at hw
  refine r_iload 44 hX dX7_troubleAt_42 rfl 6 rfl ?_
  refine r_iload_n 45 hX dX7_troubleAt_44 rfl rfl 1 rfl ?_
  refine r_icmp_ge 218 48 hX dX7_troubleAt_45 (by decide) rfl hw (fun hw => ?_) (fun hw => ?_)
  · refine r_iload 220 hX dX7_troubleAt_218 rfl 4 rfl ?_
    refine r_if_eq 227 223 hX dX7_troubleAt_220 (by decide) rfl hw (fun hw => ?_) (fun hw => ?_)
    · refine r_iload 229 hX dX7_troubleAt_227 rfl 5 rfl ?_
      refine r_if_eq 236 232 hX dX7_troubleAt_229 (by decide) rfl hw (fun hw => ?_) (fun hw => ?_)
      · refine r_bipush 238 hX dX7_troubleAt_236 rfl (-9) bi_m9 ?_
        exact r_iret hX hR dX7_troubleAt_238 hw
      · refine r_iconst 233 hX dX7_troubleAt_232 rfl 4 ic_4 ?_
        refine r_goto 238 hX dX7_troubleAt_233 (by decide) ?_
        exact r_iret hX hR dX7_troubleAt_238 hw
    · refine r_iconst 224 hX dX7_troubleAt_223 rfl 3 ic_3 ?_
      refine r_goto 238 hX dX7_troubleAt_224 (by decide) ?_
      exact r_iret hX hR dX7_troubleAt_238 hw
  · refine r_iload_n 49 hX dX7_troubleAt_48 rfl rfl 2 rfl ?_
    refine r_aload_n 50 hX dX7_troubleAt_49 rfl rfl 0 rfl ?_
    refine g_X7_23_75 53 hX dX7_troubleAt_50 rfl ?_
    refine r_iload 55 hX dX7_troubleAt_53 rfl 6 rfl ?_
    refine r_iald 56 hX sh_80 dX7_troubleAt_55 rfl hw (fun hw => ?_)
    refine r_icmp_lt 212 59 hX dX7_troubleAt_56 (by decide) rfl hw (fun hw => ?_) (fun hw => ?_)
    · refine r_iinc (lv' := [(6, .int (x6 + 1)), (0, .ref (X.kad 75)), (1, .int (x1)), (2, .int (x2)), (3, .int (x3)), (4, .int (x4)), (5, .int (x5))]) 215 hX dX7_troubleAt_212 rfl 6 rfl (x6 + 1) (ici_1 _) (by decide) rfl ?_
      refine r_goto 42 hX dX7_troubleAt_215 (by decide) ?_
      refine r_sub [1, 2, 3, 4, 5, 6, 0] rfl ?_
      exact hK42 _ _ _ _ _ _ _ hw
    · refine r_iload_n 60 hX dX7_troubleAt_59 rfl rfl 3 rfl ?_
      refine r_aload_n 61 hX dX7_troubleAt_60 rfl rfl 0 rfl ?_
      refine g_X7_69_75 64 hX dX7_troubleAt_61 rfl ?_
      refine r_bipush 66 hX dX7_troubleAt_64 rfl 16 bi_16 ?_
      refine r_iload 68 hX dX7_troubleAt_66 rfl 6 rfl ?_
      refine r_imul 69 hX dX7_troubleAt_68 rfl ?_
      refine r_iload_n 70 hX dX7_troubleAt_69 rfl rfl 2 rfl ?_
      refine r_iadd 71 hX dX7_troubleAt_70 rfl ?_
      refine r_iald 72 hX sh_95 dX7_troubleAt_71 rfl hw (fun hw => ?_)
      refine r_isub 73 hX dX7_troubleAt_72 rfl ?_
      refine r_topi hw (fun v73 hw => ?_)
      refine r_istore (lv' := [(7, .int (v73)), (0, .ref (X.kad 75)), (1, .int (x1)), (2, .int (x2)), (3, .int (x3)), (4, .int (x4)), (5, .int (x5)), (6, .int (x6))]) 75 hX dX7_troubleAt_73 rfl (by decide) rfl ?_
      refine r_iload 77 hX dX7_troubleAt_75 rfl 5 rfl ?_
      refine r_if_ne 102 80 hX dX7_troubleAt_77 (by decide) rfl hw (fun hw => ?_) (fun hw => ?_)
      · refine r_sub [1, 2, 3, 4, 6, 7, 0] rfl ?_
        exact w_X7_troubleAt_b102 hX hR hK42 _ _ _ _ _ _ _ hw
      · refine r_iload 82 hX dX7_troubleAt_80 rfl 0 rfl ?_
        refine r_if_ge 91 85 hX dX7_troubleAt_82 (by decide) rfl hw (fun hw => ?_) (fun hw => ?_)
        · refine r_iload 93 hX dX7_troubleAt_91 rfl 0 rfl ?_
          refine r_sub [1, 2, 3, 4, 6, 7, 0] rfl ?_
          exact w_X7_troubleAt_b93 hX hR hK42 _ _ _ _ _ _ _ _ hw
        · refine r_iload 87 hX dX7_troubleAt_85 rfl 0 rfl ?_
          refine r_ineg 88 hX dX7_troubleAt_87 rfl ?_
          refine r_goto 93 hX dX7_troubleAt_88 (by decide) ?_
          refine r_sub [1, 2, 3, 4, 6, 7, 0] rfl ?_
          exact w_X7_troubleAt_b93 hX hR hK42 _ _ _ _ _ _ _ _ hw
set_option maxRecDepth 20000 in
set_option maxHeartbeats 4000000 in
theorem w_X7_troubleAt_l42 {X : Cx} {Q : RV → St → Prop} (hX : CxB X RX7 cX7_troubleAt 10 (3)) (hR : CxR X (some .int) Q) (n : Nat) : ∀ (x1 : Int32) (x2 : Int32) (x3 : Int32) (x4 : Int32) (x5 : Int32) (x6 : Int32) (σ : St), wp_X7_troubleAt_l42 (aI Q)  n x1 x2 x3 x4 x5 x6 σ → At X 10 42 [(0, .ref (X.kad 75)), (1, .int (x1)), (2, .int (x2)), (3, .int (x3)), (4, .int (x4)), (5, .int (x5)), (6, .int (x6))] [] σ := by
  induction n with
  | zero => intro x1 x2 x3 x4 x5 x6 σ h; exact h.elim
  | succ n ih => intro x1 x2 x3 x4 x5 x6 σ h; exact w_X7_troubleAt_b42  hX hR ih x1 x2 x3 x4 x5 x6 σ h
set_option maxRecDepth 20000 in
set_option maxHeartbeats 4000000 in
theorem c_X7_troubleAt (x1 : Int32) (x2 : Int32) : Con yX7_troubleAt cX7_troubleAt 10 (some .int) (3) (fun ad => [.ref (ad 75), .int (x1), .int (x2)]) (fun Q σ => wp_X7_troubleAt x1 x2 (aI Q) σ) := by
  refine con_intro (by decide +kernel) (fun _ => Nat.le_of_ble_eq_true rfl) (by omega) (fun X Q σ hX hR hw => ?_)
  have hX : CxB X RX7 cX7_troubleAt 10 (3) := hX
  unfold wp_X7_troubleAt at hw
  show At X 10 0 [(0, .ref (X.kad 75)), (1, .int (x1)), (2, .int (x2))] [] σ
  refine r_aload_n 1 hX dX7_troubleAt_0 rfl rfl 0 rfl ?_
  refine g_X7_69_75 4 hX dX7_troubleAt_1 rfl ?_
  refine r_bipush 6 hX dX7_troubleAt_4 rfl 16 bi_16 ?_
  refine r_iload_n 7 hX dX7_troubleAt_6 rfl rfl 1 rfl ?_
  refine r_imul 8 hX dX7_troubleAt_7 rfl ?_
  refine r_iload_n 9 hX dX7_troubleAt_8 rfl rfl 2 rfl ?_
  refine r_iadd 10 hX dX7_troubleAt_9 rfl ?_
  refine r_iald 11 hX sh_95 dX7_troubleAt_10 rfl hw (fun hw => ?_)
  refine r_topi hw (fun v11 hw => ?_)
  refine r_istore_n (lv' := [(3, .int (v11)), (0, .ref (X.kad 75)), (1, .int (x1)), (2, .int (x2))]) 12 hX dX7_troubleAt_11 rfl rfl (by decide) rfl ?_
  refine r_aload_n 13 hX dX7_troubleAt_12 rfl rfl 1 rfl ?_
  refine r_iload_n 14 hX dX7_troubleAt_13 rfl rfl 0 rfl ?_
  refine k_X7_136_X7_isIn 17 hX (by omega) (v11) (Nat.le_of_ble_eq_true rfl) dX7_troubleAt_14 rfl hw (fun r14 σ14 hw => ?_)
  refine r_if_ne 22 20 hX dX7_troubleAt_17 (by decide) rfl hw (fun hw => ?_) (fun hw => ?_)
  · refine r_aload_n 23 hX dX7_troubleAt_22 rfl rfl 1 rfl ?_
    refine r_iload_n 24 hX dX7_troubleAt_23 rfl rfl 3 rfl ?_
    refine r_iload_n 25 hX dX7_troubleAt_24 rfl rfl 0 rfl ?_
    refine k_X7_143_X7_isBarred 28 hX (by omega) (x2) (v11) (Nat.le_of_ble_eq_true rfl) dX7_troubleAt_25 rfl hw (fun r25 σ25 hw => ?_)
    refine r_if_eq 33 31 hX dX7_troubleAt_28 (by decide) rfl hw (fun hw => ?_) (fun hw => ?_)
    · refine r_iconst 34 hX dX7_troubleAt_33 rfl 0 ic_0 ?_
      refine r_istore (lv' := [(4, .int (0)), (3, .int (v11)), (0, .ref (X.kad 75)), (1, .int (x1)), (2, .int (x2))]) 36 hX dX7_troubleAt_34 rfl (by decide) rfl ?_
      refine r_iconst 37 hX dX7_troubleAt_36 rfl 0 ic_0 ?_
      refine r_istore (lv' := [(5, .int (0)), (4, .int (0)), (3, .int (v11)), (0, .ref (X.kad 75)), (1, .int (x1)), (2, .int (x2))]) 39 hX dX7_troubleAt_37 rfl (by decide) rfl ?_
      refine r_iconst 40 hX dX7_troubleAt_39 rfl 0 ic_0 ?_
      refine r_istore (lv' := [(6, .int (0)), (5, .int (0)), (4, .int (0)), (3, .int (v11)), (0, .ref (X.kad 75)), (1, .int (x1)), (2, .int (x2))]) 42 hX dX7_troubleAt_40 rfl (by decide) rfl ?_
      refine r_sub [4, 5, 6, 3, 2, 1, 0] rfl ?_
      obtain ⟨n, hw⟩ := hw
      exact w_X7_troubleAt_l42 hX hR n _ _ _ _ _ _ _ hw
    · refine r_iconst 32 hX dX7_troubleAt_31 rfl 2 ic_2 ?_
      exact r_iret hX hR dX7_troubleAt_32 hw
  · refine r_iconst 21 hX dX7_troubleAt_20 rfl 1 ic_1 ?_
    exact r_iret hX hR dX7_troubleAt_21 hw
theorem k_X7_239_X7_troubleAt {X : Cx} {cc : ByteArray} {nL d pc : Nat} {lv : List (Nat × Value)} {rest : List Value} {σ : St} {K : Int32 → St → Prop} (q : Nat) (hX : CxB X RX7 cc nL d) (hdc : 3 + 1 ≤ d) (x1 : Int32) (x2 : Int32) (hst : (rest.map fun v => v.category).sum ≤ 8) (hd : decode cc pc = .ok (.invokevirtual 239, 3)) (hq : pc + 3 = q) (hw : wp_X7_troubleAt x1 x2 K σ) (kk : ∀ (r : Int32) (τ : St), K r τ → At X nL q lv (.int r :: rest) τ) : At X nL pc lv (.int (x2) :: .int (x1) :: .ref (X.kad 75) :: rest) σ := r_callV (n := 2) q hX (k0 := 75) (c_X7_troubleAt x1 x2) tw_688 tw_689 tw_690 tw_517 tw_691 ⟨by decide +kernel, by decide +kernel, by decide +kernel⟩ hdc (by decide) (As := [.int (x1), .int (x2)]) rfl rfl (by decide) ⟨_, _, _, rfl, rfl, rfl⟩ hst hd hq rfl (K := qI K) hw (kI kk)
set_option maxRecDepth 20000 in
set_option maxHeartbeats 4000000 in
theorem w_X7_judge_b56 {X : Cx} {Q : RV → St → Prop} (hX : CxB X RX7 cX7_judge 5 (4)) (hR : CxR X (some .int) Q) {K13 : Int32 → Int32 → St → Prop} (hK13 : ∀ (x1 : Int32) (x2 : Int32) (σ : St), K13 x1 x2 σ → At X 5 13 [(0, .ref (X.kad 75)), (1, .int (x1)), (2, .int (x2))] [] σ) {K25 : Int32 → Int32 → Int32 → St → Prop} (hK25 : ∀ (x1 : Int32) (x2 : Int32) (x3 : Int32) (σ : St), K25 x1 x2 x3 σ → At X 5 25 [(0, .ref (X.kad 75)), (1, .int (x1)), (2, .int (x2)), (3, .int (x3))] [] σ) (x1 : Int32) (x2 : Int32) (x3 : Int32) (s0 : Int32) (σ : St) (hw : wp_X7_judge_b56 (aI Q) K13 K25 x1 x2 x3 s0 σ) : At X 5 56 [(0, .ref (X.kad 75)), (1, .int (x1)), (2, .int (x2)), (3, .int (x3))] [.int (s0)] σ := by
  unfold wp_X7_judge_b56 at hw
  refine r_istore (lv' := [(4, .int (s0)), (0, .ref (X.kad 75)), (1, .int (x1)), (2, .int (x2)), (3, .int (x3))]) 58 hX dX7_judge_56 rfl (by decide) rfl ?_
  refine r_iload 60 hX dX7_judge_58 rfl 0 rfl ?_
  refine r_bipush 62 hX dX7_judge_60 rfl (-9) bi_m9 ?_
  refine r_icmp_eq 85 65 hX dX7_judge_62 (by decide) rfl hw (fun hw => ?_) (fun hw => ?_)
  · refine r_iinc (lv' := [(3, .int (x3 + 1)), (4, .int (s0)), (0, .ref (X.kad 75)), (1, .int (x1)), (2, .int (x2))]) 88 hX dX7_judge_85 rfl 4 rfl (x3 + 1) (ici_1 _) (by decide) rfl ?_
    refine r_goto 25 hX dX7_judge_88 (by decide) ?_
    refine r_sub [2, 3, 4, 0] rfl ?_
    exact hK25 _ _ _ _ hw
  · refine r_iload_n 66 hX dX7_judge_65 rfl rfl 2 rfl ?_
    refine r_if_ne 74 69 hX dX7_judge_66 (by decide) rfl hw (fun hw => ?_) (fun hw => ?_)
    · refine r_iload_n 75 hX dX7_judge_74 rfl rfl 2 rfl ?_
      refine r_iconst 76 hX dX7_judge_75 rfl 1 ic_1 ?_
      refine r_icmp_ne 83 79 hX dX7_judge_76 (by decide) rfl hw (fun hw => ?_) (fun hw => ?_)
      · refine r_iload_n 84 hX dX7_judge_83 rfl rfl 3 rfl ?_
        exact r_iret hX hR dX7_judge_84 hw
      · refine r_iload_n 80 hX dX7_judge_79 rfl rfl 4 rfl ?_
        refine r_goto 84 hX dX7_judge_80 (by decide) ?_
        exact r_iret hX hR dX7_judge_84 hw
    · refine r_iload 71 hX dX7_judge_69 rfl 0 rfl ?_
      refine r_goto 84 hX dX7_judge_71 (by decide) ?_
      exact r_iret hX hR dX7_judge_84 hw
set_option maxRecDepth 20000 in
set_option maxHeartbeats 4000000 in
theorem w_X7_judge_b25 {X : Cx} {Q : RV → St → Prop} (hX : CxB X RX7 cX7_judge 5 (4)) (hR : CxR X (some .int) Q) {K13 : Int32 → Int32 → St → Prop} (hK13 : ∀ (x1 : Int32) (x2 : Int32) (σ : St), K13 x1 x2 σ → At X 5 13 [(0, .ref (X.kad 75)), (1, .int (x1)), (2, .int (x2))] [] σ) {K25 : Int32 → Int32 → Int32 → St → Prop} (hK25 : ∀ (x1 : Int32) (x2 : Int32) (x3 : Int32) (σ : St), K25 x1 x2 x3 σ → At X 5 25 [(0, .ref (X.kad 75)), (1, .int (x1)), (2, .int (x2)), (3, .int (x3))] [] σ) (x1 : Int32) (x2 : Int32) (x3 : Int32) (σ : St) (hw : wp_X7_judge_b25 (aI Q) K13 K25 x1 x2 x3 σ) : At X 5 25 [(0, .ref (X.kad 75)), (1, .int (x1)), (2, .int (x2)), (3, .int (x3))] [] σ := by
  unfold wp_X7_judge_b25 at hw
  refine r_iload_n 26 hX dX7_judge_25 rfl rfl 3 rfl ?_
  refine r_aload_n 27 hX dX7_judge_26 rfl rfl 0 rfl ?_
  refine g_X7_20_75 30 hX dX7_judge_27 rfl ?_
  refine r_iconst 31 hX dX7_judge_30 rfl 0 ic_0 ?_
  refine r_iald 32 hX sh_79 dX7_judge_31 rfl hw (fun hw => ?_)
  refine r_icmp_ge 91 35 hX dX7_judge_32 (by decide) rfl hw (fun hw => ?_) (fun hw => ?_)
  · refine r_iinc (lv' := [(2, .int (x2 + 1)), (0, .ref (X.kad 75)), (1, .int (x1)), (3, .int (x3))]) 94 hX dX7_judge_91 rfl 2 rfl (x2 + 1) (ici_1 _) (by decide) rfl ?_
    refine r_goto 13 hX dX7_judge_94 (by decide) ?_
    refine r_sub [1, 2, 0] rfl ?_
    exact hK13 _ _ _ hw
  · refine r_iload_n 36 hX dX7_judge_35 rfl rfl 2 rfl ?_
    refine r_aload_n 37 hX dX7_judge_36 rfl rfl 0 rfl ?_
    refine g_X7_23_75 40 hX dX7_judge_37 rfl ?_
    refine r_iload_n 41 hX dX7_judge_40 rfl rfl 3 rfl ?_
    refine r_iald 42 hX sh_80 dX7_judge_41 rfl hw (fun hw => ?_)
    refine r_icmp_lt 54 45 hX dX7_judge_42 (by decide) rfl hw (fun hw => ?_) (fun hw => ?_)
    · refine r_bipush 56 hX dX7_judge_54 rfl (-9) bi_m9 ?_
      exact w_X7_judge_b56 hX hR hK13 hK25 _ _ _ _ _ hw
    · refine r_aload_n 46 hX dX7_judge_45 rfl rfl 0 rfl ?_
      refine r_iload_n 47 hX dX7_judge_46 rfl rfl 3 rfl ?_
      refine r_iload_n 48 hX dX7_judge_47 rfl rfl 2 rfl ?_
      refine k_X7_239_X7_troubleAt 51 hX (by omega) (x3) (x2) (Nat.le_of_ble_eq_true rfl) dX7_judge_48 rfl hw (fun r48 σ48 hw => ?_)
      refine r_goto 56 hX dX7_judge_51 (by decide) ?_
      exact w_X7_judge_b56 hX hR hK13 hK25 _ _ _ _ _ hw
set_option maxRecDepth 20000 in
set_option maxHeartbeats 4000000 in
theorem w_X7_judge_l25 {X : Cx} {Q : RV → St → Prop} (hX : CxB X RX7 cX7_judge 5 (4)) (hR : CxR X (some .int) Q) {K13 : Int32 → Int32 → St → Prop} (hK13 : ∀ (x1 : Int32) (x2 : Int32) (σ : St), K13 x1 x2 σ → At X 5 13 [(0, .ref (X.kad 75)), (1, .int (x1)), (2, .int (x2))] [] σ) (n : Nat) : ∀ (x1 : Int32) (x2 : Int32) (x3 : Int32) (σ : St), wp_X7_judge_l25 (aI Q) K13 n x1 x2 x3 σ → At X 5 25 [(0, .ref (X.kad 75)), (1, .int (x1)), (2, .int (x2)), (3, .int (x3))] [] σ := by
  induction n with
  | zero => intro x1 x2 x3 σ h; exact h.elim
  | succ n ih => intro x1 x2 x3 σ h; exact w_X7_judge_b25  hX hR hK13 ih x1 x2 x3 σ h
set_option maxRecDepth 20000 in
set_option maxHeartbeats 4000000 in
theorem w_X7_judge_b13 {X : Cx} {Q : RV → St → Prop} (hX : CxB X RX7 cX7_judge 5 (4)) (hR : CxR X (some .int) Q) {K13 : Int32 → Int32 → St → Prop} (hK13 : ∀ (x1 : Int32) (x2 : Int32) (σ : St), K13 x1 x2 σ → At X 5 13 [(0, .ref (X.kad 75)), (1, .int (x1)), (2, .int (x2))] [] σ) (x1 : Int32) (x2 : Int32) (σ : St) (hw : wp_X7_judge_b13 (aI Q) K13 x1 x2 σ) : At X 5 13 [(0, .ref (X.kad 75)), (1, .int (x1)), (2, .int (x2))] [] σ := by
  unfold wp_X7_judge_b13 at hw
  refine r_iload_n 14 hX dX7_judge_13 rfl rfl 2 rfl ?_
  refine r_aload_n 15 hX dX7_judge_14 rfl rfl 0 rfl ?_
  refine g_X7_17_75 18 hX dX7_judge_15 rfl ?_
  refine r_iconst 19 hX dX7_judge_18 rfl 0 ic_0 ?_
  refine r_iald 20 hX sh_78 dX7_judge_19 rfl hw (fun hw => ?_)
  refine r_icmp_ge 97 23 hX dX7_judge_20 (by decide) rfl hw (fun hw => ?_) (fun hw => ?_)
  · refine r_bipush 99 hX dX7_judge_97 rfl (-9) bi_m9 ?_
    exact r_iret hX hR dX7_judge_99 hw
  · refine r_iconst 24 hX dX7_judge_23 rfl 0 ic_0 ?_
    refine r_istore_n (lv' := [(3, .int (0)), (0, .ref (X.kad 75)), (1, .int (x1)), (2, .int (x2))]) 25 hX dX7_judge_24 rfl rfl (by decide) rfl ?_
    refine r_sub [1, 2, 3, 0] rfl ?_
    obtain ⟨n, hw⟩ := hw
    exact w_X7_judge_l25 hX hR hK13 n _ _ _ _ hw
set_option maxRecDepth 20000 in
set_option maxHeartbeats 4000000 in
theorem w_X7_judge_l13 {X : Cx} {Q : RV → St → Prop} (hX : CxB X RX7 cX7_judge 5 (4)) (hR : CxR X (some .int) Q) (n : Nat) : ∀ (x1 : Int32) (x2 : Int32) (σ : St), wp_X7_judge_l13 (aI Q)  n x1 x2 σ → At X 5 13 [(0, .ref (X.kad 75)), (1, .int (x1)), (2, .int (x2))] [] σ := by
  induction n with
  | zero => intro x1 x2 σ h; exact h.elim
  | succ n ih => intro x1 x2 σ h; exact w_X7_judge_b13  hX hR ih x1 x2 σ h
set_option maxRecDepth 20000 in
set_option maxHeartbeats 4000000 in
theorem c_X7_judge (x1 : Int32) : Con yX7_judge cX7_judge 5 (some .int) (4) (fun ad => [.ref (ad 75), .int (x1)]) (fun Q σ => wp_X7_judge x1 (aI Q) σ) := by
  refine con_intro (by decide +kernel) (fun _ => Nat.le_of_ble_eq_true rfl) (by omega) (fun X Q σ hX hR hw => ?_)
  have hX : CxB X RX7 cX7_judge 5 (4) := hX
  unfold wp_X7_judge at hw
  show At X 5 0 [(0, .ref (X.kad 75)), (1, .int (x1))] [] σ
  refine r_iload_n 1 hX dX7_judge_0 rfl rfl 1 rfl ?_
  refine r_iconst 2 hX dX7_judge_1 rfl 0 ic_0 ?_
  refine r_iconst 3 hX dX7_judge_2 rfl 2 ic_2 ?_
  refine k_X7_85_X7_in 6 hX (by omega) (x1) (0) (2) (Nat.le_of_ble_eq_true rfl) dX7_judge_3 rfl hw (fun r3 σ3 hw => ?_)
  refine r_if_ne 11 9 hX dX7_judge_6 (by decide) rfl hw (fun hw => ?_) (fun hw => ?_)
  · refine r_iconst 12 hX dX7_judge_11 rfl 0 ic_0 ?_
    refine r_istore_n (lv' := [(2, .int (0)), (0, .ref (X.kad 75)), (1, .int (x1))]) 13 hX dX7_judge_12 rfl rfl (by decide) rfl ?_
    refine r_sub [1, 2, 0] rfl ?_
    obtain ⟨n, hw⟩ := hw
    exact w_X7_judge_l13 hX hR n _ _ _ hw
  · refine r_iconst 10 hX dX7_judge_9 rfl (-1) ic_m1 ?_
    exact r_iret hX hR dX7_judge_10 hw
set_option maxRecDepth 20000 in
set_option maxHeartbeats 4000000 in
theorem c_X7_stepInto (x1 : Int32) (x2 : Int32) : Con yX7_stepInto cX7_stepInto 3 (some .int) (1) (fun ad => [.ref (ad 75), .int (x1), .int (x2)]) (fun Q σ => wp_X7_stepInto x1 x2 (aI Q) σ) := by
  refine con_intro (by decide +kernel) (fun _ => Nat.le_of_ble_eq_true rfl) (by omega) (fun X Q σ hX hR hw => ?_)
  have hX : CxB X RX7 cX7_stepInto 3 (1) := hX
  unfold wp_X7_stepInto at hw
  show At X 3 0 [(0, .ref (X.kad 75)), (1, .int (x1)), (2, .int (x2))] [] σ
  refine r_aload_n 1 hX dX7_stepInto_0 rfl rfl 0 rfl ?_
  refine g_X7_69_75 4 hX dX7_stepInto_1 rfl ?_
  refine r_bipush 6 hX dX7_stepInto_4 rfl 16 bi_16 ?_
  refine r_iload_n 7 hX dX7_stepInto_6 rfl rfl 1 rfl ?_
  refine r_imul 8 hX dX7_stepInto_7 rfl ?_
  refine r_iload_n 9 hX dX7_stepInto_8 rfl rfl 2 rfl ?_
  refine r_iadd 10 hX dX7_stepInto_9 rfl ?_
  refine r_iald 11 hX sh_95 dX7_stepInto_10 rfl hw (fun hw => ?_)
  refine r_aload_n 12 hX dX7_stepInto_11 rfl rfl 0 rfl ?_
  refine g_X7_69_75 15 hX dX7_stepInto_12 rfl ?_
  refine r_bipush 17 hX dX7_stepInto_15 rfl 16 bi_16 ?_
  refine r_iload_n 18 hX dX7_stepInto_17 rfl rfl 1 rfl ?_
  refine r_imul 19 hX dX7_stepInto_18 rfl ?_
  refine r_iload_n 20 hX dX7_stepInto_19 rfl rfl 2 rfl ?_
  refine r_iadd 21 hX dX7_stepInto_20 rfl ?_
  refine r_iconst 22 hX dX7_stepInto_21 rfl 1 ic_1 ?_
  refine r_isub 23 hX dX7_stepInto_22 rfl ?_
  refine r_iald 24 hX sh_95 dX7_stepInto_23 rfl hw (fun hw => ?_)
  refine r_isub 25 hX dX7_stepInto_24 rfl ?_
  exact r_iret hX hR dX7_stepInto_25 hw
theorem k_X7_242_X7_stepInto {X : Cx} {cc : ByteArray} {nL d pc : Nat} {lv : List (Nat × Value)} {rest : List Value} {σ : St} {K : Int32 → St → Prop} (q : Nat) (hX : CxB X RX7 cc nL d) (hdc : 1 + 1 ≤ d) (x1 : Int32) (x2 : Int32) (hst : (rest.map fun v => v.category).sum ≤ 8) (hd : decode cc pc = .ok (.invokevirtual 242, 3)) (hq : pc + 3 = q) (hw : wp_X7_stepInto x1 x2 K σ) (kk : ∀ (r : Int32) (τ : St), K r τ → At X nL q lv (.int r :: rest) τ) : At X nL pc lv (.int (x2) :: .int (x1) :: .ref (X.kad 75) :: rest) σ := r_callV (n := 2) q hX (k0 := 75) (c_X7_stepInto x1 x2) tw_692 tw_693 tw_694 tw_517 tw_695 ⟨by decide +kernel, by decide +kernel, by decide +kernel⟩ hdc (by decide) (As := [.int (x1), .int (x2)]) rfl rfl (by decide) ⟨_, _, _, rfl, rfl, rfl⟩ hst hd hq rfl (K := qI K) hw (kI kk)
set_option maxRecDepth 20000 in
set_option maxHeartbeats 4000000 in
theorem w_X7_bendsOf_b11 {X : Cx} {Q : RV → St → Prop} (hX : CxB X RX7 cX7_bendsOf 4 (2)) (hR : CxR X (some .int) Q) {K11 : Int32 → Int32 → Int32 → St → Prop} (hK11 : ∀ (x1 : Int32) (x2 : Int32) (x3 : Int32) (σ : St), K11 x1 x2 x3 σ → At X 4 11 [(0, .ref (X.kad 75)), (1, .int (x1)), (2, .int (x2)), (3, .int (x3))] [] σ) (x1 : Int32) (x2 : Int32) (x3 : Int32) (σ : St) (hw : wp_X7_bendsOf_b11 (aI Q) K11 x1 x2 x3 σ) : At X 4 11 [(0, .ref (X.kad 75)), (1, .int (x1)), (2, .int (x2)), (3, .int (x3))] [] σ := by
  unfold wp_X7_bendsOf_b11 at hw
  refine r_iload_n 12 hX dX7_bendsOf_11 rfl rfl 3 rfl ?_
  refine r_aload_n 13 hX dX7_bendsOf_12 rfl rfl 0 rfl ?_
  refine g_X7_17_75 16 hX dX7_bendsOf_13 rfl ?_
  refine r_iconst 17 hX dX7_bendsOf_16 rfl 0 ic_0 ?_
  refine r_iald 18 hX sh_78 dX7_bendsOf_17 rfl hw (fun hw => ?_)
  refine r_icmp_ge 52 21 hX dX7_bendsOf_18 (by decide) rfl hw (fun hw => ?_) (fun hw => ?_)
  · refine r_iload_n 53 hX dX7_bendsOf_52 rfl rfl 2 rfl ?_
    exact r_iret hX hR dX7_bendsOf_53 hw
  · refine r_iload_n 22 hX dX7_bendsOf_21 rfl rfl 2 rfl ?_
    refine r_aload_n 23 hX dX7_bendsOf_22 rfl rfl 0 rfl ?_
    refine r_iload_n 24 hX dX7_bendsOf_23 rfl rfl 1 rfl ?_
    refine r_iload_n 25 hX dX7_bendsOf_24 rfl rfl 3 rfl ?_
    refine k_X7_242_X7_stepInto 28 hX (by omega) (x1) (x3) (Nat.le_of_ble_eq_true rfl) dX7_bendsOf_25 rfl hw (fun r25 σ25 hw => ?_)
    refine r_aload_n 29 hX dX7_bendsOf_28 rfl rfl 0 rfl ?_
    refine r_iload_n 30 hX dX7_bendsOf_29 rfl rfl 1 rfl ?_
    refine r_iload_n 31 hX dX7_bendsOf_30 rfl rfl 3 rfl ?_
    refine r_iconst 32 hX dX7_bendsOf_31 rfl 1 ic_1 ?_
    refine r_isub 33 hX dX7_bendsOf_32 rfl ?_
    refine k_X7_242_X7_stepInto 36 hX (by omega) (x1) (x3 - 1) (Nat.le_of_ble_eq_true rfl) dX7_bendsOf_33 rfl hw (fun r33 σ33 hw => ?_)
    refine r_icmp_eq 43 39 hX dX7_bendsOf_36 (by decide) rfl hw (fun hw => ?_) (fun hw => ?_)
    · refine r_iconst 44 hX dX7_bendsOf_43 rfl 0 ic_0 ?_
      refine r_iadd 45 hX dX7_bendsOf_44 rfl ?_
      refine r_istore_n (lv' := [(2, .int (x2 + 0)), (0, .ref (X.kad 75)), (1, .int (x1)), (3, .int (x3))]) 46 hX dX7_bendsOf_45 rfl rfl (by decide) rfl ?_
      refine r_iinc (lv' := [(3, .int (x3 + 1)), (2, .int (x2 + 0)), (0, .ref (X.kad 75)), (1, .int (x1))]) 49 hX dX7_bendsOf_46 rfl 3 rfl (x3 + 1) (ici_1 _) (by decide) rfl ?_
      refine r_goto 11 hX dX7_bendsOf_49 (by decide) ?_
      refine r_sub [2, 3, 1, 0] rfl ?_
      exact hK11 _ _ _ _ hw
    · refine r_iconst 40 hX dX7_bendsOf_39 rfl 1 ic_1 ?_
      refine r_goto 44 hX dX7_bendsOf_40 (by decide) ?_
      refine r_iadd 45 hX dX7_bendsOf_44 rfl ?_
      refine r_istore_n (lv' := [(2, .int (x2 + 1)), (0, .ref (X.kad 75)), (1, .int (x1)), (3, .int (x3))]) 46 hX dX7_bendsOf_45 rfl rfl (by decide) rfl ?_
      refine r_iinc (lv' := [(3, .int (x3 + 1)), (2, .int (x2 + 1)), (0, .ref (X.kad 75)), (1, .int (x1))]) 49 hX dX7_bendsOf_46 rfl 3 rfl (x3 + 1) (ici_1 _) (by decide) rfl ?_
      refine r_goto 11 hX dX7_bendsOf_49 (by decide) ?_
      refine r_sub [2, 3, 1, 0] rfl ?_
      exact hK11 _ _ _ _ hw
set_option maxRecDepth 20000 in
set_option maxHeartbeats 4000000 in
theorem w_X7_bendsOf_l11 {X : Cx} {Q : RV → St → Prop} (hX : CxB X RX7 cX7_bendsOf 4 (2)) (hR : CxR X (some .int) Q) (n : Nat) : ∀ (x1 : Int32) (x2 : Int32) (x3 : Int32) (σ : St), wp_X7_bendsOf_l11 (aI Q)  n x1 x2 x3 σ → At X 4 11 [(0, .ref (X.kad 75)), (1, .int (x1)), (2, .int (x2)), (3, .int (x3))] [] σ := by
  induction n with
  | zero => intro x1 x2 x3 σ h; exact h.elim
  | succ n ih => intro x1 x2 x3 σ h; exact w_X7_bendsOf_b11  hX hR ih x1 x2 x3 σ h
set_option maxRecDepth 20000 in
set_option maxHeartbeats 4000000 in
theorem c_X7_bendsOf (x1 : Int32) : Con yX7_bendsOf cX7_bendsOf 4 (some .int) (2) (fun ad => [.ref (ad 75), .int (x1)]) (fun Q σ => wp_X7_bendsOf x1 (aI Q) σ) := by
  refine con_intro (by decide +kernel) (fun _ => Nat.le_of_ble_eq_true rfl) (by omega) (fun X Q σ hX hR hw => ?_)
  have hX : CxB X RX7 cX7_bendsOf 4 (2) := hX
  unfold wp_X7_bendsOf at hw
  show At X 4 0 [(0, .ref (X.kad 75)), (1, .int (x1))] [] σ
  refine r_iconst 1 hX dX7_bendsOf_0 rfl 0 ic_0 ?_
  refine r_istore_n (lv' := [(2, .int (0)), (0, .ref (X.kad 75)), (1, .int (x1))]) 2 hX dX7_bendsOf_1 rfl rfl (by decide) rfl ?_
  refine r_aload_n 3 hX dX7_bendsOf_2 rfl rfl 1 rfl ?_
  refine g_X7_23_75 6 hX dX7_bendsOf_3 rfl ?_
  refine r_iload_n 7 hX dX7_bendsOf_6 rfl rfl 2 rfl ?_
  refine r_iald 8 hX sh_80 dX7_bendsOf_7 rfl hw (fun hw => ?_)
  refine r_iconst 9 hX dX7_bendsOf_8 rfl 2 ic_2 ?_
  refine r_iadd 10 hX dX7_bendsOf_9 rfl ?_
  refine r_istore_n (lv' := [(3, .int ((σ.1 80 x1.toNatClampNeg) + 2)), (2, .int (0)), (0, .ref (X.kad 75)), (1, .int (x1))]) 11 hX dX7_bendsOf_10 rfl rfl (by decide) rfl ?_
  refine r_sub [2, 3, 1, 0] rfl ?_
  obtain ⟨n, hw⟩ := hw
  exact w_X7_bendsOf_l11 hX hR n _ _ _ _ hw
set_option maxRecDepth 20000 in
set_option maxHeartbeats 4000000 in
theorem w_X7_leansOf_b11 {X : Cx} {Q : RV → St → Prop} (hX : CxB X RX7 cX7_leansOf 4 (2)) (hR : CxR X (some .int) Q) {K11 : Int32 → Int32 → Int32 → St → Prop} (hK11 : ∀ (x1 : Int32) (x2 : Int32) (x3 : Int32) (σ : St), K11 x1 x2 x3 σ → At X 4 11 [(0, .ref (X.kad 75)), (1, .int (x1)), (2, .int (x2)), (3, .int (x3))] [] σ) (x1 : Int32) (x2 : Int32) (x3 : Int32) (σ : St) (hw : wp_X7_leansOf_b11 (aI Q) K11 x1 x2 x3 σ) : At X 4 11 [(0, .ref (X.kad 75)), (1, .int (x1)), (2, .int (x2)), (3, .int (x3))] [] σ := by
  unfold wp_X7_leansOf_b11 at hw
  refine r_iload_n 12 hX dX7_leansOf_11 rfl rfl 3 rfl ?_
  refine r_aload_n 13 hX dX7_leansOf_12 rfl rfl 0 rfl ?_
  refine g_X7_17_75 16 hX dX7_leansOf_13 rfl ?_
  refine r_iconst 17 hX dX7_leansOf_16 rfl 0 ic_0 ?_
  refine r_iald 18 hX sh_78 dX7_leansOf_17 rfl hw (fun hw => ?_)
  refine r_icmp_ge 44 21 hX dX7_leansOf_18 (by decide) rfl hw (fun hw => ?_) (fun hw => ?_)
  · refine r_iload_n 45 hX dX7_leansOf_44 rfl rfl 2 rfl ?_
    exact r_iret hX hR dX7_leansOf_45 hw
  · refine r_iload_n 22 hX dX7_leansOf_21 rfl rfl 2 rfl ?_
    refine r_aload_n 23 hX dX7_leansOf_22 rfl rfl 0 rfl ?_
    refine r_iload_n 24 hX dX7_leansOf_23 rfl rfl 1 rfl ?_
    refine r_iload_n 25 hX dX7_leansOf_24 rfl rfl 3 rfl ?_
    refine k_X7_242_X7_stepInto 28 hX (by omega) (x1) (x3) (Nat.le_of_ble_eq_true rfl) dX7_leansOf_25 rfl hw (fun r25 σ25 hw => ?_)
    refine r_if_eq 35 31 hX dX7_leansOf_28 (by decide) rfl hw (fun hw => ?_) (fun hw => ?_)
    · refine r_iconst 36 hX dX7_leansOf_35 rfl 0 ic_0 ?_
      refine r_iadd 37 hX dX7_leansOf_36 rfl ?_
      refine r_istore_n (lv' := [(2, .int (x2 + 0)), (0, .ref (X.kad 75)), (1, .int (x1)), (3, .int (x3))]) 38 hX dX7_leansOf_37 rfl rfl (by decide) rfl ?_
      refine r_iinc (lv' := [(3, .int (x3 + 1)), (2, .int (x2 + 0)), (0, .ref (X.kad 75)), (1, .int (x1))]) 41 hX dX7_leansOf_38 rfl 3 rfl (x3 + 1) (ici_1 _) (by decide) rfl ?_
      refine r_goto 11 hX dX7_leansOf_41 (by decide) ?_
      refine r_sub [2, 3, 1, 0] rfl ?_
      exact hK11 _ _ _ _ hw
    · refine r_iconst 32 hX dX7_leansOf_31 rfl 1 ic_1 ?_
      refine r_goto 36 hX dX7_leansOf_32 (by decide) ?_
      refine r_iadd 37 hX dX7_leansOf_36 rfl ?_
      refine r_istore_n (lv' := [(2, .int (x2 + 1)), (0, .ref (X.kad 75)), (1, .int (x1)), (3, .int (x3))]) 38 hX dX7_leansOf_37 rfl rfl (by decide) rfl ?_
      refine r_iinc (lv' := [(3, .int (x3 + 1)), (2, .int (x2 + 1)), (0, .ref (X.kad 75)), (1, .int (x1))]) 41 hX dX7_leansOf_38 rfl 3 rfl (x3 + 1) (ici_1 _) (by decide) rfl ?_
      refine r_goto 11 hX dX7_leansOf_41 (by decide) ?_
      refine r_sub [2, 3, 1, 0] rfl ?_
      exact hK11 _ _ _ _ hw
set_option maxRecDepth 20000 in
set_option maxHeartbeats 4000000 in
theorem w_X7_leansOf_l11 {X : Cx} {Q : RV → St → Prop} (hX : CxB X RX7 cX7_leansOf 4 (2)) (hR : CxR X (some .int) Q) (n : Nat) : ∀ (x1 : Int32) (x2 : Int32) (x3 : Int32) (σ : St), wp_X7_leansOf_l11 (aI Q)  n x1 x2 x3 σ → At X 4 11 [(0, .ref (X.kad 75)), (1, .int (x1)), (2, .int (x2)), (3, .int (x3))] [] σ := by
  induction n with
  | zero => intro x1 x2 x3 σ h; exact h.elim
  | succ n ih => intro x1 x2 x3 σ h; exact w_X7_leansOf_b11  hX hR ih x1 x2 x3 σ h
set_option maxRecDepth 20000 in
set_option maxHeartbeats 4000000 in
theorem c_X7_leansOf (x1 : Int32) : Con yX7_leansOf cX7_leansOf 4 (some .int) (2) (fun ad => [.ref (ad 75), .int (x1)]) (fun Q σ => wp_X7_leansOf x1 (aI Q) σ) := by
  refine con_intro (by decide +kernel) (fun _ => Nat.le_of_ble_eq_true rfl) (by omega) (fun X Q σ hX hR hw => ?_)
  have hX : CxB X RX7 cX7_leansOf 4 (2) := hX
  unfold wp_X7_leansOf at hw
  show At X 4 0 [(0, .ref (X.kad 75)), (1, .int (x1))] [] σ
  refine r_iconst 1 hX dX7_leansOf_0 rfl 0 ic_0 ?_
  refine r_istore_n (lv' := [(2, .int (0)), (0, .ref (X.kad 75)), (1, .int (x1))]) 2 hX dX7_leansOf_1 rfl rfl (by decide) rfl ?_
  refine r_aload_n 3 hX dX7_leansOf_2 rfl rfl 1 rfl ?_
  refine g_X7_23_75 6 hX dX7_leansOf_3 rfl ?_
  refine r_iload_n 7 hX dX7_leansOf_6 rfl rfl 2 rfl ?_
  refine r_iald 8 hX sh_80 dX7_leansOf_7 rfl hw (fun hw => ?_)
  refine r_iconst 9 hX dX7_leansOf_8 rfl 1 ic_1 ?_
  refine r_iadd 10 hX dX7_leansOf_9 rfl ?_
  refine r_istore_n (lv' := [(3, .int ((σ.1 80 x1.toNatClampNeg) + 1)), (2, .int (0)), (0, .ref (X.kad 75)), (1, .int (x1))]) 11 hX dX7_leansOf_10 rfl rfl (by decide) rfl ?_
  refine r_sub [2, 3, 1, 0] rfl ?_
  obtain ⟨n, hw⟩ := hw
  exact w_X7_leansOf_l11 hX hR n _ _ _ _ hw
set_option maxRecDepth 20000 in
set_option maxHeartbeats 4000000 in
theorem w_X7_coldOf_b9 {X : Cx} {Q : RV → St → Prop} (hX : CxB X RX7 cX7_coldOf 4 (4)) (hR : CxR X (some .int) Q) {K9 : Int32 → Int32 → Int32 → St → Prop} (hK9 : ∀ (x1 : Int32) (x2 : Int32) (x3 : Int32) (σ : St), K9 x1 x2 x3 σ → At X 4 9 [(0, .ref (X.kad 75)), (1, .int (x1)), (2, .int (x2)), (3, .int (x3))] [] σ) (x1 : Int32) (x2 : Int32) (x3 : Int32) (σ : St) (hw : wp_X7_coldOf_b9 (aI Q) K9 x1 x2 x3 σ) : At X 4 9 [(0, .ref (X.kad 75)), (1, .int (x1)), (2, .int (x2)), (3, .int (x3))] [] σ := by
  unfold wp_X7_coldOf_b9 at hw
  refine r_iload_n 10 hX dX7_coldOf_9 rfl rfl 3 rfl ?_
  refine r_aload_n 11 hX dX7_coldOf_10 rfl rfl 0 rfl ?_
  refine g_X7_17_75 14 hX dX7_coldOf_11 rfl ?_
  refine r_iconst 15 hX dX7_coldOf_14 rfl 0 ic_0 ?_
  refine r_iald 16 hX sh_78 dX7_coldOf_15 rfl hw (fun hw => ?_)
  refine r_icmp_ge 51 19 hX dX7_coldOf_16 (by decide) rfl hw (fun hw => ?_) (fun hw => ?_)
  · refine r_iload_n 52 hX dX7_coldOf_51 rfl rfl 2 rfl ?_
    exact r_iret hX hR dX7_coldOf_52 hw
  · refine r_iload_n 20 hX dX7_coldOf_19 rfl rfl 2 rfl ?_
    refine r_aload_n 21 hX dX7_coldOf_20 rfl rfl 0 rfl ?_
    refine r_aload_n 22 hX dX7_coldOf_21 rfl rfl 0 rfl ?_
    refine g_X7_69_75 25 hX dX7_coldOf_22 rfl ?_
    refine r_bipush 27 hX dX7_coldOf_25 rfl 16 bi_16 ?_
    refine r_iload_n 28 hX dX7_coldOf_27 rfl rfl 1 rfl ?_
    refine r_imul 29 hX dX7_coldOf_28 rfl ?_
    refine r_iload_n 30 hX dX7_coldOf_29 rfl rfl 3 rfl ?_
    refine r_iadd 31 hX dX7_coldOf_30 rfl ?_
    refine r_iald 32 hX sh_95 dX7_coldOf_31 rfl hw (fun hw => ?_)
    refine k_X7_147_X7_isCold 35 hX (by omega) (σ.1 95 ((16 * x1) + x3).toNatClampNeg) (Nat.le_of_ble_eq_true rfl) dX7_coldOf_32 rfl hw (fun r32 σ32 hw => ?_)
    refine r_if_eq 42 38 hX dX7_coldOf_35 (by decide) rfl hw (fun hw => ?_) (fun hw => ?_)
    · refine r_iconst 43 hX dX7_coldOf_42 rfl 0 ic_0 ?_
      refine r_iadd 44 hX dX7_coldOf_43 rfl ?_
      refine r_istore_n (lv' := [(2, .int (x2 + 0)), (0, .ref (X.kad 75)), (1, .int (x1)), (3, .int (x3))]) 45 hX dX7_coldOf_44 rfl rfl (by decide) rfl ?_
      refine r_iinc (lv' := [(3, .int (x3 + 1)), (2, .int (x2 + 0)), (0, .ref (X.kad 75)), (1, .int (x1))]) 48 hX dX7_coldOf_45 rfl 3 rfl (x3 + 1) (ici_1 _) (by decide) rfl ?_
      refine r_goto 9 hX dX7_coldOf_48 (by decide) ?_
      refine r_sub [2, 3, 1, 0] rfl ?_
      exact hK9 _ _ _ _ hw
    · refine r_iconst 39 hX dX7_coldOf_38 rfl 1 ic_1 ?_
      refine r_goto 43 hX dX7_coldOf_39 (by decide) ?_
      refine r_iadd 44 hX dX7_coldOf_43 rfl ?_
      refine r_istore_n (lv' := [(2, .int (x2 + 1)), (0, .ref (X.kad 75)), (1, .int (x1)), (3, .int (x3))]) 45 hX dX7_coldOf_44 rfl rfl (by decide) rfl ?_
      refine r_iinc (lv' := [(3, .int (x3 + 1)), (2, .int (x2 + 1)), (0, .ref (X.kad 75)), (1, .int (x1))]) 48 hX dX7_coldOf_45 rfl 3 rfl (x3 + 1) (ici_1 _) (by decide) rfl ?_
      refine r_goto 9 hX dX7_coldOf_48 (by decide) ?_
      refine r_sub [2, 3, 1, 0] rfl ?_
      exact hK9 _ _ _ _ hw
set_option maxRecDepth 20000 in
set_option maxHeartbeats 4000000 in
theorem w_X7_coldOf_l9 {X : Cx} {Q : RV → St → Prop} (hX : CxB X RX7 cX7_coldOf 4 (4)) (hR : CxR X (some .int) Q) (n : Nat) : ∀ (x1 : Int32) (x2 : Int32) (x3 : Int32) (σ : St), wp_X7_coldOf_l9 (aI Q)  n x1 x2 x3 σ → At X 4 9 [(0, .ref (X.kad 75)), (1, .int (x1)), (2, .int (x2)), (3, .int (x3))] [] σ := by
  induction n with
  | zero => intro x1 x2 x3 σ h; exact h.elim
  | succ n ih => intro x1 x2 x3 σ h; exact w_X7_coldOf_b9  hX hR ih x1 x2 x3 σ h
set_option maxRecDepth 20000 in
set_option maxHeartbeats 4000000 in
theorem c_X7_coldOf (x1 : Int32) : Con yX7_coldOf cX7_coldOf 4 (some .int) (4) (fun ad => [.ref (ad 75), .int (x1)]) (fun Q σ => wp_X7_coldOf x1 (aI Q) σ) := by
  refine con_intro (by decide +kernel) (fun _ => Nat.le_of_ble_eq_true rfl) (by omega) (fun X Q σ hX hR hw => ?_)
  have hX : CxB X RX7 cX7_coldOf 4 (4) := hX
  unfold wp_X7_coldOf at hw
  show At X 4 0 [(0, .ref (X.kad 75)), (1, .int (x1))] [] σ
  refine r_iconst 1 hX dX7_coldOf_0 rfl 0 ic_0 ?_
  refine r_istore_n (lv' := [(2, .int (0)), (0, .ref (X.kad 75)), (1, .int (x1))]) 2 hX dX7_coldOf_1 rfl rfl (by decide) rfl ?_
  refine r_aload_n 3 hX dX7_coldOf_2 rfl rfl 1 rfl ?_
  refine g_X7_23_75 6 hX dX7_coldOf_3 rfl ?_
  refine r_iload_n 7 hX dX7_coldOf_6 rfl rfl 2 rfl ?_
  refine r_iald 8 hX sh_80 dX7_coldOf_7 rfl hw (fun hw => ?_)
  refine r_istore_n (lv' := [(3, .int (σ.1 80 x1.toNatClampNeg)), (2, .int (0)), (0, .ref (X.kad 75)), (1, .int (x1))]) 9 hX dX7_coldOf_8 rfl rfl (by decide) rfl ?_
  refine r_sub [2, 3, 1, 0] rfl ?_
  obtain ⟨n, hw⟩ := hw
  exact w_X7_coldOf_l9 hX hR n _ _ _ _ hw
theorem k_X7_245_X7_bendsOf {X : Cx} {cc : ByteArray} {nL d pc : Nat} {lv : List (Nat × Value)} {rest : List Value} {σ : St} {K : Int32 → St → Prop} (q : Nat) (hX : CxB X RX7 cc nL d) (hdc : 2 + 1 ≤ d) (x1 : Int32) (hst : (rest.map fun v => v.category).sum ≤ 8) (hd : decode cc pc = .ok (.invokevirtual 245, 3)) (hq : pc + 3 = q) (hw : wp_X7_bendsOf x1 K σ) (kk : ∀ (r : Int32) (τ : St), K r τ → At X nL q lv (.int r :: rest) τ) : At X nL pc lv (.int (x1) :: .ref (X.kad 75) :: rest) σ := r_callV (n := 1) q hX (k0 := 75) (c_X7_bendsOf x1) tw_696 tw_697 tw_698 tw_517 tw_699 ⟨by decide +kernel, by decide +kernel, by decide +kernel⟩ hdc (by decide) (As := [.int (x1)]) rfl rfl (by decide) ⟨_, _, _, rfl, rfl, rfl⟩ hst hd hq rfl (K := qI K) hw (kI kk)
theorem k_X7_251_X7_coldOf {X : Cx} {cc : ByteArray} {nL d pc : Nat} {lv : List (Nat × Value)} {rest : List Value} {σ : St} {K : Int32 → St → Prop} (q : Nat) (hX : CxB X RX7 cc nL d) (hdc : 4 + 1 ≤ d) (x1 : Int32) (hst : (rest.map fun v => v.category).sum ≤ 8) (hd : decode cc pc = .ok (.invokevirtual 251, 3)) (hq : pc + 3 = q) (hw : wp_X7_coldOf x1 K σ) (kk : ∀ (r : Int32) (τ : St), K r τ → At X nL q lv (.int r :: rest) τ) : At X nL pc lv (.int (x1) :: .ref (X.kad 75) :: rest) σ := r_callV (n := 1) q hX (k0 := 75) (c_X7_coldOf x1) tw_700 tw_701 tw_702 tw_517 tw_703 ⟨by decide +kernel, by decide +kernel, by decide +kernel⟩ hdc (by decide) (As := [.int (x1)]) rfl rfl (by decide) ⟨_, _, _, rfl, rfl, rfl⟩ hst hd hq rfl (K := qI K) hw (kI kk)
theorem k_X7_248_X7_leansOf {X : Cx} {cc : ByteArray} {nL d pc : Nat} {lv : List (Nat × Value)} {rest : List Value} {σ : St} {K : Int32 → St → Prop} (q : Nat) (hX : CxB X RX7 cc nL d) (hdc : 2 + 1 ≤ d) (x1 : Int32) (hst : (rest.map fun v => v.category).sum ≤ 8) (hd : decode cc pc = .ok (.invokevirtual 248, 3)) (hq : pc + 3 = q) (hw : wp_X7_leansOf x1 K σ) (kk : ∀ (r : Int32) (τ : St), K r τ → At X nL q lv (.int r :: rest) τ) : At X nL pc lv (.int (x1) :: .ref (X.kad 75) :: rest) σ := r_callV (n := 1) q hX (k0 := 75) (c_X7_leansOf x1) tw_704 tw_705 tw_706 tw_517 tw_707 ⟨by decide +kernel, by decide +kernel, by decide +kernel⟩ hdc (by decide) (As := [.int (x1)]) rfl rfl (by decide) ⟨_, _, _, rfl, rfl, rfl⟩ hst hd hq rfl (K := qI K) hw (kI kk)
set_option maxRecDepth 20000 in
set_option maxHeartbeats 4000000 in
theorem c_X7_plan (x1 : Int32) (x2 : Int32) : Con yX7_plan cX7_plan 5 (some .int) (5) (fun ad => [.ref (ad 75), .int (x1), .int (x2)]) (fun Q σ => wp_X7_plan x1 x2 (aI Q) σ) := by
  refine con_intro (by decide +kernel) (fun _ => Nat.le_of_ble_eq_true rfl) (by omega) (fun X Q σ hX hR hw => ?_)
  have hX : CxB X RX7 cX7_plan 5 (5) := hX
  unfold wp_X7_plan at hw
  show At X 5 0 [(0, .ref (X.kad 75)), (1, .int (x1)), (2, .int (x2))] [] σ
  refine r_aload_n 1 hX dX7_plan_0 rfl rfl 0 rfl ?_
  refine r_iload_n 2 hX dX7_plan_1 rfl rfl 1 rfl ?_
  refine k_X7_150_X7_isHearth 5 hX (by omega) (x1) (Nat.le_of_ble_eq_true rfl) dX7_plan_2 rfl hw (fun r2 σ2 hw => ?_)
  refine r_if_eq 17 8 hX dX7_plan_5 (by decide) rfl hw (fun hw => ?_) (fun hw => ?_)
  · refine r_iconst 18 hX dX7_plan_17 rfl (-1) ic_m1 ?_
    exact r_iret hX hR dX7_plan_18 hw
  · refine r_iload_n 9 hX dX7_plan_8 rfl rfl 2 rfl ?_
    refine r_iconst 10 hX dX7_plan_9 rfl 0 ic_0 ?_
    refine r_iconst 11 hX dX7_plan_10 rfl 3 ic_3 ?_
    refine k_X7_85_X7_in 14 hX (by omega) (x2) (0) (3) (Nat.le_of_ble_eq_true rfl) dX7_plan_11 rfl hw (fun r11 σ11 hw => ?_)
    refine r_if_ne 19 17 hX dX7_plan_14 (by decide) rfl hw (fun hw => ?_) (fun hw => ?_)
    · refine r_aload_n 20 hX dX7_plan_19 rfl rfl 0 rfl ?_
      refine r_iload_n 21 hX dX7_plan_20 rfl rfl 1 rfl ?_
      refine k_X7_245_X7_bendsOf 24 hX (by omega) (x1) (Nat.le_of_ble_eq_true rfl) dX7_plan_21 rfl hw (fun r21 σ21 hw => ?_)
      refine r_iconst 25 hX dX7_plan_24 rfl 1 ic_1 ?_
      refine r_iadd 26 hX dX7_plan_25 rfl ?_
      refine r_iconst 27 hX dX7_plan_26 rfl 2 ic_2 ?_
      refine r_aload_n 28 hX dX7_plan_27 rfl rfl 0 rfl ?_
      refine g_X7_38_75 31 hX dX7_plan_28 rfl ?_
      refine r_iconst 32 hX dX7_plan_31 rfl 4 ic_4 ?_
      refine r_iald 33 hX sh_85 dX7_plan_32 rfl hw (fun hw => ?_)
      refine r_iconst 34 hX dX7_plan_33 rfl 1 ic_1 ?_
      refine r_iadd 35 hX dX7_plan_34 rfl ?_
      refine r_imul 36 hX dX7_plan_35 rfl ?_
      refine r_isub 37 hX dX7_plan_36 rfl ?_
      refine r_topi hw (fun v37 hw => ?_)
      refine r_istore_n (lv' := [(3, .int (v37)), (0, .ref (X.kad 75)), (1, .int (x1)), (2, .int (x2))]) 38 hX dX7_plan_37 rfl rfl (by decide) rfl ?_
      refine r_iconst 39 hX dX7_plan_38 rfl 2 ic_2 ?_
      refine r_aload_n 40 hX dX7_plan_39 rfl rfl 1 rfl ?_
      refine g_X7_38_75 43 hX dX7_plan_40 rfl ?_
      refine r_iconst 44 hX dX7_plan_43 rfl 4 ic_4 ?_
      refine r_iald 45 hX sh_85 dX7_plan_44 rfl hw (fun hw => ?_)
      refine r_imul 46 hX dX7_plan_45 rfl ?_
      refine r_iconst 47 hX dX7_plan_46 rfl 1 ic_1 ?_
      refine r_iadd 48 hX dX7_plan_47 rfl ?_
      refine r_topi hw (fun v48 hw => ?_)
      refine r_istore (lv' := [(4, .int (v48)), (3, .int (v37)), (0, .ref (X.kad 75)), (1, .int (x1)), (2, .int (x2))]) 50 hX dX7_plan_48 rfl (by decide) rfl ?_
      refine r_iload_n 51 hX dX7_plan_50 rfl rfl 4 rfl ?_
      refine r_if_ne 62 54 hX dX7_plan_51 (by decide) rfl hw (fun hw => ?_) (fun hw => ?_)
      · refine r_iload_n 63 hX dX7_plan_62 rfl rfl 4 rfl ?_
        refine r_iconst 64 hX dX7_plan_63 rfl 1 ic_1 ?_
        refine r_icmp_ne 75 67 hX dX7_plan_64 (by decide) rfl hw (fun hw => ?_) (fun hw => ?_)
        · refine r_iload_n 76 hX dX7_plan_75 rfl rfl 4 rfl ?_
          refine r_iconst 77 hX dX7_plan_76 rfl 2 ic_2 ?_
          refine r_icmp_ne 88 80 hX dX7_plan_77 (by decide) rfl hw (fun hw => ?_) (fun hw => ?_)
          · refine r_iload_n 89 hX dX7_plan_88 rfl rfl 1 rfl ?_
            refine r_if_gt 96 92 hX dX7_plan_89 (by decide) rfl hw (fun hw => ?_) (fun hw => ?_)
            · refine r_iload_n 97 hX dX7_plan_96 rfl rfl 1 rfl ?_
              refine r_iload 99 hX dX7_plan_97 rfl 0 rfl ?_
              refine r_iadd 100 hX dX7_plan_99 rfl ?_
              refine r_iconst 101 hX dX7_plan_100 rfl 1 ic_1 ?_
              refine r_isub 102 hX dX7_plan_101 rfl ?_
              refine r_iload 104 hX dX7_plan_102 rfl 0 rfl ?_
              refine r_idiv 105 hX dX7_plan_104 rfl hw (fun hw => ?_)
              exact r_iret hX hR dX7_plan_105 hw
            · refine r_iconst 93 hX dX7_plan_92 rfl 0 ic_0 ?_
              refine r_goto 105 hX dX7_plan_93 (by decide) ?_
              exact r_iret hX hR dX7_plan_105 hw
          · refine r_aload_n 81 hX dX7_plan_80 rfl rfl 2 rfl ?_
            refine r_iload_n 82 hX dX7_plan_81 rfl rfl 3 rfl ?_
            refine k_X7_251_X7_coldOf 85 hX (by omega) (x1) (Nat.le_of_ble_eq_true rfl) dX7_plan_82 rfl hw (fun r82 σ82 hw => ?_)
            refine r_goto 105 hX dX7_plan_85 (by decide) ?_
            exact r_iret hX hR dX7_plan_105 hw
        · refine r_aload_n 68 hX dX7_plan_67 rfl rfl 2 rfl ?_
          refine r_iload_n 69 hX dX7_plan_68 rfl rfl 3 rfl ?_
          refine k_X7_248_X7_leansOf 72 hX (by omega) (x1) (Nat.le_of_ble_eq_true rfl) dX7_plan_69 rfl hw (fun r69 σ69 hw => ?_)
          refine r_goto 105 hX dX7_plan_72 (by decide) ?_
          exact r_iret hX hR dX7_plan_105 hw
      · refine r_aload_n 55 hX dX7_plan_54 rfl rfl 2 rfl ?_
        refine r_iload_n 56 hX dX7_plan_55 rfl rfl 3 rfl ?_
        refine k_X7_245_X7_bendsOf 59 hX (by omega) (x1) (Nat.le_of_ble_eq_true rfl) dX7_plan_56 rfl hw (fun r56 σ56 hw => ?_)
        refine r_goto 105 hX dX7_plan_59 (by decide) ?_
        exact r_iret hX hR dX7_plan_105 hw
    · refine r_iconst 18 hX dX7_plan_17 rfl (-1) ic_m1 ?_
      exact r_iret hX hR dX7_plan_18 hw
set_option maxRecDepth 20000 in
set_option maxHeartbeats 4000000 in
theorem w_X7_drawOf_b42 {X : Cx} {Q : RV → St → Prop} (hX : CxB X RX7 cX7_drawOf 5 (5)) (hR : CxR X (some .int) Q) (x1 : Int32) (s0 : Int32) (σ : St) (hw : wp_X7_drawOf_b42 (aI Q)  x1 s0 σ) : At X 5 42 [(0, .ref (X.kad 75)), (1, .int (x1))] [.int (s0)] σ := by
  unfold wp_X7_drawOf_b42 at hw
  refine r_istore (lv' := [(4, .int (s0)), (0, .ref (X.kad 75)), (1, .int (x1))]) 44 hX dX7_drawOf_42 rfl (by decide) rfl ?_
  refine r_aload_n 45 hX dX7_drawOf_44 rfl rfl 1 rfl ?_
  refine g_X7_38_75 48 hX dX7_drawOf_45 rfl ?_
  refine r_iconst 49 hX dX7_drawOf_48 rfl 3 ic_3 ?_
  refine r_iald 50 hX sh_85 dX7_drawOf_49 rfl hw (fun hw => ?_)
  refine r_aload_n 51 hX dX7_drawOf_50 rfl rfl 1 rfl ?_
  refine g_X7_17_75 54 hX dX7_drawOf_51 rfl ?_
  refine r_iconst 55 hX dX7_drawOf_54 rfl 0 ic_0 ?_
  refine r_iald 56 hX sh_78 dX7_drawOf_55 rfl hw (fun hw => ?_)
  refine r_iconst 57 hX dX7_drawOf_56 rfl 1 ic_1 ?_
  refine r_isub 58 hX dX7_drawOf_57 rfl ?_
  refine r_aload_n 59 hX dX7_drawOf_58 rfl rfl 1 rfl ?_
  refine g_X7_23_75 62 hX dX7_drawOf_59 rfl ?_
  refine r_iload_n 63 hX dX7_drawOf_62 rfl rfl 2 rfl ?_
  refine r_iald 64 hX sh_80 dX7_drawOf_63 rfl hw (fun hw => ?_)
  refine r_isub 65 hX dX7_drawOf_64 rfl ?_
  refine r_imul 66 hX dX7_drawOf_65 rfl ?_
  refine r_aload_n 67 hX dX7_drawOf_66 rfl rfl 1 rfl ?_
  refine g_X7_38_75 70 hX dX7_drawOf_67 rfl ?_
  refine r_iconst 71 hX dX7_drawOf_70 rfl 1 ic_1 ?_
  refine r_iald 72 hX sh_85 dX7_drawOf_71 rfl hw (fun hw => ?_)
  refine r_aload_n 73 hX dX7_drawOf_72 rfl rfl 1 rfl ?_
  refine r_iload_n 74 hX dX7_drawOf_73 rfl rfl 2 rfl ?_
  refine k_X7_245_X7_bendsOf 77 hX (by omega) (x1) (Nat.le_of_ble_eq_true rfl) dX7_drawOf_74 rfl hw (fun r74 σ74 hw => ?_)
  refine r_imul 78 hX dX7_drawOf_77 rfl ?_
  refine r_isub 79 hX dX7_drawOf_78 rfl ?_
  refine r_aload_n 80 hX dX7_drawOf_79 rfl rfl 1 rfl ?_
  refine g_X7_38_75 83 hX dX7_drawOf_80 rfl ?_
  refine r_iconst 84 hX dX7_drawOf_83 rfl 2 ic_2 ?_
  refine r_iald 85 hX sh_85 dX7_drawOf_84 rfl hw (fun hw => ?_)
  refine r_aload_n 86 hX dX7_drawOf_85 rfl rfl 1 rfl ?_
  refine r_iload_n 87 hX dX7_drawOf_86 rfl rfl 2 rfl ?_
  refine k_X7_251_X7_coldOf 90 hX (by omega) (x1) (Nat.le_of_ble_eq_true rfl) dX7_drawOf_87 rfl hw (fun r87 σ87 hw => ?_)
  refine r_imul 91 hX dX7_drawOf_90 rfl ?_
  refine r_isub 92 hX dX7_drawOf_91 rfl ?_
  refine r_iload 94 hX dX7_drawOf_92 rfl 0 rfl ?_
  refine r_iadd 95 hX dX7_drawOf_94 rfl ?_
  exact r_iret hX hR dX7_drawOf_95 hw
set_option maxRecDepth 20000 in
set_option maxHeartbeats 4000000 in
theorem c_X7_drawOf (x1 : Int32) (x2 : Int32) : Con yX7_drawOf cX7_drawOf 5 (some .int) (5) (fun ad => [.ref (ad 75), .int (x1), .int (x2)]) (fun Q σ => wp_X7_drawOf x1 x2 (aI Q) σ) := by
  refine con_intro (by decide +kernel) (fun _ => Nat.le_of_ble_eq_true rfl) (by omega) (fun X Q σ hX hR hw => ?_)
  have hX : CxB X RX7 cX7_drawOf 5 (5) := hX
  unfold wp_X7_drawOf at hw
  show At X 5 0 [(0, .ref (X.kad 75)), (1, .int (x1)), (2, .int (x2))] [] σ
  refine r_aload_n 1 hX dX7_drawOf_0 rfl rfl 0 rfl ?_
  refine g_X7_69_75 4 hX dX7_drawOf_1 rfl ?_
  refine r_bipush 6 hX dX7_drawOf_4 rfl 16 bi_16 ?_
  refine r_iload_n 7 hX dX7_drawOf_6 rfl rfl 1 rfl ?_
  refine r_imul 8 hX dX7_drawOf_7 rfl ?_
  refine r_aload_n 9 hX dX7_drawOf_8 rfl rfl 0 rfl ?_
  refine g_X7_17_75 12 hX dX7_drawOf_9 rfl ?_
  refine r_iconst 13 hX dX7_drawOf_12 rfl 0 ic_0 ?_
  refine r_iald 14 hX sh_78 dX7_drawOf_13 rfl hw (fun hw => ?_)
  refine r_iadd 15 hX dX7_drawOf_14 rfl ?_
  refine r_iconst 16 hX dX7_drawOf_15 rfl 1 ic_1 ?_
  refine r_isub 17 hX dX7_drawOf_16 rfl ?_
  refine r_iald 18 hX sh_95 dX7_drawOf_17 rfl hw (fun hw => ?_)
  refine r_topi hw (fun v18 hw => ?_)
  refine r_istore_n (lv' := [(3, .int (v18)), (0, .ref (X.kad 75)), (1, .int (x1)), (2, .int (x2))]) 19 hX dX7_drawOf_18 rfl rfl (by decide) rfl ?_
  refine r_aload_n 20 hX dX7_drawOf_19 rfl rfl 1 rfl ?_
  refine r_iload_n 21 hX dX7_drawOf_20 rfl rfl 0 rfl ?_
  refine k_X7_136_X7_isIn 24 hX (by omega) (v18) (Nat.le_of_ble_eq_true rfl) dX7_drawOf_21 rfl hw (fun r21 σ21 hw => ?_)
  refine r_if_eq 41 27 hX dX7_drawOf_24 (by decide) rfl hw (fun hw => ?_) (fun hw => ?_)
  · refine r_iconst 42 hX dX7_drawOf_41 rfl 0 ic_0 ?_
    refine r_sub [1, 2] rfl ?_
    exact w_X7_drawOf_b42 hX hR _ _ _ hw
  · refine r_aload_n 28 hX dX7_drawOf_27 rfl rfl 1 rfl ?_
    refine g_X7_41_75 31 hX dX7_drawOf_28 rfl ?_
    refine r_bipush 33 hX dX7_drawOf_31 rfl 10 bi_10 ?_
    refine r_iload_n 34 hX dX7_drawOf_33 rfl rfl 3 rfl ?_
    refine r_imul 35 hX dX7_drawOf_34 rfl ?_
    refine r_iload_n 36 hX dX7_drawOf_35 rfl rfl 0 rfl ?_
    refine r_iadd 37 hX dX7_drawOf_36 rfl ?_
    refine r_iald 38 hX sh_86 dX7_drawOf_37 rfl hw (fun hw => ?_)
    refine r_goto 42 hX dX7_drawOf_38 (by decide) ?_
    refine r_sub [1, 2] rfl ?_
    exact w_X7_drawOf_b42 hX hR _ _ _ hw
theorem k_X7_254_X7_drawOf {X : Cx} {cc : ByteArray} {nL d pc : Nat} {lv : List (Nat × Value)} {rest : List Value} {σ : St} {K : Int32 → St → Prop} (q : Nat) (hX : CxB X RX7 cc nL d) (hdc : 5 + 1 ≤ d) (x1 : Int32) (x2 : Int32) (hst : (rest.map fun v => v.category).sum ≤ 8) (hd : decode cc pc = .ok (.invokevirtual 254, 3)) (hq : pc + 3 = q) (hw : wp_X7_drawOf x1 x2 K σ) (kk : ∀ (r : Int32) (τ : St), K r τ → At X nL q lv (.int r :: rest) τ) : At X nL pc lv (.int (x2) :: .int (x1) :: .ref (X.kad 75) :: rest) σ := r_callV (n := 2) q hX (k0 := 75) (c_X7_drawOf x1 x2) tw_708 tw_709 tw_710 tw_517 tw_711 ⟨by decide +kernel, by decide +kernel, by decide +kernel⟩ hdc (by decide) (As := [.int (x1), .int (x2)]) rfl rfl (by decide) ⟨_, _, _, rfl, rfl, rfl⟩ hst hd hq rfl (K := qI K) hw (kI kk)
set_option maxRecDepth 20000 in
set_option maxHeartbeats 4000000 in
theorem c_X7_draw (x1 : Int32) (x2 : Int32) : Con yX7_draw cX7_draw 3 (some .int) (6) (fun ad => [.ref (ad 75), .int (x1), .int (x2)]) (fun Q σ => wp_X7_draw x1 x2 (aI Q) σ) := by
  refine con_intro (by decide +kernel) (fun _ => Nat.le_of_ble_eq_true rfl) (by omega) (fun X Q σ hX hR hw => ?_)
  have hX : CxB X RX7 cX7_draw 3 (6) := hX
  unfold wp_X7_draw at hw
  show At X 3 0 [(0, .ref (X.kad 75)), (1, .int (x1)), (2, .int (x2))] [] σ
  refine r_aload_n 1 hX dX7_draw_0 rfl rfl 0 rfl ?_
  refine r_iload_n 2 hX dX7_draw_1 rfl rfl 1 rfl ?_
  refine k_X7_150_X7_isHearth 5 hX (by omega) (x1) (Nat.le_of_ble_eq_true rfl) dX7_draw_2 rfl hw (fun r2 σ2 hw => ?_)
  refine r_if_eq 26 8 hX dX7_draw_5 (by decide) rfl hw (fun hw => ?_) (fun hw => ?_)
  · refine r_ldc 28 hX (-1000000) tw_588 dX7_draw_26 rfl ?_
    exact r_iret hX hR dX7_draw_28 hw
  · refine r_iload_n 9 hX dX7_draw_8 rfl rfl 2 rfl ?_
    refine r_iconst 10 hX dX7_draw_9 rfl 0 ic_0 ?_
    refine r_iconst 11 hX dX7_draw_10 rfl 3 ic_3 ?_
    refine k_X7_85_X7_in 14 hX (by omega) (x2) (0) (3) (Nat.le_of_ble_eq_true rfl) dX7_draw_11 rfl hw (fun r11 σ11 hw => ?_)
    refine r_if_eq 26 17 hX dX7_draw_14 (by decide) rfl hw (fun hw => ?_) (fun hw => ?_)
    · refine r_ldc 28 hX (-1000000) tw_588 dX7_draw_26 rfl ?_
      exact r_iret hX hR dX7_draw_28 hw
    · refine r_aload_n 18 hX dX7_draw_17 rfl rfl 0 rfl ?_
      refine r_iload_n 19 hX dX7_draw_18 rfl rfl 1 rfl ?_
      refine r_iload_n 20 hX dX7_draw_19 rfl rfl 2 rfl ?_
      refine k_X7_254_X7_drawOf 23 hX (by omega) (x1) (x2) (Nat.le_of_ble_eq_true rfl) dX7_draw_20 rfl hw (fun r20 σ20 hw => ?_)
      refine r_goto 28 hX dX7_draw_23 (by decide) ?_
      exact r_iret hX hR dX7_draw_28 hw
set_option maxRecDepth 20000 in
set_option maxHeartbeats 4000000 in
theorem c_X7_smokes (x1 : Int32) (x2 : Int32) (x3 : Int32) : Con yX7_smokes cX7_smokes 5 (some .int) (6) (fun ad => [.ref (ad 75), .int (x1), .int (x2), .int (x3)]) (fun Q σ => wp_X7_smokes x1 x2 x3 (aI Q) σ) := by
  refine con_intro (by decide +kernel) (fun _ => Nat.le_of_ble_eq_true rfl) (by omega) (fun X Q σ hX hR hw => ?_)
  have hX : CxB X RX7 cX7_smokes 5 (6) := hX
  unfold wp_X7_smokes at hw
  show At X 5 0 [(0, .ref (X.kad 75)), (1, .int (x1)), (2, .int (x2)), (3, .int (x3))] [] σ
  refine r_aload_n 1 hX dX7_smokes_0 rfl rfl 0 rfl ?_
  refine r_iload_n 2 hX dX7_smokes_1 rfl rfl 1 rfl ?_
  refine k_X7_150_X7_isHearth 5 hX (by omega) (x1) (Nat.le_of_ble_eq_true rfl) dX7_smokes_2 rfl hw (fun r2 σ2 hw => ?_)
  refine r_if_eq 25 8 hX dX7_smokes_5 (by decide) rfl hw (fun hw => ?_) (fun hw => ?_)
  · refine r_iconst 26 hX dX7_smokes_25 rfl (-1) ic_m1 ?_
    exact r_iret hX hR dX7_smokes_26 hw
  · refine r_aload_n 9 hX dX7_smokes_8 rfl rfl 0 rfl ?_
    refine r_iload_n 10 hX dX7_smokes_9 rfl rfl 2 rfl ?_
    refine k_X7_150_X7_isHearth 13 hX (by omega) (x2) (Nat.le_of_ble_eq_true rfl) dX7_smokes_10 rfl hw (fun r10 σ10 hw => ?_)
    refine r_if_eq 25 16 hX dX7_smokes_13 (by decide) rfl hw (fun hw => ?_) (fun hw => ?_)
    · refine r_iconst 26 hX dX7_smokes_25 rfl (-1) ic_m1 ?_
      exact r_iret hX hR dX7_smokes_26 hw
    · refine r_iload_n 17 hX dX7_smokes_16 rfl rfl 3 rfl ?_
      refine r_iconst 18 hX dX7_smokes_17 rfl 0 ic_0 ?_
      refine r_iconst 19 hX dX7_smokes_18 rfl 3 ic_3 ?_
      refine k_X7_85_X7_in 22 hX (by omega) (x3) (0) (3) (Nat.le_of_ble_eq_true rfl) dX7_smokes_19 rfl hw (fun r19 σ19 hw => ?_)
      refine r_if_ne 27 25 hX dX7_smokes_22 (by decide) rfl hw (fun hw => ?_) (fun hw => ?_)
      · refine r_aload_n 28 hX dX7_smokes_27 rfl rfl 0 rfl ?_
        refine r_iload_n 29 hX dX7_smokes_28 rfl rfl 1 rfl ?_
        refine r_iload_n 30 hX dX7_smokes_29 rfl rfl 3 rfl ?_
        refine k_X7_254_X7_drawOf 33 hX (by omega) (x1) (x3) (Nat.le_of_ble_eq_true rfl) dX7_smokes_30 rfl hw (fun r30 σ30 hw => ?_)
        refine r_istore (lv' := [(4, .int (r30)), (0, .ref (X.kad 75)), (1, .int (x1)), (2, .int (x2)), (3, .int (x3))]) 35 hX dX7_smokes_33 rfl (by decide) rfl ?_
        refine r_iload 37 hX dX7_smokes_35 rfl 0 rfl ?_
        refine r_aload_n 38 hX dX7_smokes_37 rfl rfl 1 rfl ?_
        refine g_X7_29_75 41 hX dX7_smokes_38 rfl ?_
        refine r_iload_n 42 hX dX7_smokes_41 rfl rfl 2 rfl ?_
        refine r_iald 43 hX sh_82 dX7_smokes_42 rfl hw (fun hw => ?_)
        refine r_icmp_lt 69 46 hX dX7_smokes_43 (by decide) rfl hw (fun hw => ?_) (fun hw => ?_)
        · refine r_iconst 70 hX dX7_smokes_69 rfl 1 ic_1 ?_
          refine r_goto 74 hX dX7_smokes_70 (by decide) ?_
          exact r_iret hX hR dX7_smokes_74 hw
        · refine r_iload_n 47 hX dX7_smokes_46 rfl rfl 3 rfl ?_
          refine r_iload_n 48 hX dX7_smokes_47 rfl rfl 2 rfl ?_
          refine r_icmp_eq 73 51 hX dX7_smokes_48 (by decide) rfl hw (fun hw => ?_) (fun hw => ?_)
          · refine r_iconst 74 hX dX7_smokes_73 rfl 0 ic_0 ?_
            exact r_iret hX hR dX7_smokes_74 hw
          · refine r_iload 53 hX dX7_smokes_51 rfl 0 rfl ?_
            refine r_aload_n 54 hX dX7_smokes_53 rfl rfl 1 rfl ?_
            refine r_iload_n 55 hX dX7_smokes_54 rfl rfl 3 rfl ?_
            refine r_iload_n 56 hX dX7_smokes_55 rfl rfl 4 rfl ?_
            refine k_X7_254_X7_drawOf 59 hX (by omega) (x2) (x3) (Nat.le_of_ble_eq_true rfl) dX7_smokes_56 rfl hw (fun r56 σ56 hw => ?_)
            refine r_aload_n 60 hX dX7_smokes_59 rfl rfl 1 rfl ?_
            refine g_X7_38_75 63 hX dX7_smokes_60 rfl ?_
            refine r_iconst 64 hX dX7_smokes_63 rfl 5 ic_5 ?_
            refine r_iald 65 hX sh_85 dX7_smokes_64 rfl hw (fun hw => ?_)
            refine r_isub 66 hX dX7_smokes_65 rfl ?_
            refine r_icmp_ge 73 69 hX dX7_smokes_66 (by decide) rfl hw (fun hw => ?_) (fun hw => ?_)
            · refine r_iconst 74 hX dX7_smokes_73 rfl 0 ic_0 ?_
              exact r_iret hX hR dX7_smokes_74 hw
            · refine r_iconst 70 hX dX7_smokes_69 rfl 1 ic_1 ?_
              refine r_goto 74 hX dX7_smokes_70 (by decide) ?_
              exact r_iret hX hR dX7_smokes_74 hw
      · refine r_iconst 26 hX dX7_smokes_25 rfl (-1) ic_m1 ?_
        exact r_iret hX hR dX7_smokes_26 hw
set_option maxRecDepth 20000 in
set_option maxHeartbeats 4000000 in
theorem w_X7_mend_b102 {X : Cx} {Q : RV → St → Prop} (hX : CxB X RX7 cX7_mend 8 (6)) (hR : CxR X (some .int) Q) {K14 : Int32 → Int32 → Int32 → St → Prop} (hK14 : ∀ (x1 : Int32) (x2 : Int32) (x3 : Int32) (σ : St), K14 x1 x2 x3 σ → At X 8 14 [(0, .ref (X.kad 75)), (1, .int (x1)), (2, .int (x2)), (3, .int (x3))] [] σ) {K22 : Int32 → Int32 → Int32 → Int32 → St → Prop} (hK22 : ∀ (x1 : Int32) (x2 : Int32) (x3 : Int32) (x4 : Int32) (σ : St), K22 x1 x2 x3 x4 σ → At X 8 22 [(0, .ref (X.kad 75)), (1, .int (x1)), (2, .int (x2)), (3, .int (x3)), (4, .int (x4))] [] σ) (x1 : Int32) (x2 : Int32) (x3 : Int32) (x4 : Int32) (s0 : Int32) (σ : St) (hw : wp_X7_mend_b102 (aI Q) K14 K22 x1 x2 x3 x4 s0 σ) : At X 8 102 [(0, .ref (X.kad 75)), (1, .int (x1)), (2, .int (x2)), (3, .int (x3)), (4, .int (x4))] [.int (s0)] σ := by
  unfold wp_X7_mend_b102 at hw
  refine r_istore (lv' := [(7, .int (s0)), (0, .ref (X.kad 75)), (1, .int (x1)), (2, .int (x2)), (3, .int (x3)), (4, .int (x4))]) 104 hX dX7_mend_102 rfl (by decide) rfl ?_
  refine r_iload 106 hX dX7_mend_104 rfl 0 rfl ?_
  refine r_iload_n 107 hX dX7_mend_106 rfl rfl 3 rfl ?_
  refine r_icmp_le 115 110 hX dX7_mend_107 (by decide) rfl hw (fun hw => ?_) (fun hw => ?_)
  · refine r_iload_n 116 hX dX7_mend_115 rfl rfl 3 rfl ?_
    refine r_istore_n (lv' := [(2, .int (x2)), (7, .int (s0)), (0, .ref (X.kad 75)), (1, .int (x1)), (3, .int (x3)), (4, .int (x4))]) 117 hX dX7_mend_116 rfl rfl (by decide) rfl ?_
    refine r_iinc (lv' := [(4, .int (x4 + 1)), (2, .int (x2)), (7, .int (s0)), (0, .ref (X.kad 75)), (1, .int (x1)), (3, .int (x3))]) 120 hX dX7_mend_117 rfl 5 rfl (x4 + 1) (ici_1 _) (by decide) rfl ?_
    refine r_goto 22 hX dX7_mend_120 (by decide) ?_
    refine r_sub [3, 4, 1, 5, 0] rfl ?_
    exact hK22 _ _ _ _ _ hw
  · refine r_iload 112 hX dX7_mend_110 rfl 0 rfl ?_
    refine r_goto 116 hX dX7_mend_112 (by decide) ?_
    refine r_istore_n (lv' := [(2, .int (s0)), (7, .int (s0)), (0, .ref (X.kad 75)), (1, .int (x1)), (3, .int (x3)), (4, .int (x4))]) 117 hX dX7_mend_116 rfl rfl (by decide) rfl ?_
    refine r_iinc (lv' := [(4, .int (x4 + 1)), (2, .int (s0)), (7, .int (s0)), (0, .ref (X.kad 75)), (1, .int (x1)), (3, .int (x3))]) 120 hX dX7_mend_117 rfl 5 rfl (x4 + 1) (ici_1 _) (by decide) rfl ?_
    refine r_goto 22 hX dX7_mend_120 (by decide) ?_
    refine r_sub [3, 4, 1, 5, 0] rfl ?_
    exact hK22 _ _ _ _ _ hw
set_option maxRecDepth 20000 in
set_option maxHeartbeats 4000000 in
theorem w_X7_mend_b62 {X : Cx} {Q : RV → St → Prop} (hX : CxB X RX7 cX7_mend 8 (6)) (hR : CxR X (some .int) Q) {K14 : Int32 → Int32 → Int32 → St → Prop} (hK14 : ∀ (x1 : Int32) (x2 : Int32) (x3 : Int32) (σ : St), K14 x1 x2 x3 σ → At X 8 14 [(0, .ref (X.kad 75)), (1, .int (x1)), (2, .int (x2)), (3, .int (x3))] [] σ) {K22 : Int32 → Int32 → Int32 → Int32 → St → Prop} (hK22 : ∀ (x1 : Int32) (x2 : Int32) (x3 : Int32) (x4 : Int32) (σ : St), K22 x1 x2 x3 x4 σ → At X 8 22 [(0, .ref (X.kad 75)), (1, .int (x1)), (2, .int (x2)), (3, .int (x3)), (4, .int (x4))] [] σ) (x1 : Int32) (x2 : Int32) (x3 : Int32) (x4 : Int32) (s0 : Int32) (σ : St) (hw : wp_X7_mend_b62 (aI Q) K14 K22 x1 x2 x3 x4 s0 σ) : At X 8 62 [(0, .ref (X.kad 75)), (1, .int (x1)), (2, .int (x2)), (3, .int (x3)), (4, .int (x4))] [.int (s0)] σ := by
  unfold wp_X7_mend_b62 at hw
  refine r_istore (lv' := [(5, .int (s0)), (0, .ref (X.kad 75)), (1, .int (x1)), (2, .int (x2)), (3, .int (x3)), (4, .int (x4))]) 64 hX dX7_mend_62 rfl (by decide) rfl ?_
  refine r_iload 66 hX dX7_mend_64 rfl 0 rfl ?_
  refine r_aload_n 67 hX dX7_mend_66 rfl rfl 1 rfl ?_
  refine r_iload_n 68 hX dX7_mend_67 rfl rfl 2 rfl ?_
  refine r_iload_n 69 hX dX7_mend_68 rfl rfl 4 rfl ?_
  refine k_X7_254_X7_drawOf 72 hX (by omega) (x1) (x3) (Nat.le_of_ble_eq_true rfl) dX7_mend_69 rfl hw (fun r69 σ69 hw => ?_)
  refine r_isub 73 hX dX7_mend_72 rfl ?_
  refine r_istore (lv' := [(6, .int (s0 - r69)), (5, .int (s0)), (0, .ref (X.kad 75)), (1, .int (x1)), (2, .int (x2)), (3, .int (x3)), (4, .int (x4))]) 75 hX dX7_mend_73 rfl (by decide) rfl ?_
  refine r_iload 77 hX dX7_mend_75 rfl 0 rfl ?_
  refine r_if_gt 84 80 hX dX7_mend_77 (by decide) rfl hw (fun hw => ?_) (fun hw => ?_)
  · refine r_iload 86 hX dX7_mend_84 rfl 0 rfl ?_
    refine r_aload_n 87 hX dX7_mend_86 rfl rfl 2 rfl ?_
    refine g_X7_38_75 90 hX dX7_mend_87 rfl ?_
    refine r_iconst 91 hX dX7_mend_90 rfl 3 ic_3 ?_
    refine r_iald 92 hX sh_85 dX7_mend_91 rfl hw (fun hw => ?_)
    refine r_iadd 93 hX dX7_mend_92 rfl ?_
    refine r_iconst 94 hX dX7_mend_93 rfl 1 ic_1 ?_
    refine r_isub 95 hX dX7_mend_94 rfl ?_
    refine r_aload_n 96 hX dX7_mend_95 rfl rfl 2 rfl ?_
    refine g_X7_38_75 99 hX dX7_mend_96 rfl ?_
    refine r_iconst 100 hX dX7_mend_99 rfl 3 ic_3 ?_
    refine r_iald 101 hX sh_85 dX7_mend_100 rfl hw (fun hw => ?_)
    refine r_idiv 102 hX dX7_mend_101 rfl hw (fun hw => ?_)
    refine r_sub [2, 3, 4, 5, 6] rfl ?_
    exact w_X7_mend_b102 hX hR hK14 hK22 _ _ _ _ _ _ hw
  · refine r_iconst 81 hX dX7_mend_80 rfl 0 ic_0 ?_
    refine r_goto 102 hX dX7_mend_81 (by decide) ?_
    refine r_sub [2, 3, 4, 5, 6] rfl ?_
    exact w_X7_mend_b102 hX hR hK14 hK22 _ _ _ _ _ _ hw
set_option maxRecDepth 20000 in
set_option maxHeartbeats 4000000 in
theorem w_X7_mend_b22 {X : Cx} {Q : RV → St → Prop} (hX : CxB X RX7 cX7_mend 8 (6)) (hR : CxR X (some .int) Q) {K14 : Int32 → Int32 → Int32 → St → Prop} (hK14 : ∀ (x1 : Int32) (x2 : Int32) (x3 : Int32) (σ : St), K14 x1 x2 x3 σ → At X 8 14 [(0, .ref (X.kad 75)), (1, .int (x1)), (2, .int (x2)), (3, .int (x3))] [] σ) {K22 : Int32 → Int32 → Int32 → Int32 → St → Prop} (hK22 : ∀ (x1 : Int32) (x2 : Int32) (x3 : Int32) (x4 : Int32) (σ : St), K22 x1 x2 x3 x4 σ → At X 8 22 [(0, .ref (X.kad 75)), (1, .int (x1)), (2, .int (x2)), (3, .int (x3)), (4, .int (x4))] [] σ) (x1 : Int32) (x2 : Int32) (x3 : Int32) (x4 : Int32) (σ : St) (hw : wp_X7_mend_b22 (aI Q) K14 K22 x1 x2 x3 x4 σ) : At X 8 22 [(0, .ref (X.kad 75)), (1, .int (x1)), (2, .int (x2)), (3, .int (x3)), (4, .int (x4))] [] σ := by
  unfold wp_X7_mend_b22 at hw
  refine r_iload 24 hX dX7_mend_22 rfl 4 rfl ?_
  refine r_aload_n 25 hX dX7_mend_24 rfl rfl 0 rfl ?_
  refine g_X7_20_75 28 hX dX7_mend_25 rfl ?_
  refine r_iconst 29 hX dX7_mend_28 rfl 0 ic_0 ?_
  refine r_iald 30 hX sh_79 dX7_mend_29 rfl hw (fun hw => ?_)
  refine r_icmp_ge 123 33 hX dX7_mend_30 (by decide) rfl hw (fun hw => ?_) (fun hw => ?_)
  · refine r_iinc (lv' := [(3, .int (x3 + 1)), (0, .ref (X.kad 75)), (1, .int (x1)), (2, .int (x2)), (4, .int (x4))]) 126 hX dX7_mend_123 rfl 3 rfl (x3 + 1) (ici_1 _) (by decide) rfl ?_
    refine r_goto 14 hX dX7_mend_126 (by decide) ?_
    refine r_sub [1, 2, 3, 0] rfl ?_
    exact hK14 _ _ _ _ hw
  · refine r_iload 35 hX dX7_mend_33 rfl 4 rfl ?_
    refine r_iload_n 36 hX dX7_mend_35 rfl rfl 1 rfl ?_
    refine r_icmp_ne 48 39 hX dX7_mend_36 (by decide) rfl hw (fun hw => ?_) (fun hw => ?_)
    · refine r_aload_n 49 hX dX7_mend_48 rfl rfl 0 rfl ?_
      refine r_iload 51 hX dX7_mend_49 rfl 4 rfl ?_
      refine r_iload_n 52 hX dX7_mend_51 rfl rfl 3 rfl ?_
      refine k_X7_254_X7_drawOf 55 hX (by omega) (x4) (x3) (Nat.le_of_ble_eq_true rfl) dX7_mend_52 rfl hw (fun r52 σ52 hw => ?_)
      refine r_aload_n 56 hX dX7_mend_55 rfl rfl 0 rfl ?_
      refine g_X7_38_75 59 hX dX7_mend_56 rfl ?_
      refine r_iconst 60 hX dX7_mend_59 rfl 5 ic_5 ?_
      refine r_iald 61 hX sh_85 dX7_mend_60 rfl hw (fun hw => ?_)
      refine r_isub 62 hX dX7_mend_61 rfl ?_
      exact w_X7_mend_b62 hX hR hK14 hK22 _ _ _ _ _ _ hw
    · refine r_aload_n 40 hX dX7_mend_39 rfl rfl 0 rfl ?_
      refine g_X7_29_75 43 hX dX7_mend_40 rfl ?_
      refine r_iload_n 44 hX dX7_mend_43 rfl rfl 1 rfl ?_
      refine r_iald 45 hX sh_82 dX7_mend_44 rfl hw (fun hw => ?_)
      refine r_goto 62 hX dX7_mend_45 (by decide) ?_
      exact w_X7_mend_b62 hX hR hK14 hK22 _ _ _ _ _ _ hw
set_option maxRecDepth 20000 in
set_option maxHeartbeats 4000000 in
theorem w_X7_mend_l22 {X : Cx} {Q : RV → St → Prop} (hX : CxB X RX7 cX7_mend 8 (6)) (hR : CxR X (some .int) Q) {K14 : Int32 → Int32 → Int32 → St → Prop} (hK14 : ∀ (x1 : Int32) (x2 : Int32) (x3 : Int32) (σ : St), K14 x1 x2 x3 σ → At X 8 14 [(0, .ref (X.kad 75)), (1, .int (x1)), (2, .int (x2)), (3, .int (x3))] [] σ) (n : Nat) : ∀ (x1 : Int32) (x2 : Int32) (x3 : Int32) (x4 : Int32) (σ : St), wp_X7_mend_l22 (aI Q) K14 n x1 x2 x3 x4 σ → At X 8 22 [(0, .ref (X.kad 75)), (1, .int (x1)), (2, .int (x2)), (3, .int (x3)), (4, .int (x4))] [] σ := by
  induction n with
  | zero => intro x1 x2 x3 x4 σ h; exact h.elim
  | succ n ih => intro x1 x2 x3 x4 σ h; exact w_X7_mend_b22  hX hR hK14 ih x1 x2 x3 x4 σ h
set_option maxRecDepth 20000 in
set_option maxHeartbeats 4000000 in
theorem w_X7_mend_b14 {X : Cx} {Q : RV → St → Prop} (hX : CxB X RX7 cX7_mend 8 (6)) (hR : CxR X (some .int) Q) {K14 : Int32 → Int32 → Int32 → St → Prop} (hK14 : ∀ (x1 : Int32) (x2 : Int32) (x3 : Int32) (σ : St), K14 x1 x2 x3 σ → At X 8 14 [(0, .ref (X.kad 75)), (1, .int (x1)), (2, .int (x2)), (3, .int (x3))] [] σ) (x1 : Int32) (x2 : Int32) (x3 : Int32) (σ : St) (hw : wp_X7_mend_b14 (aI Q) K14 x1 x2 x3 σ) : At X 8 14 [(0, .ref (X.kad 75)), (1, .int (x1)), (2, .int (x2)), (3, .int (x3))] [] σ := by
  unfold wp_X7_mend_b14 at hw
  refine r_iload_n 15 hX dX7_mend_14 rfl rfl 3 rfl ?_
  refine r_iconst 16 hX dX7_mend_15 rfl 4 ic_4 ?_
  refine r_icmp_ge 129 19 hX dX7_mend_16 (by decide) rfl hw (fun hw => ?_) (fun hw => ?_)
  · refine r_iload_n 130 hX dX7_mend_129 rfl rfl 2 rfl ?_
    refine r_bipush 132 hX dX7_mend_130 rfl 40 bi_40 ?_
    refine r_icmp_le 140 135 hX dX7_mend_132 (by decide) rfl hw (fun hw => ?_) (fun hw => ?_)
    · refine r_iload_n 141 hX dX7_mend_140 rfl rfl 2 rfl ?_
      exact r_iret hX hR dX7_mend_141 hw
    · refine r_bipush 137 hX dX7_mend_135 rfl (-9) bi_m9 ?_
      refine r_goto 141 hX dX7_mend_137 (by decide) ?_
      exact r_iret hX hR dX7_mend_141 hw
  · refine r_iconst 20 hX dX7_mend_19 rfl 0 ic_0 ?_
    refine r_istore (lv' := [(4, .int (0)), (0, .ref (X.kad 75)), (1, .int (x1)), (2, .int (x2)), (3, .int (x3))]) 22 hX dX7_mend_20 rfl (by decide) rfl ?_
    refine r_sub [1, 2, 3, 4, 0] rfl ?_
    obtain ⟨n, hw⟩ := hw
    exact w_X7_mend_l22 hX hR hK14 n _ _ _ _ _ hw
set_option maxRecDepth 20000 in
set_option maxHeartbeats 4000000 in
theorem w_X7_mend_l14 {X : Cx} {Q : RV → St → Prop} (hX : CxB X RX7 cX7_mend 8 (6)) (hR : CxR X (some .int) Q) (n : Nat) : ∀ (x1 : Int32) (x2 : Int32) (x3 : Int32) (σ : St), wp_X7_mend_l14 (aI Q)  n x1 x2 x3 σ → At X 8 14 [(0, .ref (X.kad 75)), (1, .int (x1)), (2, .int (x2)), (3, .int (x3))] [] σ := by
  induction n with
  | zero => intro x1 x2 x3 σ h; exact h.elim
  | succ n ih => intro x1 x2 x3 σ h; exact w_X7_mend_b14  hX hR ih x1 x2 x3 σ h
set_option maxRecDepth 20000 in
set_option maxHeartbeats 4000000 in
theorem c_X7_mend (x1 : Int32) : Con yX7_mend cX7_mend 8 (some .int) (6) (fun ad => [.ref (ad 75), .int (x1)]) (fun Q σ => wp_X7_mend x1 (aI Q) σ) := by
  refine con_intro (by decide +kernel) (fun _ => Nat.le_of_ble_eq_true rfl) (by omega) (fun X Q σ hX hR hw => ?_)
  have hX : CxB X RX7 cX7_mend 8 (6) := hX
  unfold wp_X7_mend at hw
  show At X 8 0 [(0, .ref (X.kad 75)), (1, .int (x1))] [] σ
  refine r_aload_n 1 hX dX7_mend_0 rfl rfl 0 rfl ?_
  refine r_iload_n 2 hX dX7_mend_1 rfl rfl 1 rfl ?_
  refine k_X7_150_X7_isHearth 5 hX (by omega) (x1) (Nat.le_of_ble_eq_true rfl) dX7_mend_2 rfl hw (fun r2 σ2 hw => ?_)
  refine r_if_ne 10 8 hX dX7_mend_5 (by decide) rfl hw (fun hw => ?_) (fun hw => ?_)
  · refine r_iconst 11 hX dX7_mend_10 rfl 0 ic_0 ?_
    refine r_istore_n (lv' := [(2, .int (0)), (0, .ref (X.kad 75)), (1, .int (x1))]) 12 hX dX7_mend_11 rfl rfl (by decide) rfl ?_
    refine r_iconst 13 hX dX7_mend_12 rfl 0 ic_0 ?_
    refine r_istore_n (lv' := [(3, .int (0)), (2, .int (0)), (0, .ref (X.kad 75)), (1, .int (x1))]) 14 hX dX7_mend_13 rfl rfl (by decide) rfl ?_
    refine r_sub [2, 3, 1, 0] rfl ?_
    obtain ⟨n, hw⟩ := hw
    exact w_X7_mend_l14 hX hR n _ _ _ _ hw
  · refine r_iconst 9 hX dX7_mend_8 rfl (-1) ic_m1 ?_
    exact r_iret hX hR dX7_mend_9 hw
set_option maxRecDepth 20000 in
set_option maxHeartbeats 4000000 in
theorem w_X7_isWellWith_b50 {X : Cx} {Q : RV → St → Prop} (hX : CxB X RX7 cX7_isWellWith 4 (7)) (hR : CxR X (some .boolean) Q) {K13 : Int32 → Int32 → Int32 → St → Prop} (hK13 : ∀ (x1 : Int32) (x2 : Int32) (x3 : Int32) (σ : St), K13 x1 x2 x3 σ → At X 4 13 [(0, .ref (X.kad 75)), (1, .int (x1)), (2, .int (x2)), (3, .int (x3))] [] σ) (x1 : Int32) (x2 : Int32) (x3 : Int32) (s0 : Int32) (s1 : Int32) (s2 : Int32) (σ : St) (hw : wp_X7_isWellWith_b50 (aI Q) K13 x1 x2 x3 s0 s1 s2 σ) : At X 4 50 [(0, .ref (X.kad 75)), (1, .int (x1)), (2, .int (x2)), (3, .int (x3))] [.int (s0), .int (s1), .int (s2), .ref (X.kad 75)] σ := by
  unfold wp_X7_isWellWith_b50 at hw
  refine k_X7_186_X7_add 53 hX (by omega) (s2) (s1) (s0) (Nat.le_of_ble_eq_true rfl) dX7_isWellWith_50 rfl hw (fun σ50 hw => ?_)
  refine r_iinc (lv' := [(3, .int (x3 + 1)), (0, .ref (X.kad 75)), (1, .int (x1)), (2, .int (x2))]) 56 hX dX7_isWellWith_53 rfl 3 rfl (x3 + 1) (ici_1 _) (by decide) rfl ?_
  refine r_goto 13 hX dX7_isWellWith_56 (by decide) ?_
  refine r_sub [1, 2, 3, 0] rfl ?_
  exact hK13 _ _ _ _ hw
set_option maxRecDepth 20000 in
set_option maxHeartbeats 4000000 in
theorem w_X7_isWellWith_b13 {X : Cx} {Q : RV → St → Prop} (hX : CxB X RX7 cX7_isWellWith 4 (7)) (hR : CxR X (some .boolean) Q) {K13 : Int32 → Int32 → Int32 → St → Prop} (hK13 : ∀ (x1 : Int32) (x2 : Int32) (x3 : Int32) (σ : St), K13 x1 x2 x3 σ → At X 4 13 [(0, .ref (X.kad 75)), (1, .int (x1)), (2, .int (x2)), (3, .int (x3))] [] σ) (x1 : Int32) (x2 : Int32) (x3 : Int32) (σ : St) (hw : wp_X7_isWellWith_b13 (aI Q) K13 x1 x2 x3 σ) : At X 4 13 [(0, .ref (X.kad 75)), (1, .int (x1)), (2, .int (x2)), (3, .int (x3))] [] σ := by
  unfold wp_X7_isWellWith_b13 at hw
  refine r_iload_n 14 hX dX7_isWellWith_13 rfl rfl 3 rfl ?_
  refine r_aload_n 15 hX dX7_isWellWith_14 rfl rfl 0 rfl ?_
  refine g_X7_20_75 18 hX dX7_isWellWith_15 rfl ?_
  refine r_iconst 19 hX dX7_isWellWith_18 rfl 0 ic_0 ?_
  refine r_iald 20 hX sh_79 dX7_isWellWith_19 rfl hw (fun hw => ?_)
  refine r_icmp_ge 59 23 hX dX7_isWellWith_20 (by decide) rfl hw (fun hw => ?_) (fun hw => ?_)
  · refine r_aload_n 60 hX dX7_isWellWith_59 rfl rfl 0 rfl ?_
    refine r_iload_n 61 hX dX7_isWellWith_60 rfl rfl 2 rfl ?_
    refine p_X7_183_75 64 hX dX7_isWellWith_61 rfl ?_
    refine r_aload_n 65 hX dX7_isWellWith_64 rfl rfl 0 rfl ?_
    refine g_X7_177_75 68 hX dX7_isWellWith_65 rfl ?_
    refine r_if_eq 80 71 hX dX7_isWellWith_68 (by decide) rfl hw (fun hw => ?_) (fun hw => ?_)
    · refine r_iconst 81 hX dX7_isWellWith_80 rfl 1 ic_1 ?_
      refine r_goto 85 hX dX7_isWellWith_81 (by decide) ?_
      exact r_zret hX hR narrow_b1 dX7_isWellWith_85 hw
    · refine r_aload_n 72 hX dX7_isWellWith_71 rfl rfl 0 rfl ?_
      refine k_X7_233_X7_goTogether 75 hX (by omega)  (Nat.le_of_ble_eq_true rfl) dX7_isWellWith_72 rfl hw (fun r72 σ72 hw => ?_)
      refine r_bipush 77 hX dX7_isWellWith_75 rfl (-9) bi_m9 ?_
      refine r_icmp_eq 84 80 hX dX7_isWellWith_77 (by decide) rfl hw (fun hw => ?_) (fun hw => ?_)
      · refine r_iconst 85 hX dX7_isWellWith_84 rfl 0 ic_0 ?_
        exact r_zret hX hR narrow_b0 dX7_isWellWith_85 hw
      · refine r_iconst 81 hX dX7_isWellWith_80 rfl 1 ic_1 ?_
        refine r_goto 85 hX dX7_isWellWith_81 (by decide) ?_
        exact r_zret hX hR narrow_b1 dX7_isWellWith_85 hw
  · refine r_aload_n 24 hX dX7_isWellWith_23 rfl rfl 0 rfl ?_
    refine r_aload_n 25 hX dX7_isWellWith_24 rfl rfl 0 rfl ?_
    refine g_X7_23_75 28 hX dX7_isWellWith_25 rfl ?_
    refine r_iload_n 29 hX dX7_isWellWith_28 rfl rfl 3 rfl ?_
    refine r_iald 30 hX sh_80 dX7_isWellWith_29 rfl hw (fun hw => ?_)
    refine r_aload_n 31 hX dX7_isWellWith_30 rfl rfl 0 rfl ?_
    refine g_X7_26_75 34 hX dX7_isWellWith_31 rfl ?_
    refine r_iload_n 35 hX dX7_isWellWith_34 rfl rfl 3 rfl ?_
    refine r_iald 36 hX sh_81 dX7_isWellWith_35 rfl hw (fun hw => ?_)
    refine r_iload_n 37 hX dX7_isWellWith_36 rfl rfl 1 rfl ?_
    refine r_iload_n 38 hX dX7_isWellWith_37 rfl rfl 3 rfl ?_
    refine r_ishr 39 hX dX7_isWellWith_38 rfl ?_
    refine r_iconst 40 hX dX7_isWellWith_39 rfl 1 ic_1 ?_
    refine r_iand 41 hX dX7_isWellWith_40 rfl ?_
    refine r_iconst 42 hX dX7_isWellWith_41 rfl 1 ic_1 ?_
    refine r_icmp_ne 49 45 hX dX7_isWellWith_42 (by decide) rfl hw (fun hw => ?_) (fun hw => ?_)
    · refine r_iload_n 50 hX dX7_isWellWith_49 rfl rfl 3 rfl ?_
      exact w_X7_isWellWith_b50 hX hR hK13 _ _ _ _ _ _ _ hw
    · refine r_iconst 46 hX dX7_isWellWith_45 rfl (-1) ic_m1 ?_
      refine r_goto 50 hX dX7_isWellWith_46 (by decide) ?_
      exact w_X7_isWellWith_b50 hX hR hK13 _ _ _ _ _ _ _ hw
set_option maxRecDepth 20000 in
set_option maxHeartbeats 4000000 in
theorem w_X7_isWellWith_l13 {X : Cx} {Q : RV → St → Prop} (hX : CxB X RX7 cX7_isWellWith 4 (7)) (hR : CxR X (some .boolean) Q) (n : Nat) : ∀ (x1 : Int32) (x2 : Int32) (x3 : Int32) (σ : St), wp_X7_isWellWith_l13 (aI Q)  n x1 x2 x3 σ → At X 4 13 [(0, .ref (X.kad 75)), (1, .int (x1)), (2, .int (x2)), (3, .int (x3))] [] σ := by
  induction n with
  | zero => intro x1 x2 x3 σ h; exact h.elim
  | succ n ih => intro x1 x2 x3 σ h; exact w_X7_isWellWith_b13  hX hR ih x1 x2 x3 σ h
set_option maxRecDepth 20000 in
set_option maxHeartbeats 4000000 in
theorem c_X7_isWellWith (x1 : Int32) (x2 : Int32) : Con yX7_isWellWith cX7_isWellWith 4 (some .boolean) (7) (fun ad => [.ref (ad 75), .int (x1), .int (x2)]) (fun Q σ => wp_X7_isWellWith x1 x2 (aI Q) σ) := by
  refine con_intro (by decide +kernel) (fun _ => Nat.le_of_ble_eq_true rfl) (by omega) (fun X Q σ hX hR hw => ?_)
  have hX : CxB X RX7 cX7_isWellWith 4 (7) := hX
  unfold wp_X7_isWellWith at hw
  show At X 4 0 [(0, .ref (X.kad 75)), (1, .int (x1)), (2, .int (x2))] [] σ
  refine r_aload_n 1 hX dX7_isWellWith_0 rfl rfl 0 rfl ?_
  refine r_iconst 2 hX dX7_isWellWith_1 rfl 0 ic_0 ?_
  refine p_X7_177_75 5 hX dX7_isWellWith_2 rfl ?_
  refine r_aload_n 6 hX dX7_isWellWith_5 rfl rfl 0 rfl ?_
  refine r_bipush 8 hX dX7_isWellWith_6 rfl 16 bi_16 ?_
  refine p_X7_180_75 11 hX dX7_isWellWith_8 rfl ?_
  refine r_iconst 12 hX dX7_isWellWith_11 rfl 0 ic_0 ?_
  refine r_istore_n (lv' := [(3, .int (0)), (0, .ref (X.kad 75)), (1, .int (x1)), (2, .int (x2))]) 13 hX dX7_isWellWith_12 rfl rfl (by decide) rfl ?_
  refine r_sub [1, 2, 3, 0] rfl ?_
  obtain ⟨n, hw⟩ := hw
  exact w_X7_isWellWith_l13 hX hR n _ _ _ _ hw
theorem k_X7_257_X7_judge {X : Cx} {cc : ByteArray} {nL d pc : Nat} {lv : List (Nat × Value)} {rest : List Value} {σ : St} {K : Int32 → St → Prop} (q : Nat) (hX : CxB X RX7 cc nL d) (hdc : 4 + 1 ≤ d) (x1 : Int32) (hst : (rest.map fun v => v.category).sum ≤ 8) (hd : decode cc pc = .ok (.invokevirtual 257, 3)) (hq : pc + 3 = q) (hw : wp_X7_judge x1 K σ) (kk : ∀ (r : Int32) (τ : St), K r τ → At X nL q lv (.int r :: rest) τ) : At X nL pc lv (.int (x1) :: .ref (X.kad 75) :: rest) σ := r_callV (n := 1) q hX (k0 := 75) (c_X7_judge x1) tw_712 tw_713 tw_714 tw_517 tw_715 ⟨by decide +kernel, by decide +kernel, by decide +kernel⟩ hdc (by decide) (As := [.int (x1)]) rfl rfl (by decide) ⟨_, _, _, rfl, rfl, rfl⟩ hst hd hq rfl (K := qI K) hw (kI kk)
theorem k_X7_260_X7_isWellWith {X : Cx} {cc : ByteArray} {nL d pc : Nat} {lv : List (Nat × Value)} {rest : List Value} {σ : St} {K : Int32 → St → Prop} (q : Nat) (hX : CxB X RX7 cc nL d) (hdc : 7 + 1 ≤ d) (x1 : Int32) (x2 : Int32) (hst : (rest.map fun v => v.category).sum ≤ 8) (hd : decode cc pc = .ok (.invokevirtual 260, 3)) (hq : pc + 3 = q) (hw : wp_X7_isWellWith x1 x2 K σ) (kk : ∀ (r : Int32) (τ : St), K r τ → At X nL q lv (.int r :: rest) τ) : At X nL pc lv (.int (x2) :: .int (x1) :: .ref (X.kad 75) :: rest) σ := r_callV (n := 2) q hX (k0 := 75) (c_X7_isWellWith x1 x2) tw_716 tw_717 tw_718 tw_517 tw_719 ⟨by decide +kernel, by decide +kernel, by decide +kernel⟩ hdc (by decide) (As := [.int (x1), .int (x2)]) rfl rfl (by decide) ⟨_, _, _, rfl, rfl, rfl⟩ hst hd hq rfl (K := qI K) hw (kI kk)
set_option maxRecDepth 20000 in
set_option maxHeartbeats 4000000 in
theorem w_X7_moved_b50 {X : Cx} {Q : RV → St → Prop} (hX : CxB X RX7 cX7_moved 5 (8)) (hR : CxR X (some .int) Q) {K37 : Int32 → Int32 → Int32 → St → Prop} (hK37 : ∀ (x1 : Int32) (x2 : Int32) (x3 : Int32) (σ : St), K37 x1 x2 x3 σ → At X 5 37 [(0, .ref (X.kad 75)), (1, .int (x1)), (2, .int (x2)), (3, .int (x3))] [] σ) {K50 : Int32 → Int32 → Int32 → Int32 → St → Prop} (hK50 : ∀ (x1 : Int32) (x2 : Int32) (x3 : Int32) (x4 : Int32) (σ : St), K50 x1 x2 x3 x4 σ → At X 5 50 [(0, .ref (X.kad 75)), (1, .int (x1)), (2, .int (x2)), (3, .int (x3)), (4, .int (x4))] [] σ) (x1 : Int32) (x2 : Int32) (x3 : Int32) (x4 : Int32) (σ : St) (hw : wp_X7_moved_b50 (aI Q) K37 K50 x1 x2 x3 x4 σ) : At X 5 50 [(0, .ref (X.kad 75)), (1, .int (x1)), (2, .int (x2)), (3, .int (x3)), (4, .int (x4))] [] σ := by
  unfold wp_X7_moved_b50 at hw
  refine r_iload 52 hX dX7_moved_50 rfl 4 rfl ?_
  refine r_iconst 53 hX dX7_moved_52 rfl 1 ic_1 ?_
  refine r_aload_n 54 hX dX7_moved_53 rfl rfl 0 rfl ?_
  refine g_X7_20_75 57 hX dX7_moved_54 rfl ?_
  refine r_iconst 58 hX dX7_moved_57 rfl 0 ic_0 ?_
  refine r_iald 59 hX sh_79 dX7_moved_58 rfl hw (fun hw => ?_)
  refine r_ishl 60 hX dX7_moved_59 rfl ?_
  refine r_icmp_ge 99 63 hX dX7_moved_60 (by decide) rfl hw (fun hw => ?_) (fun hw => ?_)
  · refine r_iinc (lv' := [(3, .int (x3 + 1)), (0, .ref (X.kad 75)), (1, .int (x1)), (2, .int (x2)), (4, .int (x4))]) 102 hX dX7_moved_99 rfl 3 rfl (x3 + 1) (ici_1 _) (by decide) rfl ?_
    refine r_goto 37 hX dX7_moved_102 (by decide) ?_
    refine r_sub [1, 2, 3, 0] rfl ?_
    exact hK37 _ _ _ _ hw
  · refine r_iload 65 hX dX7_moved_63 rfl 4 rfl ?_
    refine k_X7_236_X7_bitsIn 68 hX (by omega) (x4) (Nat.le_of_ble_eq_true rfl) dX7_moved_65 rfl hw (fun r65 σ65 hw => ?_)
    refine r_iload_n 69 hX dX7_moved_68 rfl rfl 3 rfl ?_
    refine r_icmp_ne 93 72 hX dX7_moved_69 (by decide) rfl hw (fun hw => ?_) (fun hw => ?_)
    · refine r_iinc (lv' := [(4, .int (x4 + 1)), (0, .ref (X.kad 75)), (1, .int (x1)), (2, .int (x2)), (3, .int (x3))]) 96 hX dX7_moved_93 rfl 4 rfl (x4 + 1) (ici_1 _) (by decide) rfl ?_
      refine r_goto 50 hX dX7_moved_96 (by decide) ?_
      refine r_sub [1, 2, 3, 4, 0] rfl ?_
      exact hK50 _ _ _ _ _ hw
    · refine r_aload_n 73 hX dX7_moved_72 rfl rfl 0 rfl ?_
      refine r_iload 75 hX dX7_moved_73 rfl 4 rfl ?_
      refine r_iload_n 76 hX dX7_moved_75 rfl rfl 1 rfl ?_
      refine k_X7_260_X7_isWellWith 79 hX (by omega) (x4) (x1) (Nat.le_of_ble_eq_true rfl) dX7_moved_76 rfl hw (fun r76 σ76 hw => ?_)
      refine r_if_eq 93 82 hX dX7_moved_79 (by decide) rfl hw (fun hw => ?_) (fun hw => ?_)
      · refine r_iinc (lv' := [(4, .int (x4 + 1)), (0, .ref (X.kad 75)), (1, .int (x1)), (2, .int (x2)), (3, .int (x3))]) 96 hX dX7_moved_93 rfl 4 rfl (x4 + 1) (ici_1 _) (by decide) rfl ?_
        refine r_goto 50 hX dX7_moved_96 (by decide) ?_
        refine r_sub [1, 2, 3, 4, 0] rfl ?_
        exact hK50 _ _ _ _ _ hw
      · refine r_iload_n 83 hX dX7_moved_82 rfl rfl 2 rfl ?_
        refine r_if_ne 90 86 hX dX7_moved_83 (by decide) rfl hw (fun hw => ?_) (fun hw => ?_)
        · refine r_iload 92 hX dX7_moved_90 rfl 4 rfl ?_
          exact r_iret hX hR dX7_moved_92 hw
        · refine r_iload_n 87 hX dX7_moved_86 rfl rfl 3 rfl ?_
          refine r_goto 92 hX dX7_moved_87 (by decide) ?_
          exact r_iret hX hR dX7_moved_92 hw
set_option maxRecDepth 20000 in
set_option maxHeartbeats 4000000 in
theorem w_X7_moved_l50 {X : Cx} {Q : RV → St → Prop} (hX : CxB X RX7 cX7_moved 5 (8)) (hR : CxR X (some .int) Q) {K37 : Int32 → Int32 → Int32 → St → Prop} (hK37 : ∀ (x1 : Int32) (x2 : Int32) (x3 : Int32) (σ : St), K37 x1 x2 x3 σ → At X 5 37 [(0, .ref (X.kad 75)), (1, .int (x1)), (2, .int (x2)), (3, .int (x3))] [] σ) (n : Nat) : ∀ (x1 : Int32) (x2 : Int32) (x3 : Int32) (x4 : Int32) (σ : St), wp_X7_moved_l50 (aI Q) K37 n x1 x2 x3 x4 σ → At X 5 50 [(0, .ref (X.kad 75)), (1, .int (x1)), (2, .int (x2)), (3, .int (x3)), (4, .int (x4))] [] σ := by
  induction n with
  | zero => intro x1 x2 x3 x4 σ h; exact h.elim
  | succ n ih => intro x1 x2 x3 x4 σ h; exact w_X7_moved_b50  hX hR hK37 ih x1 x2 x3 x4 σ h
set_option maxRecDepth 20000 in
set_option maxHeartbeats 4000000 in
theorem w_X7_moved_b37 {X : Cx} {Q : RV → St → Prop} (hX : CxB X RX7 cX7_moved 5 (8)) (hR : CxR X (some .int) Q) {K37 : Int32 → Int32 → Int32 → St → Prop} (hK37 : ∀ (x1 : Int32) (x2 : Int32) (x3 : Int32) (σ : St), K37 x1 x2 x3 σ → At X 5 37 [(0, .ref (X.kad 75)), (1, .int (x1)), (2, .int (x2)), (3, .int (x3))] [] σ) (x1 : Int32) (x2 : Int32) (x3 : Int32) (σ : St) (hw : wp_X7_moved_b37 (aI Q) K37 x1 x2 x3 σ) : At X 5 37 [(0, .ref (X.kad 75)), (1, .int (x1)), (2, .int (x2)), (3, .int (x3))] [] σ := by
  unfold wp_X7_moved_b37 at hw
  refine r_iload_n 38 hX dX7_moved_37 rfl rfl 3 rfl ?_
  refine r_aload_n 39 hX dX7_moved_38 rfl rfl 0 rfl ?_
  refine g_X7_20_75 42 hX dX7_moved_39 rfl ?_
  refine r_iconst 43 hX dX7_moved_42 rfl 0 ic_0 ?_
  refine r_iald 44 hX sh_79 dX7_moved_43 rfl hw (fun hw => ?_)
  refine r_icmp_gt 105 47 hX dX7_moved_44 (by decide) rfl hw (fun hw => ?_) (fun hw => ?_)
  · refine r_bipush 107 hX dX7_moved_105 rfl (-9) bi_m9 ?_
    exact r_iret hX hR dX7_moved_107 hw
  · refine r_iconst 48 hX dX7_moved_47 rfl 0 ic_0 ?_
    refine r_istore (lv' := [(4, .int (0)), (0, .ref (X.kad 75)), (1, .int (x1)), (2, .int (x2)), (3, .int (x3))]) 50 hX dX7_moved_48 rfl (by decide) rfl ?_
    refine r_sub [1, 2, 3, 4, 0] rfl ?_
    obtain ⟨n, hw⟩ := hw
    exact w_X7_moved_l50 hX hR hK37 n _ _ _ _ _ hw
set_option maxRecDepth 20000 in
set_option maxHeartbeats 4000000 in
theorem w_X7_moved_l37 {X : Cx} {Q : RV → St → Prop} (hX : CxB X RX7 cX7_moved 5 (8)) (hR : CxR X (some .int) Q) (n : Nat) : ∀ (x1 : Int32) (x2 : Int32) (x3 : Int32) (σ : St), wp_X7_moved_l37 (aI Q)  n x1 x2 x3 σ → At X 5 37 [(0, .ref (X.kad 75)), (1, .int (x1)), (2, .int (x2)), (3, .int (x3))] [] σ := by
  induction n with
  | zero => intro x1 x2 x3 σ h; exact h.elim
  | succ n ih => intro x1 x2 x3 σ h; exact w_X7_moved_b37  hX hR ih x1 x2 x3 σ h
set_option maxRecDepth 20000 in
set_option maxHeartbeats 4000000 in
theorem c_X7_moved (x1 : Int32) (x2 : Int32) : Con yX7_moved cX7_moved 5 (some .int) (8) (fun ad => [.ref (ad 75), .int (x1), .int (x2)]) (fun Q σ => wp_X7_moved x1 x2 (aI Q) σ) := by
  refine con_intro (by decide +kernel) (fun _ => Nat.le_of_ble_eq_true rfl) (by omega) (fun X Q σ hX hR hw => ?_)
  have hX : CxB X RX7 cX7_moved 5 (8) := hX
  unfold wp_X7_moved at hw
  show At X 5 0 [(0, .ref (X.kad 75)), (1, .int (x1)), (2, .int (x2))] [] σ
  refine r_iload_n 1 hX dX7_moved_0 rfl rfl 1 rfl ?_
  refine r_iconst 2 hX dX7_moved_1 rfl 0 ic_0 ?_
  refine r_sipush 5 hX dX7_moved_2 rfl 1023 si_1023 ?_
  refine k_X7_85_X7_in 8 hX (by omega) (x1) (0) (1023) (Nat.le_of_ble_eq_true rfl) dX7_moved_5 rfl hw (fun r5 σ5 hw => ?_)
  refine r_if_eq 20 11 hX dX7_moved_8 (by decide) rfl hw (fun hw => ?_) (fun hw => ?_)
  · refine r_iconst 21 hX dX7_moved_20 rfl (-1) ic_m1 ?_
    exact r_iret hX hR dX7_moved_21 hw
  · refine r_iload_n 12 hX dX7_moved_11 rfl rfl 2 rfl ?_
    refine r_iconst 13 hX dX7_moved_12 rfl 0 ic_0 ?_
    refine r_iconst 14 hX dX7_moved_13 rfl 1 ic_1 ?_
    refine k_X7_85_X7_in 17 hX (by omega) (x2) (0) (1) (Nat.le_of_ble_eq_true rfl) dX7_moved_14 rfl hw (fun r14 σ14 hw => ?_)
    refine r_if_ne 22 20 hX dX7_moved_17 (by decide) rfl hw (fun hw => ?_) (fun hw => ?_)
    · refine r_aload_n 23 hX dX7_moved_22 rfl rfl 0 rfl ?_
      refine r_iconst 24 hX dX7_moved_23 rfl 0 ic_0 ?_
      refine k_X7_257_X7_judge 27 hX (by omega) (0) (Nat.le_of_ble_eq_true rfl) dX7_moved_24 rfl hw (fun r24 σ24 hw => ?_)
      refine r_bipush 29 hX dX7_moved_27 rfl (-9) bi_m9 ?_
      refine r_icmp_eq 35 32 hX dX7_moved_29 (by decide) rfl hw (fun hw => ?_) (fun hw => ?_)
      · refine r_iconst 36 hX dX7_moved_35 rfl 0 ic_0 ?_
        refine r_istore_n (lv' := [(3, .int (0)), (0, .ref (X.kad 75)), (1, .int (x1)), (2, .int (x2))]) 37 hX dX7_moved_36 rfl rfl (by decide) rfl ?_
        refine r_sub [1, 2, 3, 0] rfl ?_
        obtain ⟨n, hw⟩ := hw
        exact w_X7_moved_l37 hX hR n _ _ _ _ hw
      · refine r_bipush 34 hX dX7_moved_32 rfl (-2) bi_m2 ?_
        exact r_iret hX hR dX7_moved_34 hw
    · refine r_iconst 21 hX dX7_moved_20 rfl (-1) ic_m1 ?_
      exact r_iret hX hR dX7_moved_21 hw
set_option maxRecDepth 20000 in
set_option maxHeartbeats 4000000 in
theorem c_X7_mark (x1 : Int32) (x2 : Int32) : Con yX7_mark cX7_mark 3 (some .int) (3) (fun ad => [.ref (ad 75), .int (x1), .int (x2)]) (fun Q σ => wp_X7_mark x1 x2 (aI Q) σ) := by
  refine con_intro (by decide +kernel) (fun _ => Nat.le_of_ble_eq_true rfl) (by omega) (fun X Q σ hX hR hw => ?_)
  have hX : CxB X RX7 cX7_mark 3 (3) := hX
  unfold wp_X7_mark at hw
  show At X 3 0 [(0, .ref (X.kad 75)), (1, .int (x1)), (2, .int (x2))] [] σ
  refine r_aload_n 1 hX dX7_mark_0 rfl rfl 0 rfl ?_
  refine r_iload_n 2 hX dX7_mark_1 rfl rfl 1 rfl ?_
  refine k_X7_140_X7_isCourse 5 hX (by omega) (x1) (Nat.le_of_ble_eq_true rfl) dX7_mark_2 rfl hw (fun r2 σ2 hw => ?_)
  refine r_if_eq 16 8 hX dX7_mark_5 (by decide) rfl hw (fun hw => ?_) (fun hw => ?_)
  · refine r_iconst 17 hX dX7_mark_16 rfl (-1) ic_m1 ?_
    exact r_iret hX hR dX7_mark_17 hw
  · refine r_aload_n 9 hX dX7_mark_8 rfl rfl 0 rfl ?_
    refine r_iload_n 10 hX dX7_mark_9 rfl rfl 2 rfl ?_
    refine k_X7_136_X7_isIn 13 hX (by omega) (x2) (Nat.le_of_ble_eq_true rfl) dX7_mark_10 rfl hw (fun r10 σ10 hw => ?_)
    refine r_if_ne 18 16 hX dX7_mark_13 (by decide) rfl hw (fun hw => ?_) (fun hw => ?_)
    · refine r_aload_n 19 hX dX7_mark_18 rfl rfl 0 rfl ?_
      refine g_X7_72_75 22 hX dX7_mark_19 rfl ?_
      refine r_iconst 23 hX dX7_mark_22 rfl 0 ic_0 ?_
      refine r_iald 24 hX sh_96 dX7_mark_23 rfl hw (fun hw => ?_)
      refine r_bipush 26 hX dX7_mark_24 rfl 6 bi_6 ?_
      refine r_icmp_ne 32 29 hX dX7_mark_26 (by decide) rfl hw (fun hw => ?_) (fun hw => ?_)
      · refine r_aload_n 33 hX dX7_mark_32 rfl rfl 0 rfl ?_
        refine g_X7_75_75 36 hX dX7_mark_33 rfl ?_
        refine r_aload_n 37 hX dX7_mark_36 rfl rfl 0 rfl ?_
        refine g_X7_72_75 40 hX dX7_mark_37 rfl ?_
        refine r_iconst 41 hX dX7_mark_40 rfl 0 ic_0 ?_
        refine r_iald 42 hX sh_96 dX7_mark_41 rfl hw (fun hw => ?_)
        refine r_iload_n 43 hX dX7_mark_42 rfl rfl 1 rfl ?_
        refine r_iast 44 hX sh_97 dX7_mark_43 rfl hw (fun hw => ?_)
        refine r_aload_n 45 hX dX7_mark_44 rfl rfl 0 rfl ?_
        refine g_X7_78_75 48 hX dX7_mark_45 rfl ?_
        refine r_aload_n 49 hX dX7_mark_48 rfl rfl 0 rfl ?_
        refine g_X7_72_75 52 hX dX7_mark_49 rfl ?_
        refine r_iconst 53 hX dX7_mark_52 rfl 0 ic_0 ?_
        refine r_iald 54 hX sh_96 dX7_mark_53 rfl hw (fun hw => ?_)
        refine r_iload_n 55 hX dX7_mark_54 rfl rfl 2 rfl ?_
        refine r_iast 56 hX sh_98 dX7_mark_55 rfl hw (fun hw => ?_)
        refine r_aload_n 57 hX dX7_mark_56 rfl rfl 0 rfl ?_
        refine g_X7_72_75 60 hX dX7_mark_57 rfl ?_
        refine r_iconst 61 hX dX7_mark_60 rfl 0 ic_0 ?_
        refine r_dup2 62 hX dX7_mark_61 rfl rfl rfl ?_
        refine r_iald 63 hX sh_96 dX7_mark_62 rfl hw (fun hw => ?_)
        refine r_iconst 64 hX dX7_mark_63 rfl 1 ic_1 ?_
        refine r_iadd 65 hX dX7_mark_64 rfl ?_
        refine r_iast 66 hX sh_96 dX7_mark_65 rfl hw (fun hw => ?_)
        refine r_aload_n 67 hX dX7_mark_66 rfl rfl 0 rfl ?_
        refine g_X7_72_75 70 hX dX7_mark_67 rfl ?_
        refine r_iconst 71 hX dX7_mark_70 rfl 0 ic_0 ?_
        refine r_iald 72 hX sh_96 dX7_mark_71 rfl hw (fun hw => ?_)
        exact r_iret hX hR dX7_mark_72 hw
      · refine r_bipush 31 hX dX7_mark_29 rfl (-3) bi_m3 ?_
        exact r_iret hX hR dX7_mark_31 hw
    · refine r_iconst 17 hX dX7_mark_16 rfl (-1) ic_m1 ?_
      exact r_iret hX hR dX7_mark_17 hw
set_option maxRecDepth 20000 in
set_option maxHeartbeats 4000000 in
theorem c_X7_rate (x1 : Int32) (x2 : Int32) : Con yX7_rate cX7_rate 4 (some .int) (3) (fun ad => [.ref (ad 75), .int (x1), .int (x2)]) (fun Q σ => wp_X7_rate x1 x2 (aI Q) σ) := by
  refine con_intro (by decide +kernel) (fun _ => Nat.le_of_ble_eq_true rfl) (by omega) (fun X Q σ hX hR hw => ?_)
  have hX : CxB X RX7 cX7_rate 4 (3) := hX
  unfold wp_X7_rate at hw
  show At X 4 0 [(0, .ref (X.kad 75)), (1, .int (x1)), (2, .int (x2))] [] σ
  refine r_iload_n 1 hX dX7_rate_0 rfl rfl 1 rfl ?_
  refine r_iconst 2 hX dX7_rate_1 rfl 0 ic_0 ?_
  refine r_iconst 3 hX dX7_rate_2 rfl 5 ic_5 ?_
  refine k_X7_85_X7_in 6 hX (by omega) (x1) (0) (5) (Nat.le_of_ble_eq_true rfl) dX7_rate_3 rfl hw (fun r3 σ3 hw => ?_)
  refine r_if_eq 17 9 hX dX7_rate_6 (by decide) rfl hw (fun hw => ?_) (fun hw => ?_)
  · refine r_ldc 19 hX (-1000000) tw_588 dX7_rate_17 rfl ?_
    exact r_iret hX hR dX7_rate_19 hw
  · refine r_aload_n 10 hX dX7_rate_9 rfl rfl 0 rfl ?_
    refine r_iload_n 11 hX dX7_rate_10 rfl rfl 2 rfl ?_
    refine k_X7_150_X7_isHearth 14 hX (by omega) (x2) (Nat.le_of_ble_eq_true rfl) dX7_rate_11 rfl hw (fun r11 σ11 hw => ?_)
    refine r_if_ne 20 17 hX dX7_rate_14 (by decide) rfl hw (fun hw => ?_) (fun hw => ?_)
    · refine r_aload_n 21 hX dX7_rate_20 rfl rfl 0 rfl ?_
      refine g_X7_17_75 24 hX dX7_rate_21 rfl ?_
      refine r_iconst 25 hX dX7_rate_24 rfl 0 ic_0 ?_
      refine r_iald 26 hX sh_78 dX7_rate_25 rfl hw (fun hw => ?_)
      refine r_iconst 27 hX dX7_rate_26 rfl 1 ic_1 ?_
      refine r_isub 28 hX dX7_rate_27 rfl ?_
      refine r_aload_n 29 hX dX7_rate_28 rfl rfl 0 rfl ?_
      refine g_X7_23_75 32 hX dX7_rate_29 rfl ?_
      refine r_iload_n 33 hX dX7_rate_32 rfl rfl 2 rfl ?_
      refine r_iald 34 hX sh_80 dX7_rate_33 rfl hw (fun hw => ?_)
      refine r_isub 35 hX dX7_rate_34 rfl ?_
      refine r_topi hw (fun v35 hw => ?_)
      refine r_istore_n (lv' := [(3, .int (v35)), (0, .ref (X.kad 75)), (1, .int (x1)), (2, .int (x2))]) 36 hX dX7_rate_35 rfl rfl (by decide) rfl ?_
      refine r_iload_n 37 hX dX7_rate_36 rfl rfl 2 rfl ?_
      -- switch
      refine r_case hw (fun hc hw => ?_) (fun hc0 hw => ?_)
      · refine r_tabIn 72 hX dX7_rate_37 (by rw [hc]; decide) (by rw [hc]; decide) (off := 35) (by rw [hc]; decide) (by decide) ?_
        refine r_aload_n 73 hX dX7_rate_72 rfl rfl 1 rfl ?_
        refine r_dup 74 hX dX7_rate_73 rfl rfl ?_
        refine g_X7_263_75 77 hX dX7_rate_74 rfl ?_
        refine r_lconst 78 hX dX7_rate_77 rfl 1 lc_1 ?_
        refine r_ladd 79 hX dX7_rate_78 rfl ?_
        refine p_X7_263_75 82 hX dX7_rate_79 rfl ?_
        refine r_iload_n 83 hX dX7_rate_82 rfl rfl 0 rfl ?_
        exact r_iret hX hR dX7_rate_83 hw
      refine r_case hw (fun hc hw => ?_) (fun hc1 hw => ?_)
      · refine r_tabIn 84 hX dX7_rate_37 (by rw [hc]; decide) (by rw [hc]; decide) (off := 47) (by rw [hc]; decide) (by decide) ?_
        refine r_aload_n 85 hX dX7_rate_84 rfl rfl 1 rfl ?_
        refine r_dup 86 hX dX7_rate_85 rfl rfl ?_
        refine g_X7_263_75 89 hX dX7_rate_86 rfl ?_
        refine r_ldc2 92 hX 11 tw_721 dX7_rate_89 rfl ?_
        refine r_ladd 93 hX dX7_rate_92 rfl ?_
        refine p_X7_263_75 96 hX dX7_rate_93 rfl ?_
        refine r_iload_n 97 hX dX7_rate_96 rfl rfl 0 rfl ?_
        refine r_aload_n 98 hX dX7_rate_97 rfl rfl 1 rfl ?_
        refine r_iload_n 99 hX dX7_rate_98 rfl rfl 3 rfl ?_
        refine k_X7_248_X7_leansOf 102 hX (by omega) (x2) (Nat.le_of_ble_eq_true rfl) dX7_rate_99 rfl hw (fun r99 σ99 hw => ?_)
        refine r_isub 103 hX dX7_rate_102 rfl ?_
        exact r_iret hX hR dX7_rate_103 hw
      refine r_case hw (fun hc hw => ?_) (fun hc2 hw => ?_)
      · refine r_tabIn 104 hX dX7_rate_37 (by rw [hc]; decide) (by rw [hc]; decide) (off := 67) (by rw [hc]; decide) (by decide) ?_
        refine r_aload_n 105 hX dX7_rate_104 rfl rfl 1 rfl ?_
        refine r_dup 106 hX dX7_rate_105 rfl rfl ?_
        refine g_X7_263_75 109 hX dX7_rate_106 rfl ?_
        refine r_ldc2 112 hX 101 tw_722 dX7_rate_109 rfl ?_
        refine r_ladd 113 hX dX7_rate_112 rfl ?_
        refine p_X7_263_75 116 hX dX7_rate_113 rfl ?_
        refine r_iload_n 117 hX dX7_rate_116 rfl rfl 0 rfl ?_
        refine r_aload_n 118 hX dX7_rate_117 rfl rfl 1 rfl ?_
        refine r_iload_n 119 hX dX7_rate_118 rfl rfl 3 rfl ?_
        refine k_X7_245_X7_bendsOf 122 hX (by omega) (x2) (Nat.le_of_ble_eq_true rfl) dX7_rate_119 rfl hw (fun r119 σ119 hw => ?_)
        refine r_iadd 123 hX dX7_rate_122 rfl ?_
        exact r_iret hX hR dX7_rate_123 hw
      refine r_case hw (fun hc hw => ?_) (fun hc3 hw => ?_)
      · refine r_tabIn 124 hX dX7_rate_37 (by rw [hc]; decide) (by rw [hc]; decide) (off := 87) (by rw [hc]; decide) (by decide) ?_
        refine r_aload_n 125 hX dX7_rate_124 rfl rfl 1 rfl ?_
        refine r_dup 126 hX dX7_rate_125 rfl rfl ?_
        refine g_X7_263_75 129 hX dX7_rate_126 rfl ?_
        refine r_ldc2 132 hX 1101 tw_723 dX7_rate_129 rfl ?_
        refine r_ladd 133 hX dX7_rate_132 rfl ?_
        refine p_X7_263_75 136 hX dX7_rate_133 rfl ?_
        refine r_iconst 137 hX dX7_rate_136 rfl 2 ic_2 ?_
        refine r_iload_n 138 hX dX7_rate_137 rfl rfl 0 rfl ?_
        refine r_aload_n 139 hX dX7_rate_138 rfl rfl 1 rfl ?_
        refine r_iload_n 140 hX dX7_rate_139 rfl rfl 3 rfl ?_
        refine k_X7_245_X7_bendsOf 143 hX (by omega) (x2) (Nat.le_of_ble_eq_true rfl) dX7_rate_140 rfl hw (fun r140 σ140 hw => ?_)
        refine r_iadd 144 hX dX7_rate_143 rfl ?_
        refine r_imul 145 hX dX7_rate_144 rfl ?_
        exact r_iret hX hR dX7_rate_145 hw
      refine r_case hw (fun hc hw => ?_) (fun hc4 hw => ?_)
      · refine r_tabIn 146 hX dX7_rate_37 (by rw [hc]; decide) (by rw [hc]; decide) (off := 109) (by rw [hc]; decide) (by decide) ?_
        refine r_aload_n 147 hX dX7_rate_146 rfl rfl 1 rfl ?_
        refine r_dup 148 hX dX7_rate_147 rfl rfl ?_
        refine g_X7_263_75 151 hX dX7_rate_148 rfl ?_
        refine r_ldc2 154 hX 10011 tw_724 dX7_rate_151 rfl ?_
        refine r_ladd 155 hX dX7_rate_154 rfl ?_
        refine p_X7_263_75 158 hX dX7_rate_155 rfl ?_
        refine r_iload_n 159 hX dX7_rate_158 rfl rfl 0 rfl ?_
        refine r_aload_n 160 hX dX7_rate_159 rfl rfl 1 rfl ?_
        refine r_iload_n 161 hX dX7_rate_160 rfl rfl 3 rfl ?_
        refine k_X7_248_X7_leansOf 164 hX (by omega) (x2) (Nat.le_of_ble_eq_true rfl) dX7_rate_161 rfl hw (fun r161 σ161 hw => ?_)
        refine r_isub 165 hX dX7_rate_164 rfl ?_
        refine r_aload_n 166 hX dX7_rate_165 rfl rfl 1 rfl ?_
        refine g_X7_20_75 169 hX dX7_rate_166 rfl ?_
        refine r_iconst 170 hX dX7_rate_169 rfl 0 ic_0 ?_
        refine r_iald 171 hX sh_79 dX7_rate_170 rfl hw (fun hw => ?_)
        refine r_iadd 172 hX dX7_rate_171 rfl ?_
        exact r_iret hX hR dX7_rate_172 hw
      refine r_tabOut 173 hX dX7_rate_37 (sw_out0_4 hc0 hc1 hc2 hc3 hc4) (by decide) ?_
      refine r_aload_n 174 hX dX7_rate_173 rfl rfl 1 rfl ?_
      refine r_dup 175 hX dX7_rate_174 rfl rfl ?_
      refine g_X7_263_75 178 hX dX7_rate_175 rfl ?_
      refine r_ldc2 181 hX 100001 tw_725 dX7_rate_178 rfl ?_
      refine r_ladd 182 hX dX7_rate_181 rfl ?_
      refine p_X7_263_75 185 hX dX7_rate_182 rfl ?_
      refine r_iload_n 186 hX dX7_rate_185 rfl rfl 0 rfl ?_
      refine r_aload_n 187 hX dX7_rate_186 rfl rfl 1 rfl ?_
      refine g_X7_29_75 190 hX dX7_rate_187 rfl ?_
      refine r_iload_n 191 hX dX7_rate_190 rfl rfl 3 rfl ?_
      refine r_iald 192 hX sh_82 dX7_rate_191 rfl hw (fun hw => ?_)
      refine r_isub 193 hX dX7_rate_192 rfl ?_
      exact r_iret hX hR dX7_rate_193 hw
    · refine r_ldc 19 hX (-1000000) tw_588 dX7_rate_17 rfl ?_
      exact r_iret hX hR dX7_rate_19 hw
set_option maxRecDepth 20000 in
set_option maxHeartbeats 4000000 in
theorem w_X7_copy_b50 {X : Cx} {Q : RV → St → Prop} (hX : CxB X RX7 cX7_copy 4 (1)) (hR : CxR X (none) Q) {K50 : Int32 → Int32 → Int32 → St → Prop} (hK50 : ∀ (x1 : Int32) (x2 : Int32) (x3 : Int32) (σ : St), K50 x1 x2 x3 σ → At X 4 50 [(0, .ref (X.kad 75)), (1, .int (x1)), (2, .int (x2)), (3, .int (x3))] [] σ) (x1 : Int32) (x2 : Int32) (x3 : Int32) (σ : St) (hw : wp_X7_copy_b50 (aV Q) K50 x1 x2 x3 σ) : At X 4 50 [(0, .ref (X.kad 75)), (1, .int (x1)), (2, .int (x2)), (3, .int (x3))] [] σ := by
  unfold wp_X7_copy_b50 at hw
  refine r_iload_n 51 hX dX7_copy_50 rfl rfl 3 rfl ?_
  refine r_bipush 53 hX dX7_copy_51 rfl 6 bi_6 ?_
  refine r_icmp_ge 106 56 hX dX7_copy_53 (by decide) rfl hw (fun hw => ?_) (fun hw => ?_)
  · exact r_vret hX hR dX7_copy_106 hw
  · refine r_aload_n 57 hX dX7_copy_56 rfl rfl 0 rfl ?_
    refine g_X7_75_75 60 hX dX7_copy_57 rfl ?_
    refine r_bipush 62 hX dX7_copy_60 rfl 6 bi_6 ?_
    refine r_iload_n 63 hX dX7_copy_62 rfl rfl 2 rfl ?_
    refine r_imul 64 hX dX7_copy_63 rfl ?_
    refine r_iload_n 65 hX dX7_copy_64 rfl rfl 3 rfl ?_
    refine r_iadd 66 hX dX7_copy_65 rfl ?_
    refine r_aload_n 67 hX dX7_copy_66 rfl rfl 0 rfl ?_
    refine g_X7_75_75 70 hX dX7_copy_67 rfl ?_
    refine r_bipush 72 hX dX7_copy_70 rfl 6 bi_6 ?_
    refine r_iload_n 73 hX dX7_copy_72 rfl rfl 1 rfl ?_
    refine r_imul 74 hX dX7_copy_73 rfl ?_
    refine r_iload_n 75 hX dX7_copy_74 rfl rfl 3 rfl ?_
    refine r_iadd 76 hX dX7_copy_75 rfl ?_
    refine r_iald 77 hX sh_97 dX7_copy_76 rfl hw (fun hw => ?_)
    refine r_iast 78 hX sh_97 dX7_copy_77 rfl hw (fun hw => ?_)
    refine r_aload_n 79 hX dX7_copy_78 rfl rfl 0 rfl ?_
    refine g_X7_78_75 82 hX dX7_copy_79 rfl ?_
    refine r_bipush 84 hX dX7_copy_82 rfl 6 bi_6 ?_
    refine r_iload_n 85 hX dX7_copy_84 rfl rfl 2 rfl ?_
    refine r_imul 86 hX dX7_copy_85 rfl ?_
    refine r_iload_n 87 hX dX7_copy_86 rfl rfl 3 rfl ?_
    refine r_iadd 88 hX dX7_copy_87 rfl ?_
    refine r_aload_n 89 hX dX7_copy_88 rfl rfl 0 rfl ?_
    refine g_X7_78_75 92 hX dX7_copy_89 rfl ?_
    refine r_bipush 94 hX dX7_copy_92 rfl 6 bi_6 ?_
    refine r_iload_n 95 hX dX7_copy_94 rfl rfl 1 rfl ?_
    refine r_imul 96 hX dX7_copy_95 rfl ?_
    refine r_iload_n 97 hX dX7_copy_96 rfl rfl 3 rfl ?_
    refine r_iadd 98 hX dX7_copy_97 rfl ?_
    refine r_iald 99 hX sh_98 dX7_copy_98 rfl hw (fun hw => ?_)
    refine r_iast 100 hX sh_98 dX7_copy_99 rfl hw (fun hw => ?_)
    refine r_iinc (lv' := [(3, .int (x3 + 1)), (0, .ref (X.kad 75)), (1, .int (x1)), (2, .int (x2))]) 103 hX dX7_copy_100 rfl 3 rfl (x3 + 1) (ici_1 _) (by decide) rfl ?_
    refine r_goto 50 hX dX7_copy_103 (by decide) ?_
    refine r_sub [1, 2, 3, 0] rfl ?_
    exact hK50 _ _ _ _ hw
set_option maxRecDepth 20000 in
set_option maxHeartbeats 4000000 in
theorem w_X7_copy_l50 {X : Cx} {Q : RV → St → Prop} (hX : CxB X RX7 cX7_copy 4 (1)) (hR : CxR X (none) Q) (n : Nat) : ∀ (x1 : Int32) (x2 : Int32) (x3 : Int32) (σ : St), wp_X7_copy_l50 (aV Q)  n x1 x2 x3 σ → At X 4 50 [(0, .ref (X.kad 75)), (1, .int (x1)), (2, .int (x2)), (3, .int (x3))] [] σ := by
  induction n with
  | zero => intro x1 x2 x3 σ h; exact h.elim
  | succ n ih => intro x1 x2 x3 σ h; exact w_X7_copy_b50  hX hR ih x1 x2 x3 σ h
set_option maxRecDepth 20000 in
set_option maxHeartbeats 4000000 in
theorem w_X7_copy_b2 {X : Cx} {Q : RV → St → Prop} (hX : CxB X RX7 cX7_copy 4 (1)) (hR : CxR X (none) Q) {K2 : Int32 → Int32 → Int32 → St → Prop} (hK2 : ∀ (x1 : Int32) (x2 : Int32) (x3 : Int32) (σ : St), K2 x1 x2 x3 σ → At X 4 2 [(0, .ref (X.kad 75)), (1, .int (x1)), (2, .int (x2)), (3, .int (x3))] [] σ) (x1 : Int32) (x2 : Int32) (x3 : Int32) (σ : St) (hw : wp_X7_copy_b2 (aV Q) K2 x1 x2 x3 σ) : At X 4 2 [(0, .ref (X.kad 75)), (1, .int (x1)), (2, .int (x2)), (3, .int (x3))] [] σ := by
  unfold wp_X7_copy_b2 at hw
  refine r_iload_n 3 hX dX7_copy_2 rfl rfl 3 rfl ?_
  refine r_bipush 5 hX dX7_copy_3 rfl 48 bi_48 ?_
  refine r_icmp_ge 36 8 hX dX7_copy_5 (by decide) rfl hw (fun hw => ?_) (fun hw => ?_)
  · refine r_aload_n 37 hX dX7_copy_36 rfl rfl 0 rfl ?_
    refine g_X7_72_75 40 hX dX7_copy_37 rfl ?_
    refine r_iload_n 41 hX dX7_copy_40 rfl rfl 2 rfl ?_
    refine r_aload_n 42 hX dX7_copy_41 rfl rfl 0 rfl ?_
    refine g_X7_72_75 45 hX dX7_copy_42 rfl ?_
    refine r_iload_n 46 hX dX7_copy_45 rfl rfl 1 rfl ?_
    refine r_iald 47 hX sh_96 dX7_copy_46 rfl hw (fun hw => ?_)
    refine r_iast 48 hX sh_96 dX7_copy_47 rfl hw (fun hw => ?_)
    refine r_iconst 49 hX dX7_copy_48 rfl 0 ic_0 ?_
    refine r_istore_n (lv' := [(3, .int (0)), (0, .ref (X.kad 75)), (1, .int (x1)), (2, .int (x2))]) 50 hX dX7_copy_49 rfl rfl (by decide) rfl ?_
    refine r_sub [1, 2, 3, 0] rfl ?_
    obtain ⟨n, hw⟩ := hw
    exact w_X7_copy_l50 hX hR n _ _ _ _ hw
  · refine r_aload_n 9 hX dX7_copy_8 rfl rfl 0 rfl ?_
    refine g_X7_69_75 12 hX dX7_copy_9 rfl ?_
    refine r_bipush 14 hX dX7_copy_12 rfl 48 bi_48 ?_
    refine r_iload_n 15 hX dX7_copy_14 rfl rfl 2 rfl ?_
    refine r_imul 16 hX dX7_copy_15 rfl ?_
    refine r_iload_n 17 hX dX7_copy_16 rfl rfl 3 rfl ?_
    refine r_iadd 18 hX dX7_copy_17 rfl ?_
    refine r_aload_n 19 hX dX7_copy_18 rfl rfl 0 rfl ?_
    refine g_X7_69_75 22 hX dX7_copy_19 rfl ?_
    refine r_bipush 24 hX dX7_copy_22 rfl 48 bi_48 ?_
    refine r_iload_n 25 hX dX7_copy_24 rfl rfl 1 rfl ?_
    refine r_imul 26 hX dX7_copy_25 rfl ?_
    refine r_iload_n 27 hX dX7_copy_26 rfl rfl 3 rfl ?_
    refine r_iadd 28 hX dX7_copy_27 rfl ?_
    refine r_iald 29 hX sh_95 dX7_copy_28 rfl hw (fun hw => ?_)
    refine r_iast 30 hX sh_95 dX7_copy_29 rfl hw (fun hw => ?_)
    refine r_iinc (lv' := [(3, .int (x3 + 1)), (0, .ref (X.kad 75)), (1, .int (x1)), (2, .int (x2))]) 33 hX dX7_copy_30 rfl 3 rfl (x3 + 1) (ici_1 _) (by decide) rfl ?_
    refine r_goto 2 hX dX7_copy_33 (by decide) ?_
    refine r_sub [1, 2, 3, 0] rfl ?_
    exact hK2 _ _ _ _ hw
set_option maxRecDepth 20000 in
set_option maxHeartbeats 4000000 in
theorem w_X7_copy_l2 {X : Cx} {Q : RV → St → Prop} (hX : CxB X RX7 cX7_copy 4 (1)) (hR : CxR X (none) Q) (n : Nat) : ∀ (x1 : Int32) (x2 : Int32) (x3 : Int32) (σ : St), wp_X7_copy_l2 (aV Q)  n x1 x2 x3 σ → At X 4 2 [(0, .ref (X.kad 75)), (1, .int (x1)), (2, .int (x2)), (3, .int (x3))] [] σ := by
  induction n with
  | zero => intro x1 x2 x3 σ h; exact h.elim
  | succ n ih => intro x1 x2 x3 σ h; exact w_X7_copy_b2  hX hR ih x1 x2 x3 σ h
set_option maxRecDepth 20000 in
set_option maxHeartbeats 4000000 in
theorem c_X7_copy (x1 : Int32) (x2 : Int32) : Con yX7_copy cX7_copy 4 (none) (1) (fun ad => [.ref (ad 75), .int (x1), .int (x2)]) (fun Q σ => wp_X7_copy x1 x2 (aV Q) σ) := by
  refine con_intro (by decide +kernel) (fun _ => Nat.le_of_ble_eq_true rfl) (by omega) (fun X Q σ hX hR hw => ?_)
  have hX : CxB X RX7 cX7_copy 4 (1) := hX
  unfold wp_X7_copy at hw
  show At X 4 0 [(0, .ref (X.kad 75)), (1, .int (x1)), (2, .int (x2))] [] σ
  refine r_iconst 1 hX dX7_copy_0 rfl 0 ic_0 ?_
  refine r_istore_n (lv' := [(3, .int (0)), (0, .ref (X.kad 75)), (1, .int (x1)), (2, .int (x2))]) 2 hX dX7_copy_1 rfl rfl (by decide) rfl ?_
  refine r_sub [1, 2, 3, 0] rfl ?_
  obtain ⟨n, hw⟩ := hw
  exact w_X7_copy_l2 hX hR n _ _ _ _ hw
theorem k_X7_277_X7_copy {X : Cx} {cc : ByteArray} {nL d pc : Nat} {lv : List (Nat × Value)} {rest : List Value} {σ : St} {K : St → Prop} (q : Nat) (hX : CxB X RX7 cc nL d) (hdc : 1 + 1 ≤ d) (x1 : Int32) (x2 : Int32) (hst : (rest.map fun v => v.category).sum ≤ 8) (hd : decode cc pc = .ok (.invokevirtual 277, 3)) (hq : pc + 3 = q) (hw : wp_X7_copy x1 x2 K σ) (kk : ∀ (τ : St), K τ → At X nL q lv (rest) τ) : At X nL pc lv (.int (x2) :: .int (x1) :: .ref (X.kad 75) :: rest) σ := r_callV (n := 2) q hX (k0 := 75) (c_X7_copy x1 x2) tw_726 tw_727 tw_728 tw_517 tw_729 ⟨by decide +kernel, by decide +kernel, by decide +kernel⟩ hdc (by decide) (As := [.int (x1), .int (x2)]) rfl rfl (by decide) ⟨_, _, _, rfl, rfl, rfl⟩ hst hd hq rfl (K := qV K) hw (kV kk)
set_option maxRecDepth 20000 in
set_option maxHeartbeats 4000000 in
theorem c_X7_keep (x1 : Int32) : Con yX7_keep cX7_keep 2 (some .int) (2) (fun ad => [.ref (ad 75), .int (x1)]) (fun Q σ => wp_X7_keep x1 (aI Q) σ) := by
  refine con_intro (by decide +kernel) (fun _ => Nat.le_of_ble_eq_true rfl) (by omega) (fun X Q σ hX hR hw => ?_)
  have hX : CxB X RX7 cX7_keep 2 (2) := hX
  unfold wp_X7_keep at hw
  show At X 2 0 [(0, .ref (X.kad 75)), (1, .int (x1))] [] σ
  refine r_iload_n 1 hX dX7_keep_0 rfl rfl 1 rfl ?_
  refine r_iconst 2 hX dX7_keep_1 rfl 0 ic_0 ?_
  refine r_iconst 3 hX dX7_keep_2 rfl 1 ic_1 ?_
  refine k_X7_85_X7_in 6 hX (by omega) (x1) (0) (1) (Nat.le_of_ble_eq_true rfl) dX7_keep_3 rfl hw (fun r3 σ3 hw => ?_)
  refine r_if_ne 11 9 hX dX7_keep_6 (by decide) rfl hw (fun hw => ?_) (fun hw => ?_)
  · refine r_aload_n 12 hX dX7_keep_11 rfl rfl 0 rfl ?_
    refine r_iconst 13 hX dX7_keep_12 rfl 0 ic_0 ?_
    refine r_iconst 14 hX dX7_keep_13 rfl 1 ic_1 ?_
    refine r_iload_n 15 hX dX7_keep_14 rfl rfl 1 rfl ?_
    refine r_iadd 16 hX dX7_keep_15 rfl ?_
    refine k_X7_277_X7_copy 19 hX (by omega) (0) (1 + x1) (Nat.le_of_ble_eq_true rfl) dX7_keep_16 rfl hw (fun σ16 hw => ?_)
    refine r_aload_n 20 hX dX7_keep_19 rfl rfl 0 rfl ?_
    refine g_X7_81_75 23 hX dX7_keep_20 rfl ?_
    refine r_iload_n 24 hX dX7_keep_23 rfl rfl 1 rfl ?_
    refine r_iconst 25 hX dX7_keep_24 rfl 1 ic_1 ?_
    refine r_zast 26 hX sh_99 dX7_keep_25 rfl hw (fun hw => ?_)
    refine r_aload_n 27 hX dX7_keep_26 rfl rfl 0 rfl ?_
    refine g_X7_72_75 30 hX dX7_keep_27 rfl ?_
    refine r_iconst 31 hX dX7_keep_30 rfl 0 ic_0 ?_
    refine r_iald 32 hX sh_96 dX7_keep_31 rfl hw (fun hw => ?_)
    exact r_iret hX hR dX7_keep_32 hw
  · refine r_iconst 10 hX dX7_keep_9 rfl (-1) ic_m1 ?_
    exact r_iret hX hR dX7_keep_10 hw
set_option maxRecDepth 20000 in
set_option maxHeartbeats 4000000 in
theorem c_X7_back (x1 : Int32) : Con yX7_back cX7_back 2 (some .int) (2) (fun ad => [.ref (ad 75), .int (x1)]) (fun Q σ => wp_X7_back x1 (aI Q) σ) := by
  refine con_intro (by decide +kernel) (fun _ => Nat.le_of_ble_eq_true rfl) (by omega) (fun X Q σ hX hR hw => ?_)
  have hX : CxB X RX7 cX7_back 2 (2) := hX
  unfold wp_X7_back at hw
  show At X 2 0 [(0, .ref (X.kad 75)), (1, .int (x1))] [] σ
  refine r_iload_n 1 hX dX7_back_0 rfl rfl 1 rfl ?_
  refine r_iconst 2 hX dX7_back_1 rfl 0 ic_0 ?_
  refine r_iconst 3 hX dX7_back_2 rfl 1 ic_1 ?_
  refine k_X7_85_X7_in 6 hX (by omega) (x1) (0) (1) (Nat.le_of_ble_eq_true rfl) dX7_back_3 rfl hw (fun r3 σ3 hw => ?_)
  refine r_if_ne 11 9 hX dX7_back_6 (by decide) rfl hw (fun hw => ?_) (fun hw => ?_)
  · refine r_aload_n 12 hX dX7_back_11 rfl rfl 0 rfl ?_
    refine g_X7_81_75 15 hX dX7_back_12 rfl ?_
    refine r_iload_n 16 hX dX7_back_15 rfl rfl 1 rfl ?_
    refine r_zald 17 hX sh_99 dX7_back_16 rfl hw (fun hw => ?_)
    refine r_if_ne 23 20 hX dX7_back_17 (by decide) rfl hw (fun hw => ?_) (fun hw => ?_)
    · refine r_aload_n 24 hX dX7_back_23 rfl rfl 0 rfl ?_
      refine r_iconst 25 hX dX7_back_24 rfl 1 ic_1 ?_
      refine r_iload_n 26 hX dX7_back_25 rfl rfl 1 rfl ?_
      refine r_iadd 27 hX dX7_back_26 rfl ?_
      refine r_iconst 28 hX dX7_back_27 rfl 0 ic_0 ?_
      refine k_X7_277_X7_copy 31 hX (by omega) (1 + x1) (0) (Nat.le_of_ble_eq_true rfl) dX7_back_28 rfl hw (fun σ28 hw => ?_)
      refine r_aload_n 32 hX dX7_back_31 rfl rfl 0 rfl ?_
      refine g_X7_72_75 35 hX dX7_back_32 rfl ?_
      refine r_iconst 36 hX dX7_back_35 rfl 0 ic_0 ?_
      refine r_iald 37 hX sh_96 dX7_back_36 rfl hw (fun hw => ?_)
      exact r_iret hX hR dX7_back_37 hw
    · refine r_bipush 22 hX dX7_back_20 rfl (-2) bi_m2 ?_
      exact r_iret hX hR dX7_back_22 hw
  · refine r_iconst 10 hX dX7_back_9 rfl (-1) ic_m1 ?_
    exact r_iret hX hR dX7_back_10 hw
set_option maxRecDepth 20000 in
set_option maxHeartbeats 4000000 in
theorem w_X7_count_b17 {X : Cx} {Q : RV → St → Prop} (hX : CxB X RX7 cX7_count 5 (2)) (hR : CxR X (some .int) Q) {K4 : Int32 → Int32 → Int32 → St → Prop} (hK4 : ∀ (x1 : Int32) (x2 : Int32) (x3 : Int32) (σ : St), K4 x1 x2 x3 σ → At X 5 4 [(0, .ref (X.kad 75)), (1, .int (x1)), (2, .int (x2)), (3, .int (x3))] [] σ) {K17 : Int32 → Int32 → Int32 → Int32 → St → Prop} (hK17 : ∀ (x1 : Int32) (x2 : Int32) (x3 : Int32) (x4 : Int32) (σ : St), K17 x1 x2 x3 x4 σ → At X 5 17 [(0, .ref (X.kad 75)), (1, .int (x1)), (2, .int (x2)), (3, .int (x3)), (4, .int (x4))] [] σ) (x1 : Int32) (x2 : Int32) (x3 : Int32) (x4 : Int32) (σ : St) (hw : wp_X7_count_b17 (aI Q) K4 K17 x1 x2 x3 x4 σ) : At X 5 17 [(0, .ref (X.kad 75)), (1, .int (x1)), (2, .int (x2)), (3, .int (x3)), (4, .int (x4))] [] σ := by
  unfold wp_X7_count_b17 at hw
  refine r_iload 19 hX dX7_count_17 rfl 4 rfl ?_
  refine r_aload_n 20 hX dX7_count_19 rfl rfl 0 rfl ?_
  refine g_X7_13_75 23 hX dX7_count_20 rfl ?_
  refine r_iconst 24 hX dX7_count_23 rfl 0 ic_0 ?_
  refine r_iald 25 hX sh_77 dX7_count_24 rfl hw (fun hw => ?_)
  refine r_icmp_ge 52 28 hX dX7_count_25 (by decide) rfl hw (fun hw => ?_) (fun hw => ?_)
  · refine r_iinc (lv' := [(3, .int (x3 + 1)), (0, .ref (X.kad 75)), (1, .int (x1)), (2, .int (x2)), (4, .int (x4))]) 55 hX dX7_count_52 rfl 3 rfl (x3 + 1) (ici_1 _) (by decide) rfl ?_
    refine r_goto 4 hX dX7_count_55 (by decide) ?_
    refine r_sub [1, 2, 3, 0] rfl ?_
    exact hK4 _ _ _ _ hw
  · refine r_iload_n 29 hX dX7_count_28 rfl rfl 2 rfl ?_
    refine r_aload_n 30 hX dX7_count_29 rfl rfl 0 rfl ?_
    refine r_iload_n 31 hX dX7_count_30 rfl rfl 3 rfl ?_
    refine r_iload 33 hX dX7_count_31 rfl 4 rfl ?_
    refine k_X7_143_X7_isBarred 36 hX (by omega) (x3) (x4) (Nat.le_of_ble_eq_true rfl) dX7_count_33 rfl hw (fun r33 σ33 hw => ?_)
    refine r_if_eq 43 39 hX dX7_count_36 (by decide) rfl hw (fun hw => ?_) (fun hw => ?_)
    · refine r_iconst 44 hX dX7_count_43 rfl 0 ic_0 ?_
      refine r_iadd 45 hX dX7_count_44 rfl ?_
      refine r_istore_n (lv' := [(2, .int (x2 + 0)), (0, .ref (X.kad 75)), (1, .int (x1)), (3, .int (x3)), (4, .int (x4))]) 46 hX dX7_count_45 rfl rfl (by decide) rfl ?_
      refine r_iinc (lv' := [(4, .int (x4 + 1)), (2, .int (x2 + 0)), (0, .ref (X.kad 75)), (1, .int (x1)), (3, .int (x3))]) 49 hX dX7_count_46 rfl 4 rfl (x4 + 1) (ici_1 _) (by decide) rfl ?_
      refine r_goto 17 hX dX7_count_49 (by decide) ?_
      refine r_sub [2, 3, 1, 4, 0] rfl ?_
      exact hK17 _ _ _ _ _ hw
    · refine r_iconst 40 hX dX7_count_39 rfl 1 ic_1 ?_
      refine r_goto 44 hX dX7_count_40 (by decide) ?_
      refine r_iadd 45 hX dX7_count_44 rfl ?_
      refine r_istore_n (lv' := [(2, .int (x2 + 1)), (0, .ref (X.kad 75)), (1, .int (x1)), (3, .int (x3)), (4, .int (x4))]) 46 hX dX7_count_45 rfl rfl (by decide) rfl ?_
      refine r_iinc (lv' := [(4, .int (x4 + 1)), (2, .int (x2 + 1)), (0, .ref (X.kad 75)), (1, .int (x1)), (3, .int (x3))]) 49 hX dX7_count_46 rfl 4 rfl (x4 + 1) (ici_1 _) (by decide) rfl ?_
      refine r_goto 17 hX dX7_count_49 (by decide) ?_
      refine r_sub [2, 3, 1, 4, 0] rfl ?_
      exact hK17 _ _ _ _ _ hw
set_option maxRecDepth 20000 in
set_option maxHeartbeats 4000000 in
theorem w_X7_count_l17 {X : Cx} {Q : RV → St → Prop} (hX : CxB X RX7 cX7_count 5 (2)) (hR : CxR X (some .int) Q) {K4 : Int32 → Int32 → Int32 → St → Prop} (hK4 : ∀ (x1 : Int32) (x2 : Int32) (x3 : Int32) (σ : St), K4 x1 x2 x3 σ → At X 5 4 [(0, .ref (X.kad 75)), (1, .int (x1)), (2, .int (x2)), (3, .int (x3))] [] σ) (n : Nat) : ∀ (x1 : Int32) (x2 : Int32) (x3 : Int32) (x4 : Int32) (σ : St), wp_X7_count_l17 (aI Q) K4 n x1 x2 x3 x4 σ → At X 5 17 [(0, .ref (X.kad 75)), (1, .int (x1)), (2, .int (x2)), (3, .int (x3)), (4, .int (x4))] [] σ := by
  induction n with
  | zero => intro x1 x2 x3 x4 σ h; exact h.elim
  | succ n ih => intro x1 x2 x3 x4 σ h; exact w_X7_count_b17  hX hR hK4 ih x1 x2 x3 x4 σ h
set_option maxRecDepth 20000 in
set_option maxHeartbeats 4000000 in
theorem w_X7_count_b4 {X : Cx} {Q : RV → St → Prop} (hX : CxB X RX7 cX7_count 5 (2)) (hR : CxR X (some .int) Q) {K4 : Int32 → Int32 → Int32 → St → Prop} (hK4 : ∀ (x1 : Int32) (x2 : Int32) (x3 : Int32) (σ : St), K4 x1 x2 x3 σ → At X 5 4 [(0, .ref (X.kad 75)), (1, .int (x1)), (2, .int (x2)), (3, .int (x3))] [] σ) (x1 : Int32) (x2 : Int32) (x3 : Int32) (σ : St) (hw : wp_X7_count_b4 (aI Q) K4 x1 x2 x3 σ) : At X 5 4 [(0, .ref (X.kad 75)), (1, .int (x1)), (2, .int (x2)), (3, .int (x3))] [] σ := by
  unfold wp_X7_count_b4 at hw
  refine r_iload_n 5 hX dX7_count_4 rfl rfl 3 rfl ?_
  refine r_aload_n 6 hX dX7_count_5 rfl rfl 0 rfl ?_
  refine g_X7_17_75 9 hX dX7_count_6 rfl ?_
  refine r_iconst 10 hX dX7_count_9 rfl 0 ic_0 ?_
  refine r_iald 11 hX sh_78 dX7_count_10 rfl hw (fun hw => ?_)
  refine r_icmp_ge 58 14 hX dX7_count_11 (by decide) rfl hw (fun hw => ?_) (fun hw => ?_)
  · refine r_iload_n 59 hX dX7_count_58 rfl rfl 1 rfl ?_
    -- switch
    refine r_case hw (fun hc hw => ?_) (fun hc0 hw => ?_)
    · refine r_tabIn 96 hX dX7_count_59 (by rw [hc]; decide) (by rw [hc]; decide) (off := 37) (by rw [hc]; decide) (by decide) ?_
      refine r_aload_n 97 hX dX7_count_96 rfl rfl 0 rfl ?_
      refine g_X7_13_75 100 hX dX7_count_97 rfl ?_
      refine r_iconst 101 hX dX7_count_100 rfl 0 ic_0 ?_
      refine r_iald 102 hX sh_77 dX7_count_101 rfl hw (fun hw => ?_)
      exact r_iret hX hR dX7_count_102 hw
    refine r_case hw (fun hc hw => ?_) (fun hc1 hw => ?_)
    · refine r_tabIn 103 hX dX7_count_59 (by rw [hc]; decide) (by rw [hc]; decide) (off := 44) (by rw [hc]; decide) (by decide) ?_
      refine r_aload_n 104 hX dX7_count_103 rfl rfl 0 rfl ?_
      refine g_X7_17_75 107 hX dX7_count_104 rfl ?_
      refine r_iconst 108 hX dX7_count_107 rfl 0 ic_0 ?_
      refine r_iald 109 hX sh_78 dX7_count_108 rfl hw (fun hw => ?_)
      exact r_iret hX hR dX7_count_109 hw
    refine r_case hw (fun hc hw => ?_) (fun hc2 hw => ?_)
    · refine r_tabIn 110 hX dX7_count_59 (by rw [hc]; decide) (by rw [hc]; decide) (off := 51) (by rw [hc]; decide) (by decide) ?_
      refine r_aload_n 111 hX dX7_count_110 rfl rfl 0 rfl ?_
      refine g_X7_20_75 114 hX dX7_count_111 rfl ?_
      refine r_iconst 115 hX dX7_count_114 rfl 0 ic_0 ?_
      refine r_iald 116 hX sh_79 dX7_count_115 rfl hw (fun hw => ?_)
      exact r_iret hX hR dX7_count_116 hw
    refine r_case hw (fun hc hw => ?_) (fun hc3 hw => ?_)
    · refine r_tabIn 117 hX dX7_count_59 (by rw [hc]; decide) (by rw [hc]; decide) (off := 58) (by rw [hc]; decide) (by decide) ?_
      refine r_aload_n 118 hX dX7_count_117 rfl rfl 0 rfl ?_
      refine g_X7_72_75 121 hX dX7_count_118 rfl ?_
      refine r_iconst 122 hX dX7_count_121 rfl 0 ic_0 ?_
      refine r_iald 123 hX sh_96 dX7_count_122 rfl hw (fun hw => ?_)
      exact r_iret hX hR dX7_count_123 hw
    refine r_case hw (fun hc hw => ?_) (fun hc4 hw => ?_)
    · refine r_tabIn 124 hX dX7_count_59 (by rw [hc]; decide) (by rw [hc]; decide) (off := 65) (by rw [hc]; decide) (by decide) ?_
      refine r_aload_n 125 hX dX7_count_124 rfl rfl 0 rfl ?_
      refine g_X7_89_75 128 hX dX7_count_125 rfl ?_
      exact r_iret hX hR dX7_count_128 hw
    refine r_case hw (fun hc hw => ?_) (fun hc5 hw => ?_)
    · refine r_tabIn 129 hX dX7_count_59 (by rw [hc]; decide) (by rw [hc]; decide) (off := 70) (by rw [hc]; decide) (by decide) ?_
      refine r_iload_n 130 hX dX7_count_129 rfl rfl 2 rfl ?_
      exact r_iret hX hR dX7_count_130 hw
    refine r_tabOut 131 hX dX7_count_59 (sw_out0_5 hc0 hc1 hc2 hc3 hc4 hc5) (by decide) ?_
    refine r_iconst 132 hX dX7_count_131 rfl (-1) ic_m1 ?_
    exact r_iret hX hR dX7_count_132 hw
  · refine r_iconst 15 hX dX7_count_14 rfl 0 ic_0 ?_
    refine r_istore (lv' := [(4, .int (0)), (0, .ref (X.kad 75)), (1, .int (x1)), (2, .int (x2)), (3, .int (x3))]) 17 hX dX7_count_15 rfl (by decide) rfl ?_
    refine r_sub [1, 2, 3, 4, 0] rfl ?_
    obtain ⟨n, hw⟩ := hw
    exact w_X7_count_l17 hX hR hK4 n _ _ _ _ _ hw
set_option maxRecDepth 20000 in
set_option maxHeartbeats 4000000 in
theorem w_X7_count_l4 {X : Cx} {Q : RV → St → Prop} (hX : CxB X RX7 cX7_count 5 (2)) (hR : CxR X (some .int) Q) (n : Nat) : ∀ (x1 : Int32) (x2 : Int32) (x3 : Int32) (σ : St), wp_X7_count_l4 (aI Q)  n x1 x2 x3 σ → At X 5 4 [(0, .ref (X.kad 75)), (1, .int (x1)), (2, .int (x2)), (3, .int (x3))] [] σ := by
  induction n with
  | zero => intro x1 x2 x3 σ h; exact h.elim
  | succ n ih => intro x1 x2 x3 σ h; exact w_X7_count_b4  hX hR ih x1 x2 x3 σ h
set_option maxRecDepth 20000 in
set_option maxHeartbeats 4000000 in
theorem c_X7_count (x1 : Int32) : Con yX7_count cX7_count 5 (some .int) (2) (fun ad => [.ref (ad 75), .int (x1)]) (fun Q σ => wp_X7_count x1 (aI Q) σ) := by
  refine con_intro (by decide +kernel) (fun _ => Nat.le_of_ble_eq_true rfl) (by omega) (fun X Q σ hX hR hw => ?_)
  have hX : CxB X RX7 cX7_count 5 (2) := hX
  unfold wp_X7_count at hw
  show At X 5 0 [(0, .ref (X.kad 75)), (1, .int (x1))] [] σ
  refine r_iconst 1 hX dX7_count_0 rfl 0 ic_0 ?_
  refine r_istore_n (lv' := [(2, .int (0)), (0, .ref (X.kad 75)), (1, .int (x1))]) 2 hX dX7_count_1 rfl rfl (by decide) rfl ?_
  refine r_iconst 3 hX dX7_count_2 rfl 0 ic_0 ?_
  refine r_istore_n (lv' := [(3, .int (0)), (2, .int (0)), (0, .ref (X.kad 75)), (1, .int (x1))]) 4 hX dX7_count_3 rfl rfl (by decide) rfl ?_
  refine r_sub [2, 3, 1, 0] rfl ?_
  obtain ⟨n, hw⟩ := hw
  exact w_X7_count_l4 hX hR n _ _ _ _ hw
set_option maxRecDepth 20000 in
set_option maxHeartbeats 4000000 in
theorem c_X7_trace : Con yX7_trace cX7_trace 1 (some .long) (1) (fun ad => [.ref (ad 75)]) (fun Q σ => wp_X7_trace  (aJ Q) σ) := by
  refine con_intro (by decide +kernel) (fun _ => Nat.le_of_ble_eq_true rfl) (by omega) (fun X Q σ hX hR hw => ?_)
  have hX : CxB X RX7 cX7_trace 1 (1) := hX
  unfold wp_X7_trace at hw
  show At X 1 0 [(0, .ref (X.kad 75))] [] σ
  refine r_aload_n 1 hX dX7_trace_0 rfl rfl 0 rfl ?_
  refine g_X7_263_75 4 hX dX7_trace_1 rfl ?_
  exact r_lret hX hR dX7_trace_4 hw
