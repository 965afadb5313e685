theorem fill_step_fillI (σ : St) (a i : Nat) (v : Int32) (g : Nat → Int32) : sI (sR σ a (fun j => if j < i then v else g j)) a i v = sR σ a (fun j => if j < i + 1 then v else g j) := by
  unfold sI
  rw [sR_self]
  have e1 : upd (fun j => if j < i then v else g j) i v = fun j => if j < i + 1 then v else g j := by
    funext j
    simp only [upd]
    by_cases h : j = i
    · subst h; simp
    · by_cases h2 : j < i
      · simp [h, h2, Nat.lt_succ_of_lt h2]
      · simp [h, h2, show ¬ j < i + 1 by omega]
  rw [e1]
  unfold sR
  congr 1
  funext b
  by_cases hb : b = a <;> simp [hb]
theorem fill_loop_fillI {X : Cx} {Q : RV → St → Prop} (hX : CxB X RJ7 cJ7_fill_53178 4 1) (hR : CxR X none Q) {a n : Nat} (hs : wS a = (9, n)) (hn : n < 2 ^ 31) (v : Int32) (σ : St) (hw : Q none (sR σ a (fun j => if j < n then v else σ.1 a j))) : ∀ m i : Nat, i + m = n → At X 4 5 [(0, .ref (X.kad a)), (1, .int v), (2, .int (nI i)), (3, .int (nI n))] [] (sR σ a (fun j => if j < i then v else σ.1 a j)) := by
  intro m
  induction m with
  | zero =>
    intro i hi
    have hi : i = n := by omega
    subst hi
    refine r_iload_n 6 hX dJ7_fill_53178_5 rfl rfl 2 rfl ?_
    refine r_iload_n 7 hX dJ7_fill_53178_6 rfl rfl 3 rfl ?_
    refine r_icmp_ge 20 10 hX dJ7_fill_53178_7 (by decide) rfl (P := True) (Q := False) ⟨fun _ => trivial, fun h => absurd (nI_le (Nat.le_refl i) hn) h⟩ (fun _ => ?_) (fun h => h.elim)
    exact r_vret hX hR dJ7_fill_53178_20 hw
  | succ m ih =>
    intro i hi
    have hlt : i < n := by omega
    refine r_iload_n 6 hX dJ7_fill_53178_5 rfl rfl 2 rfl ?_
    refine r_iload_n 7 hX dJ7_fill_53178_6 rfl rfl 3 rfl ?_
    refine r_icmp_ge 20 10 hX dJ7_fill_53178_7 (by decide) rfl (P := False) (Q := True) ⟨fun h => absurd h (nI_ge hlt hn), fun _ => trivial⟩ (fun h => h.elim) (fun _ => ?_)
    refine r_aload_n 11 hX dJ7_fill_53178_10 rfl rfl 0 rfl ?_
    refine r_iload_n 12 hX dJ7_fill_53178_11 rfl rfl 2 rfl ?_
    refine r_iload_n 13 hX dJ7_fill_53178_12 rfl rfl 1 rfl ?_
    refine r_iast 14 hX hs dJ7_fill_53178_13 rfl (B := True) ⟨vp_in_nI hlt hn, trivial⟩ (fun _ => ?_)
    rw [nI_clamp (by omega), fill_step_fillI]
    refine r_iinc (lv' := [(2, .int (nI (i + 1))), (0, .ref (X.kad a)), (1, .int v), (3, .int (nI n))]) 17 hX dJ7_fill_53178_14 rfl 2 rfl (nI (i + 1)) (by rw [show Int32.ofInt 1 = 1 by decide]; exact nI_1 i) (by decide) rfl ?_
    refine r_goto 5 hX dJ7_fill_53178_17 (by decide) ?_
    refine r_sub [1, 2, 0, 3] rfl ?_
    exact ih (i + 1) (by omega)
set_option maxRecDepth 20000 in
theorem c_fillI (a n : Nat) (hs : wS a = (9, n)) (v : Int32) : Con yJ7_fill_53178 cJ7_fill_53178 4 (none) 1 (fun ad => [.ref (ad a), .int v]) (fun Q σ => wp_fillI a n v (aV Q) σ) := by
  refine con_intro (by decide +kernel) (fun _ => Nat.le_of_ble_eq_true rfl) (by omega) (fun X Q σ hX hR hw => ?_)
  have hX : CxB X RJ7 cJ7_fill_53178 4 1 := hX
  have hn : n < 2 ^ 31 := by
    have h1 : ∀ k, k < 102 → (wS k).2 ≤ 16000 := by decide +kernel
    have h2 := h1 a (wS_lt hs (by decide))
    rw [hs] at h2
    have h3 : n ≤ 16000 := h2
    omega
  have hw : Q none (sR σ a (fun j => if j < n then v else σ.1 a j)) := hw
  show At X 4 0 [(0, .ref (X.kad a)), (1, .int v)] [] σ
  refine r_iconst 1 hX dJ7_fill_53178_0 rfl (nI 0) rfl ?_
  refine r_istore_n (lv' := [(2, .int (nI 0)), (0, .ref (X.kad a)), (1, .int v)]) 2 hX dJ7_fill_53178_1 rfl rfl (by decide) rfl ?_
  refine r_aload_n 3 hX dJ7_fill_53178_2 rfl rfl 1 rfl ?_
  refine r_alen 4 hX hs (by decide) dJ7_fill_53178_3 rfl ?_
  refine r_istore_n (lv' := [(3, .int (nI n)), (2, .int (nI 0)), (0, .ref (X.kad a)), (1, .int v)]) 5 hX dJ7_fill_53178_4 rfl rfl (by decide) rfl ?_
  refine r_sub [2, 3, 1, 0] rfl ?_
  have h := fill_loop_fillI hX hR hs hn v σ hw n 0 (by omega)
  have e : sR σ a (fun j => if j < 0 then v else σ.1 a j) = σ := by
    unfold sR
    refine Prod.ext ?_ ?_
    · funext b; by_cases hb : b = a <;> simp [hb]
    · rfl
  rw [e] at h
  exact h
theorem fill_step_fillJ (σ : St) (a i : Nat) (v : Int64) (g : Nat → Int64) : sJ (sL σ a (fun j => if j < i then v else g j)) a i v = sL σ a (fun j => if j < i + 1 then v else g j) := by
  unfold sJ
  rw [sL_self]
  have e1 : vp_updL (fun j => if j < i then v else g j) i v = fun j => if j < i + 1 then v else g j := by
    funext j
    simp only [vp_updL]
    by_cases h : j = i
    · subst h; simp
    · by_cases h2 : j < i
      · simp [h, h2, Nat.lt_succ_of_lt h2]
      · simp [h, h2, show ¬ j < i + 1 by omega]
  rw [e1]
  unfold sL
  congr 1
  funext b
  by_cases hb : b = a <;> simp [hb]
theorem fill_loop_fillJ {X : Cx} {Q : RV → St → Prop} (hX : CxB X RJ7 cJ7_fill_d0a16 5 1) (hR : CxR X none Q) {a n : Nat} (hs : wS a = (10, n)) (hn : n < 2 ^ 31) (v : Int64) (σ : St) (hw : Q none (sL σ a (fun j => if j < n then v else σ.2 a j))) : ∀ m i : Nat, i + m = n → At X 5 6 [(0, .ref (X.kad a)), (1, .long v), (3, .int (nI i)), (4, .int (nI n))] [] (sL σ a (fun j => if j < i then v else σ.2 a j)) := by
  intro m
  induction m with
  | zero =>
    intro i hi
    have hi : i = n := by omega
    subst hi
    refine r_iload_n 7 hX dJ7_fill_d0a16_6 rfl rfl 2 rfl ?_
    refine r_iload 9 hX dJ7_fill_d0a16_7 rfl 3 rfl ?_
    refine r_icmp_ge 22 12 hX dJ7_fill_d0a16_9 (by decide) rfl (P := True) (Q := False) ⟨fun _ => trivial, fun h => absurd (nI_le (Nat.le_refl i) hn) h⟩ (fun _ => ?_) (fun h => h.elim)
    exact r_vret hX hR dJ7_fill_d0a16_22 hw
  | succ m ih =>
    intro i hi
    have hlt : i < n := by omega
    refine r_iload_n 7 hX dJ7_fill_d0a16_6 rfl rfl 2 rfl ?_
    refine r_iload 9 hX dJ7_fill_d0a16_7 rfl 3 rfl ?_
    refine r_icmp_ge 22 12 hX dJ7_fill_d0a16_9 (by decide) rfl (P := False) (Q := True) ⟨fun h => absurd h (nI_ge hlt hn), fun _ => trivial⟩ (fun h => h.elim) (fun _ => ?_)
    refine r_aload_n 13 hX dJ7_fill_d0a16_12 rfl rfl 0 rfl ?_
    refine r_iload_n 14 hX dJ7_fill_d0a16_13 rfl rfl 2 rfl ?_
    refine r_lload_n 15 hX dJ7_fill_d0a16_14 rfl rfl 1 rfl ?_
    refine r_last 16 hX hs dJ7_fill_d0a16_15 rfl (B := True) ⟨vp_in_nI hlt hn, trivial⟩ (fun _ => ?_)
    rw [nI_clamp (by omega), fill_step_fillJ]
    refine r_iinc (lv' := [(3, .int (nI (i + 1))), (0, .ref (X.kad a)), (1, .long v), (4, .int (nI n))]) 19 hX dJ7_fill_d0a16_16 rfl 2 rfl (nI (i + 1)) (by rw [show Int32.ofInt 1 = 1 by decide]; exact nI_1 i) (by decide) rfl ?_
    refine r_goto 6 hX dJ7_fill_d0a16_19 (by decide) ?_
    refine r_sub [1, 2, 0, 3] rfl ?_
    exact ih (i + 1) (by omega)
set_option maxRecDepth 20000 in
theorem c_fillJ (a n : Nat) (hs : wS a = (10, n)) (v : Int64) : Con yJ7_fill_d0a16 cJ7_fill_d0a16 5 (none) 1 (fun ad => [.ref (ad a), .long v]) (fun Q σ => wp_fillJ a n v (aV Q) σ) := by
  refine con_intro (by decide +kernel) (fun _ => Nat.le_of_ble_eq_true rfl) (by omega) (fun X Q σ hX hR hw => ?_)
  have hX : CxB X RJ7 cJ7_fill_d0a16 5 1 := hX
  have hn : n < 2 ^ 31 := by
    have h1 : ∀ k, k < 102 → (wS k).2 ≤ 16000 := by decide +kernel
    have h2 := h1 a (wS_lt hs (by decide))
    rw [hs] at h2
    have h3 : n ≤ 16000 := h2
    omega
  have hw : Q none (sL σ a (fun j => if j < n then v else σ.2 a j)) := hw
  show At X 5 0 [(0, .ref (X.kad a)), (1, .long v)] [] σ
  refine r_iconst 1 hX dJ7_fill_d0a16_0 rfl (nI 0) rfl ?_
  refine r_istore_n (lv' := [(3, .int (nI 0)), (0, .ref (X.kad a)), (1, .long v)]) 2 hX dJ7_fill_d0a16_1 rfl rfl (by decide) rfl ?_
  refine r_aload_n 3 hX dJ7_fill_d0a16_2 rfl rfl 1 rfl ?_
  refine r_alen 4 hX hs (by decide) dJ7_fill_d0a16_3 rfl ?_
  refine r_istore (lv' := [(4, .int (nI n)), (3, .int (nI 0)), (0, .ref (X.kad a)), (1, .long v)]) 6 hX dJ7_fill_d0a16_4 rfl (by decide) rfl ?_
  refine r_sub [2, 3, 1, 0] rfl ?_
  have h := fill_loop_fillJ hX hR hs hn v σ hw n 0 (by omega)
  have e : sL σ a (fun j => if j < 0 then v else σ.2 a j) = σ := by
    unfold sL
    refine Prod.ext ?_ ?_
    · rfl
    · funext b; by_cases hb : b = a <;> simp [hb]
  rw [e] at h
  exact h
set_option maxRecDepth 20000 in
set_option maxHeartbeats 4000000 in
theorem c_J6_bitCount_0f7a4 (x0 : Int32) : Con yJ6_bitCount_0f7a4 cJ6_bitCount_0f7a4 1 (some .int) (1) (fun ad => [.int (x0)]) (fun Q σ => wp_J6_bitCount_0f7a4 x0 (aI Q) σ) := by
  refine con_intro (by decide +kernel) (fun _ => Nat.le_of_ble_eq_true rfl) (by omega) (fun X Q σ hX hR hw => ?_)
  have hX : CxB X RJ6 cJ6_bitCount_0f7a4 1 (1) := hX
  unfold wp_J6_bitCount_0f7a4 at hw
  show At X 1 0 [(0, .int (x0))] [] σ
  refine r_iload_n 1 hX dJ6_bitCount_0f7a4_0 rfl rfl 0 rfl ?_
  refine r_iload_n 2 hX dJ6_bitCount_0f7a4_1 rfl rfl 0 rfl ?_
  refine r_iconst 3 hX dJ6_bitCount_0f7a4_2 rfl 1 ic_1 ?_
  refine r_iushr 4 hX dJ6_bitCount_0f7a4_3 rfl ?_
  refine r_ldcw 7 hX 1431655765 tw_0 dJ6_bitCount_0f7a4_4 rfl ?_
  refine r_iand 8 hX dJ6_bitCount_0f7a4_7 rfl ?_
  refine r_isub 9 hX dJ6_bitCount_0f7a4_8 rfl ?_
  refine r_topi hw (fun v9 hw => ?_)
  refine r_istore_n (lv' := [(0, .int (v9))]) 10 hX dJ6_bitCount_0f7a4_9 rfl rfl (by decide) rfl ?_
  refine r_iload_n 11 hX dJ6_bitCount_0f7a4_10 rfl rfl 0 rfl ?_
  refine r_ldcw 14 hX 858993459 tw_1 dJ6_bitCount_0f7a4_11 rfl ?_
  refine r_iand 15 hX dJ6_bitCount_0f7a4_14 rfl ?_
  refine r_iload_n 16 hX dJ6_bitCount_0f7a4_15 rfl rfl 0 rfl ?_
  refine r_iconst 17 hX dJ6_bitCount_0f7a4_16 rfl 2 ic_2 ?_
  refine r_iushr 18 hX dJ6_bitCount_0f7a4_17 rfl ?_
  refine r_ldcw 21 hX 858993459 tw_1 dJ6_bitCount_0f7a4_18 rfl ?_
  refine r_iand 22 hX dJ6_bitCount_0f7a4_21 rfl ?_
  refine r_iadd 23 hX dJ6_bitCount_0f7a4_22 rfl ?_
  refine r_topi hw (fun v23 hw => ?_)
  refine r_istore_n (lv' := [(0, .int (v23))]) 24 hX dJ6_bitCount_0f7a4_23 rfl rfl (by decide) rfl ?_
  refine r_iload_n 25 hX dJ6_bitCount_0f7a4_24 rfl rfl 0 rfl ?_
  refine r_iload_n 26 hX dJ6_bitCount_0f7a4_25 rfl rfl 0 rfl ?_
  refine r_iconst 27 hX dJ6_bitCount_0f7a4_26 rfl 4 ic_4 ?_
  refine r_iushr 28 hX dJ6_bitCount_0f7a4_27 rfl ?_
  refine r_iadd 29 hX dJ6_bitCount_0f7a4_28 rfl ?_
  refine r_ldcw 32 hX 252645135 tw_2 dJ6_bitCount_0f7a4_29 rfl ?_
  refine r_iand 33 hX dJ6_bitCount_0f7a4_32 rfl ?_
  refine r_topi hw (fun v33 hw => ?_)
  refine r_istore_n (lv' := [(0, .int (v33))]) 34 hX dJ6_bitCount_0f7a4_33 rfl rfl (by decide) rfl ?_
  refine r_iload_n 35 hX dJ6_bitCount_0f7a4_34 rfl rfl 0 rfl ?_
  refine r_iload_n 36 hX dJ6_bitCount_0f7a4_35 rfl rfl 0 rfl ?_
  refine r_bipush 38 hX dJ6_bitCount_0f7a4_36 rfl 8 bi_8 ?_
  refine r_iushr 39 hX dJ6_bitCount_0f7a4_38 rfl ?_
  refine r_iadd 40 hX dJ6_bitCount_0f7a4_39 rfl ?_
  refine r_topi hw (fun v40 hw => ?_)
  refine r_istore_n (lv' := [(0, .int (v40))]) 41 hX dJ6_bitCount_0f7a4_40 rfl rfl (by decide) rfl ?_
  refine r_iload_n 42 hX dJ6_bitCount_0f7a4_41 rfl rfl 0 rfl ?_
  refine r_iload_n 43 hX dJ6_bitCount_0f7a4_42 rfl rfl 0 rfl ?_
  refine r_bipush 45 hX dJ6_bitCount_0f7a4_43 rfl 16 bi_16 ?_
  refine r_iushr 46 hX dJ6_bitCount_0f7a4_45 rfl ?_
  refine r_iadd 47 hX dJ6_bitCount_0f7a4_46 rfl ?_
  refine r_topi hw (fun v47 hw => ?_)
  refine r_istore_n (lv' := [(0, .int (v47))]) 48 hX dJ6_bitCount_0f7a4_47 rfl rfl (by decide) rfl ?_
  refine r_iload_n 49 hX dJ6_bitCount_0f7a4_48 rfl rfl 0 rfl ?_
  refine r_bipush 51 hX dJ6_bitCount_0f7a4_49 rfl 63 bi_63 ?_
  refine r_iand 52 hX dJ6_bitCount_0f7a4_51 rfl ?_
  exact r_iret hX hR dJ6_bitCount_0f7a4_52 hw
set_option maxRecDepth 20000 in
set_option maxHeartbeats 4000000 in
theorem c_X4_hasCourse (x1 : Int32) : Con yX4_hasCourse cX4_hasCourse 2 (some .boolean) (1) (fun ad => [.ref (ad 4), .int (x1)]) (fun Q σ => wp_X4_hasCourse x1 (aI Q) σ) := by
  refine con_intro (by decide +kernel) (fun _ => Nat.le_of_ble_eq_true rfl) (by omega) (fun X Q σ hX hR hw => ?_)
  have hX : CxB X RX4 cX4_hasCourse 2 (1) := hX
  unfold wp_X4_hasCourse at hw
  show At X 2 0 [(0, .ref (X.kad 4)), (1, .int (x1))] [] σ
  refine r_iload_n 1 hX dX4_hasCourse_0 rfl rfl 1 rfl ?_
  refine r_if_lt 16 4 hX dX4_hasCourse_1 (by decide) rfl hw (fun hw => ?_) (fun hw => ?_)
  · refine r_iconst 17 hX dX4_hasCourse_16 rfl 0 ic_0 ?_
    exact r_zret hX hR narrow_b0 dX4_hasCourse_17 hw
  · refine r_iload_n 5 hX dX4_hasCourse_4 rfl rfl 1 rfl ?_
    refine r_aload_n 6 hX dX4_hasCourse_5 rfl rfl 0 rfl ?_
    refine g_X4_15_4 9 hX dX4_hasCourse_6 rfl ?_
    refine r_icmp_ge 16 12 hX dX4_hasCourse_9 (by decide) rfl hw (fun hw => ?_) (fun hw => ?_)
    · refine r_iconst 17 hX dX4_hasCourse_16 rfl 0 ic_0 ?_
      exact r_zret hX hR narrow_b0 dX4_hasCourse_17 hw
    · refine r_iconst 13 hX dX4_hasCourse_12 rfl 1 ic_1 ?_
      refine r_goto 17 hX dX4_hasCourse_13 (by decide) ?_
      exact r_zret hX hR narrow_b1 dX4_hasCourse_17 hw
set_option maxRecDepth 20000 in
set_option maxHeartbeats 4000000 in
theorem c_X4_hasColumn (x1 : Int32) : Con yX4_hasColumn cX4_hasColumn 2 (some .boolean) (1) (fun ad => [.ref (ad 4), .int (x1)]) (fun Q σ => wp_X4_hasColumn x1 (aI Q) σ) := by
  refine con_intro (by decide +kernel) (fun _ => Nat.le_of_ble_eq_true rfl) (by omega) (fun X Q σ hX hR hw => ?_)
  have hX : CxB X RX4 cX4_hasColumn 2 (1) := hX
  unfold wp_X4_hasColumn at hw
  show At X 2 0 [(0, .ref (X.kad 4)), (1, .int (x1))] [] σ
  refine r_iload_n 1 hX dX4_hasColumn_0 rfl rfl 1 rfl ?_
  refine r_if_lt 16 4 hX dX4_hasColumn_1 (by decide) rfl hw (fun hw => ?_) (fun hw => ?_)
  · refine r_iconst 17 hX dX4_hasColumn_16 rfl 0 ic_0 ?_
    exact r_zret hX hR narrow_b0 dX4_hasColumn_17 hw
  · refine r_iload_n 5 hX dX4_hasColumn_4 rfl rfl 1 rfl ?_
    refine r_aload_n 6 hX dX4_hasColumn_5 rfl rfl 0 rfl ?_
    refine g_X4_9_4 9 hX dX4_hasColumn_6 rfl ?_
    refine r_icmp_ge 16 12 hX dX4_hasColumn_9 (by decide) rfl hw (fun hw => ?_) (fun hw => ?_)
    · refine r_iconst 17 hX dX4_hasColumn_16 rfl 0 ic_0 ?_
      exact r_zret hX hR narrow_b0 dX4_hasColumn_17 hw
    · refine r_iconst 13 hX dX4_hasColumn_12 rfl 1 ic_1 ?_
      refine r_goto 17 hX dX4_hasColumn_13 (by decide) ?_
      exact r_zret hX hR narrow_b1 dX4_hasColumn_17 hw
theorem k_X4_49_X4_hasCourse {X : Cx} {cc : ByteArray} {nL d pc : Nat} {lv : List (Nat × Value)} {rest : List Value} {σ : St} {K : Int32 → St → Prop} (q : Nat) (hX : CxB X RX4 cc nL d) (hdc : 1 + 1 ≤ d) (x1 : Int32) (hst : (rest.map fun v => v.category).sum ≤ 8) (hd : decode cc pc = .ok (.invokevirtual 49, 3)) (hq : pc + 3 = q) (hw : wp_X4_hasCourse x1 K σ) (kk : ∀ (r : Int32) (τ : St), K r τ → At X nL q lv (.int r :: rest) τ) : At X nL pc lv (.int (x1) :: .ref (X.kad 4) :: rest) σ := r_callV (n := 1) q hX (k0 := 4) (c_X4_hasCourse x1) tw_5 tw_6 tw_7 tw_8 tw_9 ⟨by decide +kernel, by decide +kernel, by decide +kernel⟩ hdc (by decide) (As := [.int (x1)]) rfl rfl (by decide) ⟨_, _, _, rfl, rfl, rfl⟩ hst hd hq rfl (K := qI K) hw (kI kk)
theorem k_X4_53_X4_hasColumn {X : Cx} {cc : ByteArray} {nL d pc : Nat} {lv : List (Nat × Value)} {rest : List Value} {σ : St} {K : Int32 → St → Prop} (q : Nat) (hX : CxB X RX4 cc nL d) (hdc : 1 + 1 ≤ d) (x1 : Int32) (hst : (rest.map fun v => v.category).sum ≤ 8) (hd : decode cc pc = .ok (.invokevirtual 53, 3)) (hq : pc + 3 = q) (hw : wp_X4_hasColumn x1 K σ) (kk : ∀ (r : Int32) (τ : St), K r τ → At X nL q lv (.int r :: rest) τ) : At X nL pc lv (.int (x1) :: .ref (X.kad 4) :: rest) σ := r_callV (n := 1) q hX (k0 := 4) (c_X4_hasColumn x1) tw_10 tw_11 tw_12 tw_8 tw_13 ⟨by decide +kernel, by decide +kernel, by decide +kernel⟩ hdc (by decide) (As := [.int (x1)]) rfl rfl (by decide) ⟨_, _, _, rfl, rfl, rfl⟩ hst hd hq rfl (K := qI K) hw (kI kk)
set_option maxRecDepth 20000 in
set_option maxHeartbeats 4000000 in
theorem c_X4_hasBrick (x1 : Int32) (x2 : Int32) : Con yX4_hasBrick cX4_hasBrick 3 (some .boolean) (2) (fun ad => [.ref (ad 4), .int (x1), .int (x2)]) (fun Q σ => wp_X4_hasBrick x1 x2 (aI Q) σ) := by
  refine con_intro (by decide +kernel) (fun _ => Nat.le_of_ble_eq_true rfl) (by omega) (fun X Q σ hX hR hw => ?_)
  have hX : CxB X RX4 cX4_hasBrick 3 (2) := hX
  unfold wp_X4_hasBrick at hw
  show At X 3 0 [(0, .ref (X.kad 4)), (1, .int (x1)), (2, .int (x2))] [] σ
  refine r_aload_n 1 hX dX4_hasBrick_0 rfl rfl 0 rfl ?_
  refine r_iload_n 2 hX dX4_hasBrick_1 rfl rfl 1 rfl ?_
  refine k_X4_49_X4_hasCourse 5 hX (by omega) (x1) (Nat.le_of_ble_eq_true rfl) dX4_hasBrick_2 rfl hw (fun r2 σ2 hw => ?_)
  refine r_if_eq 20 8 hX dX4_hasBrick_5 (by decide) rfl hw (fun hw => ?_) (fun hw => ?_)
  · refine r_iconst 21 hX dX4_hasBrick_20 rfl 0 ic_0 ?_
    exact r_zret hX hR narrow_b0 dX4_hasBrick_21 hw
  · refine r_aload_n 9 hX dX4_hasBrick_8 rfl rfl 0 rfl ?_
    refine r_iload_n 10 hX dX4_hasBrick_9 rfl rfl 2 rfl ?_
    refine k_X4_53_X4_hasColumn 13 hX (by omega) (x2) (Nat.le_of_ble_eq_true rfl) dX4_hasBrick_10 rfl hw (fun r10 σ10 hw => ?_)
    refine r_if_eq 20 16 hX dX4_hasBrick_13 (by decide) rfl hw (fun hw => ?_) (fun hw => ?_)
    · refine r_iconst 21 hX dX4_hasBrick_20 rfl 0 ic_0 ?_
      exact r_zret hX hR narrow_b0 dX4_hasBrick_21 hw
    · refine r_iconst 17 hX dX4_hasBrick_16 rfl 1 ic_1 ?_
      refine r_goto 21 hX dX4_hasBrick_17 (by decide) ?_
      exact r_zret hX hR narrow_b1 dX4_hasBrick_21 hw
set_option maxRecDepth 20000 in
set_option maxHeartbeats 4000000 in
theorem c_X4_hasHearth (x1 : Int32) : Con yX4_hasHearth cX4_hasHearth 2 (some .boolean) (1) (fun ad => [.ref (ad 4), .int (x1)]) (fun Q σ => wp_X4_hasHearth x1 (aI Q) σ) := by
  refine con_intro (by decide +kernel) (fun _ => Nat.le_of_ble_eq_true rfl) (by omega) (fun X Q σ hX hR hw => ?_)
  have hX : CxB X RX4 cX4_hasHearth 2 (1) := hX
  unfold wp_X4_hasHearth at hw
  show At X 2 0 [(0, .ref (X.kad 4)), (1, .int (x1))] [] σ
  refine r_iload_n 1 hX dX4_hasHearth_0 rfl rfl 1 rfl ?_
  refine r_if_lt 16 4 hX dX4_hasHearth_1 (by decide) rfl hw (fun hw => ?_) (fun hw => ?_)
  · refine r_iconst 17 hX dX4_hasHearth_16 rfl 0 ic_0 ?_
    exact r_zret hX hR narrow_b0 dX4_hasHearth_17 hw
  · refine r_iload_n 5 hX dX4_hasHearth_4 rfl rfl 1 rfl ?_
    refine r_aload_n 6 hX dX4_hasHearth_5 rfl rfl 0 rfl ?_
    refine g_X4_34_4 9 hX dX4_hasHearth_6 rfl ?_
    refine r_icmp_ge 16 12 hX dX4_hasHearth_9 (by decide) rfl hw (fun hw => ?_) (fun hw => ?_)
    · refine r_iconst 17 hX dX4_hasHearth_16 rfl 0 ic_0 ?_
      exact r_zret hX hR narrow_b0 dX4_hasHearth_17 hw
    · refine r_iconst 13 hX dX4_hasHearth_12 rfl 1 ic_1 ?_
      refine r_goto 17 hX dX4_hasHearth_13 (by decide) ?_
      exact r_zret hX hR narrow_b1 dX4_hasHearth_17 hw
theorem k_X4_56_X4_hasBrick {X : Cx} {cc : ByteArray} {nL d pc : Nat} {lv : List (Nat × Value)} {rest : List Value} {σ : St} {K : Int32 → St → Prop} (q : Nat) (hX : CxB X RX4 cc nL d) (hdc : 2 + 1 ≤ d) (x1 : Int32) (x2 : Int32) (hst : (rest.map fun v => v.category).sum ≤ 8) (hd : decode cc pc = .ok (.invokevirtual 56, 3)) (hq : pc + 3 = q) (hw : wp_X4_hasBrick x1 x2 K σ) (kk : ∀ (r : Int32) (τ : St), K r τ → At X nL q lv (.int r :: rest) τ) : At X nL pc lv (.int (x2) :: .int (x1) :: .ref (X.kad 4) :: rest) σ := r_callV (n := 2) q hX (k0 := 4) (c_X4_hasBrick x1 x2) tw_15 tw_16 tw_17 tw_8 tw_18 ⟨by decide +kernel, by decide +kernel, by decide +kernel⟩ hdc (by decide) (As := [.int (x1), .int (x2)]) rfl rfl (by decide) ⟨_, _, _, rfl, rfl, rfl⟩ hst hd hq rfl (K := qI K) hw (kI kk)
set_option maxRecDepth 20000 in
set_option maxHeartbeats 4000000 in
theorem c_X4_isFree (x1 : Int32) (x2 : Int32) : Con yX4_isFree cX4_isFree 3 (some .boolean) (3) (fun ad => [.ref (ad 4), .int (x1), .int (x2)]) (fun Q σ => wp_X4_isFree x1 x2 (aI Q) σ) := by
  refine con_intro (by decide +kernel) (fun _ => Nat.le_of_ble_eq_true rfl) (by omega) (fun X Q σ hX hR hw => ?_)
  have hX : CxB X RX4 cX4_isFree 3 (3) := hX
  unfold wp_X4_isFree at hw
  show At X 3 0 [(0, .ref (X.kad 4)), (1, .int (x1)), (2, .int (x2))] [] σ
  refine r_aload_n 1 hX dX4_isFree_0 rfl rfl 0 rfl ?_
  refine r_iload_n 2 hX dX4_isFree_1 rfl rfl 1 rfl ?_
  refine r_iload_n 3 hX dX4_isFree_2 rfl rfl 2 rfl ?_
  refine k_X4_56_X4_hasBrick 6 hX (by omega) (x1) (x2) (Nat.le_of_ble_eq_true rfl) dX4_isFree_3 rfl hw (fun r3 σ3 hw => ?_)
  refine r_if_eq 26 9 hX dX4_isFree_6 (by decide) rfl hw (fun hw => ?_) (fun hw => ?_)
  · refine r_iconst 27 hX dX4_isFree_26 rfl 0 ic_0 ?_
    exact r_zret hX hR narrow_b0 dX4_isFree_27 hw
  · refine r_aload_n 10 hX dX4_isFree_9 rfl rfl 0 rfl ?_
    refine g_X4_18_4 13 hX dX4_isFree_10 rfl ?_
    refine r_iload_n 14 hX dX4_isFree_13 rfl rfl 1 rfl ?_
    refine r_iald 15 hX sh_5 dX4_isFree_14 rfl hw (fun hw => ?_)
    refine r_iload_n 16 hX dX4_isFree_15 rfl rfl 2 rfl ?_
    refine r_ishr 17 hX dX4_isFree_16 rfl ?_
    refine r_iconst 18 hX dX4_isFree_17 rfl 1 ic_1 ?_
    refine r_iand 19 hX dX4_isFree_18 rfl ?_
    refine r_if_ne 26 22 hX dX4_isFree_19 (by decide) rfl hw (fun hw => ?_) (fun hw => ?_)
    · refine r_iconst 27 hX dX4_isFree_26 rfl 0 ic_0 ?_
      exact r_zret hX hR narrow_b0 dX4_isFree_27 hw
    · refine r_iconst 23 hX dX4_isFree_22 rfl 1 ic_1 ?_
      refine r_goto 27 hX dX4_isFree_23 (by decide) ?_
      exact r_zret hX hR narrow_b1 dX4_isFree_27 hw
set_option maxRecDepth 20000 in
set_option maxHeartbeats 4000000 in
theorem c_X4_isCold (x1 : Int32) : Con yX4_isCold cX4_isCold 2 (some .boolean) (2) (fun ad => [.ref (ad 4), .int (x1)]) (fun Q σ => wp_X4_isCold x1 (aI Q) σ) := by
  refine con_intro (by decide +kernel) (fun _ => Nat.le_of_ble_eq_true rfl) (by omega) (fun X Q σ hX hR hw => ?_)
  have hX : CxB X RX4 cX4_isCold 2 (2) := hX
  unfold wp_X4_isCold at hw
  show At X 2 0 [(0, .ref (X.kad 4)), (1, .int (x1))] [] σ
  refine r_aload_n 1 hX dX4_isCold_0 rfl rfl 0 rfl ?_
  refine r_iload_n 2 hX dX4_isCold_1 rfl rfl 1 rfl ?_
  refine k_X4_53_X4_hasColumn 5 hX (by omega) (x1) (Nat.le_of_ble_eq_true rfl) dX4_isCold_2 rfl hw (fun r2 σ2 hw => ?_)
  refine r_if_eq 23 8 hX dX4_isCold_5 (by decide) rfl hw (fun hw => ?_) (fun hw => ?_)
  · refine r_iconst 24 hX dX4_isCold_23 rfl 0 ic_0 ?_
    exact r_zret hX hR narrow_b0 dX4_isCold_24 hw
  · refine r_aload_n 9 hX dX4_isCold_8 rfl rfl 0 rfl ?_
    refine g_X4_31_4 12 hX dX4_isCold_9 rfl ?_
    refine r_iload_n 13 hX dX4_isCold_12 rfl rfl 1 rfl ?_
    refine r_ishr 14 hX dX4_isCold_13 rfl ?_
    refine r_iconst 15 hX dX4_isCold_14 rfl 1 ic_1 ?_
    refine r_iand 16 hX dX4_isCold_15 rfl ?_
    refine r_if_eq 23 19 hX dX4_isCold_16 (by decide) rfl hw (fun hw => ?_) (fun hw => ?_)
    · refine r_iconst 24 hX dX4_isCold_23 rfl 0 ic_0 ?_
      exact r_zret hX hR narrow_b0 dX4_isCold_24 hw
    · refine r_iconst 20 hX dX4_isCold_19 rfl 1 ic_1 ?_
      refine r_goto 24 hX dX4_isCold_20 (by decide) ?_
      exact r_zret hX hR narrow_b1 dX4_isCold_24 hw
set_option maxRecDepth 20000 in
set_option maxHeartbeats 4000000 in
theorem c_X4_reaches (x1 : Int32) (x2 : Int64) : Con yX4_reaches cX4_reaches 4 (some .boolean) (1) (fun ad => [.ref (ad 4), .int (x1), .long (x2)]) (fun Q σ => wp_X4_reaches x1 x2 (aI Q) σ) := by
  refine con_intro (by decide +kernel) (fun _ => Nat.le_of_ble_eq_true rfl) (by omega) (fun X Q σ hX hR hw => ?_)
  have hX : CxB X RX4 cX4_reaches 4 (1) := hX
  unfold wp_X4_reaches at hw
  show At X 4 0 [(0, .ref (X.kad 4)), (1, .int (x1)), (2, .long (x2))] [] σ
  refine r_lload_n 1 hX dX4_reaches_0 rfl rfl 2 rfl ?_
  refine r_aload_n 2 hX dX4_reaches_1 rfl rfl 0 rfl ?_
  refine g_X4_22_4 5 hX dX4_reaches_2 rfl ?_
  refine r_iload_n 6 hX dX4_reaches_5 rfl rfl 1 rfl ?_
  refine r_iald 7 hX sh_6 dX4_reaches_6 rfl hw (fun hw => ?_)
  refine r_i2l 8 hX dX4_reaches_7 rfl ?_
  refine r_lcmp 9 hX dX4_reaches_8 rfl ?_
  refine r_if_lt 26 12 hX dX4_reaches_9 (by decide) rfl hw (fun hw => ?_) (fun hw => ?_)
  · refine r_iconst 27 hX dX4_reaches_26 rfl 0 ic_0 ?_
    exact r_zret hX hR narrow_b0 dX4_reaches_27 hw
  · refine r_lload_n 13 hX dX4_reaches_12 rfl rfl 2 rfl ?_
    refine r_aload_n 14 hX dX4_reaches_13 rfl rfl 0 rfl ?_
    refine g_X4_15_4 17 hX dX4_reaches_14 rfl ?_
    refine r_i2l 18 hX dX4_reaches_17 rfl ?_
    refine r_lcmp 19 hX dX4_reaches_18 rfl ?_
    refine r_if_ge 26 22 hX dX4_reaches_19 (by decide) rfl hw (fun hw => ?_) (fun hw => ?_)
    · refine r_iconst 27 hX dX4_reaches_26 rfl 0 ic_0 ?_
      exact r_zret hX hR narrow_b0 dX4_reaches_27 hw
    · refine r_iconst 23 hX dX4_reaches_22 rfl 1 ic_1 ?_
      refine r_goto 27 hX dX4_reaches_23 (by decide) ?_
      exact r_zret hX hR narrow_b1 dX4_reaches_27 hw
set_option maxRecDepth 20000 in
set_option maxHeartbeats 4000000 in
theorem c_X4_above (x1 : Int32) : Con yX4_above cX4_above 2 (some .int) (1) (fun ad => [.ref (ad 4), .int (x1)]) (fun Q σ => wp_X4_above x1 (aI Q) σ) := by
  refine con_intro (by decide +kernel) (fun _ => Nat.le_of_ble_eq_true rfl) (by omega) (fun X Q σ hX hR hw => ?_)
  have hX : CxB X RX4 cX4_above 2 (1) := hX
  unfold wp_X4_above at hw
  show At X 2 0 [(0, .ref (X.kad 4)), (1, .int (x1))] [] σ
  refine r_aload_n 1 hX dX4_above_0 rfl rfl 0 rfl ?_
  refine g_X4_15_4 4 hX dX4_above_1 rfl ?_
  refine r_iconst 5 hX dX4_above_4 rfl 1 ic_1 ?_
  refine r_isub 6 hX dX4_above_5 rfl ?_
  refine r_aload_n 7 hX dX4_above_6 rfl rfl 0 rfl ?_
  refine g_X4_22_4 10 hX dX4_above_7 rfl ?_
  refine r_iload_n 11 hX dX4_above_10 rfl rfl 1 rfl ?_
  refine r_iald 12 hX sh_6 dX4_above_11 rfl hw (fun hw => ?_)
  refine r_isub 13 hX dX4_above_12 rfl ?_
  exact r_iret hX hR dX4_above_13 hw
set_option maxRecDepth 20000 in
set_option maxHeartbeats 4000000 in
theorem c_X4_freeColumns (x1 : Int32) : Con yX4_freeColumns cX4_freeColumns 2 (some .int) (1) (fun ad => [.ref (ad 4), .int (x1)]) (fun Q σ => wp_X4_freeColumns x1 (aI Q) σ) := by
  refine con_intro (by decide +kernel) (fun _ => Nat.le_of_ble_eq_true rfl) (by omega) (fun X Q σ hX hR hw => ?_)
  have hX : CxB X RX4 cX4_freeColumns 2 (1) := hX
  unfold wp_X4_freeColumns at hw
  show At X 2 0 [(0, .ref (X.kad 4)), (1, .int (x1))] [] σ
  refine r_iconst 1 hX dX4_freeColumns_0 rfl 1 ic_1 ?_
  refine r_aload_n 2 hX dX4_freeColumns_1 rfl rfl 0 rfl ?_
  refine g_X4_9_4 5 hX dX4_freeColumns_2 rfl ?_
  refine r_ishl 6 hX dX4_freeColumns_5 rfl ?_
  refine r_iconst 7 hX dX4_freeColumns_6 rfl 1 ic_1 ?_
  refine r_isub 8 hX dX4_freeColumns_7 rfl ?_
  refine r_aload_n 9 hX dX4_freeColumns_8 rfl rfl 0 rfl ?_
  refine g_X4_18_4 12 hX dX4_freeColumns_9 rfl ?_
  refine r_iload_n 13 hX dX4_freeColumns_12 rfl rfl 1 rfl ?_
  refine r_iald 14 hX sh_5 dX4_freeColumns_13 rfl hw (fun hw => ?_)
  refine r_iconst 15 hX dX4_freeColumns_14 rfl (-1) ic_m1 ?_
  refine r_ixor 16 hX dX4_freeColumns_15 rfl ?_
  refine r_iand 17 hX dX4_freeColumns_16 rfl ?_
  exact r_iret hX hR dX4_freeColumns_17 hw
theorem k_X4_60_X4_freeColumns {X : Cx} {cc : ByteArray} {nL d pc : Nat} {lv : List (Nat × Value)} {rest : List Value} {σ : St} {K : Int32 → St → Prop} (q : Nat) (hX : CxB X RX4 cc nL d) (hdc : 1 + 1 ≤ d) (x1 : Int32) (hst : (rest.map fun v => v.category).sum ≤ 8) (hd : decode cc pc = .ok (.invokevirtual 60, 3)) (hq : pc + 3 = q) (hw : wp_X4_freeColumns x1 K σ) (kk : ∀ (r : Int32) (τ : St), K r τ → At X nL q lv (.int r :: rest) τ) : At X nL pc lv (.int (x1) :: .ref (X.kad 4) :: rest) σ := r_callV (n := 1) q hX (k0 := 4) (c_X4_freeColumns x1) tw_22 tw_23 tw_24 tw_8 tw_25 ⟨by decide +kernel, by decide +kernel, by decide +kernel⟩ hdc (by decide) (As := [.int (x1)]) rfl rfl (by decide) ⟨_, _, _, rfl, rfl, rfl⟩ hst hd hq rfl (K := qI K) hw (kI kk)
theorem k_X4_64_J6_bitCount_0f7a4 {X : Cx} {cc : ByteArray} {nL d pc : Nat} {lv : List (Nat × Value)} {rest : List Value} {σ : St} {K : Int32 → St → Prop} (q : Nat) (hX : CxB X RX4 cc nL d) (hdc : 1 + 1 ≤ d) (x0 : Int32) (hst : (rest.map fun v => v.category).sum ≤ 8) (hd : decode cc pc = .ok (.invokestatic 64, 3)) (hq : pc + 3 = q) (hw : wp_J6_bitCount_0f7a4 x0 K σ) (kk : ∀ (r : Int32) (τ : St), K r τ → At X nL q lv (.int r :: rest) τ) : At X nL pc lv (.int (x0) :: rest) σ := r_callS (n := 1) q hX (c_J6_bitCount_0f7a4 x0) tw_26 tw_27 tw_28 tw_29 ⟨by decide +kernel, by decide +kernel, by decide +kernel⟩ hdc (by decide) (As := [.int (x0)]) rfl rfl hst hd hq rfl (K := qI K) hw (kI kk)
set_option maxRecDepth 20000 in
set_option maxHeartbeats 4000000 in
theorem w_X4_barredBricks_b4 {X : Cx} {Q : RV → St → Prop} (hX : CxB X RX4 cX4_barredBricks 3 (2)) (hR : CxR X (some .int) Q) {K4 : Int32 → Int32 → St → Prop} (hK4 : ∀ (x1 : Int32) (x2 : Int32) (σ : St), K4 x1 x2 σ → At X 3 4 [(0, .ref (X.kad 4)), (1, .int (x1)), (2, .int (x2))] [] σ) (x1 : Int32) (x2 : Int32) (σ : St) (hw : wp_X4_barredBricks_b4 (aI Q) K4 x1 x2 σ) : At X 3 4 [(0, .ref (X.kad 4)), (1, .int (x1)), (2, .int (x2))] [] σ := by
  unfold wp_X4_barredBricks_b4 at hw
  refine r_iload_n 5 hX dX4_barredBricks_4 rfl rfl 2 rfl ?_
  refine r_aload_n 6 hX dX4_barredBricks_5 rfl rfl 0 rfl ?_
  refine g_X4_15_4 9 hX dX4_barredBricks_6 rfl ?_
  refine r_icmp_ge 34 12 hX dX4_barredBricks_9 (by decide) rfl hw (fun hw => ?_) (fun hw => ?_)
  · refine r_iload_n 35 hX dX4_barredBricks_34 rfl rfl 1 rfl ?_
    exact r_iret hX hR dX4_barredBricks_35 hw
  · refine r_iload_n 13 hX dX4_barredBricks_12 rfl rfl 1 rfl ?_
    refine r_aload_n 14 hX dX4_barredBricks_13 rfl rfl 0 rfl ?_
    refine g_X4_9_4 17 hX dX4_barredBricks_14 rfl ?_
    refine r_aload_n 18 hX dX4_barredBricks_17 rfl rfl 0 rfl ?_
    refine r_iload_n 19 hX dX4_barredBricks_18 rfl rfl 2 rfl ?_
    refine k_X4_60_X4_freeColumns 22 hX (by omega) (x2) (Nat.le_of_ble_eq_true rfl) dX4_barredBricks_19 rfl hw (fun r19 σ19 hw => ?_)
    refine k_X4_64_J6_bitCount_0f7a4 25 hX (by omega) (r19) (Nat.le_of_ble_eq_true rfl) dX4_barredBricks_22 rfl hw (fun r22 σ22 hw => ?_)
    refine r_isub 26 hX dX4_barredBricks_25 rfl ?_
    refine r_iadd 27 hX dX4_barredBricks_26 rfl ?_
    refine r_istore_n (lv' := [(1, .int (x1 + ((σ.1 4 0) - r22))), (0, .ref (X.kad 4)), (2, .int (x2))]) 28 hX dX4_barredBricks_27 rfl rfl (by decide) rfl ?_
    refine r_iinc (lv' := [(2, .int (x2 + 1)), (1, .int (x1 + ((σ.1 4 0) - r22))), (0, .ref (X.kad 4))]) 31 hX dX4_barredBricks_28 rfl 2 rfl (x2 + 1) (ici_1 _) (by decide) rfl ?_
    refine r_goto 4 hX dX4_barredBricks_31 (by decide) ?_
    refine r_sub [2, 1, 0] rfl ?_
    exact hK4 _ _ _ hw
set_option maxRecDepth 20000 in
set_option maxHeartbeats 4000000 in
theorem w_X4_barredBricks_l4 {X : Cx} {Q : RV → St → Prop} (hX : CxB X RX4 cX4_barredBricks 3 (2)) (hR : CxR X (some .int) Q) (n : Nat) : ∀ (x1 : Int32) (x2 : Int32) (σ : St), wp_X4_barredBricks_l4 (aI Q)  n x1 x2 σ → At X 3 4 [(0, .ref (X.kad 4)), (1, .int (x1)), (2, .int (x2))] [] σ := by
  induction n with
  | zero => intro x1 x2 σ h; exact h.elim
  | succ n ih => intro x1 x2 σ h; exact w_X4_barredBricks_b4  hX hR ih x1 x2 σ h
set_option maxRecDepth 20000 in
set_option maxHeartbeats 4000000 in
theorem c_X4_barredBricks : Con yX4_barredBricks cX4_barredBricks 3 (some .int) (2) (fun ad => [.ref (ad 4)]) (fun Q σ => wp_X4_barredBricks  (aI Q) σ) := by
  refine con_intro (by decide +kernel) (fun _ => Nat.le_of_ble_eq_true rfl) (by omega) (fun X Q σ hX hR hw => ?_)
  have hX : CxB X RX4 cX4_barredBricks 3 (2) := hX
  unfold wp_X4_barredBricks at hw
  show At X 3 0 [(0, .ref (X.kad 4))] [] σ
  refine r_iconst 1 hX dX4_barredBricks_0 rfl 0 ic_0 ?_
  refine r_istore_n (lv' := [(1, .int (0)), (0, .ref (X.kad 4))]) 2 hX dX4_barredBricks_1 rfl rfl (by decide) rfl ?_
  refine r_iconst 3 hX dX4_barredBricks_2 rfl 0 ic_0 ?_
  refine r_istore_n (lv' := [(2, .int (0)), (1, .int (0)), (0, .ref (X.kad 4))]) 4 hX dX4_barredBricks_3 rfl rfl (by decide) rfl ?_
  refine r_sub [2, 1, 0] rfl ?_
  obtain ⟨n, hw⟩ := hw
  exact w_X4_barredBricks_l4 hX hR n _ _ _ hw
theorem k_X4_37_fillI {X : Cx} {cc : ByteArray} {nL d pc : Nat} {lv : List (Nat × Value)} {rest : List Value} {σ : St} {K : St → Prop} (q : Nat) (hX : CxB X RX4 cc nL d) (hdc : 1 + 1 ≤ d) {a n : Nat} (hs : wS a = (9, n)) (v : Int32) (hst : (rest.map fun v => v.category).sum ≤ 8) (hd : decode cc pc = .ok (.invokestatic 37, 3)) (hq : pc + 3 = q) (hw : wp_fillI a n v K σ) (kk : ∀ τ : St, K τ → At X nL q lv rest τ) : At X nL pc lv (.int v :: .ref (X.kad a) :: rest) σ := r_callS (n := 2) q hX (c_fillI a n hs v) tw_30 tw_31 tw_32 tw_33 ⟨by decide +kernel, by decide +kernel, by decide +kernel⟩ hdc (by decide) (As := [.ref (X.kad a), .int v]) rfl rfl hst hd hq rfl (K := qV K) hw (kV kk)
set_option maxRecDepth 20000 in
set_option maxHeartbeats 4000000 in
theorem c_X4_reset : Con yX4_reset cX4_reset 1 (none) (2) (fun ad => [.ref (ad 9)]) (fun Q σ => wp_X4_reset  (aV Q) σ) := by
  refine con_intro (by decide +kernel) (fun _ => Nat.le_of_ble_eq_true rfl) (by omega) (fun X Q σ hX hR hw => ?_)
  have hX : CxB X RX4 cX4_reset 1 (2) := hX
  unfold wp_X4_reset at hw
  show At X 1 0 [(0, .ref (X.kad 9))] [] σ
  refine r_aload_n 1 hX dX4_reset_0 rfl rfl 0 rfl ?_
  refine r_bipush 3 hX dX4_reset_1 rfl 10 bi_10 ?_
  refine p_X4_9_9 6 hX dX4_reset_3 rfl ?_
  refine r_aload_n 7 hX dX4_reset_6 rfl rfl 0 rfl ?_
  refine r_bipush 9 hX dX4_reset_7 rfl 10 bi_10 ?_
  refine p_X4_15_9 12 hX dX4_reset_9 rfl ?_
  refine r_aload_n 13 hX dX4_reset_12 rfl rfl 0 rfl ?_
  refine r_iconst 14 hX dX4_reset_13 rfl 0 ic_0 ?_
  refine p_X4_31_9 17 hX dX4_reset_14 rfl ?_
  refine r_aload_n 18 hX dX4_reset_17 rfl rfl 0 rfl ?_
  refine r_iconst 19 hX dX4_reset_18 rfl 0 ic_0 ?_
  refine p_X4_34_9 22 hX dX4_reset_19 rfl ?_
  refine r_aload_n 23 hX dX4_reset_22 rfl rfl 0 rfl ?_
  refine g_X4_18_9 26 hX dX4_reset_23 rfl ?_
  refine r_iconst 27 hX dX4_reset_26 rfl 0 ic_0 ?_
  refine k_X4_37_fillI 30 hX (by omega) sh_10 (0) (Nat.le_of_ble_eq_true rfl) dX4_reset_27 rfl hw (fun σ27 hw => ?_)
  exact r_vret hX hR dX4_reset_30 hw
set_option maxRecDepth 20000 in
set_option maxHeartbeats 4000000 in
theorem c_X4_copyFrom : Con yX4_copyFrom cX4_copyFrom 2 (none) (1) (fun ad => [.ref (ad 4), .ref (ad 9)]) (fun Q σ => wp_X4_copyFrom  (aV Q) σ) := by
  refine con_intro (by decide +kernel) (fun _ => Nat.le_of_ble_eq_true rfl) (by omega) (fun X Q σ hX hR hw => ?_)
  have hX : CxB X RX4 cX4_copyFrom 2 (1) := hX
  unfold wp_X4_copyFrom at hw
  show At X 2 0 [(0, .ref (X.kad 4)), (1, .ref (X.kad 9))] [] σ
  refine r_aload_n 1 hX dX4_copyFrom_0 rfl rfl 0 rfl ?_
  refine r_aload_n 2 hX dX4_copyFrom_1 rfl rfl 1 rfl ?_
  refine g_X4_9_9 5 hX dX4_copyFrom_2 rfl ?_
  refine p_X4_9_4 8 hX dX4_copyFrom_5 rfl ?_
  refine r_aload_n 9 hX dX4_copyFrom_8 rfl rfl 0 rfl ?_
  refine r_aload_n 10 hX dX4_copyFrom_9 rfl rfl 1 rfl ?_
  refine g_X4_15_9 13 hX dX4_copyFrom_10 rfl ?_
  refine p_X4_15_4 16 hX dX4_copyFrom_13 rfl ?_
  refine r_aload_n 17 hX dX4_copyFrom_16 rfl rfl 0 rfl ?_
  refine r_aload_n 18 hX dX4_copyFrom_17 rfl rfl 1 rfl ?_
  refine g_X4_31_9 21 hX dX4_copyFrom_18 rfl ?_
  refine p_X4_31_4 24 hX dX4_copyFrom_21 rfl ?_
  refine r_aload_n 25 hX dX4_copyFrom_24 rfl rfl 0 rfl ?_
  refine r_aload_n 26 hX dX4_copyFrom_25 rfl rfl 1 rfl ?_
  refine g_X4_34_9 29 hX dX4_copyFrom_26 rfl ?_
  refine p_X4_34_4 32 hX dX4_copyFrom_29 rfl ?_
  refine r_aload_n 33 hX dX4_copyFrom_32 rfl rfl 1 rfl ?_
  refine g_X4_18_9 36 hX dX4_copyFrom_33 rfl ?_
  refine r_iconst 37 hX dX4_copyFrom_36 rfl 0 ic_0 ?_
  refine r_aload_n 38 hX dX4_copyFrom_37 rfl rfl 0 rfl ?_
  refine g_X4_18_4 41 hX dX4_copyFrom_38 rfl ?_
  refine r_iconst 42 hX dX4_copyFrom_41 rfl 0 ic_0 ?_
  refine r_bipush 44 hX dX4_copyFrom_42 rfl 16 bi_16 ?_
  refine r_copyi 47 hX sh_10 sh_5 tw_34 tw_35 tw_36 tw_37 rfl nfw dX4_copyFrom_44 rfl hw (fun hw => ?_)
  refine r_aload_n 48 hX dX4_copyFrom_47 rfl rfl 1 rfl ?_
  refine g_X4_22_9 51 hX dX4_copyFrom_48 rfl ?_
  refine r_iconst 52 hX dX4_copyFrom_51 rfl 0 ic_0 ?_
  refine r_aload_n 53 hX dX4_copyFrom_52 rfl rfl 0 rfl ?_
  refine g_X4_22_4 56 hX dX4_copyFrom_53 rfl ?_
  refine r_iconst 57 hX dX4_copyFrom_56 rfl 0 ic_0 ?_
  refine r_iconst 58 hX dX4_copyFrom_57 rfl 3 ic_3 ?_
  refine r_copyi 61 hX sh_11 sh_6 tw_34 tw_35 tw_36 tw_37 rfl nfw dX4_copyFrom_58 rfl hw (fun hw => ?_)
  refine r_aload_n 62 hX dX4_copyFrom_61 rfl rfl 1 rfl ?_
  refine g_X4_25_9 65 hX dX4_copyFrom_62 rfl ?_
  refine r_iconst 66 hX dX4_copyFrom_65 rfl 0 ic_0 ?_
  refine r_aload_n 67 hX dX4_copyFrom_66 rfl rfl 0 rfl ?_
  refine g_X4_25_4 70 hX dX4_copyFrom_67 rfl ?_
  refine r_iconst 71 hX dX4_copyFrom_70 rfl 0 ic_0 ?_
  refine r_iconst 72 hX dX4_copyFrom_71 rfl 3 ic_3 ?_
  refine r_copyi 75 hX sh_12 sh_7 tw_34 tw_35 tw_36 tw_37 rfl nfw dX4_copyFrom_72 rfl hw (fun hw => ?_)
  refine r_aload_n 76 hX dX4_copyFrom_75 rfl rfl 1 rfl ?_
  refine g_X4_28_9 79 hX dX4_copyFrom_76 rfl ?_
  refine r_iconst 80 hX dX4_copyFrom_79 rfl 0 ic_0 ?_
  refine r_aload_n 81 hX dX4_copyFrom_80 rfl rfl 0 rfl ?_
  refine g_X4_28_4 84 hX dX4_copyFrom_81 rfl ?_
  refine r_iconst 85 hX dX4_copyFrom_84 rfl 0 ic_0 ?_
  refine r_iconst 86 hX dX4_copyFrom_85 rfl 3 ic_3 ?_
  refine r_copyi 89 hX sh_13 sh_8 tw_34 tw_35 tw_36 tw_37 rfl nfw dX4_copyFrom_86 rfl hw (fun hw => ?_)
  exact r_vret hX hR dX4_copyFrom_89 hw
set_option maxRecDepth 20000 in
set_option maxHeartbeats 4000000 in
theorem w_X2_leans_b12 {X : Cx} {Q : RV → St → Prop} (hX : CxB X RX2 cX2_leans 5 (1)) (hR : CxR X (some .int) Q) {K12 : Int32 → Int32 → Int32 → St → Prop} (hK12 : ∀ (x2 : Int32) (x3 : Int32) (x4 : Int32) (σ : St), K12 x2 x3 x4 σ → At X 5 12 [(0, .ref (X.kad 20)), (1, .ref (X.kad 4)), (2, .int (x2)), (3, .int (x3)), (4, .int (x4))] [] σ) (x2 : Int32) (x3 : Int32) (x4 : Int32) (σ : St) (hw : wp_X2_leans_b12 (aI Q) K12 x2 x3 x4 σ) : At X 5 12 [(0, .ref (X.kad 20)), (1, .ref (X.kad 4)), (2, .int (x2)), (3, .int (x3)), (4, .int (x4))] [] σ := by
  unfold wp_X2_leans_b12 at hw
  refine r_iload 14 hX dX2_leans_12 rfl 4 rfl ?_
  refine r_aload_n 15 hX dX2_leans_14 rfl rfl 1 rfl ?_
  refine g_X2_50_4 18 hX dX2_leans_15 rfl ?_
  refine r_icmp_ge 53 21 hX dX2_leans_18 (by decide) rfl hw (fun hw => ?_) (fun hw => ?_)
  · refine r_iload_n 54 hX dX2_leans_53 rfl rfl 3 rfl ?_
    exact r_iret hX hR dX2_leans_54 hw
  · refine r_aload_n 22 hX dX2_leans_21 rfl rfl 0 rfl ?_
    refine g_X2_11_20 25 hX dX2_leans_22 rfl ?_
    refine r_iload_n 26 hX dX2_leans_25 rfl rfl 2 rfl ?_
    refine r_aald 27 hX sh_21 dX2_leans_26 rfl hw (fun hv26 hw => ?_)
    refine r_iload 29 hX dX2_leans_27 rfl 4 rfl ?_
    refine r_iald 30 hX (shr_21 hv26) dX2_leans_29 rfl hw (fun hw => ?_)
    refine r_aload_n 31 hX dX2_leans_30 rfl rfl 0 rfl ?_
    refine g_X2_11_20 34 hX dX2_leans_31 rfl ?_
    refine r_iload_n 35 hX dX2_leans_34 rfl rfl 2 rfl ?_
    refine r_aald 36 hX sh_21 dX2_leans_35 rfl hw (fun hv35 hw => ?_)
    refine r_iload 38 hX dX2_leans_36 rfl 4 rfl ?_
    refine r_iconst 39 hX dX2_leans_38 rfl 1 ic_1 ?_
    refine r_isub 40 hX dX2_leans_39 rfl ?_
    refine r_iald 41 hX (shr_21 hv35) dX2_leans_40 rfl hw (fun hw => ?_)
    refine r_icmp_eq 47 44 hX dX2_leans_41 (by decide) rfl hw (fun hw => ?_) (fun hw => ?_)
    · refine r_iinc (lv' := [(4, .int (x4 + 1)), (0, .ref (X.kad 20)), (1, .ref (X.kad 4)), (2, .int (x2)), (3, .int (x3))]) 50 hX dX2_leans_47 rfl 4 rfl (x4 + 1) (ici_1 _) (by decide) rfl ?_
      refine r_goto 12 hX dX2_leans_50 (by decide) ?_
      refine r_sub [1, 2, 3, 4, 0] rfl ?_
      exact hK12 _ _ _ _ hw
    · refine r_iinc (lv' := [(3, .int (x3 + 1)), (0, .ref (X.kad 20)), (1, .ref (X.kad 4)), (2, .int (x2)), (4, .int (x4))]) 47 hX dX2_leans_44 rfl 3 rfl (x3 + 1) (ici_1 _) (by decide) rfl ?_
      refine r_iinc (lv' := [(4, .int (x4 + 1)), (3, .int (x3 + 1)), (0, .ref (X.kad 20)), (1, .ref (X.kad 4)), (2, .int (x2))]) 50 hX dX2_leans_47 rfl 4 rfl (x4 + 1) (ici_1 _) (by decide) rfl ?_
      refine r_goto 12 hX dX2_leans_50 (by decide) ?_
      refine r_sub [2, 3, 4, 1, 0] rfl ?_
      exact hK12 _ _ _ _ hw
set_option maxRecDepth 20000 in
set_option maxHeartbeats 4000000 in
theorem w_X2_leans_l12 {X : Cx} {Q : RV → St → Prop} (hX : CxB X RX2 cX2_leans 5 (1)) (hR : CxR X (some .int) Q) (n : Nat) : ∀ (x2 : Int32) (x3 : Int32) (x4 : Int32) (σ : St), wp_X2_leans_l12 (aI Q)  n x2 x3 x4 σ → At X 5 12 [(0, .ref (X.kad 20)), (1, .ref (X.kad 4)), (2, .int (x2)), (3, .int (x3)), (4, .int (x4))] [] σ := by
  induction n with
  | zero => intro x2 x3 x4 σ h; exact h.elim
  | succ n ih => intro x2 x3 x4 σ h; exact w_X2_leans_b12  hX hR ih x2 x3 x4 σ h
set_option maxRecDepth 20000 in
set_option maxHeartbeats 4000000 in
theorem c_X2_leans (x2 : Int32) : Con yX2_leans cX2_leans 5 (some .int) (1) (fun ad => [.ref (ad 20), .ref (ad 4), .int (x2)]) (fun Q σ => wp_X2_leans x2 (aI Q) σ) := by
  refine con_intro (by decide +kernel) (fun _ => Nat.le_of_ble_eq_true rfl) (by omega) (fun X Q σ hX hR hw => ?_)
  have hX : CxB X RX2 cX2_leans 5 (1) := hX
  unfold wp_X2_leans at hw
  show At X 5 0 [(0, .ref (X.kad 20)), (1, .ref (X.kad 4)), (2, .int (x2))] [] σ
  refine r_iconst 1 hX dX2_leans_0 rfl 0 ic_0 ?_
  refine r_istore_n (lv' := [(3, .int (0)), (0, .ref (X.kad 20)), (1, .ref (X.kad 4)), (2, .int (x2))]) 2 hX dX2_leans_1 rfl rfl (by decide) rfl ?_
  refine r_aload_n 3 hX dX2_leans_2 rfl rfl 2 rfl ?_
  refine g_X2_47_4 6 hX dX2_leans_3 rfl ?_
  refine r_iload_n 7 hX dX2_leans_6 rfl rfl 3 rfl ?_
  refine r_iald 8 hX sh_6 dX2_leans_7 rfl hw (fun hw => ?_)
  refine r_iconst 9 hX dX2_leans_8 rfl 1 ic_1 ?_
  refine r_iadd 10 hX dX2_leans_9 rfl ?_
  refine r_istore (lv' := [(4, .int ((σ.1 6 x2.toNatClampNeg) + 1)), (3, .int (0)), (0, .ref (X.kad 20)), (1, .ref (X.kad 4)), (2, .int (x2))]) 12 hX dX2_leans_10 rfl (by decide) rfl ?_
  refine r_sub [2, 3, 4, 1, 0] rfl ?_
  obtain ⟨n, hw⟩ := hw
  exact w_X2_leans_l12 hX hR n _ _ _ _ hw
set_option maxRecDepth 20000 in
set_option maxHeartbeats 4000000 in
theorem w_X2_bends_b12 {X : Cx} {Q : RV → St → Prop} (hX : CxB X RX2 cX2_bends 6 (1)) (hR : CxR X (some .int) Q) {K12 : Int32 → Int32 → Int32 → St → Prop} (hK12 : ∀ (x2 : Int32) (x3 : Int32) (x4 : Int32) (σ : St), K12 x2 x3 x4 σ → At X 6 12 [(0, .ref (X.kad 20)), (1, .ref (X.kad 4)), (2, .int (x2)), (3, .int (x3)), (4, .int (x4))] [] σ) (x2 : Int32) (x3 : Int32) (x4 : Int32) (σ : St) (hw : wp_X2_bends_b12 (aI Q) K12 x2 x3 x4 σ) : At X 6 12 [(0, .ref (X.kad 20)), (1, .ref (X.kad 4)), (2, .int (x2)), (3, .int (x3)), (4, .int (x4))] [] σ := by
  unfold wp_X2_bends_b12 at hw
  refine r_iload 14 hX dX2_bends_12 rfl 4 rfl ?_
  refine r_aload_n 15 hX dX2_bends_14 rfl rfl 1 rfl ?_
  refine g_X2_50_4 18 hX dX2_bends_15 rfl ?_
  refine r_icmp_ge 81 21 hX dX2_bends_18 (by decide) rfl hw (fun hw => ?_) (fun hw => ?_)
  · refine r_iload_n 82 hX dX2_bends_81 rfl rfl 3 rfl ?_
    exact r_iret hX hR dX2_bends_82 hw
  · refine r_aload_n 22 hX dX2_bends_21 rfl rfl 0 rfl ?_
    refine g_X2_11_20 25 hX dX2_bends_22 rfl ?_
    refine r_iload_n 26 hX dX2_bends_25 rfl rfl 2 rfl ?_
    refine r_aald 27 hX sh_21 dX2_bends_26 rfl hw (fun hv26 hw => ?_)
    refine r_iload 29 hX dX2_bends_27 rfl 4 rfl ?_
    refine r_iconst 30 hX dX2_bends_29 rfl 1 ic_1 ?_
    refine r_isub 31 hX dX2_bends_30 rfl ?_
    refine r_iald 32 hX (shr_21 hv26) dX2_bends_31 rfl hw (fun hw => ?_)
    refine r_aload_n 33 hX dX2_bends_32 rfl rfl 0 rfl ?_
    refine g_X2_11_20 36 hX dX2_bends_33 rfl ?_
    refine r_iload_n 37 hX dX2_bends_36 rfl rfl 2 rfl ?_
    refine r_aald 38 hX sh_21 dX2_bends_37 rfl hw (fun hv37 hw => ?_)
    refine r_iload 40 hX dX2_bends_38 rfl 4 rfl ?_
    refine r_iconst 41 hX dX2_bends_40 rfl 2 ic_2 ?_
    refine r_isub 42 hX dX2_bends_41 rfl ?_
    refine r_iald 43 hX (shr_21 hv37) dX2_bends_42 rfl hw (fun hw => ?_)
    refine r_isub 44 hX dX2_bends_43 rfl ?_
    refine r_topi hw (fun v44 hw => ?_)
    refine r_istore (lv' := [(5, .int (v44)), (0, .ref (X.kad 20)), (1, .ref (X.kad 4)), (2, .int (x2)), (3, .int (x3)), (4, .int (x4))]) 46 hX dX2_bends_44 rfl (by decide) rfl ?_
    refine r_aload_n 47 hX dX2_bends_46 rfl rfl 1 rfl ?_
    refine g_X2_11_20 50 hX dX2_bends_47 rfl ?_
    refine r_iload_n 51 hX dX2_bends_50 rfl rfl 3 rfl ?_
    refine r_aald 52 hX sh_21 dX2_bends_51 rfl hw (fun hv51 hw => ?_)
    refine r_iload 54 hX dX2_bends_52 rfl 5 rfl ?_
    refine r_iald 55 hX (shr_21 hv51) dX2_bends_54 rfl hw (fun hw => ?_)
    refine r_aload_n 56 hX dX2_bends_55 rfl rfl 1 rfl ?_
    refine g_X2_11_20 59 hX dX2_bends_56 rfl ?_
    refine r_iload_n 60 hX dX2_bends_59 rfl rfl 3 rfl ?_
    refine r_aald 61 hX sh_21 dX2_bends_60 rfl hw (fun hv60 hw => ?_)
    refine r_iload 63 hX dX2_bends_61 rfl 5 rfl ?_
    refine r_iconst 64 hX dX2_bends_63 rfl 1 ic_1 ?_
    refine r_isub 65 hX dX2_bends_64 rfl ?_
    refine r_iald 66 hX (shr_21 hv60) dX2_bends_65 rfl hw (fun hw => ?_)
    refine r_isub 67 hX dX2_bends_66 rfl ?_
    refine r_iload 69 hX dX2_bends_67 rfl 0 rfl ?_
    refine r_icmp_eq 75 72 hX dX2_bends_69 (by decide) rfl hw (fun hw => ?_) (fun hw => ?_)
    · refine r_iinc (lv' := [(4, .int (x4 + 1)), (5, .int (v44)), (0, .ref (X.kad 20)), (1, .ref (X.kad 4)), (2, .int (x2)), (3, .int (x3))]) 78 hX dX2_bends_75 rfl 5 rfl (x4 + 1) (ici_1 _) (by decide) rfl ?_
      refine r_goto 12 hX dX2_bends_78 (by decide) ?_
      refine r_sub [2, 3, 4, 5, 0] rfl ?_
      exact hK12 _ _ _ _ hw
    · refine r_iinc (lv' := [(3, .int (x3 + 1)), (5, .int (v44)), (0, .ref (X.kad 20)), (1, .ref (X.kad 4)), (2, .int (x2)), (4, .int (x4))]) 75 hX dX2_bends_72 rfl 4 rfl (x3 + 1) (ici_1 _) (by decide) rfl ?_
      refine r_iinc (lv' := [(4, .int (x4 + 1)), (3, .int (x3 + 1)), (5, .int (v44)), (0, .ref (X.kad 20)), (1, .ref (X.kad 4)), (2, .int (x2))]) 78 hX dX2_bends_75 rfl 5 rfl (x4 + 1) (ici_1 _) (by decide) rfl ?_
      refine r_goto 12 hX dX2_bends_78 (by decide) ?_
      refine r_sub [3, 4, 5, 1, 0] rfl ?_
      exact hK12 _ _ _ _ hw
set_option maxRecDepth 20000 in
set_option maxHeartbeats 4000000 in
theorem w_X2_bends_l12 {X : Cx} {Q : RV → St → Prop} (hX : CxB X RX2 cX2_bends 6 (1)) (hR : CxR X (some .int) Q) (n : Nat) : ∀ (x2 : Int32) (x3 : Int32) (x4 : Int32) (σ : St), wp_X2_bends_l12 (aI Q)  n x2 x3 x4 σ → At X 6 12 [(0, .ref (X.kad 20)), (1, .ref (X.kad 4)), (2, .int (x2)), (3, .int (x3)), (4, .int (x4))] [] σ := by
  induction n with
  | zero => intro x2 x3 x4 σ h; exact h.elim
  | succ n ih => intro x2 x3 x4 σ h; exact w_X2_bends_b12  hX hR ih x2 x3 x4 σ h
set_option maxRecDepth 20000 in
set_option maxHeartbeats 4000000 in
theorem c_X2_bends (x2 : Int32) : Con yX2_bends cX2_bends 6 (some .int) (1) (fun ad => [.ref (ad 20), .ref (ad 4), .int (x2)]) (fun Q σ => wp_X2_bends x2 (aI Q) σ) := by
  refine con_intro (by decide +kernel) (fun _ => Nat.le_of_ble_eq_true rfl) (by omega) (fun X Q σ hX hR hw => ?_)
  have hX : CxB X RX2 cX2_bends 6 (1) := hX
  unfold wp_X2_bends at hw
  show At X 6 0 [(0, .ref (X.kad 20)), (1, .ref (X.kad 4)), (2, .int (x2))] [] σ
  refine r_iconst 1 hX dX2_bends_0 rfl 0 ic_0 ?_
  refine r_istore_n (lv' := [(3, .int (0)), (0, .ref (X.kad 20)), (1, .ref (X.kad 4)), (2, .int (x2))]) 2 hX dX2_bends_1 rfl rfl (by decide) rfl ?_
  refine r_aload_n 3 hX dX2_bends_2 rfl rfl 2 rfl ?_
  refine g_X2_47_4 6 hX dX2_bends_3 rfl ?_
  refine r_iload_n 7 hX dX2_bends_6 rfl rfl 3 rfl ?_
  refine r_iald 8 hX sh_6 dX2_bends_7 rfl hw (fun hw => ?_)
  refine r_iconst 9 hX dX2_bends_8 rfl 2 ic_2 ?_
  refine r_iadd 10 hX dX2_bends_9 rfl ?_
  refine r_istore (lv' := [(4, .int ((σ.1 6 x2.toNatClampNeg) + 2)), (3, .int (0)), (0, .ref (X.kad 20)), (1, .ref (X.kad 4)), (2, .int (x2))]) 12 hX dX2_bends_10 rfl (by decide) rfl ?_
  refine r_sub [2, 3, 4, 1, 0] rfl ?_
  obtain ⟨n, hw⟩ := hw
  exact w_X2_bends_l12 hX hR n _ _ _ _ hw
theorem k_X2_53_X4_isCold {X : Cx} {cc : ByteArray} {nL d pc : Nat} {lv : List (Nat × Value)} {rest : List Value} {σ : St} {K : Int32 → St → Prop} (q : Nat) (hX : CxB X RX2 cc nL d) (hdc : 2 + 1 ≤ d) (x1 : Int32) (hst : (rest.map fun v => v.category).sum ≤ 8) (hd : decode cc pc = .ok (.invokevirtual 53, 3)) (hq : pc + 3 = q) (hw : wp_X4_isCold x1 K σ) (kk : ∀ (r : Int32) (τ : St), K r τ → At X nL q lv (.int r :: rest) τ) : At X nL pc lv (.int (x1) :: .ref (X.kad 4) :: rest) σ := r_callV (n := 1) q hX (k0 := 4) (c_X4_isCold x1) tw_43 tw_44 tw_45 tw_8 tw_46 ⟨by decide +kernel, by decide +kernel, by decide +kernel⟩ hdc (by decide) (As := [.int (x1)]) rfl rfl (by decide) ⟨_, _, _, rfl, rfl, rfl⟩ hst hd hq rfl (K := qI K) hw (kI kk)
set_option maxRecDepth 20000 in
set_option maxHeartbeats 4000000 in
theorem w_X2_coldCourses_b10 {X : Cx} {Q : RV → St → Prop} (hX : CxB X RX2 cX2_coldCourses 5 (3)) (hR : CxR X (some .int) Q) {K10 : Int32 → Int32 → Int32 → St → Prop} (hK10 : ∀ (x2 : Int32) (x3 : Int32) (x4 : Int32) (σ : St), K10 x2 x3 x4 σ → At X 5 10 [(0, .ref (X.kad 20)), (1, .ref (X.kad 4)), (2, .int (x2)), (3, .int (x3)), (4, .int (x4))] [] σ) (x2 : Int32) (x3 : Int32) (x4 : Int32) (σ : St) (hw : wp_X2_coldCourses_b10 (aI Q) K10 x2 x3 x4 σ) : At X 5 10 [(0, .ref (X.kad 20)), (1, .ref (X.kad 4)), (2, .int (x2)), (3, .int (x3)), (4, .int (x4))] [] σ := by
  unfold wp_X2_coldCourses_b10 at hw
  refine r_iload 12 hX dX2_coldCourses_10 rfl 4 rfl ?_
  refine r_aload_n 13 hX dX2_coldCourses_12 rfl rfl 1 rfl ?_
  refine g_X2_50_4 16 hX dX2_coldCourses_13 rfl ?_
  refine r_icmp_ge 44 19 hX dX2_coldCourses_16 (by decide) rfl hw (fun hw => ?_) (fun hw => ?_)
  · refine r_iload_n 45 hX dX2_coldCourses_44 rfl rfl 3 rfl ?_
    exact r_iret hX hR dX2_coldCourses_45 hw
  · refine r_aload_n 20 hX dX2_coldCourses_19 rfl rfl 1 rfl ?_
    refine r_aload_n 21 hX dX2_coldCourses_20 rfl rfl 0 rfl ?_
    refine g_X2_11_20 24 hX dX2_coldCourses_21 rfl ?_
    refine r_iload_n 25 hX dX2_coldCourses_24 rfl rfl 2 rfl ?_
    refine r_aald 26 hX sh_21 dX2_coldCourses_25 rfl hw (fun hv25 hw => ?_)
    refine r_iload 28 hX dX2_coldCourses_26 rfl 4 rfl ?_
    refine r_iald 29 hX (shr_21 hv25) dX2_coldCourses_28 rfl hw (fun hw => ?_)
    refine k_X2_53_X4_isCold 32 hX (by omega) (σ.1 (21 + 1 + (x2).toNatClampNeg) x4.toNatClampNeg) (Nat.le_of_ble_eq_true rfl) dX2_coldCourses_29 rfl hw (fun r29 σ29 hw => ?_)
    refine r_if_eq 38 35 hX dX2_coldCourses_32 (by decide) rfl hw (fun hw => ?_) (fun hw => ?_)
    · refine r_iinc (lv' := [(4, .int (x4 + 1)), (0, .ref (X.kad 20)), (1, .ref (X.kad 4)), (2, .int (x2)), (3, .int (x3))]) 41 hX dX2_coldCourses_38 rfl 4 rfl (x4 + 1) (ici_1 _) (by decide) rfl ?_
      refine r_goto 10 hX dX2_coldCourses_41 (by decide) ?_
      refine r_sub [1, 2, 3, 4, 0] rfl ?_
      exact hK10 _ _ _ _ hw
    · refine r_iinc (lv' := [(3, .int (x3 + 1)), (0, .ref (X.kad 20)), (1, .ref (X.kad 4)), (2, .int (x2)), (4, .int (x4))]) 38 hX dX2_coldCourses_35 rfl 3 rfl (x3 + 1) (ici_1 _) (by decide) rfl ?_
      refine r_iinc (lv' := [(4, .int (x4 + 1)), (3, .int (x3 + 1)), (0, .ref (X.kad 20)), (1, .ref (X.kad 4)), (2, .int (x2))]) 41 hX dX2_coldCourses_38 rfl 4 rfl (x4 + 1) (ici_1 _) (by decide) rfl ?_
      refine r_goto 10 hX dX2_coldCourses_41 (by decide) ?_
      refine r_sub [2, 3, 4, 1, 0] rfl ?_
      exact hK10 _ _ _ _ hw
set_option maxRecDepth 20000 in
set_option maxHeartbeats 4000000 in
theorem w_X2_coldCourses_l10 {X : Cx} {Q : RV → St → Prop} (hX : CxB X RX2 cX2_coldCourses 5 (3)) (hR : CxR X (some .int) Q) (n : Nat) : ∀ (x2 : Int32) (x3 : Int32) (x4 : Int32) (σ : St), wp_X2_coldCourses_l10 (aI Q)  n x2 x3 x4 σ → At X 5 10 [(0, .ref (X.kad 20)), (1, .ref (X.kad 4)), (2, .int (x2)), (3, .int (x3)), (4, .int (x4))] [] σ := by
  induction n with
  | zero => intro x2 x3 x4 σ h; exact h.elim
  | succ n ih => intro x2 x3 x4 σ h; exact w_X2_coldCourses_b10  hX hR ih x2 x3 x4 σ h
set_option maxRecDepth 20000 in
set_option maxHeartbeats 4000000 in
theorem c_X2_coldCourses (x2 : Int32) : Con yX2_coldCourses cX2_coldCourses 5 (some .int) (3) (fun ad => [.ref (ad 20), .ref (ad 4), .int (x2)]) (fun Q σ => wp_X2_coldCourses x2 (aI Q) σ) := by
  refine con_intro (by decide +kernel) (fun _ => Nat.le_of_ble_eq_true rfl) (by omega) (fun X Q σ hX hR hw => ?_)
  have hX : CxB X RX2 cX2_coldCourses 5 (3) := hX
  unfold wp_X2_coldCourses at hw
  show At X 5 0 [(0, .ref (X.kad 20)), (1, .ref (X.kad 4)), (2, .int (x2))] [] σ
  refine r_iconst 1 hX dX2_coldCourses_0 rfl 0 ic_0 ?_
  refine r_istore_n (lv' := [(3, .int (0)), (0, .ref (X.kad 20)), (1, .ref (X.kad 4)), (2, .int (x2))]) 2 hX dX2_coldCourses_1 rfl rfl (by decide) rfl ?_
  refine r_aload_n 3 hX dX2_coldCourses_2 rfl rfl 2 rfl ?_
  refine g_X2_47_4 6 hX dX2_coldCourses_3 rfl ?_
  refine r_iload_n 7 hX dX2_coldCourses_6 rfl rfl 3 rfl ?_
  refine r_iald 8 hX sh_6 dX2_coldCourses_7 rfl hw (fun hw => ?_)
  refine r_istore (lv' := [(4, .int (σ.1 6 x2.toNatClampNeg)), (3, .int (0)), (0, .ref (X.kad 20)), (1, .ref (X.kad 4)), (2, .int (x2))]) 10 hX dX2_coldCourses_8 rfl (by decide) rfl ?_
  refine r_sub [2, 3, 4, 1, 0] rfl ?_
  obtain ⟨n, hw⟩ := hw
  exact w_X2_coldCourses_l10 hX hR n _ _ _ _ hw
theorem k_X2_33_X4_hasHearth {X : Cx} {cc : ByteArray} {nL d pc : Nat} {lv : List (Nat × Value)} {rest : List Value} {σ : St} {K : Int32 → St → Prop} (q : Nat) (hX : CxB X RX2 cc nL d) (hdc : 1 + 1 ≤ d) (x1 : Int32) (hst : (rest.map fun v => v.category).sum ≤ 8) (hd : decode cc pc = .ok (.invokevirtual 33, 3)) (hq : pc + 3 = q) (hw : wp_X4_hasHearth x1 K σ) (kk : ∀ (r : Int32) (τ : St), K r τ → At X nL q lv (.int r :: rest) τ) : At X nL pc lv (.int (x1) :: .ref (X.kad 4) :: rest) σ := r_callV (n := 1) q hX (k0 := 4) (c_X4_hasHearth x1) tw_47 tw_48 tw_49 tw_8 tw_50 ⟨by decide +kernel, by decide +kernel, by decide +kernel⟩ hdc (by decide) (As := [.int (x1)]) rfl rfl (by decide) ⟨_, _, _, rfl, rfl, rfl⟩ hst hd hq rfl (K := qI K) hw (kI kk)
theorem k_X2_41_fillI {X : Cx} {cc : ByteArray} {nL d pc : Nat} {lv : List (Nat × Value)} {rest : List Value} {σ : St} {K : St → Prop} (q : Nat) (hX : CxB X RX2 cc nL d) (hdc : 1 + 1 ≤ d) {a n : Nat} (hs : wS a = (9, n)) (v : Int32) (hst : (rest.map fun v => v.category).sum ≤ 8) (hd : decode cc pc = .ok (.invokestatic 41, 3)) (hq : pc + 3 = q) (hw : wp_fillI a n v K σ) (kk : ∀ τ : St, K τ → At X nL q lv rest τ) : At X nL pc lv (.int v :: .ref (X.kad a) :: rest) σ := r_callS (n := 2) q hX (c_fillI a n hs v) tw_51 tw_31 tw_32 tw_33 ⟨by decide +kernel, by decide +kernel, by decide +kernel⟩ hdc (by decide) (As := [.ref (X.kad a), .int v]) rfl rfl hst hd hq rfl (K := qV K) hw (kV kk)
set_option maxRecDepth 20000 in
set_option maxHeartbeats 4000000 in
theorem w_X2_goStraightUp_b31 {X : Cx} {Q : RV → St → Prop} (hX : CxB X RX2 cX2_goStraightUp 3 (2)) (hR : CxR X (none) Q) {K2 : Int32 → St → Prop} (hK2 : ∀ (x2 : Int32) (σ : St), K2 x2 σ → At X 3 2 [(0, .ref (X.kad 20)), (1, .ref (X.kad 4)), (2, .int (x2))] [] σ) (x2 : Int32) (s0 : Int32) (z1 : Nat) (hz1 : wS z1 = (9, 16)) (σ : St) (hw : wp_X2_goStraightUp_b31 (aV Q) K2 x2 s0 z1 σ) : At X 3 31 [(0, .ref (X.kad 20)), (1, .ref (X.kad 4)), (2, .int (x2))] [.int (s0), .ref (X.kad z1)] σ := by
  unfold wp_X2_goStraightUp_b31 at hw
  refine k_X2_41_fillI 34 hX (by omega) hz1 (s0) (Nat.le_of_ble_eq_true rfl) dX2_goStraightUp_31 rfl hw (fun σ31 hw => ?_)
  refine r_iinc (lv' := [(2, .int (x2 + 1)), (0, .ref (X.kad 20)), (1, .ref (X.kad 4))]) 37 hX dX2_goStraightUp_34 rfl 2 rfl (x2 + 1) (ici_1 _) (by decide) rfl ?_
  refine r_goto 2 hX dX2_goStraightUp_37 (by decide) ?_
  refine r_sub [1, 2, 0] rfl ?_
  exact hK2 _ _ hw
set_option maxRecDepth 20000 in
set_option maxHeartbeats 4000000 in
theorem w_X2_goStraightUp_b2 {X : Cx} {Q : RV → St → Prop} (hX : CxB X RX2 cX2_goStraightUp 3 (2)) (hR : CxR X (none) Q) {K2 : Int32 → St → Prop} (hK2 : ∀ (x2 : Int32) (σ : St), K2 x2 σ → At X 3 2 [(0, .ref (X.kad 20)), (1, .ref (X.kad 4)), (2, .int (x2))] [] σ) (x2 : Int32) (σ : St) (hw : wp_X2_goStraightUp_b2 (aV Q) K2 x2 σ) : At X 3 2 [(0, .ref (X.kad 20)), (1, .ref (X.kad 4)), (2, .int (x2))] [] σ := by
  unfold wp_X2_goStraightUp_b2 at hw
  refine r_iload_n 3 hX dX2_goStraightUp_2 rfl rfl 2 rfl ?_
  refine r_iconst 4 hX dX2_goStraightUp_3 rfl 3 ic_3 ?_
  refine r_icmp_ge 40 7 hX dX2_goStraightUp_4 (by decide) rfl hw (fun hw => ?_) (fun hw => ?_)
  · exact r_vret hX hR dX2_goStraightUp_40 hw
  · refine r_aload_n 8 hX dX2_goStraightUp_7 rfl rfl 0 rfl ?_
    refine g_X2_11_20 11 hX dX2_goStraightUp_8 rfl ?_
    refine r_iload_n 12 hX dX2_goStraightUp_11 rfl rfl 2 rfl ?_
    refine r_aald 13 hX sh_21 dX2_goStraightUp_12 rfl hw (fun hv12 hw => ?_)
    refine r_aload_n 14 hX dX2_goStraightUp_13 rfl rfl 1 rfl ?_
    refine r_iload_n 15 hX dX2_goStraightUp_14 rfl rfl 2 rfl ?_
    refine k_X2_33_X4_hasHearth 18 hX (by omega) (x2) (Nat.le_of_ble_eq_true rfl) dX2_goStraightUp_15 rfl hw (fun r15 σ15 hw => ?_)
    refine r_if_eq 30 21 hX dX2_goStraightUp_18 (by decide) rfl hw (fun hw => ?_) (fun hw => ?_)
    · refine r_iconst 31 hX dX2_goStraightUp_30 rfl 0 ic_0 ?_
      exact w_X2_goStraightUp_b31 hX hR hK2 _ _ _ (shr_21 hv12) _ hw
    · refine r_aload_n 22 hX dX2_goStraightUp_21 rfl rfl 1 rfl ?_
      refine g_X2_39_4 25 hX dX2_goStraightUp_22 rfl ?_
      refine r_iload_n 26 hX dX2_goStraightUp_25 rfl rfl 2 rfl ?_
      refine r_iald 27 hX sh_7 dX2_goStraightUp_26 rfl hw (fun hw => ?_)
      refine r_goto 31 hX dX2_goStraightUp_27 (by decide) ?_
      exact w_X2_goStraightUp_b31 hX hR hK2 _ _ _ (shr_21 hv12) _ hw
set_option maxRecDepth 20000 in
set_option maxHeartbeats 4000000 in
theorem w_X2_goStraightUp_l2 {X : Cx} {Q : RV → St → Prop} (hX : CxB X RX2 cX2_goStraightUp 3 (2)) (hR : CxR X (none) Q) (n : Nat) : ∀ (x2 : Int32) (σ : St), wp_X2_goStraightUp_l2 (aV Q)  n x2 σ → At X 3 2 [(0, .ref (X.kad 20)), (1, .ref (X.kad 4)), (2, .int (x2))] [] σ := by
  induction n with
  | zero => intro x2 σ h; exact h.elim
  | succ n ih => intro x2 σ h; exact w_X2_goStraightUp_b2  hX hR ih x2 σ h
set_option maxRecDepth 20000 in
set_option maxHeartbeats 4000000 in
theorem c_X2_goStraightUp : Con yX2_goStraightUp cX2_goStraightUp 3 (none) (2) (fun ad => [.ref (ad 20), .ref (ad 4)]) (fun Q σ => wp_X2_goStraightUp  (aV Q) σ) := by
  refine con_intro (by decide +kernel) (fun _ => Nat.le_of_ble_eq_true rfl) (by omega) (fun X Q σ hX hR hw => ?_)
  have hX : CxB X RX2 cX2_goStraightUp 3 (2) := hX
  unfold wp_X2_goStraightUp at hw
  show At X 3 0 [(0, .ref (X.kad 20)), (1, .ref (X.kad 4))] [] σ
  refine r_iconst 1 hX dX2_goStraightUp_0 rfl 0 ic_0 ?_
  refine r_istore_n (lv' := [(2, .int (0)), (0, .ref (X.kad 20)), (1, .ref (X.kad 4))]) 2 hX dX2_goStraightUp_1 rfl rfl (by decide) rfl ?_
  refine r_sub [1, 2, 0] rfl ?_
  obtain ⟨n, hw⟩ := hw
  exact w_X2_goStraightUp_l2 hX hR n _ _ hw
set_option maxRecDepth 20000 in
set_option maxHeartbeats 4000000 in
theorem w_X2_copyFrom_28_20_b2 {X : Cx} {Q : RV → St → Prop} (hX : CxB X RX2 cX2_copyFrom 3 (1)) (hR : CxR X (none) Q) {K2 : Int32 → St → Prop} (hK2 : ∀ (x2 : Int32) (σ : St), K2 x2 σ → At X 3 2 [(0, .ref (X.kad 28)), (1, .ref (X.kad 20)), (2, .int (x2))] [] σ) (x2 : Int32) (σ : St) (hw : wp_X2_copyFrom_28_20_b2 (aV Q) K2 x2 σ) : At X 3 2 [(0, .ref (X.kad 28)), (1, .ref (X.kad 20)), (2, .int (x2))] [] σ := by
  unfold wp_X2_copyFrom_28_20_b2 at hw
  refine r_iload_n 3 hX dX2_copyFrom_2 rfl rfl 2 rfl ?_
  refine r_iconst 4 hX dX2_copyFrom_3 rfl 3 ic_3 ?_
  refine r_icmp_ge 32 7 hX dX2_copyFrom_4 (by decide) rfl hw (fun hw => ?_) (fun hw => ?_)
  · refine r_aload_n 33 hX dX2_copyFrom_32 rfl rfl 1 rfl ?_
    refine g_X2_16_20 36 hX dX2_copyFrom_33 rfl ?_
    refine r_iconst 37 hX dX2_copyFrom_36 rfl 0 ic_0 ?_
    refine r_aload_n 38 hX dX2_copyFrom_37 rfl rfl 0 rfl ?_
    refine g_X2_16_28 41 hX dX2_copyFrom_38 rfl ?_
    refine r_iconst 42 hX dX2_copyFrom_41 rfl 0 ic_0 ?_
    refine r_bipush 44 hX dX2_copyFrom_42 rfl 6 bi_6 ?_
    refine r_copyi 47 hX sh_25 sh_33 tw_54 tw_35 tw_36 tw_37 rfl nfw dX2_copyFrom_44 rfl hw (fun hw => ?_)
    refine r_aload_n 48 hX dX2_copyFrom_47 rfl rfl 1 rfl ?_
    refine g_X2_20_20 51 hX dX2_copyFrom_48 rfl ?_
    refine r_iconst 52 hX dX2_copyFrom_51 rfl 0 ic_0 ?_
    refine r_aload_n 53 hX dX2_copyFrom_52 rfl rfl 0 rfl ?_
    refine g_X2_20_28 56 hX dX2_copyFrom_53 rfl ?_
    refine r_iconst 57 hX dX2_copyFrom_56 rfl 0 ic_0 ?_
    refine r_bipush 59 hX dX2_copyFrom_57 rfl 6 bi_6 ?_
    refine r_copyi 62 hX sh_26 sh_34 tw_54 tw_35 tw_36 tw_37 rfl nfw dX2_copyFrom_59 rfl hw (fun hw => ?_)
    refine r_aload_n 63 hX dX2_copyFrom_62 rfl rfl 0 rfl ?_
    refine r_aload_n 64 hX dX2_copyFrom_63 rfl rfl 1 rfl ?_
    refine g_X2_29_20 67 hX dX2_copyFrom_64 rfl ?_
    refine p_X2_29_28 70 hX dX2_copyFrom_67 rfl ?_
    exact r_vret hX hR dX2_copyFrom_70 hw
  · refine r_aload_n 8 hX dX2_copyFrom_7 rfl rfl 1 rfl ?_
    refine g_X2_11_20 11 hX dX2_copyFrom_8 rfl ?_
    refine r_iload_n 12 hX dX2_copyFrom_11 rfl rfl 2 rfl ?_
    refine r_aald 13 hX sh_21 dX2_copyFrom_12 rfl hw (fun hv12 hw => ?_)
    refine r_iconst 14 hX dX2_copyFrom_13 rfl 0 ic_0 ?_
    refine r_aload_n 15 hX dX2_copyFrom_14 rfl rfl 0 rfl ?_
    refine g_X2_11_28 18 hX dX2_copyFrom_15 rfl ?_
    refine r_iload_n 19 hX dX2_copyFrom_18 rfl rfl 2 rfl ?_
    refine r_aald 20 hX sh_29 dX2_copyFrom_19 rfl hw (fun hv19 hw => ?_)
    refine r_iconst 21 hX dX2_copyFrom_20 rfl 0 ic_0 ?_
    refine r_bipush 23 hX dX2_copyFrom_21 rfl 16 bi_16 ?_
    refine r_copyi 26 hX (shr_21 hv12) (shr_29 hv19) tw_54 tw_35 tw_36 tw_37 rfl nfw dX2_copyFrom_23 rfl hw (fun hw => ?_)
    refine r_iinc (lv' := [(2, .int (x2 + 1)), (0, .ref (X.kad 28)), (1, .ref (X.kad 20))]) 29 hX dX2_copyFrom_26 rfl 2 rfl (x2 + 1) (ici_1 _) (by decide) rfl ?_
    refine r_goto 2 hX dX2_copyFrom_29 (by decide) ?_
    refine r_sub [1, 2, 0] rfl ?_
    exact hK2 _ _ hw
set_option maxRecDepth 20000 in
set_option maxHeartbeats 4000000 in
theorem w_X2_copyFrom_28_20_l2 {X : Cx} {Q : RV → St → Prop} (hX : CxB X RX2 cX2_copyFrom 3 (1)) (hR : CxR X (none) Q) (n : Nat) : ∀ (x2 : Int32) (σ : St), wp_X2_copyFrom_28_20_l2 (aV Q)  n x2 σ → At X 3 2 [(0, .ref (X.kad 28)), (1, .ref (X.kad 20)), (2, .int (x2))] [] σ := by
  induction n with
  | zero => intro x2 σ h; exact h.elim
  | succ n ih => intro x2 σ h; exact w_X2_copyFrom_28_20_b2  hX hR ih x2 σ h
set_option maxRecDepth 20000 in
set_option maxHeartbeats 4000000 in
theorem c_X2_copyFrom_28_20 : Con yX2_copyFrom cX2_copyFrom 3 (none) (1) (fun ad => [.ref (ad 28), .ref (ad 20)]) (fun Q σ => wp_X2_copyFrom_28_20  (aV Q) σ) := by
  refine con_intro (by decide +kernel) (fun _ => Nat.le_of_ble_eq_true rfl) (by omega) (fun X Q σ hX hR hw => ?_)
  have hX : CxB X RX2 cX2_copyFrom 3 (1) := hX
  unfold wp_X2_copyFrom_28_20 at hw
  show At X 3 0 [(0, .ref (X.kad 28)), (1, .ref (X.kad 20))] [] σ
  refine r_iconst 1 hX dX2_copyFrom_0 rfl 0 ic_0 ?_
  refine r_istore_n (lv' := [(2, .int (0)), (0, .ref (X.kad 28)), (1, .ref (X.kad 20))]) 2 hX dX2_copyFrom_1 rfl rfl (by decide) rfl ?_
  refine r_sub [1, 2, 0] rfl ?_
  obtain ⟨n, hw⟩ := hw
  exact w_X2_copyFrom_28_20_l2 hX hR n _ _ hw
set_option maxRecDepth 20000 in
set_option maxHeartbeats 4000000 in
theorem w_X2_copyFrom_35_20_b2 {X : Cx} {Q : RV → St → Prop} (hX : CxB X RX2 cX2_copyFrom 3 (1)) (hR : CxR X (none) Q) {K2 : Int32 → St → Prop} (hK2 : ∀ (x2 : Int32) (σ : St), K2 x2 σ → At X 3 2 [(0, .ref (X.kad 35)), (1, .ref (X.kad 20)), (2, .int (x2))] [] σ) (x2 : Int32) (σ : St) (hw : wp_X2_copyFrom_35_20_b2 (aV Q) K2 x2 σ) : At X 3 2 [(0, .ref (X.kad 35)), (1, .ref (X.kad 20)), (2, .int (x2))] [] σ := by
  unfold wp_X2_copyFrom_35_20_b2 at hw
  refine r_iload_n 3 hX dX2_copyFrom_2 rfl rfl 2 rfl ?_
  refine r_iconst 4 hX dX2_copyFrom_3 rfl 3 ic_3 ?_
  refine r_icmp_ge 32 7 hX dX2_copyFrom_4 (by decide) rfl hw (fun hw => ?_) (fun hw => ?_)
  · refine r_aload_n 33 hX dX2_copyFrom_32 rfl rfl 1 rfl ?_
    refine g_X2_16_20 36 hX dX2_copyFrom_33 rfl ?_
    refine r_iconst 37 hX dX2_copyFrom_36 rfl 0 ic_0 ?_
    refine r_aload_n 38 hX dX2_copyFrom_37 rfl rfl 0 rfl ?_
    refine g_X2_16_35 41 hX dX2_copyFrom_38 rfl ?_
    refine r_iconst 42 hX dX2_copyFrom_41 rfl 0 ic_0 ?_
    refine r_bipush 44 hX dX2_copyFrom_42 rfl 6 bi_6 ?_
    refine r_copyi 47 hX sh_25 sh_40 tw_54 tw_35 tw_36 tw_37 rfl nfw dX2_copyFrom_44 rfl hw (fun hw => ?_)
    refine r_aload_n 48 hX dX2_copyFrom_47 rfl rfl 1 rfl ?_
    refine g_X2_20_20 51 hX dX2_copyFrom_48 rfl ?_
    refine r_iconst 52 hX dX2_copyFrom_51 rfl 0 ic_0 ?_
    refine r_aload_n 53 hX dX2_copyFrom_52 rfl rfl 0 rfl ?_
    refine g_X2_20_35 56 hX dX2_copyFrom_53 rfl ?_
    refine r_iconst 57 hX dX2_copyFrom_56 rfl 0 ic_0 ?_
    refine r_bipush 59 hX dX2_copyFrom_57 rfl 6 bi_6 ?_
    refine r_copyi 62 hX sh_26 sh_41 tw_54 tw_35 tw_36 tw_37 rfl nfw dX2_copyFrom_59 rfl hw (fun hw => ?_)
    refine r_aload_n 63 hX dX2_copyFrom_62 rfl rfl 0 rfl ?_
    refine r_aload_n 64 hX dX2_copyFrom_63 rfl rfl 1 rfl ?_
    refine g_X2_29_20 67 hX dX2_copyFrom_64 rfl ?_
    refine p_X2_29_35 70 hX dX2_copyFrom_67 rfl ?_
    exact r_vret hX hR dX2_copyFrom_70 hw
  · refine r_aload_n 8 hX dX2_copyFrom_7 rfl rfl 1 rfl ?_
    refine g_X2_11_20 11 hX dX2_copyFrom_8 rfl ?_
    refine r_iload_n 12 hX dX2_copyFrom_11 rfl rfl 2 rfl ?_
    refine r_aald 13 hX sh_21 dX2_copyFrom_12 rfl hw (fun hv12 hw => ?_)
    refine r_iconst 14 hX dX2_copyFrom_13 rfl 0 ic_0 ?_
    refine r_aload_n 15 hX dX2_copyFrom_14 rfl rfl 0 rfl ?_
    refine g_X2_11_35 18 hX dX2_copyFrom_15 rfl ?_
    refine r_iload_n 19 hX dX2_copyFrom_18 rfl rfl 2 rfl ?_
    refine r_aald 20 hX sh_36 dX2_copyFrom_19 rfl hw (fun hv19 hw => ?_)
    refine r_iconst 21 hX dX2_copyFrom_20 rfl 0 ic_0 ?_
    refine r_bipush 23 hX dX2_copyFrom_21 rfl 16 bi_16 ?_
    refine r_copyi 26 hX (shr_21 hv12) (shr_36 hv19) tw_54 tw_35 tw_36 tw_37 rfl nfw dX2_copyFrom_23 rfl hw (fun hw => ?_)
    refine r_iinc (lv' := [(2, .int (x2 + 1)), (0, .ref (X.kad 35)), (1, .ref (X.kad 20))]) 29 hX dX2_copyFrom_26 rfl 2 rfl (x2 + 1) (ici_1 _) (by decide) rfl ?_
    refine r_goto 2 hX dX2_copyFrom_29 (by decide) ?_
    refine r_sub [1, 2, 0] rfl ?_
    exact hK2 _ _ hw
set_option maxRecDepth 20000 in
set_option maxHeartbeats 4000000 in
theorem w_X2_copyFrom_35_20_l2 {X : Cx} {Q : RV → St → Prop} (hX : CxB X RX2 cX2_copyFrom 3 (1)) (hR : CxR X (none) Q) (n : Nat) : ∀ (x2 : Int32) (σ : St), wp_X2_copyFrom_35_20_l2 (aV Q)  n x2 σ → At X 3 2 [(0, .ref (X.kad 35)), (1, .ref (X.kad 20)), (2, .int (x2))] [] σ := by
  induction n with
  | zero => intro x2 σ h; exact h.elim
  | succ n ih => intro x2 σ h; exact w_X2_copyFrom_35_20_b2  hX hR ih x2 σ h
set_option maxRecDepth 20000 in
set_option maxHeartbeats 4000000 in
theorem c_X2_copyFrom_35_20 : Con yX2_copyFrom cX2_copyFrom 3 (none) (1) (fun ad => [.ref (ad 35), .ref (ad 20)]) (fun Q σ => wp_X2_copyFrom_35_20  (aV Q) σ) := by
  refine con_intro (by decide +kernel) (fun _ => Nat.le_of_ble_eq_true rfl) (by omega) (fun X Q σ hX hR hw => ?_)
  have hX : CxB X RX2 cX2_copyFrom 3 (1) := hX
  unfold wp_X2_copyFrom_35_20 at hw
  show At X 3 0 [(0, .ref (X.kad 35)), (1, .ref (X.kad 20))] [] σ
  refine r_iconst 1 hX dX2_copyFrom_0 rfl 0 ic_0 ?_
  refine r_istore_n (lv' := [(2, .int (0)), (0, .ref (X.kad 35)), (1, .ref (X.kad 20))]) 2 hX dX2_copyFrom_1 rfl rfl (by decide) rfl ?_
  refine r_sub [1, 2, 0] rfl ?_
  obtain ⟨n, hw⟩ := hw
  exact w_X2_copyFrom_35_20_l2 hX hR n _ _ hw
set_option maxRecDepth 20000 in
set_option maxHeartbeats 4000000 in
theorem w_X2_copyFrom_20_28_b2 {X : Cx} {Q : RV → St → Prop} (hX : CxB X RX2 cX2_copyFrom 3 (1)) (hR : CxR X (none) Q) {K2 : Int32 → St → Prop} (hK2 : ∀ (x2 : Int32) (σ : St), K2 x2 σ → At X 3 2 [(0, .ref (X.kad 20)), (1, .ref (X.kad 28)), (2, .int (x2))] [] σ) (x2 : Int32) (σ : St) (hw : wp_X2_copyFrom_20_28_b2 (aV Q) K2 x2 σ) : At X 3 2 [(0, .ref (X.kad 20)), (1, .ref (X.kad 28)), (2, .int (x2))] [] σ := by
  unfold wp_X2_copyFrom_20_28_b2 at hw
  refine r_iload_n 3 hX dX2_copyFrom_2 rfl rfl 2 rfl ?_
  refine r_iconst 4 hX dX2_copyFrom_3 rfl 3 ic_3 ?_
  refine r_icmp_ge 32 7 hX dX2_copyFrom_4 (by decide) rfl hw (fun hw => ?_) (fun hw => ?_)
  · refine r_aload_n 33 hX dX2_copyFrom_32 rfl rfl 1 rfl ?_
    refine g_X2_16_28 36 hX dX2_copyFrom_33 rfl ?_
    refine r_iconst 37 hX dX2_copyFrom_36 rfl 0 ic_0 ?_
    refine r_aload_n 38 hX dX2_copyFrom_37 rfl rfl 0 rfl ?_
    refine g_X2_16_20 41 hX dX2_copyFrom_38 rfl ?_
    refine r_iconst 42 hX dX2_copyFrom_41 rfl 0 ic_0 ?_
    refine r_bipush 44 hX dX2_copyFrom_42 rfl 6 bi_6 ?_
    refine r_copyi 47 hX sh_33 sh_25 tw_54 tw_35 tw_36 tw_37 rfl nfw dX2_copyFrom_44 rfl hw (fun hw => ?_)
    refine r_aload_n 48 hX dX2_copyFrom_47 rfl rfl 1 rfl ?_
    refine g_X2_20_28 51 hX dX2_copyFrom_48 rfl ?_
    refine r_iconst 52 hX dX2_copyFrom_51 rfl 0 ic_0 ?_
    refine r_aload_n 53 hX dX2_copyFrom_52 rfl rfl 0 rfl ?_
    refine g_X2_20_20 56 hX dX2_copyFrom_53 rfl ?_
    refine r_iconst 57 hX dX2_copyFrom_56 rfl 0 ic_0 ?_
    refine r_bipush 59 hX dX2_copyFrom_57 rfl 6 bi_6 ?_
    refine r_copyi 62 hX sh_34 sh_26 tw_54 tw_35 tw_36 tw_37 rfl nfw dX2_copyFrom_59 rfl hw (fun hw => ?_)
    refine r_aload_n 63 hX dX2_copyFrom_62 rfl rfl 0 rfl ?_
    refine r_aload_n 64 hX dX2_copyFrom_63 rfl rfl 1 rfl ?_
    refine g_X2_29_28 67 hX dX2_copyFrom_64 rfl ?_
    refine p_X2_29_20 70 hX dX2_copyFrom_67 rfl ?_
    exact r_vret hX hR dX2_copyFrom_70 hw
  · refine r_aload_n 8 hX dX2_copyFrom_7 rfl rfl 1 rfl ?_
    refine g_X2_11_28 11 hX dX2_copyFrom_8 rfl ?_
    refine r_iload_n 12 hX dX2_copyFrom_11 rfl rfl 2 rfl ?_
    refine r_aald 13 hX sh_29 dX2_copyFrom_12 rfl hw (fun hv12 hw => ?_)
    refine r_iconst 14 hX dX2_copyFrom_13 rfl 0 ic_0 ?_
    refine r_aload_n 15 hX dX2_copyFrom_14 rfl rfl 0 rfl ?_
    refine g_X2_11_20 18 hX dX2_copyFrom_15 rfl ?_
    refine r_iload_n 19 hX dX2_copyFrom_18 rfl rfl 2 rfl ?_
    refine r_aald 20 hX sh_21 dX2_copyFrom_19 rfl hw (fun hv19 hw => ?_)
    refine r_iconst 21 hX dX2_copyFrom_20 rfl 0 ic_0 ?_
    refine r_bipush 23 hX dX2_copyFrom_21 rfl 16 bi_16 ?_
    refine r_copyi 26 hX (shr_29 hv12) (shr_21 hv19) tw_54 tw_35 tw_36 tw_37 rfl nfw dX2_copyFrom_23 rfl hw (fun hw => ?_)
    refine r_iinc (lv' := [(2, .int (x2 + 1)), (0, .ref (X.kad 20)), (1, .ref (X.kad 28))]) 29 hX dX2_copyFrom_26 rfl 2 rfl (x2 + 1) (ici_1 _) (by decide) rfl ?_
    refine r_goto 2 hX dX2_copyFrom_29 (by decide) ?_
    refine r_sub [1, 2, 0] rfl ?_
    exact hK2 _ _ hw
set_option maxRecDepth 20000 in
set_option maxHeartbeats 4000000 in
theorem w_X2_copyFrom_20_28_l2 {X : Cx} {Q : RV → St → Prop} (hX : CxB X RX2 cX2_copyFrom 3 (1)) (hR : CxR X (none) Q) (n : Nat) : ∀ (x2 : Int32) (σ : St), wp_X2_copyFrom_20_28_l2 (aV Q)  n x2 σ → At X 3 2 [(0, .ref (X.kad 20)), (1, .ref (X.kad 28)), (2, .int (x2))] [] σ := by
  induction n with
  | zero => intro x2 σ h; exact h.elim
  | succ n ih => intro x2 σ h; exact w_X2_copyFrom_20_28_b2  hX hR ih x2 σ h
set_option maxRecDepth 20000 in
set_option maxHeartbeats 4000000 in
theorem c_X2_copyFrom_20_28 : Con yX2_copyFrom cX2_copyFrom 3 (none) (1) (fun ad => [.ref (ad 20), .ref (ad 28)]) (fun Q σ => wp_X2_copyFrom_20_28  (aV Q) σ) := by
  refine con_intro (by decide +kernel) (fun _ => Nat.le_of_ble_eq_true rfl) (by omega) (fun X Q σ hX hR hw => ?_)
  have hX : CxB X RX2 cX2_copyFrom 3 (1) := hX
  unfold wp_X2_copyFrom_20_28 at hw
  show At X 3 0 [(0, .ref (X.kad 20)), (1, .ref (X.kad 28))] [] σ
  refine r_iconst 1 hX dX2_copyFrom_0 rfl 0 ic_0 ?_
  refine r_istore_n (lv' := [(2, .int (0)), (0, .ref (X.kad 20)), (1, .ref (X.kad 28))]) 2 hX dX2_copyFrom_1 rfl rfl (by decide) rfl ?_
  refine r_sub [1, 2, 0] rfl ?_
  obtain ⟨n, hw⟩ := hw
  exact w_X2_copyFrom_20_28_l2 hX hR n _ _ hw
set_option maxRecDepth 20000 in
set_option maxHeartbeats 4000000 in
theorem w_X2_copyFrom_20_35_b2 {X : Cx} {Q : RV → St → Prop} (hX : CxB X RX2 cX2_copyFrom 3 (1)) (hR : CxR X (none) Q) {K2 : Int32 → St → Prop} (hK2 : ∀ (x2 : Int32) (σ : St), K2 x2 σ → At X 3 2 [(0, .ref (X.kad 20)), (1, .ref (X.kad 35)), (2, .int (x2))] [] σ) (x2 : Int32) (σ : St) (hw : wp_X2_copyFrom_20_35_b2 (aV Q) K2 x2 σ) : At X 3 2 [(0, .ref (X.kad 20)), (1, .ref (X.kad 35)), (2, .int (x2))] [] σ := by
  unfold wp_X2_copyFrom_20_35_b2 at hw
  refine r_iload_n 3 hX dX2_copyFrom_2 rfl rfl 2 rfl ?_
  refine r_iconst 4 hX dX2_copyFrom_3 rfl 3 ic_3 ?_
  refine r_icmp_ge 32 7 hX dX2_copyFrom_4 (by decide) rfl hw (fun hw => ?_) (fun hw => ?_)
  · refine r_aload_n 33 hX dX2_copyFrom_32 rfl rfl 1 rfl ?_
    refine g_X2_16_35 36 hX dX2_copyFrom_33 rfl ?_
    refine r_iconst 37 hX dX2_copyFrom_36 rfl 0 ic_0 ?_
    refine r_aload_n 38 hX dX2_copyFrom_37 rfl rfl 0 rfl ?_
    refine g_X2_16_20 41 hX dX2_copyFrom_38 rfl ?_
    refine r_iconst 42 hX dX2_copyFrom_41 rfl 0 ic_0 ?_
    refine r_bipush 44 hX dX2_copyFrom_42 rfl 6 bi_6 ?_
    refine r_copyi 47 hX sh_40 sh_25 tw_54 tw_35 tw_36 tw_37 rfl nfw dX2_copyFrom_44 rfl hw (fun hw => ?_)
    refine r_aload_n 48 hX dX2_copyFrom_47 rfl rfl 1 rfl ?_
    refine g_X2_20_35 51 hX dX2_copyFrom_48 rfl ?_
    refine r_iconst 52 hX dX2_copyFrom_51 rfl 0 ic_0 ?_
    refine r_aload_n 53 hX dX2_copyFrom_52 rfl rfl 0 rfl ?_
    refine g_X2_20_20 56 hX dX2_copyFrom_53 rfl ?_
    refine r_iconst 57 hX dX2_copyFrom_56 rfl 0 ic_0 ?_
    refine r_bipush 59 hX dX2_copyFrom_57 rfl 6 bi_6 ?_
    refine r_copyi 62 hX sh_41 sh_26 tw_54 tw_35 tw_36 tw_37 rfl nfw dX2_copyFrom_59 rfl hw (fun hw => ?_)
    refine r_aload_n 63 hX dX2_copyFrom_62 rfl rfl 0 rfl ?_
    refine r_aload_n 64 hX dX2_copyFrom_63 rfl rfl 1 rfl ?_
    refine g_X2_29_35 67 hX dX2_copyFrom_64 rfl ?_
    refine p_X2_29_20 70 hX dX2_copyFrom_67 rfl ?_
    exact r_vret hX hR dX2_copyFrom_70 hw
  · refine r_aload_n 8 hX dX2_copyFrom_7 rfl rfl 1 rfl ?_
    refine g_X2_11_35 11 hX dX2_copyFrom_8 rfl ?_
    refine r_iload_n 12 hX dX2_copyFrom_11 rfl rfl 2 rfl ?_
    refine r_aald 13 hX sh_36 dX2_copyFrom_12 rfl hw (fun hv12 hw => ?_)
    refine r_iconst 14 hX dX2_copyFrom_13 rfl 0 ic_0 ?_
    refine r_aload_n 15 hX dX2_copyFrom_14 rfl rfl 0 rfl ?_
    refine g_X2_11_20 18 hX dX2_copyFrom_15 rfl ?_
    refine r_iload_n 19 hX dX2_copyFrom_18 rfl rfl 2 rfl ?_
    refine r_aald 20 hX sh_21 dX2_copyFrom_19 rfl hw (fun hv19 hw => ?_)
    refine r_iconst 21 hX dX2_copyFrom_20 rfl 0 ic_0 ?_
    refine r_bipush 23 hX dX2_copyFrom_21 rfl 16 bi_16 ?_
    refine r_copyi 26 hX (shr_36 hv12) (shr_21 hv19) tw_54 tw_35 tw_36 tw_37 rfl nfw dX2_copyFrom_23 rfl hw (fun hw => ?_)
    refine r_iinc (lv' := [(2, .int (x2 + 1)), (0, .ref (X.kad 20)), (1, .ref (X.kad 35))]) 29 hX dX2_copyFrom_26 rfl 2 rfl (x2 + 1) (ici_1 _) (by decide) rfl ?_
    refine r_goto 2 hX dX2_copyFrom_29 (by decide) ?_
    refine r_sub [1, 2, 0] rfl ?_
    exact hK2 _ _ hw
set_option maxRecDepth 20000 in
set_option maxHeartbeats 4000000 in
theorem w_X2_copyFrom_20_35_l2 {X : Cx} {Q : RV → St → Prop} (hX : CxB X RX2 cX2_copyFrom 3 (1)) (hR : CxR X (none) Q) (n : Nat) : ∀ (x2 : Int32) (σ : St), wp_X2_copyFrom_20_35_l2 (aV Q)  n x2 σ → At X 3 2 [(0, .ref (X.kad 20)), (1, .ref (X.kad 35)), (2, .int (x2))] [] σ := by
  induction n with
  | zero => intro x2 σ h; exact h.elim
  | succ n ih => intro x2 σ h; exact w_X2_copyFrom_20_35_b2  hX hR ih x2 σ h
set_option maxRecDepth 20000 in
set_option maxHeartbeats 4000000 in
theorem c_X2_copyFrom_20_35 : Con yX2_copyFrom cX2_copyFrom 3 (none) (1) (fun ad => [.ref (ad 20), .ref (ad 35)]) (fun Q σ => wp_X2_copyFrom_20_35  (aV Q) σ) := by
  refine con_intro (by decide +kernel) (fun _ => Nat.le_of_ble_eq_true rfl) (by omega) (fun X Q σ hX hR hw => ?_)
  have hX : CxB X RX2 cX2_copyFrom 3 (1) := hX
  unfold wp_X2_copyFrom_20_35 at hw
  show At X 3 0 [(0, .ref (X.kad 20)), (1, .ref (X.kad 35))] [] σ
  refine r_iconst 1 hX dX2_copyFrom_0 rfl 0 ic_0 ?_
  refine r_istore_n (lv' := [(2, .int (0)), (0, .ref (X.kad 20)), (1, .ref (X.kad 35))]) 2 hX dX2_copyFrom_1 rfl rfl (by decide) rfl ?_
  refine r_sub [1, 2, 0] rfl ?_
  obtain ⟨n, hw⟩ := hw
  exact w_X2_copyFrom_20_35_l2 hX hR n _ _ hw
set_option maxRecDepth 20000 in
set_option maxHeartbeats 4000000 in
theorem w_X0_crosses_b80 {X : Cx} {Q : RV → St → Prop} (hX : CxB X RX0 cX0_crosses 7 (1)) (hR : CxR X (some .boolean) Q) (s0 : Int32) (s1 : Int32) (σ : St) (hw : wp_X0_crosses_b80 (aI Q)  s0 s1 σ) : At X 7 80 [] [.int (s0), .int (s1)] σ := by
  unfold wp_X0_crosses_b80 at hw
  refine r_icmp_eq 87 83 hX dX0_crosses_80 (by decide) rfl hw (fun hw => ?_) (fun hw => ?_)
  · refine r_iconst 88 hX dX0_crosses_87 rfl 0 ic_0 ?_
    exact r_zret hX hR narrow_b0 dX0_crosses_88 hw
  · refine r_iconst 84 hX dX0_crosses_83 rfl 1 ic_1 ?_
    refine r_goto 88 hX dX0_crosses_84 (by decide) ?_
    exact r_zret hX hR narrow_b1 dX0_crosses_88 hw
set_option maxRecDepth 20000 in
set_option maxHeartbeats 4000000 in
theorem w_X0_crosses_b62 {X : Cx} {Q : RV → St → Prop} (hX : CxB X RX0 cX0_crosses 7 (1)) (hR : CxR X (some .boolean) Q) (x4 : Int32) (y5 : Nat) (y6 : Nat) (s0 : Int32) (hy5 : wS y5 = (9, 16)) (hy6 : wS y6 = (9, 16)) (σ : St) (hw : wp_X0_crosses_b62 (aI Q)  x4 y5 y6 s0 σ) : At X 7 62 [(4, .int (x4)), (5, .ref (X.kad y5)), (6, .ref (X.kad y6))] [.int (s0)] σ := by
  unfold wp_X0_crosses_b62 at hw
  refine r_aload 64 hX dX0_crosses_62 rfl 1 rfl ?_
  refine r_iload 66 hX dX0_crosses_64 rfl 0 rfl ?_
  refine r_iald 67 hX hy5 dX0_crosses_66 rfl hw (fun hw => ?_)
  refine r_aload 69 hX dX0_crosses_67 rfl 2 rfl ?_
  refine r_iload 71 hX dX0_crosses_69 rfl 0 rfl ?_
  refine r_iald 72 hX hy6 dX0_crosses_71 rfl hw (fun hw => ?_)
  refine r_icmp_ge 79 75 hX dX0_crosses_72 (by decide) rfl hw (fun hw => ?_) (fun hw => ?_)
  · refine r_iconst 80 hX dX0_crosses_79 rfl 0 ic_0 ?_
    refine r_sub [] rfl ?_
    exact w_X0_crosses_b80 hX hR _ _ _ hw
  · refine r_iconst 76 hX dX0_crosses_75 rfl 1 ic_1 ?_
    refine r_goto 80 hX dX0_crosses_76 (by decide) ?_
    refine r_sub [] rfl ?_
    exact w_X0_crosses_b80 hX hR _ _ _ hw
set_option maxRecDepth 20000 in
set_option maxHeartbeats 4000000 in
theorem c_X0_crosses (x2 : Int32) (x3 : Int32) (x4 : Int32) : Con yX0_crosses cX0_crosses 7 (some .boolean) (1) (fun ad => [.ref (ad 4), .ref (ad 20), .int (x2), .int (x3), .int (x4)]) (fun Q σ => wp_X0_crosses x2 x3 x4 (aI Q) σ) := by
  refine con_intro (by decide +kernel) (fun _ => Nat.le_of_ble_eq_true rfl) (by omega) (fun X Q σ hX hR hw => ?_)
  have hX : CxB X RX0 cX0_crosses 7 (1) := hX
  unfold wp_X0_crosses at hw
  show At X 7 0 [(0, .ref (X.kad 4)), (1, .ref (X.kad 20)), (2, .int (x2)), (3, .int (x3)), (4, .int (x4))] [] σ
  refine r_iload 2 hX dX0_crosses_0 rfl 4 rfl ?_
  refine r_aload_n 3 hX dX0_crosses_2 rfl rfl 0 rfl ?_
  refine g_X0_59_4 6 hX dX0_crosses_3 rfl ?_
  refine r_iload_n 7 hX dX0_crosses_6 rfl rfl 2 rfl ?_
  refine r_iald 8 hX sh_6 dX0_crosses_7 rfl hw (fun hw => ?_)
  refine r_icmp_le 22 11 hX dX0_crosses_8 (by decide) rfl hw (fun hw => ?_) (fun hw => ?_)
  · refine r_iconst 23 hX dX0_crosses_22 rfl 0 ic_0 ?_
    exact r_zret hX hR narrow_b0 dX0_crosses_23 hw
  · refine r_iload 13 hX dX0_crosses_11 rfl 4 rfl ?_
    refine r_aload_n 14 hX dX0_crosses_13 rfl rfl 0 rfl ?_
    refine g_X0_59_4 17 hX dX0_crosses_14 rfl ?_
    refine r_iload_n 18 hX dX0_crosses_17 rfl rfl 3 rfl ?_
    refine r_iald 19 hX sh_6 dX0_crosses_18 rfl hw (fun hw => ?_)
    refine r_icmp_gt 24 22 hX dX0_crosses_19 (by decide) rfl hw (fun hw => ?_) (fun hw => ?_)
    · refine r_aload_n 25 hX dX0_crosses_24 rfl rfl 1 rfl ?_
      refine g_X0_35_20 28 hX dX0_crosses_25 rfl ?_
      refine r_iload_n 29 hX dX0_crosses_28 rfl rfl 2 rfl ?_
      refine r_aald 30 hX sh_21 dX0_crosses_29 rfl hw (fun hv29 hw => ?_)
      refine r_astore (lv' := [(5, .ref (X.kad (21 + 1 + (x2).toNatClampNeg))), (0, .ref (X.kad 4)), (1, .ref (X.kad 20)), (2, .int (x2)), (3, .int (x3)), (4, .int (x4))]) 32 hX dX0_crosses_30 rfl (by decide) rfl ?_
      refine r_aload_n 33 hX dX0_crosses_32 rfl rfl 2 rfl ?_
      refine g_X0_35_20 36 hX dX0_crosses_33 rfl ?_
      refine r_iload_n 37 hX dX0_crosses_36 rfl rfl 4 rfl ?_
      refine r_aald 38 hX sh_21 dX0_crosses_37 rfl hw (fun hv37 hw => ?_)
      refine r_astore (lv' := [(6, .ref (X.kad (21 + 1 + (x3).toNatClampNeg))), (5, .ref (X.kad (21 + 1 + (x2).toNatClampNeg))), (0, .ref (X.kad 4)), (1, .ref (X.kad 20)), (2, .int (x2)), (3, .int (x3)), (4, .int (x4))]) 40 hX dX0_crosses_38 rfl (by decide) rfl ?_
      refine r_aload 42 hX dX0_crosses_40 rfl 1 rfl ?_
      refine r_iload 44 hX dX0_crosses_42 rfl 6 rfl ?_
      refine r_iconst 45 hX dX0_crosses_44 rfl 1 ic_1 ?_
      refine r_isub 46 hX dX0_crosses_45 rfl ?_
      refine r_iald 47 hX (shr_21 hv29) dX0_crosses_46 rfl hw (fun hw => ?_)
      refine r_aload 49 hX dX0_crosses_47 rfl 0 rfl ?_
      refine r_iload 51 hX dX0_crosses_49 rfl 6 rfl ?_
      refine r_iconst 52 hX dX0_crosses_51 rfl 1 ic_1 ?_
      refine r_isub 53 hX dX0_crosses_52 rfl ?_
      refine r_iald 54 hX (shr_21 hv37) dX0_crosses_53 rfl hw (fun hw => ?_)
      refine r_icmp_ge 61 57 hX dX0_crosses_54 (by decide) rfl hw (fun hw => ?_) (fun hw => ?_)
      · refine r_iconst 62 hX dX0_crosses_61 rfl 0 ic_0 ?_
        refine r_sub [6, 1, 0] rfl ?_
        exact w_X0_crosses_b62 hX hR _ _ _ _ (shr_21 hv29) (shr_21 hv37) _ hw
      · refine r_iconst 58 hX dX0_crosses_57 rfl 1 ic_1 ?_
        refine r_goto 62 hX dX0_crosses_58 (by decide) ?_
        refine r_sub [6, 1, 0] rfl ?_
        exact w_X0_crosses_b62 hX hR _ _ _ _ (shr_21 hv29) (shr_21 hv37) _ hw
    · refine r_iconst 23 hX dX0_crosses_22 rfl 0 ic_0 ?_
      exact r_zret hX hR narrow_b0 dX0_crosses_23 hw
theorem k_X0_41_X4_hasColumn {X : Cx} {cc : ByteArray} {nL d pc : Nat} {lv : List (Nat × Value)} {rest : List Value} {σ : St} {K : Int32 → St → Prop} (q : Nat) (hX : CxB X RX0 cc nL d) (hdc : 1 + 1 ≤ d) (x1 : Int32) (hst : (rest.map fun v => v.category).sum ≤ 8) (hd : decode cc pc = .ok (.invokevirtual 41, 3)) (hq : pc + 3 = q) (hw : wp_X4_hasColumn x1 K σ) (kk : ∀ (r : Int32) (τ : St), K r τ → At X nL q lv (.int r :: rest) τ) : At X nL pc lv (.int (x1) :: .ref (X.kad 4) :: rest) σ := r_callV (n := 1) q hX (k0 := 4) (c_X4_hasColumn x1) tw_59 tw_11 tw_12 tw_8 tw_13 ⟨by decide +kernel, by decide +kernel, by decide +kernel⟩ hdc (by decide) (As := [.int (x1)]) rfl rfl (by decide) ⟨_, _, _, rfl, rfl, rfl⟩ hst hd hq rfl (K := qI K) hw (kI kk)
theorem k_X0_45_X4_isFree {X : Cx} {cc : ByteArray} {nL d pc : Nat} {lv : List (Nat × Value)} {rest : List Value} {σ : St} {K : Int32 → St → Prop} (q : Nat) (hX : CxB X RX0 cc nL d) (hdc : 3 + 1 ≤ d) (x1 : Int32) (x2 : Int32) (hst : (rest.map fun v => v.category).sum ≤ 8) (hd : decode cc pc = .ok (.invokevirtual 45, 3)) (hq : pc + 3 = q) (hw : wp_X4_isFree x1 x2 K σ) (kk : ∀ (r : Int32) (τ : St), K r τ → At X nL q lv (.int r :: rest) τ) : At X nL pc lv (.int (x2) :: .int (x1) :: .ref (X.kad 4) :: rest) σ := r_callV (n := 2) q hX (k0 := 4) (c_X4_isFree x1 x2) tw_60 tw_61 tw_62 tw_8 tw_63 ⟨by decide +kernel, by decide +kernel, by decide +kernel⟩ hdc (by decide) (As := [.int (x1), .int (x2)]) rfl rfl (by decide) ⟨_, _, _, rfl, rfl, rfl⟩ hst hd hq rfl (K := qI K) hw (kI kk)
theorem k_X0_55_X0_crosses {X : Cx} {cc : ByteArray} {nL d pc : Nat} {lv : List (Nat × Value)} {rest : List Value} {σ : St} {K : Int32 → St → Prop} (q : Nat) (hX : CxB X RX0 cc nL d) (hdc : 1 + 1 ≤ d) (x2 : Int32) (x3 : Int32) (x4 : Int32) (hst : (rest.map fun v => v.category).sum ≤ 8) (hd : decode cc pc = .ok (.invokestatic 55, 3)) (hq : pc + 3 = q) (hw : wp_X0_crosses x2 x3 x4 K σ) (kk : ∀ (r : Int32) (τ : St), K r τ → At X nL q lv (.int r :: rest) τ) : At X nL pc lv (.int (x4) :: .int (x3) :: .int (x2) :: .ref (X.kad 20) :: .ref (X.kad 4) :: rest) σ := r_callS (n := 5) q hX (c_X0_crosses x2 x3 x4) tw_64 tw_65 tw_66 tw_67 ⟨by decide +kernel, by decide +kernel, by decide +kernel⟩ hdc (by decide) (As := [.ref (X.kad 4), .ref (X.kad 20), .int (x2), .int (x3), .int (x4)]) rfl rfl hst hd hq rfl (K := qI K) hw (kI kk)
theorem k_X0_16_X4_reaches {X : Cx} {cc : ByteArray} {nL d pc : Nat} {lv : List (Nat × Value)} {rest : List Value} {σ : St} {K : Int32 → St → Prop} (q : Nat) (hX : CxB X RX0 cc nL d) (hdc : 1 + 1 ≤ d) (x1 : Int32) (x2 : Int64) (hst : (rest.map fun v => v.category).sum ≤ 8) (hd : decode cc pc = .ok (.invokevirtual 16, 3)) (hq : pc + 3 = q) (hw : wp_X4_reaches x1 x2 K σ) (kk : ∀ (r : Int32) (τ : St), K r τ → At X nL q lv (.int r :: rest) τ) : At X nL pc lv (.long (x2) :: .int (x1) :: .ref (X.kad 4) :: rest) σ := r_callV (n := 2) q hX (k0 := 4) (c_X4_reaches x1 x2) tw_68 tw_69 tw_70 tw_8 tw_71 ⟨by decide +kernel, by decide +kernel, by decide +kernel⟩ hdc (by decide) (As := [.int (x1), .long (x2)]) rfl rfl (by decide) ⟨_, _, _, rfl, rfl, rfl⟩ hst hd hq rfl (K := qI K) hw (kI kk)
set_option maxRecDepth 20000 in
set_option maxHeartbeats 4000000 in
theorem w_X0_troubleOf_b87 {X : Cx} {Q : RV → St → Prop} (hX : CxB X RX0 cX0_troubleOf 7 (4)) (hR : CxR X (some .int) Q) {K87 : Int32 → Int32 → Int32 → St → Prop} (hK87 : ∀ (x3 : Int32) (x4 : Int32) (x6 : Int32) (σ : St), K87 x3 x4 x6 σ → At X 7 87 [(0, .ref (X.kad 4)), (1, .ref (X.kad 20)), (3, .int (x3)), (4, .int (x4)), (6, .int (x6))] [] σ) (x3 : Int32) (x4 : Int32) (x6 : Int32) (σ : St) (hw : wp_X0_troubleOf_b87 (aI Q) K87 x3 x4 x6 σ) : At X 7 87 [(0, .ref (X.kad 4)), (1, .ref (X.kad 20)), (3, .int (x3)), (4, .int (x4)), (6, .int (x6))] [] σ := by
  unfold wp_X0_troubleOf_b87 at hw
  refine r_iload 89 hX dX0_troubleOf_87 rfl 4 rfl ?_
  refine r_iload_n 90 hX dX0_troubleOf_89 rfl rfl 2 rfl ?_
  refine r_icmp_ge 114 93 hX dX0_troubleOf_90 (by decide) rfl hw (fun hw => ?_) (fun hw => ?_)
  · refine r_iconst 115 hX dX0_troubleOf_114 rfl 0 ic_0 ?_
    exact r_iret hX hR dX0_troubleOf_115 hw
  · refine r_aload_n 94 hX dX0_troubleOf_93 rfl rfl 0 rfl ?_
    refine r_aload_n 95 hX dX0_troubleOf_94 rfl rfl 1 rfl ?_
    refine r_iload_n 96 hX dX0_troubleOf_95 rfl rfl 2 rfl ?_
    refine r_iload 98 hX dX0_troubleOf_96 rfl 4 rfl ?_
    refine r_iload 100 hX dX0_troubleOf_98 rfl 3 rfl ?_
    refine k_X0_55_X0_crosses 103 hX (by omega) (x3) (x6) (x4) (Nat.le_of_ble_eq_true rfl) dX0_troubleOf_100 rfl hw (fun r100 σ100 hw => ?_)
    refine r_if_eq 108 106 hX dX0_troubleOf_103 (by decide) rfl hw (fun hw => ?_) (fun hw => ?_)
    · refine r_iinc (lv' := [(6, .int (x6 + 1)), (0, .ref (X.kad 4)), (1, .ref (X.kad 20)), (3, .int (x3)), (4, .int (x4))]) 111 hX dX0_troubleOf_108 rfl 4 rfl (x6 + 1) (ici_1 _) (by decide) rfl ?_
      refine r_goto 87 hX dX0_troubleOf_111 (by decide) ?_
      refine r_sub [1, 2, 3, 4, 0] rfl ?_
      exact hK87 _ _ _ _ hw
    · refine r_iconst 107 hX dX0_troubleOf_106 rfl 4 ic_4 ?_
      exact r_iret hX hR dX0_troubleOf_107 hw
set_option maxRecDepth 20000 in
set_option maxHeartbeats 4000000 in
theorem w_X0_troubleOf_l87 {X : Cx} {Q : RV → St → Prop} (hX : CxB X RX0 cX0_troubleOf 7 (4)) (hR : CxR X (some .int) Q) (n : Nat) : ∀ (x3 : Int32) (x4 : Int32) (x6 : Int32) (σ : St), wp_X0_troubleOf_l87 (aI Q)  n x3 x4 x6 σ → At X 7 87 [(0, .ref (X.kad 4)), (1, .ref (X.kad 20)), (3, .int (x3)), (4, .int (x4)), (6, .int (x6))] [] σ := by
  induction n with
  | zero => intro x3 x4 x6 σ h; exact h.elim
  | succ n ih => intro x3 x4 x6 σ h; exact w_X0_troubleOf_b87  hX hR ih x3 x4 x6 σ h
set_option maxRecDepth 20000 in
set_option maxHeartbeats 4000000 in
theorem w_X0_troubleOf_b38 {X : Cx} {Q : RV → St → Prop} (hX : CxB X RX0 cX0_troubleOf 7 (4)) (hR : CxR X (some .int) Q) {K38 : Int32 → Int32 → Int32 → Int32 → Int32 → St → Prop} (hK38 : ∀ (x2 : Int32) (x3 : Int32) (x4 : Int32) (x5 : Int32) (x6 : Int32) (σ : St), K38 x2 x3 x4 x5 x6 σ → At X 7 38 [(0, .ref (X.kad 4)), (1, .ref (X.kad 20)), (2, .int (x2)), (3, .int (x3)), (4, .int (x4)), (5, .int (x5)), (6, .int (x6))] [] σ) (x2 : Int32) (x3 : Int32) (x4 : Int32) (x5 : Int32) (x6 : Int32) (σ : St) (hw : wp_X0_troubleOf_b38 (aI Q) K38 x2 x3 x4 x5 x6 σ) : At X 7 38 [(0, .ref (X.kad 4)), (1, .ref (X.kad 20)), (2, .int (x2)), (3, .int (x3)), (4, .int (x4)), (5, .int (x5)), (6, .int (x6))] [] σ := by
  unfold wp_X0_troubleOf_b38 at hw
  refine r_iload 40 hX dX0_troubleOf_38 rfl 6 rfl ?_
  refine r_iload_n 41 hX dX0_troubleOf_40 rfl rfl 3 rfl ?_
  refine r_icmp_ge 84 44 hX dX0_troubleOf_41 (by decide) rfl hw (fun hw => ?_) (fun hw => ?_)
  · refine r_iconst 85 hX dX0_troubleOf_84 rfl 0 ic_0 ?_
    refine r_istore (lv' := [(6, .int (0)), (0, .ref (X.kad 4)), (1, .ref (X.kad 20)), (2, .int (x2)), (3, .int (x3)), (4, .int (x4)), (5, .int (x5))]) 87 hX dX0_troubleOf_85 rfl (by decide) rfl ?_
    refine r_sub [1, 2, 4, 5, 0] rfl ?_
    obtain ⟨n, hw⟩ := hw
    exact w_X0_troubleOf_l87 hX hR n _ _ _ _ hw
  · refine r_aload_n 45 hX dX0_troubleOf_44 rfl rfl 0 rfl ?_
    refine r_iload 47 hX dX0_troubleOf_45 rfl 6 rfl ?_
    refine r_iload 49 hX dX0_troubleOf_47 rfl 4 rfl ?_
    refine r_i2l 50 hX dX0_troubleOf_49 rfl ?_
    refine k_X0_16_X4_reaches 53 hX (by omega) (x6) (x4.toInt64) (Nat.le_of_ble_eq_true rfl) dX0_troubleOf_50 rfl hw (fun r50 σ50 hw => ?_)
    refine r_if_eq 78 56 hX dX0_troubleOf_53 (by decide) rfl hw (fun hw => ?_) (fun hw => ?_)
    · refine r_iinc (lv' := [(6, .int (x6 + 1)), (0, .ref (X.kad 4)), (1, .ref (X.kad 20)), (2, .int (x2)), (3, .int (x3)), (4, .int (x4)), (5, .int (x5))]) 81 hX dX0_troubleOf_78 rfl 6 rfl (x6 + 1) (ici_1 _) (by decide) rfl ?_
      refine r_goto 38 hX dX0_troubleOf_81 (by decide) ?_
      refine r_sub [1, 2, 3, 4, 5, 6, 0] rfl ?_
      exact hK38 _ _ _ _ _ _ hw
    · refine r_iload 58 hX dX0_troubleOf_56 rfl 5 rfl ?_
      refine r_aload_n 59 hX dX0_troubleOf_58 rfl rfl 1 rfl ?_
      refine g_X0_35_20 62 hX dX0_troubleOf_59 rfl ?_
      refine r_iload 64 hX dX0_troubleOf_62 rfl 6 rfl ?_
      refine r_aald 65 hX sh_21 dX0_troubleOf_64 rfl hw (fun hv64 hw => ?_)
      refine r_iload 67 hX dX0_troubleOf_65 rfl 4 rfl ?_
      refine r_iald 68 hX (shr_21 hv64) dX0_troubleOf_67 rfl hw (fun hw => ?_)
      refine r_isub 69 hX dX0_troubleOf_68 rfl ?_
      refine r_mabs 72 hX tw_72 tw_73 tw_74 tw_75 (Nat.le_of_ble_eq_true rfl) dX0_troubleOf_69 rfl ?_
      refine r_topi hw (fun v69 hw => ?_)
      refine r_iload_n 73 hX dX0_troubleOf_72 rfl rfl 2 rfl ?_
      refine r_icmp_gt 78 76 hX dX0_troubleOf_73 (by decide) rfl hw (fun hw => ?_) (fun hw => ?_)
      · refine r_iinc (lv' := [(6, .int (x6 + 1)), (0, .ref (X.kad 4)), (1, .ref (X.kad 20)), (2, .int (x2)), (3, .int (x3)), (4, .int (x4)), (5, .int (x5))]) 81 hX dX0_troubleOf_78 rfl 6 rfl (x6 + 1) (ici_1 _) (by decide) rfl ?_
        refine r_goto 38 hX dX0_troubleOf_81 (by decide) ?_
        refine r_sub [1, 2, 3, 4, 5, 6, 0] rfl ?_
        exact hK38 _ _ _ _ _ _ hw
      · refine r_iconst 77 hX dX0_troubleOf_76 rfl 3 ic_3 ?_
        exact r_iret hX hR dX0_troubleOf_77 hw
set_option maxRecDepth 20000 in
set_option maxHeartbeats 4000000 in
theorem w_X0_troubleOf_l38 {X : Cx} {Q : RV → St → Prop} (hX : CxB X RX0 cX0_troubleOf 7 (4)) (hR : CxR X (some .int) Q) (n : Nat) : ∀ (x2 : Int32) (x3 : Int32) (x4 : Int32) (x5 : Int32) (x6 : Int32) (σ : St), wp_X0_troubleOf_l38 (aI Q)  n x2 x3 x4 x5 x6 σ → At X 7 38 [(0, .ref (X.kad 4)), (1, .ref (X.kad 20)), (2, .int (x2)), (3, .int (x3)), (4, .int (x4)), (5, .int (x5)), (6, .int (x6))] [] σ := by
  induction n with
  | zero => intro x2 x3 x4 x5 x6 σ h; exact h.elim
  | succ n ih => intro x2 x3 x4 x5 x6 σ h; exact w_X0_troubleOf_b38  hX hR ih x2 x3 x4 x5 x6 σ h
set_option maxRecDepth 20000 in
set_option maxHeartbeats 4000000 in
theorem c_X0_troubleOf (x2 : Int32) (x3 : Int32) (x4 : Int32) : Con yX0_troubleOf cX0_troubleOf 7 (some .int) (4) (fun ad => [.ref (ad 4), .ref (ad 20), .int (x2), .int (x3), .int (x4)]) (fun Q σ => wp_X0_troubleOf x2 x3 x4 (aI Q) σ) := by
  refine con_intro (by decide +kernel) (fun _ => Nat.le_of_ble_eq_true rfl) (by omega) (fun X Q σ hX hR hw => ?_)
  have hX : CxB X RX0 cX0_troubleOf 7 (4) := hX
  unfold wp_X0_troubleOf at hw
  show At X 7 0 [(0, .ref (X.kad 4)), (1, .ref (X.kad 20)), (2, .int (x2)), (3, .int (x3)), (4, .int (x4))] [] σ
  refine r_aload_n 1 hX dX0_troubleOf_0 rfl rfl 1 rfl ?_
  refine g_X0_35_20 4 hX dX0_troubleOf_1 rfl ?_
  refine r_iload_n 5 hX dX0_troubleOf_4 rfl rfl 3 rfl ?_
  refine r_aald 6 hX sh_21 dX0_troubleOf_5 rfl hw (fun hv5 hw => ?_)
  refine r_iload 8 hX dX0_troubleOf_6 rfl 4 rfl ?_
  refine r_iald 9 hX (shr_21 hv5) dX0_troubleOf_8 rfl hw (fun hw => ?_)
  refine r_topi hw (fun v9 hw => ?_)
  refine r_istore (lv' := [(5, .int (v9)), (0, .ref (X.kad 4)), (1, .ref (X.kad 20)), (2, .int (x2)), (3, .int (x3)), (4, .int (x4))]) 11 hX dX0_troubleOf_9 rfl (by decide) rfl ?_
  refine r_aload_n 12 hX dX0_troubleOf_11 rfl rfl 1 rfl ?_
  refine r_iload 14 hX dX0_troubleOf_12 rfl 0 rfl ?_
  refine k_X0_41_X4_hasColumn 17 hX (by omega) (v9) (Nat.le_of_ble_eq_true rfl) dX0_troubleOf_14 rfl hw (fun r14 σ14 hw => ?_)
  refine r_if_ne 22 20 hX dX0_troubleOf_17 (by decide) rfl hw (fun hw => ?_) (fun hw => ?_)
  · refine r_aload_n 23 hX dX0_troubleOf_22 rfl rfl 1 rfl ?_
    refine r_iload 25 hX dX0_troubleOf_23 rfl 5 rfl ?_
    refine r_iload 27 hX dX0_troubleOf_25 rfl 0 rfl ?_
    refine k_X0_45_X4_isFree 30 hX (by omega) (x4) (v9) (Nat.le_of_ble_eq_true rfl) dX0_troubleOf_27 rfl hw (fun r27 σ27 hw => ?_)
    refine r_if_ne 35 33 hX dX0_troubleOf_30 (by decide) rfl hw (fun hw => ?_) (fun hw => ?_)
    · refine r_iconst 36 hX dX0_troubleOf_35 rfl 0 ic_0 ?_
      refine r_istore (lv' := [(6, .int (0)), (5, .int (v9)), (0, .ref (X.kad 4)), (1, .ref (X.kad 20)), (2, .int (x2)), (3, .int (x3)), (4, .int (x4))]) 38 hX dX0_troubleOf_36 rfl (by decide) rfl ?_
      refine r_sub [2, 3, 4, 5, 6, 1, 0] rfl ?_
      obtain ⟨n, hw⟩ := hw
      exact w_X0_troubleOf_l38 hX hR n _ _ _ _ _ _ hw
    · refine r_iconst 34 hX dX0_troubleOf_33 rfl 2 ic_2 ?_
      exact r_iret hX hR dX0_troubleOf_34 hw
  · refine r_iconst 21 hX dX0_troubleOf_20 rfl 1 ic_1 ?_
    exact r_iret hX hR dX0_troubleOf_21 hw
theorem k_X0_20_X0_troubleOf {X : Cx} {cc : ByteArray} {nL d pc : Nat} {lv : List (Nat × Value)} {rest : List Value} {σ : St} {K : Int32 → St → Prop} (q : Nat) (hX : CxB X RX0 cc nL d) (hdc : 4 + 1 ≤ d) (x2 : Int32) (x3 : Int32) (x4 : Int32) (hst : (rest.map fun v => v.category).sum ≤ 8) (hd : decode cc pc = .ok (.invokestatic 20, 3)) (hq : pc + 3 = q) (hw : wp_X0_troubleOf x2 x3 x4 K σ) (kk : ∀ (r : Int32) (τ : St), K r τ → At X nL q lv (.int r :: rest) τ) : At X nL pc lv (.int (x4) :: .int (x3) :: .int (x2) :: .ref (X.kad 20) :: .ref (X.kad 4) :: rest) σ := r_callS (n := 5) q hX (c_X0_troubleOf x2 x3 x4) tw_81 tw_82 tw_66 tw_83 ⟨by decide +kernel, by decide +kernel, by decide +kernel⟩ hdc (by decide) (As := [.ref (X.kad 4), .ref (X.kad 20), .int (x2), .int (x3), .int (x4)]) rfl rfl hst hd hq rfl (K := qI K) hw (kI kk)
set_option maxRecDepth 20000 in
set_option maxHeartbeats 4000000 in
theorem w_X0_findsNone_b51 {X : Cx} {Q : RV → St → Prop} (hX : CxB X RX0 cX0_findsNone 6 (5)) (hR : CxR X (some .boolean) Q) {K3 : Int32 → Int32 → St → Prop} (hK3 : ∀ (x3 : Int32) (x4 : Int32) (σ : St), K3 x3 x4 σ → At X 6 3 [(0, .ref (X.kad 27)), (1, .ref (X.kad 4)), (2, .ref (X.kad 20)), (3, .int (x3)), (4, .int (x4))] [] σ) {K15 : Int32 → Int32 → Int32 → St → Prop} (hK15 : ∀ (x3 : Int32) (x4 : Int32) (x5 : Int32) (σ : St), K15 x3 x4 x5 σ → At X 6 15 [(0, .ref (X.kad 27)), (1, .ref (X.kad 4)), (2, .ref (X.kad 20)), (3, .int (x3)), (4, .int (x4)), (5, .int (x5))] [] σ) (x3 : Int32) (x4 : Int32) (x5 : Int32) (s0 : Int32) (σ : St) (hw : wp_X0_findsNone_b51 (aI Q) K3 K15 x3 x4 x5 s0 σ) : At X 6 51 [(0, .ref (X.kad 27)), (1, .ref (X.kad 4)), (2, .ref (X.kad 20)), (3, .int (x3)), (4, .int (x4)), (5, .int (x5))] [.int (s0), .ref (X.kad 27)] σ := by
  unfold wp_X0_findsNone_b51 at hw
  refine p_X0_26_27 54 hX dX0_findsNone_51 rfl ?_
  refine r_aload_n 55 hX dX0_findsNone_54 rfl rfl 0 rfl ?_
  refine r_iload 57 hX dX0_findsNone_55 rfl 5 rfl ?_
  refine p_X0_29_27 60 hX dX0_findsNone_57 rfl ?_
  refine r_aload_n 61 hX dX0_findsNone_60 rfl rfl 0 rfl ?_
  refine r_iload 63 hX dX0_findsNone_61 rfl 4 rfl ?_
  refine p_X0_32_27 66 hX dX0_findsNone_63 rfl ?_
  refine r_aload_n 67 hX dX0_findsNone_66 rfl rfl 0 rfl ?_
  refine g_X0_26_27 70 hX dX0_findsNone_67 rfl ?_
  refine r_if_eq 75 73 hX dX0_findsNone_70 (by decide) rfl hw (fun hw => ?_) (fun hw => ?_)
  · refine r_iinc (lv' := [(5, .int (x5 + 1)), (0, .ref (X.kad 27)), (1, .ref (X.kad 4)), (2, .ref (X.kad 20)), (3, .int (x3)), (4, .int (x4))]) 78 hX dX0_findsNone_75 rfl 5 rfl (x5 + 1) (ici_1 _) (by decide) rfl ?_
    refine r_goto 15 hX dX0_findsNone_78 (by decide) ?_
    refine r_sub [1, 2, 3, 4, 5, 0] rfl ?_
    exact hK15 _ _ _ _ hw
  · refine r_iconst 74 hX dX0_findsNone_73 rfl 0 ic_0 ?_
    exact r_zret hX hR narrow_b0 dX0_findsNone_74 hw
set_option maxRecDepth 20000 in
set_option maxHeartbeats 4000000 in
theorem w_X0_findsNone_b15 {X : Cx} {Q : RV → St → Prop} (hX : CxB X RX0 cX0_findsNone 6 (5)) (hR : CxR X (some .boolean) Q) {K3 : Int32 → Int32 → St → Prop} (hK3 : ∀ (x3 : Int32) (x4 : Int32) (σ : St), K3 x3 x4 σ → At X 6 3 [(0, .ref (X.kad 27)), (1, .ref (X.kad 4)), (2, .ref (X.kad 20)), (3, .int (x3)), (4, .int (x4))] [] σ) {K15 : Int32 → Int32 → Int32 → St → Prop} (hK15 : ∀ (x3 : Int32) (x4 : Int32) (x5 : Int32) (σ : St), K15 x3 x4 x5 σ → At X 6 15 [(0, .ref (X.kad 27)), (1, .ref (X.kad 4)), (2, .ref (X.kad 20)), (3, .int (x3)), (4, .int (x4)), (5, .int (x5))] [] σ) (x3 : Int32) (x4 : Int32) (x5 : Int32) (σ : St) (hw : wp_X0_findsNone_b15 (aI Q) K3 K15 x3 x4 x5 σ) : At X 6 15 [(0, .ref (X.kad 27)), (1, .ref (X.kad 4)), (2, .ref (X.kad 20)), (3, .int (x3)), (4, .int (x4)), (5, .int (x5))] [] σ := by
  unfold wp_X0_findsNone_b15 at hw
  refine r_iload 17 hX dX0_findsNone_15 rfl 5 rfl ?_
  refine r_aload_n 18 hX dX0_findsNone_17 rfl rfl 1 rfl ?_
  refine g_X0_13_4 21 hX dX0_findsNone_18 rfl ?_
  refine r_icmp_ge 81 24 hX dX0_findsNone_21 (by decide) rfl hw (fun hw => ?_) (fun hw => ?_)
  · refine r_iinc (lv' := [(4, .int (x4 + 1)), (0, .ref (X.kad 27)), (1, .ref (X.kad 4)), (2, .ref (X.kad 20)), (3, .int (x3)), (5, .int (x5))]) 84 hX dX0_findsNone_81 rfl 4 rfl (x4 + 1) (ici_1 _) (by decide) rfl ?_
    refine r_goto 3 hX dX0_findsNone_84 (by decide) ?_
    refine r_sub [1, 2, 3, 4, 0] rfl ?_
    exact hK3 _ _ _ hw
  · refine r_aload_n 25 hX dX0_findsNone_24 rfl rfl 0 rfl ?_
    refine r_aload_n 26 hX dX0_findsNone_25 rfl rfl 1 rfl ?_
    refine r_iload 28 hX dX0_findsNone_26 rfl 5 rfl ?_
    refine r_iload 30 hX dX0_findsNone_28 rfl 4 rfl ?_
    refine r_i2l 31 hX dX0_findsNone_30 rfl ?_
    refine k_X0_16_X4_reaches 34 hX (by omega) (x5) (x4.toInt64) (Nat.le_of_ble_eq_true rfl) dX0_findsNone_31 rfl hw (fun r31 σ31 hw => ?_)
    refine r_if_eq 50 37 hX dX0_findsNone_34 (by decide) rfl hw (fun hw => ?_) (fun hw => ?_)
    · refine r_iconst 51 hX dX0_findsNone_50 rfl 0 ic_0 ?_
      exact w_X0_findsNone_b51 hX hR hK3 hK15 _ _ _ _ _ hw
    · refine r_aload_n 38 hX dX0_findsNone_37 rfl rfl 1 rfl ?_
      refine r_aload_n 39 hX dX0_findsNone_38 rfl rfl 2 rfl ?_
      refine r_iload_n 40 hX dX0_findsNone_39 rfl rfl 3 rfl ?_
      refine r_iload 42 hX dX0_findsNone_40 rfl 5 rfl ?_
      refine r_iload 44 hX dX0_findsNone_42 rfl 4 rfl ?_
      refine k_X0_20_X0_troubleOf 47 hX (by omega) (x3) (x5) (x4) (Nat.le_of_ble_eq_true rfl) dX0_findsNone_44 rfl hw (fun r44 σ44 hw => ?_)
      refine r_goto 51 hX dX0_findsNone_47 (by decide) ?_
      exact w_X0_findsNone_b51 hX hR hK3 hK15 _ _ _ _ _ hw
set_option maxRecDepth 20000 in
set_option maxHeartbeats 4000000 in
theorem w_X0_findsNone_l15 {X : Cx} {Q : RV → St → Prop} (hX : CxB X RX0 cX0_findsNone 6 (5)) (hR : CxR X (some .boolean) Q) {K3 : Int32 → Int32 → St → Prop} (hK3 : ∀ (x3 : Int32) (x4 : Int32) (σ : St), K3 x3 x4 σ → At X 6 3 [(0, .ref (X.kad 27)), (1, .ref (X.kad 4)), (2, .ref (X.kad 20)), (3, .int (x3)), (4, .int (x4))] [] σ) (n : Nat) : ∀ (x3 : Int32) (x4 : Int32) (x5 : Int32) (σ : St), wp_X0_findsNone_l15 (aI Q) K3 n x3 x4 x5 σ → At X 6 15 [(0, .ref (X.kad 27)), (1, .ref (X.kad 4)), (2, .ref (X.kad 20)), (3, .int (x3)), (4, .int (x4)), (5, .int (x5))] [] σ := by
  induction n with
  | zero => intro x3 x4 x5 σ h; exact h.elim
  | succ n ih => intro x3 x4 x5 σ h; exact w_X0_findsNone_b15  hX hR hK3 ih x3 x4 x5 σ h
set_option maxRecDepth 20000 in
set_option maxHeartbeats 4000000 in
theorem w_X0_findsNone_b3 {X : Cx} {Q : RV → St → Prop} (hX : CxB X RX0 cX0_findsNone 6 (5)) (hR : CxR X (some .boolean) Q) {K3 : Int32 → Int32 → St → Prop} (hK3 : ∀ (x3 : Int32) (x4 : Int32) (σ : St), K3 x3 x4 σ → At X 6 3 [(0, .ref (X.kad 27)), (1, .ref (X.kad 4)), (2, .ref (X.kad 20)), (3, .int (x3)), (4, .int (x4))] [] σ) (x3 : Int32) (x4 : Int32) (σ : St) (hw : wp_X0_findsNone_b3 (aI Q) K3 x3 x4 σ) : At X 6 3 [(0, .ref (X.kad 27)), (1, .ref (X.kad 4)), (2, .ref (X.kad 20)), (3, .int (x3)), (4, .int (x4))] [] σ := by
  unfold wp_X0_findsNone_b3 at hw
  refine r_iload 5 hX dX0_findsNone_3 rfl 4 rfl ?_
  refine r_aload_n 6 hX dX0_findsNone_5 rfl rfl 1 rfl ?_
  refine g_X0_7_4 9 hX dX0_findsNone_6 rfl ?_
  refine r_icmp_ge 87 12 hX dX0_findsNone_9 (by decide) rfl hw (fun hw => ?_) (fun hw => ?_)
  · refine r_iconst 88 hX dX0_findsNone_87 rfl 1 ic_1 ?_
    exact r_zret hX hR narrow_b1 dX0_findsNone_88 hw
  · refine r_iconst 13 hX dX0_findsNone_12 rfl 0 ic_0 ?_
    refine r_istore (lv' := [(5, .int (0)), (0, .ref (X.kad 27)), (1, .ref (X.kad 4)), (2, .ref (X.kad 20)), (3, .int (x3)), (4, .int (x4))]) 15 hX dX0_findsNone_13 rfl (by decide) rfl ?_
    refine r_sub [1, 2, 3, 4, 5, 0] rfl ?_
    obtain ⟨n, hw⟩ := hw
    exact w_X0_findsNone_l15 hX hR hK3 n _ _ _ _ hw
set_option maxRecDepth 20000 in
set_option maxHeartbeats 4000000 in
theorem w_X0_findsNone_l3 {X : Cx} {Q : RV → St → Prop} (hX : CxB X RX0 cX0_findsNone 6 (5)) (hR : CxR X (some .boolean) Q) (n : Nat) : ∀ (x3 : Int32) (x4 : Int32) (σ : St), wp_X0_findsNone_l3 (aI Q)  n x3 x4 σ → At X 6 3 [(0, .ref (X.kad 27)), (1, .ref (X.kad 4)), (2, .ref (X.kad 20)), (3, .int (x3)), (4, .int (x4))] [] σ := by
  induction n with
  | zero => intro x3 x4 σ h; exact h.elim
  | succ n ih => intro x3 x4 σ h; exact w_X0_findsNone_b3  hX hR ih x3 x4 σ h
set_option maxRecDepth 20000 in
set_option maxHeartbeats 4000000 in
theorem c_X0_findsNone (x3 : Int32) : Con yX0_findsNone cX0_findsNone 6 (some .boolean) (5) (fun ad => [.ref (ad 27), .ref (ad 4), .ref (ad 20), .int (x3)]) (fun Q σ => wp_X0_findsNone x3 (aI Q) σ) := by
  refine con_intro (by decide +kernel) (fun _ => Nat.le_of_ble_eq_true rfl) (by omega) (fun X Q σ hX hR hw => ?_)
  have hX : CxB X RX0 cX0_findsNone 6 (5) := hX
  unfold wp_X0_findsNone at hw
  show At X 6 0 [(0, .ref (X.kad 27)), (1, .ref (X.kad 4)), (2, .ref (X.kad 20)), (3, .int (x3))] [] σ
  refine r_iconst 1 hX dX0_findsNone_0 rfl 0 ic_0 ?_
  refine r_istore (lv' := [(4, .int (0)), (0, .ref (X.kad 27)), (1, .ref (X.kad 4)), (2, .ref (X.kad 20)), (3, .int (x3))]) 3 hX dX0_findsNone_1 rfl (by decide) rfl ?_
  refine r_sub [1, 2, 3, 4, 0] rfl ?_
  obtain ⟨n, hw⟩ := hw
  exact w_X0_findsNone_l3 hX hR n _ _ _ hw
