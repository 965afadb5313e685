set_option maxRecDepth 20000 in
set_option maxHeartbeats 4000000 in
theorem c_X7_in (x0 : Int32) (x1 : Int32) (x2 : Int32) : Con yX7_in cX7_in 3 (some .boolean) (1) (fun ad => [.int (x0), .int (x1), .int (x2)]) (fun Q σ => wp_X7_in x0 x1 x2 (aI Q) σ) := by
  refine con_intro (by decide +kernel) (fun _ => Nat.le_of_ble_eq_true rfl) (by omega) (fun X Q σ hX hR hw => ?_)
  have hX : CxB X RX7 cX7_in 3 (1) := hX
  unfold wp_X7_in at hw
  show At X 3 0 [(0, .int (x0)), (1, .int (x1)), (2, .int (x2))] [] σ
  refine r_iload_n 1 hX dX7_in_0 rfl rfl 0 rfl ?_
  refine r_iload_n 2 hX dX7_in_1 rfl rfl 1 rfl ?_
  refine r_icmp_lt 14 5 hX dX7_in_2 (by decide) rfl hw (fun hw => ?_) (fun hw => ?_)
  · refine r_iconst 15 hX dX7_in_14 rfl 0 ic_0 ?_
    exact r_zret hX hR narrow_b0 dX7_in_15 hw
  · refine r_iload_n 6 hX dX7_in_5 rfl rfl 0 rfl ?_
    refine r_iload_n 7 hX dX7_in_6 rfl rfl 2 rfl ?_
    refine r_icmp_gt 14 10 hX dX7_in_7 (by decide) rfl hw (fun hw => ?_) (fun hw => ?_)
    · refine r_iconst 15 hX dX7_in_14 rfl 0 ic_0 ?_
      exact r_zret hX hR narrow_b0 dX7_in_15 hw
    · refine r_iconst 11 hX dX7_in_10 rfl 1 ic_1 ?_
      refine r_goto 15 hX dX7_in_11 (by decide) ?_
      exact r_zret hX hR narrow_b1 dX7_in_15 hw
theorem k_X7_85_X7_in {X : Cx} {cc : ByteArray} {nL d pc : Nat} {lv : List (Nat × Value)} {rest : List Value} {σ : St} {K : Int32 → St → Prop} (q : Nat) (hX : CxB X RX7 cc nL d) (hdc : 1 + 1 ≤ d) (x0 : Int32) (x1 : Int32) (x2 : Int32) (hst : (rest.map fun v => v.category).sum ≤ 8) (hd : decode cc pc = .ok (.invokestatic 85, 3)) (hq : pc + 3 = q) (hw : wp_X7_in x0 x1 x2 K σ) (kk : ∀ (r : Int32) (τ : St), K r τ → At X nL q lv (.int r :: rest) τ) : At X nL pc lv (.int (x2) :: .int (x1) :: .int (x0) :: rest) σ := r_callS (n := 3) q hX (c_X7_in x0 x1 x2) tw_515 tw_516 tw_517 tw_518 ⟨by decide +kernel, by decide +kernel, by decide +kernel⟩ hdc (by decide) (As := [.int (x0), .int (x1), .int (x2)]) rfl rfl hst hd hq rfl (K := qI K) hw (kI kk)
set_option maxRecDepth 20000 in
set_option maxHeartbeats 4000000 in
theorem w_X7_type_b32 {X : Cx} {Q : RV → St → Prop} (hX : CxB X RX7 cX7_type 5 (2)) (hR : CxR X (some .int) Q) {K32 : Int64 → Int32 → St → Prop} (hK32 : ∀ (x1 : Int64) (x4 : Int32) (σ : St), K32 x1 x4 σ → At X 5 32 [(0, .ref (X.kad 75)), (1, .long (x1)), (4, .int (x4))] [] σ) (x1 : Int64) (x4 : Int32) (σ : St) (hw : wp_X7_type_b32 (aI Q) K32 x1 x4 σ) : At X 5 32 [(0, .ref (X.kad 75)), (1, .long (x1)), (4, .int (x4))] [] σ := by
  unfold wp_X7_type_b32 at hw
  refine r_iload 34 hX dX7_type_32 rfl 2 rfl ?_
  refine r_if_lt 75 37 hX dX7_type_34 (by decide) rfl hw (fun hw => ?_) (fun hw => ?_)
  · refine r_aload_n 76 hX dX7_type_75 rfl rfl 0 rfl ?_
    refine g_X7_89_75 79 hX dX7_type_76 rfl ?_
    exact r_iret hX hR dX7_type_79 hw
  · refine r_aload_n 38 hX dX7_type_37 rfl rfl 0 rfl ?_
    refine g_X7_7_75 41 hX dX7_type_38 rfl ?_
    refine r_aload_n 42 hX dX7_type_41 rfl rfl 0 rfl ?_
    refine g_X7_89_75 45 hX dX7_type_42 rfl ?_
    refine r_lload_n 46 hX dX7_type_45 rfl rfl 1 rfl ?_
    refine r_bipush 48 hX dX7_type_46 rfl 8 bi_8 ?_
    refine r_iload 50 hX dX7_type_48 rfl 2 rfl ?_
    refine r_imul 51 hX dX7_type_50 rfl ?_
    refine r_lshr 52 hX dX7_type_51 rfl ?_
    refine r_ldc2 55 hX 255 tw_521 dX7_type_52 rfl ?_
    refine r_land 56 hX dX7_type_55 rfl ?_
    refine r_l2i 57 hX dX7_type_56 rfl ?_
    refine r_i2b 58 hX dX7_type_57 rfl ?_
    refine r_bast 59 hX sh_76 dX7_type_58 rfl hw (fun hw => ?_)
    refine r_aload_n 60 hX dX7_type_59 rfl rfl 0 rfl ?_
    refine r_dup 61 hX dX7_type_60 rfl rfl ?_
    refine g_X7_89_75 64 hX dX7_type_61 rfl ?_
    refine r_iconst 65 hX dX7_type_64 rfl 1 ic_1 ?_
    refine r_iadd 66 hX dX7_type_65 rfl ?_
    refine p_X7_89_75 69 hX dX7_type_66 rfl ?_
    refine r_iinc (lv' := [(4, .int (x4 + (-1))), (0, .ref (X.kad 75)), (1, .long (x1))]) 72 hX dX7_type_69 rfl 2 rfl (x4 + (-1)) (ici_m1 _) (by decide) rfl ?_
    refine r_goto 32 hX dX7_type_72 (by decide) ?_
    refine r_sub [1, 2, 0] rfl ?_
    exact hK32 _ _ _ hw
set_option maxRecDepth 20000 in
set_option maxHeartbeats 4000000 in
theorem w_X7_type_l32 {X : Cx} {Q : RV → St → Prop} (hX : CxB X RX7 cX7_type 5 (2)) (hR : CxR X (some .int) Q) (n : Nat) : ∀ (x1 : Int64) (x4 : Int32) (σ : St), wp_X7_type_l32 (aI Q)  n x1 x4 σ → At X 5 32 [(0, .ref (X.kad 75)), (1, .long (x1)), (4, .int (x4))] [] σ := by
  induction n with
  | zero => intro x1 x4 σ h; exact h.elim
  | succ n ih => intro x1 x4 σ h; exact w_X7_type_b32  hX hR ih x1 x4 σ h
set_option maxRecDepth 20000 in
set_option maxHeartbeats 4000000 in
theorem c_X7_type (x1 : Int64) (x3 : Int32) : Con yX7_type cX7_type 5 (some .int) (2) (fun ad => [.ref (ad 75), .long (x1), .int (x3)]) (fun Q σ => wp_X7_type x1 x3 (aI Q) σ) := by
  refine con_intro (by decide +kernel) (fun _ => Nat.le_of_ble_eq_true rfl) (by omega) (fun X Q σ hX hR hw => ?_)
  have hX : CxB X RX7 cX7_type 5 (2) := hX
  unfold wp_X7_type at hw
  show At X 5 0 [(0, .ref (X.kad 75)), (1, .long (x1)), (3, .int (x3))] [] σ
  refine r_iload_n 1 hX dX7_type_0 rfl rfl 2 rfl ?_
  refine r_iconst 2 hX dX7_type_1 rfl 1 ic_1 ?_
  refine r_bipush 4 hX dX7_type_2 rfl 8 bi_8 ?_
  refine k_X7_85_X7_in 7 hX (by omega) (x3) (1) (8) (Nat.le_of_ble_eq_true rfl) dX7_type_4 rfl hw (fun r4 σ4 hw => ?_)
  refine r_if_ne 12 10 hX dX7_type_7 (by decide) rfl hw (fun hw => ?_) (fun hw => ?_)
  · refine r_aload_n 13 hX dX7_type_12 rfl rfl 0 rfl ?_
    refine g_X7_89_75 16 hX dX7_type_13 rfl ?_
    refine r_iload_n 17 hX dX7_type_16 rfl rfl 2 rfl ?_
    refine r_iadd 18 hX dX7_type_17 rfl ?_
    refine r_sipush 21 hX dX7_type_18 rfl 300 si_300 ?_
    refine r_icmp_le 27 24 hX dX7_type_21 (by decide) rfl hw (fun hw => ?_) (fun hw => ?_)
    · refine r_iload_n 28 hX dX7_type_27 rfl rfl 2 rfl ?_
      refine r_iconst 29 hX dX7_type_28 rfl 1 ic_1 ?_
      refine r_isub 30 hX dX7_type_29 rfl ?_
      refine r_istore (lv' := [(4, .int (x3 - 1)), (0, .ref (X.kad 75)), (1, .long (x1)), (3, .int (x3))]) 32 hX dX7_type_30 rfl (by decide) rfl ?_
      refine r_sub [1, 2, 0] rfl ?_
      obtain ⟨n, hw⟩ := hw
      exact w_X7_type_l32 hX hR n _ _ _ hw
    · refine r_bipush 26 hX dX7_type_24 rfl (-3) bi_m3 ?_
      exact r_iret hX hR dX7_type_26 hw
  · refine r_iconst 11 hX dX7_type_10 rfl (-1) ic_m1 ?_
    exact r_iret hX hR dX7_type_11 hw
set_option maxRecDepth 20000 in
set_option maxHeartbeats 4000000 in
theorem c_X7_clear : Con yX7_clear cX7_clear 2 (some .int) (1) (fun ad => [.ref (ad 75)]) (fun Q σ => wp_X7_clear  (aI Q) σ) := by
  refine con_intro (by decide +kernel) (fun _ => Nat.le_of_ble_eq_true rfl) (by omega) (fun X Q σ hX hR hw => ?_)
  have hX : CxB X RX7 cX7_clear 2 (1) := hX
  unfold wp_X7_clear at hw
  show At X 2 0 [(0, .ref (X.kad 75))] [] σ
  refine r_aload_n 1 hX dX7_clear_0 rfl rfl 0 rfl ?_
  refine g_X7_89_75 4 hX dX7_clear_1 rfl ?_
  refine r_istore_n (lv' := [(1, .int (σ.1 75 2)), (0, .ref (X.kad 75))]) 5 hX dX7_clear_4 rfl rfl (by decide) rfl ?_
  refine r_aload_n 6 hX dX7_clear_5 rfl rfl 1 rfl ?_
  refine r_iconst 7 hX dX7_clear_6 rfl 0 ic_0 ?_
  refine p_X7_89_75 10 hX dX7_clear_7 rfl ?_
  refine r_iload_n 11 hX dX7_clear_10 rfl rfl 0 rfl ?_
  exact r_iret hX hR dX7_clear_11 hw
set_option maxRecDepth 20000 in
set_option maxHeartbeats 4000000 in
theorem c_X7_here : Con yX7_here cX7_here 1 (some .int) (1) (fun ad => [.ref (ad 75)]) (fun Q σ => wp_X7_here  (aI Q) σ) := by
  refine con_intro (by decide +kernel) (fun _ => Nat.le_of_ble_eq_true rfl) (by omega) (fun X Q σ hX hR hw => ?_)
  have hX : CxB X RX7 cX7_here 1 (1) := hX
  unfold wp_X7_here at hw
  show At X 1 0 [(0, .ref (X.kad 75))] [] σ
  refine r_aload_n 1 hX dX7_here_0 rfl rfl 0 rfl ?_
  refine g_X7_95_75 4 hX dX7_here_1 rfl ?_
  refine r_aload_n 5 hX dX7_here_4 rfl rfl 0 rfl ?_
  refine g_X7_89_75 8 hX dX7_here_5 rfl ?_
  refine r_icmp_ge 27 11 hX dX7_here_8 (by decide) rfl hw (fun hw => ?_) (fun hw => ?_)
  · refine r_iconst 28 hX dX7_here_27 rfl (-1) ic_m1 ?_
    exact r_iret hX hR dX7_here_28 hw
  · refine r_aload_n 12 hX dX7_here_11 rfl rfl 0 rfl ?_
    refine g_X7_7_75 15 hX dX7_here_12 rfl ?_
    refine r_aload_n 16 hX dX7_here_15 rfl rfl 0 rfl ?_
    refine g_X7_95_75 19 hX dX7_here_16 rfl ?_
    refine r_bald 20 hX sh_76 dX7_here_19 rfl hw (fun hw => ?_)
    refine r_sipush 23 hX dX7_here_20 rfl 255 si_255 ?_
    refine r_iand 24 hX dX7_here_23 rfl ?_
    refine r_goto 28 hX dX7_here_24 (by decide) ?_
    exact r_iret hX hR dX7_here_28 hw
theorem k_X7_98_X7_here {X : Cx} {cc : ByteArray} {nL d pc : Nat} {lv : List (Nat × Value)} {rest : List Value} {σ : St} {K : Int32 → St → Prop} (q : Nat) (hX : CxB X RX7 cc nL d) (hdc : 1 + 1 ≤ d) (hst : (rest.map fun v => v.category).sum ≤ 8) (hd : decode cc pc = .ok (.invokevirtual 98, 3)) (hq : pc + 3 = q) (hw : wp_X7_here  K σ) (kk : ∀ (r : Int32) (τ : St), K r τ → At X nL q lv (.int r :: rest) τ) : At X nL pc lv (.ref (X.kad 75) :: rest) σ := r_callV (n := 0) q hX (k0 := 75) (c_X7_here ) tw_523 tw_524 tw_525 tw_517 tw_526 ⟨by decide +kernel, by decide +kernel, by decide +kernel⟩ hdc (by decide) (As := []) rfl rfl (by decide) ⟨_, _, _, rfl, rfl, rfl⟩ hst hd hq rfl (K := qI K) hw (kI kk)
set_option maxRecDepth 20000 in
set_option maxHeartbeats 4000000 in
theorem w_X7_next_b294 {X : Cx} {Q : RV → St → Prop} (hX : CxB X RX7 cX7_next 3 (2)) (hR : CxR X (none) Q) (σ : St) (hw : wp_X7_next_b294 (aV Q)   σ) : At X 3 294 [] [.ref (X.kad 75)] σ := by
  unfold wp_X7_next_b294 at hw
  refine r_bipush 296 hX dX7_next_294 rfl 7 bi_7 ?_
  refine r_goto 300 hX dX7_next_296 (by decide) ?_
  refine p_X7_108_75 303 hX dX7_next_300 rfl ?_
  refine r_goto 333 hX dX7_next_303 (by decide) ?_
  exact r_vret hX hR dX7_next_333 hw
set_option maxRecDepth 20000 in
set_option maxHeartbeats 4000000 in
theorem w_X7_next_b299 {X : Cx} {Q : RV → St → Prop} (hX : CxB X RX7 cX7_next 3 (2)) (hR : CxR X (none) Q) (σ : St) (hw : wp_X7_next_b299 (aV Q)   σ) : At X 3 299 [] [.ref (X.kad 75)] σ := by
  unfold wp_X7_next_b299 at hw
  refine r_iconst 300 hX dX7_next_299 rfl 5 ic_5 ?_
  refine p_X7_108_75 303 hX dX7_next_300 rfl ?_
  refine r_goto 333 hX dX7_next_303 (by decide) ?_
  exact r_vret hX hR dX7_next_333 hw
set_option maxRecDepth 20000 in
set_option maxHeartbeats 4000000 in
theorem w_X7_next_b249 {X : Cx} {Q : RV → St → Prop} (hX : CxB X RX7 cX7_next 3 (2)) (hR : CxR X (none) Q) {K203 : Int32 → St → Prop} (hK203 : ∀ (x1 : Int32) (σ : St), K203 x1 σ → At X 3 203 [(0, .ref (X.kad 75)), (1, .int (x1))] [] σ) (x1 : Int32) (s0 : Int32) (σ : St) (hw : wp_X7_next_b249 (aV Q) K203 x1 s0 σ) : At X 3 249 [(0, .ref (X.kad 75)), (1, .int (x1))] [.int (s0), .ref (X.kad 75)] σ := by
  unfold wp_X7_next_b249 at hw
  refine p_X7_105_75 252 hX dX7_next_249 rfl ?_
  refine r_aload_n 253 hX dX7_next_252 rfl rfl 0 rfl ?_
  refine r_dup 254 hX dX7_next_253 rfl rfl ?_
  refine g_X7_95_75 257 hX dX7_next_254 rfl ?_
  refine r_iconst 258 hX dX7_next_257 rfl 1 ic_1 ?_
  refine r_iadd 259 hX dX7_next_258 rfl ?_
  refine p_X7_95_75 262 hX dX7_next_259 rfl ?_
  refine r_goto 203 hX dX7_next_262 (by decide) ?_
  exact hK203 _ _ hw
set_option maxRecDepth 20000 in
set_option maxHeartbeats 4000000 in
theorem w_X7_next_b203 {X : Cx} {Q : RV → St → Prop} (hX : CxB X RX7 cX7_next 3 (2)) (hR : CxR X (none) Q) {K203 : Int32 → St → Prop} (hK203 : ∀ (x1 : Int32) (σ : St), K203 x1 σ → At X 3 203 [(0, .ref (X.kad 75)), (1, .int (x1))] [] σ) (x1 : Int32) (σ : St) (hw : wp_X7_next_b203 (aV Q) K203 x1 σ) : At X 3 203 [(0, .ref (X.kad 75)), (1, .int (x1))] [] σ := by
  unfold wp_X7_next_b203 at hw
  refine r_aload_n 204 hX dX7_next_203 rfl rfl 0 rfl ?_
  refine k_X7_98_X7_here 207 hX (by omega)  (Nat.le_of_ble_eq_true rfl) dX7_next_204 rfl hw (fun r204 σ204 hw => ?_)
  refine r_bipush 209 hX dX7_next_207 rfl 48 bi_48 ?_
  refine r_bipush 211 hX dX7_next_209 rfl 57 bi_57 ?_
  refine k_X7_85_X7_in 214 hX (by omega) (r204) (48) (57) (Nat.le_of_ble_eq_true rfl) dX7_next_211 rfl hw (fun r211 σ211 hw => ?_)
  refine r_if_eq 265 217 hX dX7_next_214 (by decide) rfl hw (fun hw => ?_) (fun hw => ?_)
  · refine r_aload_n 266 hX dX7_next_265 rfl rfl 0 rfl ?_
    refine r_aload_n 267 hX dX7_next_266 rfl rfl 0 rfl ?_
    refine g_X7_105_75 270 hX dX7_next_267 rfl ?_
    refine r_bipush 272 hX dX7_next_270 rfl 99 bi_99 ?_
    refine r_icmp_gt 294 275 hX dX7_next_272 (by decide) rfl hw (fun hw => ?_) (fun hw => ?_)
    · refine r_sub [] rfl ?_
      exact w_X7_next_b294 hX hR _ hw
    · refine r_iload_n 276 hX dX7_next_275 rfl rfl 1 rfl ?_
      refine r_bipush 278 hX dX7_next_276 rfl 48 bi_48 ?_
      refine r_icmp_ne 299 281 hX dX7_next_278 (by decide) rfl hw (fun hw => ?_) (fun hw => ?_)
      · refine r_sub [] rfl ?_
        exact w_X7_next_b299 hX hR _ hw
      · refine r_aload_n 282 hX dX7_next_281 rfl rfl 0 rfl ?_
        refine g_X7_95_75 285 hX dX7_next_282 rfl ?_
        refine r_aload_n 286 hX dX7_next_285 rfl rfl 0 rfl ?_
        refine g_X7_102_75 289 hX dX7_next_286 rfl ?_
        refine r_isub 290 hX dX7_next_289 rfl ?_
        refine r_iconst 291 hX dX7_next_290 rfl 1 ic_1 ?_
        refine r_icmp_le 299 294 hX dX7_next_291 (by decide) rfl hw (fun hw => ?_) (fun hw => ?_)
        · refine r_sub [] rfl ?_
          exact w_X7_next_b299 hX hR _ hw
        · refine r_sub [] rfl ?_
          exact w_X7_next_b294 hX hR _ hw
  · refine r_aload_n 218 hX dX7_next_217 rfl rfl 0 rfl ?_
    refine r_aload_n 219 hX dX7_next_218 rfl rfl 0 rfl ?_
    refine g_X7_105_75 222 hX dX7_next_219 rfl ?_
    refine r_bipush 224 hX dX7_next_222 rfl 99 bi_99 ?_
    refine r_icmp_le 234 227 hX dX7_next_224 (by decide) rfl hw (fun hw => ?_) (fun hw => ?_)
    · refine r_bipush 236 hX dX7_next_234 rfl 10 bi_10 ?_
      refine r_aload_n 237 hX dX7_next_236 rfl rfl 0 rfl ?_
      refine g_X7_105_75 240 hX dX7_next_237 rfl ?_
      refine r_imul 241 hX dX7_next_240 rfl ?_
      refine r_aload_n 242 hX dX7_next_241 rfl rfl 0 rfl ?_
      refine k_X7_98_X7_here 245 hX (by omega)  (Nat.le_of_ble_eq_true rfl) dX7_next_242 rfl hw (fun r242 σ242 hw => ?_)
      refine r_iadd 246 hX dX7_next_245 rfl ?_
      refine r_bipush 248 hX dX7_next_246 rfl 48 bi_48 ?_
      refine r_isub 249 hX dX7_next_248 rfl ?_
      exact w_X7_next_b249 hX hR hK203 _ _ _ hw
    · refine r_aload_n 228 hX dX7_next_227 rfl rfl 0 rfl ?_
      refine g_X7_105_75 231 hX dX7_next_228 rfl ?_
      refine r_goto 249 hX dX7_next_231 (by decide) ?_
      exact w_X7_next_b249 hX hR hK203 _ _ _ hw
set_option maxRecDepth 20000 in
set_option maxHeartbeats 4000000 in
theorem w_X7_next_l203 {X : Cx} {Q : RV → St → Prop} (hX : CxB X RX7 cX7_next 3 (2)) (hR : CxR X (none) Q) (n : Nat) : ∀ (x1 : Int32) (σ : St), wp_X7_next_l203 (aV Q)  n x1 σ → At X 3 203 [(0, .ref (X.kad 75)), (1, .int (x1))] [] σ := by
  induction n with
  | zero => intro x1 σ h; exact h.elim
  | succ n ih => intro x1 σ h; exact w_X7_next_b203  hX hR ih x1 σ h
set_option maxRecDepth 20000 in
set_option maxHeartbeats 4000000 in
theorem w_X7_next_b142 {X : Cx} {Q : RV → St → Prop} (hX : CxB X RX7 cX7_next 3 (2)) (hR : CxR X (none) Q) (s0 : Int32) (σ : St) (hw : wp_X7_next_b142 (aV Q)  s0 σ) : At X 3 142 [(0, .ref (X.kad 75))] [.int (s0)] σ := by
  unfold wp_X7_next_b142 at hw
  refine r_istore_n (lv' := [(2, .int (s0)), (0, .ref (X.kad 75))]) 143 hX dX7_next_142 rfl rfl (by decide) rfl ?_
  refine r_aload_n 144 hX dX7_next_143 rfl rfl 1 rfl ?_
  refine r_iload_n 145 hX dX7_next_144 rfl rfl 0 rfl ?_
  refine r_ldc 147 hX 381245 tw_530 dX7_next_145 rfl ?_
  refine r_icmp_ne 154 150 hX dX7_next_147 (by decide) rfl hw (fun hw => ?_) (fun hw => ?_)
  · refine r_iload_n 155 hX dX7_next_154 rfl rfl 0 rfl ?_
    refine r_ldc 157 hX 43051 tw_531 dX7_next_155 rfl ?_
    refine r_icmp_ne 164 160 hX dX7_next_157 (by decide) rfl hw (fun hw => ?_) (fun hw => ?_)
    · refine r_iload_n 165 hX dX7_next_164 rfl rfl 0 rfl ?_
      refine r_ldc 167 hX 70312 tw_532 dX7_next_165 rfl ?_
      refine r_icmp_ne 174 170 hX dX7_next_167 (by decide) rfl hw (fun hw => ?_) (fun hw => ?_)
      · refine r_iload_n 175 hX dX7_next_174 rfl rfl 0 rfl ?_
        refine r_ldc 177 hX 117481814 tw_533 dX7_next_175 rfl ?_
        refine r_icmp_ne 184 180 hX dX7_next_177 (by decide) rfl hw (fun hw => ?_) (fun hw => ?_)
        · refine r_bipush 186 hX dX7_next_184 rfl 7 bi_7 ?_
          refine p_X7_108_75 189 hX dX7_next_186 rfl ?_
          refine r_goto 333 hX dX7_next_189 (by decide) ?_
          exact r_vret hX hR dX7_next_333 hw
        · refine r_iconst 181 hX dX7_next_180 rfl 4 ic_4 ?_
          refine r_goto 186 hX dX7_next_181 (by decide) ?_
          refine p_X7_108_75 189 hX dX7_next_186 rfl ?_
          refine r_goto 333 hX dX7_next_189 (by decide) ?_
          exact r_vret hX hR dX7_next_333 hw
      · refine r_iconst 171 hX dX7_next_170 rfl 3 ic_3 ?_
        refine r_goto 186 hX dX7_next_171 (by decide) ?_
        refine p_X7_108_75 189 hX dX7_next_186 rfl ?_
        refine r_goto 333 hX dX7_next_189 (by decide) ?_
        exact r_vret hX hR dX7_next_333 hw
    · refine r_iconst 161 hX dX7_next_160 rfl 2 ic_2 ?_
      refine r_goto 186 hX dX7_next_161 (by decide) ?_
      refine p_X7_108_75 189 hX dX7_next_186 rfl ?_
      refine r_goto 333 hX dX7_next_189 (by decide) ?_
      exact r_vret hX hR dX7_next_333 hw
  · refine r_iconst 151 hX dX7_next_150 rfl 1 ic_1 ?_
    refine r_goto 186 hX dX7_next_151 (by decide) ?_
    refine p_X7_108_75 189 hX dX7_next_186 rfl ?_
    refine r_goto 333 hX dX7_next_189 (by decide) ?_
    exact r_vret hX hR dX7_next_333 hw
set_option maxRecDepth 20000 in
set_option maxHeartbeats 4000000 in
theorem w_X7_next_b109 {X : Cx} {Q : RV → St → Prop} (hX : CxB X RX7 cX7_next 3 (2)) (hR : CxR X (none) Q) {K65 : Int32 → St → Prop} (hK65 : ∀ (x2 : Int32) (σ : St), K65 x2 σ → At X 3 65 [(0, .ref (X.kad 75)), (2, .int (x2))] [] σ) (s0 : Int32) (σ : St) (hw : wp_X7_next_b109 (aV Q) K65 s0 σ) : At X 3 109 [(0, .ref (X.kad 75))] [.int (s0)] σ := by
  unfold wp_X7_next_b109 at hw
  refine r_istore_n (lv' := [(2, .int (s0)), (0, .ref (X.kad 75))]) 110 hX dX7_next_109 rfl rfl (by decide) rfl ?_
  refine r_aload_n 111 hX dX7_next_110 rfl rfl 1 rfl ?_
  refine r_dup 112 hX dX7_next_111 rfl rfl ?_
  refine g_X7_95_75 115 hX dX7_next_112 rfl ?_
  refine r_iconst 116 hX dX7_next_115 rfl 1 ic_1 ?_
  refine r_iadd 117 hX dX7_next_116 rfl ?_
  refine p_X7_95_75 120 hX dX7_next_117 rfl ?_
  refine r_goto 65 hX dX7_next_120 (by decide) ?_
  refine r_sub [1, 0] rfl ?_
  exact hK65 _ _ hw
set_option maxRecDepth 20000 in
set_option maxHeartbeats 4000000 in
theorem w_X7_next_b65 {X : Cx} {Q : RV → St → Prop} (hX : CxB X RX7 cX7_next 3 (2)) (hR : CxR X (none) Q) {K65 : Int32 → St → Prop} (hK65 : ∀ (x2 : Int32) (σ : St), K65 x2 σ → At X 3 65 [(0, .ref (X.kad 75)), (2, .int (x2))] [] σ) (x2 : Int32) (σ : St) (hw : wp_X7_next_b65 (aV Q) K65 x2 σ) : At X 3 65 [(0, .ref (X.kad 75)), (2, .int (x2))] [] σ := by
  unfold wp_X7_next_b65 at hw
  refine r_aload_n 66 hX dX7_next_65 rfl rfl 0 rfl ?_
  refine k_X7_98_X7_here 69 hX (by omega)  (Nat.le_of_ble_eq_true rfl) dX7_next_66 rfl hw (fun r66 σ66 hw => ?_)
  refine r_bipush 71 hX dX7_next_69 rfl 97 bi_97 ?_
  refine r_bipush 73 hX dX7_next_71 rfl 122 bi_122 ?_
  refine k_X7_85_X7_in 76 hX (by omega) (r66) (97) (122) (Nat.le_of_ble_eq_true rfl) dX7_next_73 rfl hw (fun r73 σ73 hw => ?_)
  refine r_if_eq 123 79 hX dX7_next_76 (by decide) rfl hw (fun hw => ?_) (fun hw => ?_)
  · refine r_aload_n 124 hX dX7_next_123 rfl rfl 0 rfl ?_
    refine g_X7_95_75 127 hX dX7_next_124 rfl ?_
    refine r_aload_n 128 hX dX7_next_127 rfl rfl 0 rfl ?_
    refine g_X7_102_75 131 hX dX7_next_128 rfl ?_
    refine r_isub 132 hX dX7_next_131 rfl ?_
    refine r_bipush 134 hX dX7_next_132 rfl 6 bi_6 ?_
    refine r_icmp_le 141 137 hX dX7_next_134 (by decide) rfl hw (fun hw => ?_) (fun hw => ?_)
    · refine r_iload_n 142 hX dX7_next_141 rfl rfl 1 rfl ?_
      refine r_sub [0] rfl ?_
      exact w_X7_next_b142 hX hR _ _ hw
    · refine r_iconst 138 hX dX7_next_137 rfl 0 ic_0 ?_
      refine r_goto 142 hX dX7_next_138 (by decide) ?_
      refine r_sub [0] rfl ?_
      exact w_X7_next_b142 hX hR _ _ hw
  · refine r_aload_n 80 hX dX7_next_79 rfl rfl 0 rfl ?_
    refine g_X7_95_75 83 hX dX7_next_80 rfl ?_
    refine r_aload_n 84 hX dX7_next_83 rfl rfl 0 rfl ?_
    refine g_X7_102_75 87 hX dX7_next_84 rfl ?_
    refine r_isub 88 hX dX7_next_87 rfl ?_
    refine r_bipush 90 hX dX7_next_88 rfl 6 bi_6 ?_
    refine r_icmp_ge 108 93 hX dX7_next_90 (by decide) rfl hw (fun hw => ?_) (fun hw => ?_)
    · refine r_iconst 109 hX dX7_next_108 rfl 0 ic_0 ?_
      refine r_sub [0] rfl ?_
      exact w_X7_next_b109 hX hR hK65 _ _ hw
    · refine r_bipush 95 hX dX7_next_93 rfl 27 bi_27 ?_
      refine r_iload_n 96 hX dX7_next_95 rfl rfl 1 rfl ?_
      refine r_imul 97 hX dX7_next_96 rfl ?_
      refine r_aload_n 98 hX dX7_next_97 rfl rfl 0 rfl ?_
      refine k_X7_98_X7_here 101 hX (by omega)  (Nat.le_of_ble_eq_true rfl) dX7_next_98 rfl hw (fun r98 σ98 hw => ?_)
      refine r_iadd 102 hX dX7_next_101 rfl ?_
      refine r_bipush 104 hX dX7_next_102 rfl 96 bi_96 ?_
      refine r_isub 105 hX dX7_next_104 rfl ?_
      refine r_goto 109 hX dX7_next_105 (by decide) ?_
      refine r_sub [0] rfl ?_
      exact w_X7_next_b109 hX hR hK65 _ _ hw
set_option maxRecDepth 20000 in
set_option maxHeartbeats 4000000 in
theorem w_X7_next_l65 {X : Cx} {Q : RV → St → Prop} (hX : CxB X RX7 cX7_next 3 (2)) (hR : CxR X (none) Q) (n : Nat) : ∀ (x2 : Int32) (σ : St), wp_X7_next_l65 (aV Q)  n x2 σ → At X 3 65 [(0, .ref (X.kad 75)), (2, .int (x2))] [] σ := by
  induction n with
  | zero => intro x2 σ h; exact h.elim
  | succ n ih => intro x2 σ h; exact w_X7_next_b65  hX hR ih x2 σ h
set_option maxRecDepth 20000 in
set_option maxHeartbeats 4000000 in
theorem w_X7_next_b0 {X : Cx} {Q : RV → St → Prop} (hX : CxB X RX7 cX7_next 3 (2)) (hR : CxR X (none) Q) {K0 : St → Prop} (hK0 : ∀ (σ : St), K0  σ → At X 3 0 [(0, .ref (X.kad 75))] [] σ) (σ : St) (hw : wp_X7_next_b0 (aV Q) K0  σ) : At X 3 0 [(0, .ref (X.kad 75))] [] σ := by
  unfold wp_X7_next_b0 at hw
  refine r_aload_n 1 hX dX7_next_0 rfl rfl 0 rfl ?_
  refine k_X7_98_X7_here 4 hX (by omega)  (Nat.le_of_ble_eq_true rfl) dX7_next_1 rfl hw (fun r1 σ1 hw => ?_)
  refine r_bipush 6 hX dX7_next_4 rfl 32 bi_32 ?_
  refine r_icmp_ne 22 9 hX dX7_next_6 (by decide) rfl hw (fun hw => ?_) (fun hw => ?_)
  · refine r_aload_n 23 hX dX7_next_22 rfl rfl 0 rfl ?_
    refine r_aload_n 24 hX dX7_next_23 rfl rfl 0 rfl ?_
    refine g_X7_95_75 27 hX dX7_next_24 rfl ?_
    refine p_X7_102_75 30 hX dX7_next_27 rfl ?_
    refine r_aload_n 31 hX dX7_next_30 rfl rfl 0 rfl ?_
    refine r_iconst 32 hX dX7_next_31 rfl 0 ic_0 ?_
    refine p_X7_105_75 35 hX dX7_next_32 rfl ?_
    refine r_aload_n 36 hX dX7_next_35 rfl rfl 0 rfl ?_
    refine k_X7_98_X7_here 39 hX (by omega)  (Nat.le_of_ble_eq_true rfl) dX7_next_36 rfl hw (fun r36 σ36 hw => ?_)
    refine r_istore_n (lv' := [(1, .int (r36)), (0, .ref (X.kad 75))]) 40 hX dX7_next_39 rfl rfl (by decide) rfl ?_
    refine r_iload_n 41 hX dX7_next_40 rfl rfl 0 rfl ?_
    refine r_if_ge 52 44 hX dX7_next_41 (by decide) rfl hw (fun hw => ?_) (fun hw => ?_)
    · refine r_iload_n 53 hX dX7_next_52 rfl rfl 0 rfl ?_
      refine r_bipush 55 hX dX7_next_53 rfl 97 bi_97 ?_
      refine r_bipush 57 hX dX7_next_55 rfl 122 bi_122 ?_
      refine k_X7_85_X7_in 60 hX (by omega) (r36) (97) (122) (Nat.le_of_ble_eq_true rfl) dX7_next_57 rfl hw (fun r57 σ57 hw => ?_)
      refine r_if_eq 192 63 hX dX7_next_60 (by decide) rfl hw (fun hw => ?_) (fun hw => ?_)
      · refine r_iload_n 193 hX dX7_next_192 rfl rfl 0 rfl ?_
        refine r_bipush 195 hX dX7_next_193 rfl 48 bi_48 ?_
        refine r_bipush 197 hX dX7_next_195 rfl 57 bi_57 ?_
        refine k_X7_85_X7_in 200 hX (by omega) (r36) (48) (57) (Nat.le_of_ble_eq_true rfl) dX7_next_197 rfl hw (fun r197 σ197 hw => ?_)
        refine r_if_eq 306 203 hX dX7_next_200 (by decide) rfl hw (fun hw => ?_) (fun hw => ?_)
        · refine r_aload_n 307 hX dX7_next_306 rfl rfl 1 rfl ?_
          refine r_dup 308 hX dX7_next_307 rfl rfl ?_
          refine g_X7_95_75 311 hX dX7_next_308 rfl ?_
          refine r_iconst 312 hX dX7_next_311 rfl 1 ic_1 ?_
          refine r_iadd 313 hX dX7_next_312 rfl ?_
          refine p_X7_95_75 316 hX dX7_next_313 rfl ?_
          refine r_aload_n 317 hX dX7_next_316 rfl rfl 1 rfl ?_
          refine r_iload_n 318 hX dX7_next_317 rfl rfl 0 rfl ?_
          refine r_bipush 320 hX dX7_next_318 rfl 59 bi_59 ?_
          refine r_icmp_ne 328 323 hX dX7_next_320 (by decide) rfl hw (fun hw => ?_) (fun hw => ?_)
          · refine r_bipush 330 hX dX7_next_328 rfl 7 bi_7 ?_
            refine p_X7_108_75 333 hX dX7_next_330 rfl ?_
            exact r_vret hX hR dX7_next_333 hw
          · refine r_bipush 325 hX dX7_next_323 rfl 6 bi_6 ?_
            refine r_goto 330 hX dX7_next_325 (by decide) ?_
            refine p_X7_108_75 333 hX dX7_next_330 rfl ?_
            exact r_vret hX hR dX7_next_333 hw
        · refine r_sub [1, 0] rfl ?_
          obtain ⟨n, hw⟩ := hw
          exact w_X7_next_l203 hX hR n _ _ hw
      · refine r_iconst 64 hX dX7_next_63 rfl 0 ic_0 ?_
        refine r_istore_n (lv' := [(2, .int (0)), (1, .int (r36)), (0, .ref (X.kad 75))]) 65 hX dX7_next_64 rfl rfl (by decide) rfl ?_
        refine r_sub [2, 0] rfl ?_
        obtain ⟨n, hw⟩ := hw
        exact w_X7_next_l65 hX hR n _ _ hw
    · refine r_aload_n 45 hX dX7_next_44 rfl rfl 1 rfl ?_
      refine r_iconst 46 hX dX7_next_45 rfl 0 ic_0 ?_
      refine p_X7_108_75 49 hX dX7_next_46 rfl ?_
      refine r_goto 333 hX dX7_next_49 (by decide) ?_
      exact r_vret hX hR dX7_next_333 hw
  · refine r_aload_n 10 hX dX7_next_9 rfl rfl 0 rfl ?_
    refine r_dup 11 hX dX7_next_10 rfl rfl ?_
    refine g_X7_95_75 14 hX dX7_next_11 rfl ?_
    refine r_iconst 15 hX dX7_next_14 rfl 1 ic_1 ?_
    refine r_iadd 16 hX dX7_next_15 rfl ?_
    refine p_X7_95_75 19 hX dX7_next_16 rfl ?_
    refine r_goto 0 hX dX7_next_19 (by decide) ?_
    exact hK0 _ hw
set_option maxRecDepth 20000 in
set_option maxHeartbeats 4000000 in
theorem w_X7_next_l0 {X : Cx} {Q : RV → St → Prop} (hX : CxB X RX7 cX7_next 3 (2)) (hR : CxR X (none) Q) (n : Nat) : ∀ (σ : St), wp_X7_next_l0 (aV Q)  n σ → At X 3 0 [(0, .ref (X.kad 75))] [] σ := by
  induction n with
  | zero => intro σ h; exact h.elim
  | succ n ih => intro σ h; exact w_X7_next_b0  hX hR ih σ h
set_option maxRecDepth 20000 in
set_option maxHeartbeats 4000000 in
theorem c_X7_next : Con yX7_next cX7_next 3 (none) (2) (fun ad => [.ref (ad 75)]) (fun Q σ => wp_X7_next  (aV Q) σ) := by
  refine con_intro (by decide +kernel) (fun _ => Nat.le_of_ble_eq_true rfl) (by omega) (fun X Q σ hX hR hw => ?_)
  have hX : CxB X RX7 cX7_next 3 (2) := hX
  unfold wp_X7_next at hw
  show At X 3 0 [(0, .ref (X.kad 75))] [] σ
  obtain ⟨n, hw⟩ := hw
  exact w_X7_next_l0 hX hR n _ hw
theorem k_X7_118_X7_next {X : Cx} {cc : ByteArray} {nL d pc : Nat} {lv : List (Nat × Value)} {rest : List Value} {σ : St} {K : St → Prop} (q : Nat) (hX : CxB X RX7 cc nL d) (hdc : 2 + 1 ≤ d) (hst : (rest.map fun v => v.category).sum ≤ 8) (hd : decode cc pc = .ok (.invokevirtual 118, 3)) (hq : pc + 3 = q) (hw : wp_X7_next  K σ) (kk : ∀ (τ : St), K τ → At X nL q lv (rest) τ) : At X nL pc lv (.ref (X.kad 75) :: rest) σ := r_callV (n := 0) q hX (k0 := 75) (c_X7_next ) tw_535 tw_536 tw_537 tw_517 tw_538 ⟨by decide +kernel, by decide +kernel, by decide +kernel⟩ hdc (by decide) (As := []) rfl rfl (by decide) ⟨_, _, _, rfl, rfl, rfl⟩ hst hd hq rfl (K := qV K) hw (kV kk)
set_option maxRecDepth 20000 in
set_option maxHeartbeats 4000000 in
theorem c_X7_due (x1 : Int32) : Con yX7_due cX7_due 3 (some .int) (3) (fun ad => [.ref (ad 75), .int (x1)]) (fun Q σ => wp_X7_due x1 (aI Q) σ) := by
  refine con_intro (by decide +kernel) (fun _ => Nat.le_of_ble_eq_true rfl) (by omega) (fun X Q σ hX hR hw => ?_)
  have hX : CxB X RX7 cX7_due 3 (3) := hX
  unfold wp_X7_due at hw
  show At X 3 0 [(0, .ref (X.kad 75)), (1, .int (x1))] [] σ
  refine r_aload_n 1 hX dX7_due_0 rfl rfl 0 rfl ?_
  refine g_X7_105_75 4 hX dX7_due_1 rfl ?_
  refine r_istore_n (lv' := [(2, .int (σ.1 75 16)), (0, .ref (X.kad 75)), (1, .int (x1))]) 5 hX dX7_due_4 rfl rfl (by decide) rfl ?_
  refine r_aload_n 6 hX dX7_due_5 rfl rfl 1 rfl ?_
  refine g_X7_115_75 9 hX dX7_due_6 rfl ?_
  refine r_bipush 11 hX dX7_due_9 rfl (-9) bi_m9 ?_
  refine r_icmp_ne 33 14 hX dX7_due_11 (by decide) rfl hw (fun hw => ?_) (fun hw => ?_)
  · refine r_iload_n 34 hX dX7_due_33 rfl rfl 0 rfl ?_
    exact r_iret hX hR dX7_due_34 hw
  · refine r_iload_n 15 hX dX7_due_14 rfl rfl 2 rfl ?_
    refine r_if_eq 25 18 hX dX7_due_15 (by decide) rfl hw (fun hw => ?_) (fun hw => ?_)
    · refine r_aload_n 26 hX dX7_due_25 rfl rfl 1 rfl ?_
      refine r_aload_n 27 hX dX7_due_26 rfl rfl 1 rfl ?_
      refine g_X7_102_75 30 hX dX7_due_27 rfl ?_
      refine p_X7_115_75 33 hX dX7_due_30 rfl ?_
      refine r_iload_n 34 hX dX7_due_33 rfl rfl 0 rfl ?_
      exact r_iret hX hR dX7_due_34 hw
    · refine r_aload_n 19 hX dX7_due_18 rfl rfl 1 rfl ?_
      refine k_X7_118_X7_next 22 hX (by omega)  (Nat.le_of_ble_eq_true rfl) dX7_due_19 rfl hw (fun σ19 hw => ?_)
      refine r_goto 33 hX dX7_due_22 (by decide) ?_
      refine r_iload_n 34 hX dX7_due_33 rfl rfl 0 rfl ?_
      exact r_iret hX hR dX7_due_34 hw
theorem k_X7_121_X7_due {X : Cx} {cc : ByteArray} {nL d pc : Nat} {lv : List (Nat × Value)} {rest : List Value} {σ : St} {K : Int32 → St → Prop} (q : Nat) (hX : CxB X RX7 cc nL d) (hdc : 3 + 1 ≤ d) (x1 : Int32) (hst : (rest.map fun v => v.category).sum ≤ 8) (hd : decode cc pc = .ok (.invokevirtual 121, 3)) (hq : pc + 3 = q) (hw : wp_X7_due x1 K σ) (kk : ∀ (r : Int32) (τ : St), K r τ → At X nL q lv (.int r :: rest) τ) : At X nL pc lv (.int (x1) :: .ref (X.kad 75) :: rest) σ := r_callV (n := 1) q hX (k0 := 75) (c_X7_due x1) tw_539 tw_540 tw_541 tw_517 tw_542 ⟨by decide +kernel, by decide +kernel, by decide +kernel⟩ hdc (by decide) (As := [.int (x1)]) rfl rfl (by decide) ⟨_, _, _, rfl, rfl, rfl⟩ hst hd hq rfl (K := qI K) hw (kI kk)
set_option maxRecDepth 20000 in
set_option maxHeartbeats 4000000 in
theorem w_X7_number_b26 {X : Cx} {Q : RV → St → Prop} (hX : CxB X RX7 cX7_number 3 (4)) (hR : CxR X (some .int) Q) (s0 : Int32) (σ : St) (hw : wp_X7_number_b26 (aI Q)  s0 σ) : At X 3 26 [] [.int (s0), .ref (X.kad 75)] σ := by
  unfold wp_X7_number_b26 at hw
  refine k_X7_121_X7_due 29 hX (by omega) (s0) (Nat.le_of_ble_eq_true rfl) dX7_number_26 rfl hw (fun r26 σ26 hw => ?_)
  exact r_iret hX hR dX7_number_29 hw
set_option maxRecDepth 20000 in
set_option maxHeartbeats 4000000 in
theorem w_X7_number_b25 {X : Cx} {Q : RV → St → Prop} (hX : CxB X RX7 cX7_number 3 (4)) (hR : CxR X (some .int) Q) (σ : St) (hw : wp_X7_number_b25 (aI Q)   σ) : At X 3 25 [] [.ref (X.kad 75)] σ := by
  unfold wp_X7_number_b25 at hw
  refine r_iconst 26 hX dX7_number_25 rfl 0 ic_0 ?_
  exact w_X7_number_b26 hX hR _ _ hw
set_option maxRecDepth 20000 in
set_option maxHeartbeats 4000000 in
theorem c_X7_number (x1 : Int32) (x2 : Int32) : Con yX7_number cX7_number 3 (some .int) (4) (fun ad => [.ref (ad 75), .int (x1), .int (x2)]) (fun Q σ => wp_X7_number x1 x2 (aI Q) σ) := by
  refine con_intro (by decide +kernel) (fun _ => Nat.le_of_ble_eq_true rfl) (by omega) (fun X Q σ hX hR hw => ?_)
  have hX : CxB X RX7 cX7_number 3 (4) := hX
  unfold wp_X7_number at hw
  show At X 3 0 [(0, .ref (X.kad 75)), (1, .int (x1)), (2, .int (x2))] [] σ
  refine r_aload_n 1 hX dX7_number_0 rfl rfl 0 rfl ?_
  refine r_aload_n 2 hX dX7_number_1 rfl rfl 0 rfl ?_
  refine g_X7_108_75 5 hX dX7_number_2 rfl ?_
  refine r_iconst 6 hX dX7_number_5 rfl 5 ic_5 ?_
  refine r_icmp_ne 25 9 hX dX7_number_6 (by decide) rfl hw (fun hw => ?_) (fun hw => ?_)
  · refine r_sub [] rfl ?_
    exact w_X7_number_b25 hX hR _ hw
  · refine r_aload_n 10 hX dX7_number_9 rfl rfl 0 rfl ?_
    refine g_X7_105_75 13 hX dX7_number_10 rfl ?_
    refine r_iload_n 14 hX dX7_number_13 rfl rfl 1 rfl ?_
    refine r_iload_n 15 hX dX7_number_14 rfl rfl 2 rfl ?_
    refine k_X7_85_X7_in 18 hX (by omega) (σ.1 75 16) (x1) (x2) (Nat.le_of_ble_eq_true rfl) dX7_number_15 rfl hw (fun r15 σ15 hw => ?_)
    refine r_if_eq 25 21 hX dX7_number_18 (by decide) rfl hw (fun hw => ?_) (fun hw => ?_)
    · refine r_sub [] rfl ?_
      exact w_X7_number_b25 hX hR _ hw
    · refine r_iconst 22 hX dX7_number_21 rfl 1 ic_1 ?_
      refine r_goto 26 hX dX7_number_22 (by decide) ?_
      refine r_sub [] rfl ?_
      exact w_X7_number_b26 hX hR _ _ hw
theorem k_X7_125_X7_number {X : Cx} {cc : ByteArray} {nL d pc : Nat} {lv : List (Nat × Value)} {rest : List Value} {σ : St} {K : Int32 → St → Prop} (q : Nat) (hX : CxB X RX7 cc nL d) (hdc : 4 + 1 ≤ d) (x1 : Int32) (x2 : Int32) (hst : (rest.map fun v => v.category).sum ≤ 8) (hd : decode cc pc = .ok (.invokevirtual 125, 3)) (hq : pc + 3 = q) (hw : wp_X7_number x1 x2 K σ) (kk : ∀ (r : Int32) (τ : St), K r τ → At X nL q lv (.int r :: rest) τ) : At X nL pc lv (.int (x2) :: .int (x1) :: .ref (X.kad 75) :: rest) σ := r_callV (n := 2) q hX (k0 := 75) (c_X7_number x1 x2) tw_544 tw_545 tw_546 tw_517 tw_547 ⟨by decide +kernel, by decide +kernel, by decide +kernel⟩ hdc (by decide) (As := [.int (x1), .int (x2)]) rfl rfl (by decide) ⟨_, _, _, rfl, rfl, rfl⟩ hst hd hq rfl (K := qI K) hw (kI kk)
set_option maxRecDepth 20000 in
set_option maxHeartbeats 4000000 in
theorem c_X7_span : Con yX7_span cX7_span 3 (some .int) (5) (fun ad => [.ref (ad 75)]) (fun Q σ => wp_X7_span  (aI Q) σ) := by
  refine con_intro (by decide +kernel) (fun _ => Nat.le_of_ble_eq_true rfl) (by omega) (fun X Q σ hX hR hw => ?_)
  have hX : CxB X RX7 cX7_span 3 (5) := hX
  unfold wp_X7_span at hw
  show At X 3 0 [(0, .ref (X.kad 75))] [] σ
  refine r_aload_n 1 hX dX7_span_0 rfl rfl 0 rfl ?_
  refine r_iconst 2 hX dX7_span_1 rfl 0 ic_0 ?_
  refine r_aload_n 3 hX dX7_span_2 rfl rfl 0 rfl ?_
  refine g_X7_13_75 6 hX dX7_span_3 rfl ?_
  refine r_iconst 7 hX dX7_span_6 rfl 1 ic_1 ?_
  refine r_iald 8 hX sh_77 dX7_span_7 rfl hw (fun hw => ?_)
  refine r_iconst 9 hX dX7_span_8 rfl 1 ic_1 ?_
  refine r_isub 10 hX dX7_span_9 rfl ?_
  refine k_X7_125_X7_number 13 hX (by omega) (0) ((σ.1 77 (1 : Int32).toNatClampNeg) - 1) (Nat.le_of_ble_eq_true rfl) dX7_span_10 rfl hw (fun r10 σ10 hw => ?_)
  refine r_istore_n (lv' := [(1, .int (r10)), (0, .ref (X.kad 75))]) 14 hX dX7_span_13 rfl rfl (by decide) rfl ?_
  refine r_aload_n 15 hX dX7_span_14 rfl rfl 1 rfl ?_
  refine r_iload_n 16 hX dX7_span_15 rfl rfl 0 rfl ?_
  refine r_aload_n 17 hX dX7_span_16 rfl rfl 1 rfl ?_
  refine g_X7_13_75 20 hX dX7_span_17 rfl ?_
  refine r_iconst 21 hX dX7_span_20 rfl 1 ic_1 ?_
  refine r_iald 22 hX sh_77 dX7_span_21 rfl hw (fun hw => ?_)
  refine r_iconst 23 hX dX7_span_22 rfl 1 ic_1 ?_
  refine r_isub 24 hX dX7_span_23 rfl ?_
  refine k_X7_125_X7_number 27 hX (by omega) (r10) ((σ10.1 77 (1 : Int32).toNatClampNeg) - 1) (Nat.le_of_ble_eq_true rfl) dX7_span_24 rfl hw (fun r24 σ24 hw => ?_)
  refine r_istore_n (lv' := [(2, .int (r24)), (1, .int (r10)), (0, .ref (X.kad 75))]) 28 hX dX7_span_27 rfl rfl (by decide) rfl ?_
  refine r_aload_n 29 hX dX7_span_28 rfl rfl 2 rfl ?_
  refine g_X7_115_75 32 hX dX7_span_29 rfl ?_
  refine r_bipush 34 hX dX7_span_32 rfl (-9) bi_m9 ?_
  refine r_icmp_ne 47 37 hX dX7_span_34 (by decide) rfl hw (fun hw => ?_) (fun hw => ?_)
  · refine r_iconst 48 hX dX7_span_47 rfl 0 ic_0 ?_
    exact r_iret hX hR dX7_span_48 hw
  · refine r_iconst 38 hX dX7_span_37 rfl 2 ic_2 ?_
    refine r_iload_n 39 hX dX7_span_38 rfl rfl 0 rfl ?_
    refine r_ishl 40 hX dX7_span_39 rfl ?_
    refine r_iconst 41 hX dX7_span_40 rfl 1 ic_1 ?_
    refine r_iload_n 42 hX dX7_span_41 rfl rfl 1 rfl ?_
    refine r_ishl 43 hX dX7_span_42 rfl ?_
    refine r_isub 44 hX dX7_span_43 rfl ?_
    refine r_goto 48 hX dX7_span_44 (by decide) ?_
    exact r_iret hX hR dX7_span_48 hw
theorem k_X7_129_X7_span {X : Cx} {cc : ByteArray} {nL d pc : Nat} {lv : List (Nat × Value)} {rest : List Value} {σ : St} {K : Int32 → St → Prop} (q : Nat) (hX : CxB X RX7 cc nL d) (hdc : 5 + 1 ≤ d) (hst : (rest.map fun v => v.category).sum ≤ 8) (hd : decode cc pc = .ok (.invokevirtual 129, 3)) (hq : pc + 3 = q) (hw : wp_X7_span  K σ) (kk : ∀ (r : Int32) (τ : St), K r τ → At X nL q lv (.int r :: rest) τ) : At X nL pc lv (.ref (X.kad 75) :: rest) σ := r_callV (n := 0) q hX (k0 := 75) (c_X7_span ) tw_554 tw_555 tw_556 tw_517 tw_557 ⟨by decide +kernel, by decide +kernel, by decide +kernel⟩ hdc (by decide) (As := []) rfl rfl (by decide) ⟨_, _, _, rfl, rfl, rfl⟩ hst hd hq rfl (K := qI K) hw (kI kk)
set_option maxRecDepth 20000 in
set_option maxHeartbeats 4000000 in
theorem w_X7_item_b299 {X : Cx} {Q : RV → St → Prop} (hX : CxB X RX7 cX7_item 5 (6)) (hR : CxR X (none) Q) (s0 : Int32) (σ : St) (hw : wp_X7_item_b299 (aV Q)  s0 σ) : At X 5 299 [] [.int (s0), .ref (X.kad 75)] σ := by
  unfold wp_X7_item_b299 at hw
  refine k_X7_121_X7_due 302 hX (by omega) (s0) (Nat.le_of_ble_eq_true rfl) dX7_item_299 rfl hw (fun r299 σ299 hw => ?_)
  refine r_pop 303 hX dX7_item_302 rfl rfl ?_
  exact r_vret hX hR dX7_item_303 hw
set_option maxRecDepth 20000 in
set_option maxHeartbeats 4000000 in
theorem w_X7_item_b284 {X : Cx} {Q : RV → St → Prop} (hX : CxB X RX7 cX7_item 5 (6)) (hR : CxR X (none) Q) (σ : St) (hw : wp_X7_item_b284 (aV Q)   σ) : At X 5 284 [(0, .ref (X.kad 75))] [] σ := by
  unfold wp_X7_item_b284 at hw
  refine r_aload_n 285 hX dX7_item_284 rfl rfl 0 rfl ?_
  refine r_aload_n 286 hX dX7_item_285 rfl rfl 0 rfl ?_
  refine g_X7_108_75 289 hX dX7_item_286 rfl ?_
  refine r_bipush 291 hX dX7_item_289 rfl 6 bi_6 ?_
  refine r_icmp_ne 298 294 hX dX7_item_291 (by decide) rfl hw (fun hw => ?_) (fun hw => ?_)
  · refine r_iconst 299 hX dX7_item_298 rfl 0 ic_0 ?_
    refine r_sub [] rfl ?_
    exact w_X7_item_b299 hX hR _ _ hw
  · refine r_iconst 295 hX dX7_item_294 rfl 1 ic_1 ?_
    refine r_goto 299 hX dX7_item_295 (by decide) ?_
    refine r_sub [] rfl ?_
    exact w_X7_item_b299 hX hR _ _ hw
set_option maxRecDepth 20000 in
set_option maxHeartbeats 4000000 in
theorem w_X7_item_b183 {X : Cx} {Q : RV → St → Prop} (hX : CxB X RX7 cX7_item 5 (6)) (hR : CxR X (none) Q) (x4 : Int32) (s0 : Int32) (s1 : Int32) (σ : St) (hw : wp_X7_item_b183 (aV Q)  x4 s0 s1 σ) : At X 5 183 [(0, .ref (X.kad 75)), (4, .int (x4))] [.int (s0), .int (s1), .ref (X.kad 83)] σ := by
  unfold wp_X7_item_b183 at hw
  refine r_iadd 184 hX dX7_item_183 rfl ?_
  refine r_dup2 185 hX dX7_item_184 rfl rfl rfl ?_
  refine r_iald 186 hX sh_83 dX7_item_185 rfl hw (fun hw => ?_)
  refine r_iload 188 hX dX7_item_186 rfl 1 rfl ?_
  refine r_ior 189 hX dX7_item_188 rfl ?_
  refine r_iast 190 hX sh_83 dX7_item_189 rfl hw (fun hw => ?_)
  refine r_goto 284 hX dX7_item_190 (by decide) ?_
  refine r_sub [0] rfl ?_
  exact w_X7_item_b284 hX hR _ hw
set_option maxRecDepth 20000 in
set_option maxHeartbeats 4000000 in
theorem w_X7_item_b134 {X : Cx} {Q : RV → St → Prop} (hX : CxB X RX7 cX7_item 5 (6)) (hR : CxR X (none) Q) (s0 : Int32) (s1 : Int32) (σ : St) (hw : wp_X7_item_b134 (aV Q)  s0 s1 σ) : At X 5 134 [(0, .ref (X.kad 75))] [.int (s0), .int (s1), .ref (X.kad 78)] σ := by
  unfold wp_X7_item_b134 at hw
  refine r_iast 135 hX sh_78 dX7_item_134 rfl hw (fun hw => ?_)
  refine r_goto 284 hX dX7_item_135 (by decide) ?_
  exact w_X7_item_b284 hX hR _ hw
set_option maxRecDepth 20000 in
set_option maxHeartbeats 4000000 in
theorem w_X7_item_b108 {X : Cx} {Q : RV → St → Prop} (hX : CxB X RX7 cX7_item 5 (6)) (hR : CxR X (none) Q) (x4 : Int32) (s0 : Int32) (s1 : Int32) (σ : St) (hw : wp_X7_item_b108 (aV Q)  x4 s0 s1 σ) : At X 5 108 [(0, .ref (X.kad 75)), (4, .int (x4))] [.int (s0), .int (s1), .ref (X.kad 77)] σ := by
  unfold wp_X7_item_b108 at hw
  refine r_iast 109 hX sh_77 dX7_item_108 rfl hw (fun hw => ?_)
  refine r_aload_n 110 hX dX7_item_109 rfl rfl 0 rfl ?_
  refine g_X7_17_75 113 hX dX7_item_110 rfl ?_
  refine r_iconst 114 hX dX7_item_113 rfl 1 ic_1 ?_
  refine r_aload_n 115 hX dX7_item_114 rfl rfl 0 rfl ?_
  refine g_X7_115_75 118 hX dX7_item_115 rfl ?_
  refine r_bipush 120 hX dX7_item_118 rfl (-9) bi_m9 ?_
  refine r_icmp_ne 128 123 hX dX7_item_120 (by decide) rfl hw (fun hw => ?_) (fun hw => ?_)
  · refine r_aload_n 129 hX dX7_item_128 rfl rfl 0 rfl ?_
    refine g_X7_17_75 132 hX dX7_item_129 rfl ?_
    refine r_iconst 133 hX dX7_item_132 rfl 1 ic_1 ?_
    refine r_iald 134 hX sh_78 dX7_item_133 rfl hw (fun hw => ?_)
    refine r_sub [0] rfl ?_
    exact w_X7_item_b134 hX hR _ _ _ hw
  · refine r_iload 125 hX dX7_item_123 rfl 1 rfl ?_
    refine r_goto 134 hX dX7_item_125 (by decide) ?_
    refine r_sub [0] rfl ?_
    exact w_X7_item_b134 hX hR _ _ _ hw
set_option maxRecDepth 20000 in
set_option maxHeartbeats 4000000 in
theorem w_X7_item_b48 {X : Cx} {Q : RV → St → Prop} (hX : CxB X RX7 cX7_item 5 (6)) (hR : CxR X (none) Q) (x1 : Int32) (s0 : Int32) (σ : St) (hw : wp_X7_item_b48 (aV Q)  x1 s0 σ) : At X 5 48 [(0, .ref (X.kad 75)), (1, .int (x1))] [.int (s0), .ref (X.kad 75)] σ := by
  unfold wp_X7_item_b48 at hw
  refine k_X7_121_X7_due 51 hX (by omega) (s0) (Nat.le_of_ble_eq_true rfl) dX7_item_48 rfl hw (fun r48 σ48 hw => ?_)
  refine r_pop 52 hX dX7_item_51 rfl rfl ?_
  refine r_aload_n 53 hX dX7_item_52 rfl rfl 0 rfl ?_
  refine g_X7_115_75 56 hX dX7_item_53 rfl ?_
  refine r_bipush 58 hX dX7_item_56 rfl (-9) bi_m9 ?_
  refine r_icmp_eq 62 61 hX dX7_item_58 (by decide) rfl hw (fun hw => ?_) (fun hw => ?_)
  · refine r_iload_n 63 hX dX7_item_62 rfl rfl 1 rfl ?_
    refine r_iconst 64 hX dX7_item_63 rfl 1 ic_1 ?_
    refine r_icmp_ne 138 67 hX dX7_item_64 (by decide) rfl hw (fun hw => ?_) (fun hw => ?_)
    · refine r_iload_n 139 hX dX7_item_138 rfl rfl 1 rfl ?_
      refine r_iconst 140 hX dX7_item_139 rfl 2 ic_2 ?_
      refine r_icmp_ne 193 143 hX dX7_item_140 (by decide) rfl hw (fun hw => ?_) (fun hw => ?_)
      · refine r_iload_n 194 hX dX7_item_193 rfl rfl 1 rfl ?_
        refine r_iconst 195 hX dX7_item_194 rfl 3 ic_3 ?_
        refine r_icmp_ne 214 198 hX dX7_item_195 (by decide) rfl hw (fun hw => ?_) (fun hw => ?_)
        · refine r_iconst 215 hX dX7_item_214 rfl 3 ic_3 ?_
          refine r_aload_n 216 hX dX7_item_215 rfl rfl 0 rfl ?_
          refine g_X7_20_75 219 hX dX7_item_216 rfl ?_
          refine r_iconst 220 hX dX7_item_219 rfl 1 ic_1 ?_
          refine r_iald 221 hX sh_79 dX7_item_220 rfl hw (fun hw => ?_)
          refine r_iadd 222 hX dX7_item_221 rfl ?_
          refine r_topi hw (fun v222 hw => ?_)
          refine r_istore_n (lv' := [(3, .int (v222)), (0, .ref (X.kad 75)), (1, .int (x1))]) 223 hX dX7_item_222 rfl rfl (by decide) rfl ?_
          refine r_aload_n 224 hX dX7_item_223 rfl rfl 1 rfl ?_
          refine g_X7_23_75 227 hX dX7_item_224 rfl ?_
          refine r_iload_n 228 hX dX7_item_227 rfl rfl 0 rfl ?_
          refine r_aload_n 229 hX dX7_item_228 rfl rfl 1 rfl ?_
          refine r_iconst 230 hX dX7_item_229 rfl 0 ic_0 ?_
          refine r_aload_n 231 hX dX7_item_230 rfl rfl 1 rfl ?_
          refine g_X7_17_75 234 hX dX7_item_231 rfl ?_
          refine r_iconst 235 hX dX7_item_234 rfl 1 ic_1 ?_
          refine r_iald 236 hX sh_78 dX7_item_235 rfl hw (fun hw => ?_)
          refine r_iconst 237 hX dX7_item_236 rfl 2 ic_2 ?_
          refine r_isub 238 hX dX7_item_237 rfl ?_
          refine k_X7_125_X7_number 241 hX (by omega) (0) ((σ48.1 78 (1 : Int32).toNatClampNeg) - 2) (Nat.le_of_ble_eq_true rfl) dX7_item_238 rfl hw (fun r238 σ238 hw => ?_)
          refine r_iast 242 hX sh_80 dX7_item_241 rfl hw (fun hw => ?_)
          refine r_aload_n 243 hX dX7_item_242 rfl rfl 1 rfl ?_
          refine g_X7_26_75 246 hX dX7_item_243 rfl ?_
          refine r_iload_n 247 hX dX7_item_246 rfl rfl 0 rfl ?_
          refine r_aload_n 248 hX dX7_item_247 rfl rfl 1 rfl ?_
          refine r_iconst 249 hX dX7_item_248 rfl 0 ic_0 ?_
          refine r_aload_n 250 hX dX7_item_249 rfl rfl 1 rfl ?_
          refine g_X7_13_75 253 hX dX7_item_250 rfl ?_
          refine r_iconst 254 hX dX7_item_253 rfl 1 ic_1 ?_
          refine r_iald 255 hX sh_77 dX7_item_254 rfl hw (fun hw => ?_)
          refine r_iconst 256 hX dX7_item_255 rfl 1 ic_1 ?_
          refine r_isub 257 hX dX7_item_256 rfl ?_
          refine k_X7_125_X7_number 260 hX (by omega) (0) (((sI σ238 80 v222.toNatClampNeg r238).1 77 (1 : Int32).toNatClampNeg) - 1) (Nat.le_of_ble_eq_true rfl) dX7_item_257 rfl hw (fun r257 σ257 hw => ?_)
          refine r_iast 261 hX sh_81 dX7_item_260 rfl hw (fun hw => ?_)
          refine r_aload_n 262 hX dX7_item_261 rfl rfl 1 rfl ?_
          refine g_X7_29_75 265 hX dX7_item_262 rfl ?_
          refine r_iload_n 266 hX dX7_item_265 rfl rfl 0 rfl ?_
          refine r_aload_n 267 hX dX7_item_266 rfl rfl 1 rfl ?_
          refine r_iconst 268 hX dX7_item_267 rfl 0 ic_0 ?_
          refine r_bipush 270 hX dX7_item_268 rfl 99 bi_99 ?_
          refine k_X7_125_X7_number 273 hX (by omega) (0) (99) (Nat.le_of_ble_eq_true rfl) dX7_item_270 rfl hw (fun r270 σ270 hw => ?_)
          refine r_iast 274 hX sh_82 dX7_item_273 rfl hw (fun hw => ?_)
          refine r_aload_n 275 hX dX7_item_274 rfl rfl 1 rfl ?_
          refine g_X7_20_75 278 hX dX7_item_275 rfl ?_
          refine r_iconst 279 hX dX7_item_278 rfl 1 ic_1 ?_
          refine r_dup2 280 hX dX7_item_279 rfl rfl rfl ?_
          refine r_iald 281 hX sh_79 dX7_item_280 rfl hw (fun hw => ?_)
          refine r_iconst 282 hX dX7_item_281 rfl 1 ic_1 ?_
          refine r_iadd 283 hX dX7_item_282 rfl ?_
          refine r_iast 284 hX sh_79 dX7_item_283 rfl hw (fun hw => ?_)
          refine r_sub [1] rfl ?_
          exact w_X7_item_b284 hX hR _ hw
        · refine r_aload_n 199 hX dX7_item_198 rfl rfl 0 rfl ?_
          refine g_X7_35_75 202 hX dX7_item_199 rfl ?_
          refine r_iconst 203 hX dX7_item_202 rfl 1 ic_1 ?_
          refine r_dup2 204 hX dX7_item_203 rfl rfl rfl ?_
          refine r_iald 205 hX sh_84 dX7_item_204 rfl hw (fun hw => ?_)
          refine r_aload_n 206 hX dX7_item_205 rfl rfl 0 rfl ?_
          refine k_X7_129_X7_span 209 hX (by omega)  (Nat.le_of_ble_eq_true rfl) dX7_item_206 rfl hw (fun r206 σ206 hw => ?_)
          refine r_ior 210 hX dX7_item_209 rfl ?_
          refine r_iast 211 hX sh_84 dX7_item_210 rfl hw (fun hw => ?_)
          refine r_goto 284 hX dX7_item_211 (by decide) ?_
          refine r_sub [0] rfl ?_
          exact w_X7_item_b284 hX hR _ hw
      · refine r_aload_n 144 hX dX7_item_143 rfl rfl 0 rfl ?_
        refine r_iconst 145 hX dX7_item_144 rfl 0 ic_0 ?_
        refine r_aload_n 146 hX dX7_item_145 rfl rfl 0 rfl ?_
        refine g_X7_17_75 149 hX dX7_item_146 rfl ?_
        refine r_iconst 150 hX dX7_item_149 rfl 1 ic_1 ?_
        refine r_iald 151 hX sh_78 dX7_item_150 rfl hw (fun hw => ?_)
        refine r_iconst 152 hX dX7_item_151 rfl 1 ic_1 ?_
        refine r_isub 153 hX dX7_item_152 rfl ?_
        refine k_X7_125_X7_number 156 hX (by omega) (0) ((σ48.1 78 (1 : Int32).toNatClampNeg) - 1) (Nat.le_of_ble_eq_true rfl) dX7_item_153 rfl hw (fun r153 σ153 hw => ?_)
        refine r_istore_n (lv' := [(3, .int (r153)), (0, .ref (X.kad 75)), (1, .int (x1))]) 157 hX dX7_item_156 rfl rfl (by decide) rfl ?_
        refine r_aload_n 158 hX dX7_item_157 rfl rfl 1 rfl ?_
        refine k_X7_129_X7_span 161 hX (by omega)  (Nat.le_of_ble_eq_true rfl) dX7_item_158 rfl hw (fun r158 σ158 hw => ?_)
        refine r_istore (lv' := [(4, .int (r158)), (3, .int (r153)), (0, .ref (X.kad 75)), (1, .int (x1))]) 163 hX dX7_item_161 rfl (by decide) rfl ?_
        refine r_aload_n 164 hX dX7_item_163 rfl rfl 2 rfl ?_
        refine g_X7_32_75 167 hX dX7_item_164 rfl ?_
        refine r_bipush 169 hX dX7_item_167 rfl 16 bi_16 ?_
        refine r_aload_n 170 hX dX7_item_169 rfl rfl 2 rfl ?_
        refine g_X7_115_75 173 hX dX7_item_170 rfl ?_
        refine r_bipush 175 hX dX7_item_173 rfl (-9) bi_m9 ?_
        refine r_icmp_ne 182 178 hX dX7_item_175 (by decide) rfl hw (fun hw => ?_) (fun hw => ?_)
        · refine r_iconst 183 hX dX7_item_182 rfl 0 ic_0 ?_
          refine r_sub [2, 0] rfl ?_
          exact w_X7_item_b183 hX hR _ _ _ _ hw
        · refine r_iload_n 179 hX dX7_item_178 rfl rfl 1 rfl ?_
          refine r_goto 183 hX dX7_item_179 (by decide) ?_
          refine r_sub [2, 0] rfl ?_
          exact w_X7_item_b183 hX hR _ _ _ _ hw
    · refine r_aload_n 68 hX dX7_item_67 rfl rfl 0 rfl ?_
      refine r_iconst 69 hX dX7_item_68 rfl 2 ic_2 ?_
      refine r_bipush 71 hX dX7_item_69 rfl 10 bi_10 ?_
      refine k_X7_125_X7_number 74 hX (by omega) (2) (10) (Nat.le_of_ble_eq_true rfl) dX7_item_71 rfl hw (fun r71 σ71 hw => ?_)
      refine r_istore_n (lv' := [(3, .int (r71)), (0, .ref (X.kad 75)), (1, .int (x1))]) 75 hX dX7_item_74 rfl rfl (by decide) rfl ?_
      refine r_aload_n 76 hX dX7_item_75 rfl rfl 1 rfl ?_
      refine r_iconst 77 hX dX7_item_76 rfl 2 ic_2 ?_
      refine r_bipush 79 hX dX7_item_77 rfl 16 bi_16 ?_
      refine k_X7_125_X7_number 82 hX (by omega) (2) (16) (Nat.le_of_ble_eq_true rfl) dX7_item_79 rfl hw (fun r79 σ79 hw => ?_)
      refine r_istore (lv' := [(4, .int (r79)), (3, .int (r71)), (0, .ref (X.kad 75)), (1, .int (x1))]) 84 hX dX7_item_82 rfl (by decide) rfl ?_
      refine r_aload_n 85 hX dX7_item_84 rfl rfl 2 rfl ?_
      refine g_X7_13_75 88 hX dX7_item_85 rfl ?_
      refine r_iconst 89 hX dX7_item_88 rfl 1 ic_1 ?_
      refine r_aload_n 90 hX dX7_item_89 rfl rfl 2 rfl ?_
      refine g_X7_115_75 93 hX dX7_item_90 rfl ?_
      refine r_bipush 95 hX dX7_item_93 rfl (-9) bi_m9 ?_
      refine r_icmp_ne 102 98 hX dX7_item_95 (by decide) rfl hw (fun hw => ?_) (fun hw => ?_)
      · refine r_aload_n 103 hX dX7_item_102 rfl rfl 2 rfl ?_
        refine g_X7_13_75 106 hX dX7_item_103 rfl ?_
        refine r_iconst 107 hX dX7_item_106 rfl 1 ic_1 ?_
        refine r_iald 108 hX sh_77 dX7_item_107 rfl hw (fun hw => ?_)
        refine r_sub [2, 0] rfl ?_
        exact w_X7_item_b108 hX hR _ _ _ _ hw
      · refine r_iload_n 99 hX dX7_item_98 rfl rfl 1 rfl ?_
        refine r_goto 108 hX dX7_item_99 (by decide) ?_
        refine r_sub [2, 0] rfl ?_
        exact w_X7_item_b108 hX hR _ _ _ _ hw
  · exact r_vret hX hR dX7_item_61 hw
set_option maxRecDepth 20000 in
set_option maxHeartbeats 4000000 in
theorem w_X7_item_b43 {X : Cx} {Q : RV → St → Prop} (hX : CxB X RX7 cX7_item 5 (6)) (hR : CxR X (none) Q) (x1 : Int32) (σ : St) (hw : wp_X7_item_b43 (aV Q)  x1 σ) : At X 5 43 [(0, .ref (X.kad 75)), (1, .int (x1))] [.ref (X.kad 75)] σ := by
  unfold wp_X7_item_b43 at hw
  refine r_iconst 44 hX dX7_item_43 rfl 1 ic_1 ?_
  refine r_goto 48 hX dX7_item_44 (by decide) ?_
  exact w_X7_item_b48 hX hR _ _ _ hw
set_option maxRecDepth 20000 in
set_option maxHeartbeats 4000000 in
theorem w_X7_item_b47 {X : Cx} {Q : RV → St → Prop} (hX : CxB X RX7 cX7_item 5 (6)) (hR : CxR X (none) Q) (x1 : Int32) (σ : St) (hw : wp_X7_item_b47 (aV Q)  x1 σ) : At X 5 47 [(0, .ref (X.kad 75)), (1, .int (x1))] [.ref (X.kad 75)] σ := by
  unfold wp_X7_item_b47 at hw
  refine r_iconst 48 hX dX7_item_47 rfl 0 ic_0 ?_
  exact w_X7_item_b48 hX hR _ _ _ hw
set_option maxRecDepth 20000 in
set_option maxHeartbeats 4000000 in
theorem c_X7_item (x1 : Int32) (x2 : Int32) : Con yX7_item cX7_item 5 (none) (6) (fun ad => [.ref (ad 75), .int (x1), .int (x2)]) (fun Q σ => wp_X7_item x1 x2 (aV Q) σ) := by
  refine con_intro (by decide +kernel) (fun _ => Nat.le_of_ble_eq_true rfl) (by omega) (fun X Q σ hX hR hw => ?_)
  have hX : CxB X RX7 cX7_item 5 (6) := hX
  unfold wp_X7_item at hw
  show At X 5 0 [(0, .ref (X.kad 75)), (1, .int (x1)), (2, .int (x2))] [] σ
  refine r_aload_n 1 hX dX7_item_0 rfl rfl 0 rfl ?_
  refine r_iload_n 2 hX dX7_item_1 rfl rfl 1 rfl ?_
  refine r_iconst 3 hX dX7_item_2 rfl 1 ic_1 ?_
  refine r_icmp_ne 18 6 hX dX7_item_3 (by decide) rfl hw (fun hw => ?_) (fun hw => ?_)
  · refine r_iload_n 19 hX dX7_item_18 rfl rfl 1 rfl ?_
    refine r_iconst 20 hX dX7_item_19 rfl 2 ic_2 ?_
    refine r_icmp_eq 43 23 hX dX7_item_20 (by decide) rfl hw (fun hw => ?_) (fun hw => ?_)
    · refine r_sub [0, 1] rfl ?_
      exact w_X7_item_b43 hX hR _ _ hw
    · refine r_iload_n 24 hX dX7_item_23 rfl rfl 1 rfl ?_
      refine r_iconst 25 hX dX7_item_24 rfl 3 ic_3 ?_
      refine r_icmp_eq 43 28 hX dX7_item_25 (by decide) rfl hw (fun hw => ?_) (fun hw => ?_)
      · refine r_sub [0, 1] rfl ?_
        exact w_X7_item_b43 hX hR _ _ hw
      · refine r_iload_n 29 hX dX7_item_28 rfl rfl 1 rfl ?_
        refine r_iconst 30 hX dX7_item_29 rfl 4 ic_4 ?_
        refine r_icmp_ne 47 33 hX dX7_item_30 (by decide) rfl hw (fun hw => ?_) (fun hw => ?_)
        · refine r_sub [0, 1] rfl ?_
          exact w_X7_item_b47 hX hR _ _ hw
        · refine r_aload_n 34 hX dX7_item_33 rfl rfl 0 rfl ?_
          refine g_X7_20_75 37 hX dX7_item_34 rfl ?_
          refine r_iconst 38 hX dX7_item_37 rfl 1 ic_1 ?_
          refine r_iald 39 hX sh_79 dX7_item_38 rfl hw (fun hw => ?_)
          refine r_iconst 40 hX dX7_item_39 rfl 3 ic_3 ?_
          refine r_icmp_ge 47 43 hX dX7_item_40 (by decide) rfl hw (fun hw => ?_) (fun hw => ?_)
          · refine r_sub [0, 1] rfl ?_
            exact w_X7_item_b47 hX hR _ _ hw
          · refine r_sub [0, 1] rfl ?_
            exact w_X7_item_b43 hX hR _ _ hw
  · refine r_iload_n 7 hX dX7_item_6 rfl rfl 2 rfl ?_
    refine r_if_ne 14 10 hX dX7_item_7 (by decide) rfl hw (fun hw => ?_) (fun hw => ?_)
    · refine r_iconst 15 hX dX7_item_14 rfl 0 ic_0 ?_
      refine r_goto 48 hX dX7_item_15 (by decide) ?_
      refine r_sub [0, 1] rfl ?_
      exact w_X7_item_b48 hX hR _ _ _ hw
    · refine r_iconst 11 hX dX7_item_10 rfl 1 ic_1 ?_
      refine r_goto 48 hX dX7_item_11 (by decide) ?_
      refine r_sub [0, 1] rfl ?_
      exact w_X7_item_b48 hX hR _ _ _ hw
theorem k_X7_132_X7_item {X : Cx} {cc : ByteArray} {nL d pc : Nat} {lv : List (Nat × Value)} {rest : List Value} {σ : St} {K : St → Prop} (q : Nat) (hX : CxB X RX7 cc nL d) (hdc : 6 + 1 ≤ d) (x1 : Int32) (x2 : Int32) (hst : (rest.map fun v => v.category).sum ≤ 8) (hd : decode cc pc = .ok (.invokevirtual 132, 3)) (hq : pc + 3 = q) (hw : wp_X7_item x1 x2 K σ) (kk : ∀ (τ : St), K τ → At X nL q lv (rest) τ) : At X nL pc lv (.int (x2) :: .int (x1) :: .ref (X.kad 75) :: rest) σ := r_callV (n := 2) q hX (k0 := 75) (c_X7_item x1 x2) tw_563 tw_564 tw_565 tw_517 tw_566 ⟨by decide +kernel, by decide +kernel, by decide +kernel⟩ hdc (by decide) (As := [.int (x1), .int (x2)]) rfl rfl (by decide) ⟨_, _, _, rfl, rfl, rfl⟩ hst hd hq rfl (K := qV K) hw (kV kk)
set_option maxRecDepth 20000 in
set_option maxHeartbeats 4000000 in
theorem w_X7_wall_b284 {X : Cx} {Q : RV → St → Prop} (hX : CxB X RX7 cX7_wall 4 (7)) (hR : CxR X (some .int) Q) {K284 : Int32 → St → Prop} (hK284 : ∀ (x2 : Int32) (σ : St), K284 x2 σ → At X 4 284 [(0, .ref (X.kad 75)), (2, .int (x2))] [] σ) (x2 : Int32) (σ : St) (hw : wp_X7_wall_b284 (aI Q) K284 x2 σ) : At X 4 284 [(0, .ref (X.kad 75)), (2, .int (x2))] [] σ := by
  unfold wp_X7_wall_b284 at hw
  refine r_iload_n 285 hX dX7_wall_284 rfl rfl 1 rfl ?_
  refine r_bipush 287 hX dX7_wall_285 rfl 40 bi_40 ?_
  refine r_icmp_ge 303 290 hX dX7_wall_287 (by decide) rfl hw (fun hw => ?_) (fun hw => ?_)
  · refine r_aload_n 304 hX dX7_wall_303 rfl rfl 0 rfl ?_
    refine g_X7_72_75 307 hX dX7_wall_304 rfl ?_
    refine r_iconst 308 hX dX7_wall_307 rfl 0 ic_0 ?_
    refine r_iconst 309 hX dX7_wall_308 rfl 0 ic_0 ?_
    refine r_iast 310 hX sh_96 dX7_wall_309 rfl hw (fun hw => ?_)
    refine r_aload_n 311 hX dX7_wall_310 rfl rfl 0 rfl ?_
    refine g_X7_81_75 314 hX dX7_wall_311 rfl ?_
    refine r_iconst 315 hX dX7_wall_314 rfl 0 ic_0 ?_
    refine r_iconst 316 hX dX7_wall_315 rfl 0 ic_0 ?_
    refine r_zast 317 hX sh_99 dX7_wall_316 rfl hw (fun hw => ?_)
    refine r_aload_n 318 hX dX7_wall_317 rfl rfl 0 rfl ?_
    refine g_X7_81_75 321 hX dX7_wall_318 rfl ?_
    refine r_iconst 322 hX dX7_wall_321 rfl 1 ic_1 ?_
    refine r_iconst 323 hX dX7_wall_322 rfl 0 ic_0 ?_
    refine r_zast 324 hX sh_99 dX7_wall_323 rfl hw (fun hw => ?_)
    refine r_aload_n 325 hX dX7_wall_324 rfl rfl 0 rfl ?_
    refine r_iconst 326 hX dX7_wall_325 rfl 0 ic_0 ?_
    refine p_X7_89_75 329 hX dX7_wall_326 rfl ?_
    refine r_aload_n 330 hX dX7_wall_329 rfl rfl 0 rfl ?_
    refine g_X7_20_75 333 hX dX7_wall_330 rfl ?_
    refine r_iconst 334 hX dX7_wall_333 rfl 0 ic_0 ?_
    refine r_iald 335 hX sh_79 dX7_wall_334 rfl hw (fun hw => ?_)
    exact r_iret hX hR dX7_wall_335 hw
  · refine r_aload_n 291 hX dX7_wall_290 rfl rfl 0 rfl ?_
    refine g_X7_41_75 294 hX dX7_wall_291 rfl ?_
    refine r_iload_n 295 hX dX7_wall_294 rfl rfl 1 rfl ?_
    refine r_iconst 296 hX dX7_wall_295 rfl 0 ic_0 ?_
    refine r_iast 297 hX sh_86 dX7_wall_296 rfl hw (fun hw => ?_)
    refine r_iinc (lv' := [(2, .int (x2 + 1)), (0, .ref (X.kad 75))]) 300 hX dX7_wall_297 rfl 1 rfl (x2 + 1) (ici_1 _) (by decide) rfl ?_
    refine r_goto 284 hX dX7_wall_300 (by decide) ?_
    refine r_sub [1, 0] rfl ?_
    exact hK284 _ _ hw
set_option maxRecDepth 20000 in
set_option maxHeartbeats 4000000 in
theorem w_X7_wall_l284 {X : Cx} {Q : RV → St → Prop} (hX : CxB X RX7 cX7_wall 4 (7)) (hR : CxR X (some .int) Q) (n : Nat) : ∀ (x2 : Int32) (σ : St), wp_X7_wall_l284 (aI Q)  n x2 σ → At X 4 284 [(0, .ref (X.kad 75)), (2, .int (x2))] [] σ := by
  induction n with
  | zero => intro x2 σ h; exact h.elim
  | succ n ih => intro x2 σ h; exact w_X7_wall_b284  hX hR ih x2 σ h
set_option maxRecDepth 20000 in
set_option maxHeartbeats 4000000 in
theorem w_X7_wall_b247 {X : Cx} {Q : RV → St → Prop} (hX : CxB X RX7 cX7_wall 4 (7)) (hR : CxR X (some .int) Q) {K198 : Int32 → St → Prop} (hK198 : ∀ (x2 : Int32) (σ : St), K198 x2 σ → At X 4 198 [(0, .ref (X.kad 75)), (2, .int (x2))] [] σ) {K247 : Int32 → Int32 → St → Prop} (hK247 : ∀ (x2 : Int32) (x3 : Int32) (σ : St), K247 x2 x3 σ → At X 4 247 [(0, .ref (X.kad 75)), (2, .int (x2)), (3, .int (x3))] [] σ) (x2 : Int32) (x3 : Int32) (σ : St) (hw : wp_X7_wall_b247 (aI Q) K198 K247 x2 x3 σ) : At X 4 247 [(0, .ref (X.kad 75)), (2, .int (x2)), (3, .int (x3))] [] σ := by
  unfold wp_X7_wall_b247 at hw
  refine r_iload_n 248 hX dX7_wall_247 rfl rfl 2 rfl ?_
  refine r_bipush 250 hX dX7_wall_248 rfl 16 bi_16 ?_
  refine r_icmp_ge 276 253 hX dX7_wall_250 (by decide) rfl hw (fun hw => ?_) (fun hw => ?_)
  · refine r_iinc (lv' := [(2, .int (x2 + 1)), (0, .ref (X.kad 75)), (3, .int (x3))]) 279 hX dX7_wall_276 rfl 1 rfl (x2 + 1) (ici_1 _) (by decide) rfl ?_
    refine r_goto 198 hX dX7_wall_279 (by decide) ?_
    refine r_sub [1, 0] rfl ?_
    exact hK198 _ _ hw
  · refine r_aload_n 254 hX dX7_wall_253 rfl rfl 0 rfl ?_
    refine g_X7_69_75 257 hX dX7_wall_254 rfl ?_
    refine r_bipush 259 hX dX7_wall_257 rfl 16 bi_16 ?_
    refine r_iload_n 260 hX dX7_wall_259 rfl rfl 1 rfl ?_
    refine r_imul 261 hX dX7_wall_260 rfl ?_
    refine r_iload_n 262 hX dX7_wall_261 rfl rfl 2 rfl ?_
    refine r_iadd 263 hX dX7_wall_262 rfl ?_
    refine r_aload_n 264 hX dX7_wall_263 rfl rfl 0 rfl ?_
    refine g_X7_26_75 267 hX dX7_wall_264 rfl ?_
    refine r_iload_n 268 hX dX7_wall_267 rfl rfl 1 rfl ?_
    refine r_iald 269 hX sh_81 dX7_wall_268 rfl hw (fun hw => ?_)
    refine r_iast 270 hX sh_95 dX7_wall_269 rfl hw (fun hw => ?_)
    refine r_iinc (lv' := [(3, .int (x3 + 1)), (0, .ref (X.kad 75)), (2, .int (x2))]) 273 hX dX7_wall_270 rfl 2 rfl (x3 + 1) (ici_1 _) (by decide) rfl ?_
    refine r_goto 247 hX dX7_wall_273 (by decide) ?_
    refine r_sub [1, 2, 0] rfl ?_
    exact hK247 _ _ _ hw
set_option maxRecDepth 20000 in
set_option maxHeartbeats 4000000 in
theorem w_X7_wall_l247 {X : Cx} {Q : RV → St → Prop} (hX : CxB X RX7 cX7_wall 4 (7)) (hR : CxR X (some .int) Q) {K198 : Int32 → St → Prop} (hK198 : ∀ (x2 : Int32) (σ : St), K198 x2 σ → At X 4 198 [(0, .ref (X.kad 75)), (2, .int (x2))] [] σ) (n : Nat) : ∀ (x2 : Int32) (x3 : Int32) (σ : St), wp_X7_wall_l247 (aI Q) K198 n x2 x3 σ → At X 4 247 [(0, .ref (X.kad 75)), (2, .int (x2)), (3, .int (x3))] [] σ := by
  induction n with
  | zero => intro x2 x3 σ h; exact h.elim
  | succ n ih => intro x2 x3 σ h; exact w_X7_wall_b247  hX hR hK198 ih x2 x3 σ h
set_option maxRecDepth 20000 in
set_option maxHeartbeats 4000000 in
theorem w_X7_wall_b198 {X : Cx} {Q : RV → St → Prop} (hX : CxB X RX7 cX7_wall 4 (7)) (hR : CxR X (some .int) Q) {K198 : Int32 → St → Prop} (hK198 : ∀ (x2 : Int32) (σ : St), K198 x2 σ → At X 4 198 [(0, .ref (X.kad 75)), (2, .int (x2))] [] σ) (x2 : Int32) (σ : St) (hw : wp_X7_wall_b198 (aI Q) K198 x2 σ) : At X 4 198 [(0, .ref (X.kad 75)), (2, .int (x2))] [] σ := by
  unfold wp_X7_wall_b198 at hw
  refine r_iload_n 199 hX dX7_wall_198 rfl rfl 1 rfl ?_
  refine r_iconst 200 hX dX7_wall_199 rfl 3 ic_3 ?_
  refine r_icmp_ge 282 203 hX dX7_wall_200 (by decide) rfl hw (fun hw => ?_) (fun hw => ?_)
  · refine r_iconst 283 hX dX7_wall_282 rfl 0 ic_0 ?_
    refine r_istore_n (lv' := [(2, .int (0)), (0, .ref (X.kad 75))]) 284 hX dX7_wall_283 rfl rfl (by decide) rfl ?_
    refine r_sub [1, 0] rfl ?_
    obtain ⟨n, hw⟩ := hw
    exact w_X7_wall_l284 hX hR n _ _ hw
  · refine r_aload_n 204 hX dX7_wall_203 rfl rfl 0 rfl ?_
    refine g_X7_23_75 207 hX dX7_wall_204 rfl ?_
    refine r_iload_n 208 hX dX7_wall_207 rfl rfl 1 rfl ?_
    refine r_aload_n 209 hX dX7_wall_208 rfl rfl 0 rfl ?_
    refine g_X7_23_75 212 hX dX7_wall_209 rfl ?_
    refine r_iconst 213 hX dX7_wall_212 rfl 3 ic_3 ?_
    refine r_iload_n 214 hX dX7_wall_213 rfl rfl 1 rfl ?_
    refine r_iadd 215 hX dX7_wall_214 rfl ?_
    refine r_iald 216 hX sh_80 dX7_wall_215 rfl hw (fun hw => ?_)
    refine r_iast 217 hX sh_80 dX7_wall_216 rfl hw (fun hw => ?_)
    refine r_aload_n 218 hX dX7_wall_217 rfl rfl 0 rfl ?_
    refine g_X7_26_75 221 hX dX7_wall_218 rfl ?_
    refine r_iload_n 222 hX dX7_wall_221 rfl rfl 1 rfl ?_
    refine r_aload_n 223 hX dX7_wall_222 rfl rfl 0 rfl ?_
    refine g_X7_26_75 226 hX dX7_wall_223 rfl ?_
    refine r_iconst 227 hX dX7_wall_226 rfl 3 ic_3 ?_
    refine r_iload_n 228 hX dX7_wall_227 rfl rfl 1 rfl ?_
    refine r_iadd 229 hX dX7_wall_228 rfl ?_
    refine r_iald 230 hX sh_81 dX7_wall_229 rfl hw (fun hw => ?_)
    refine r_iast 231 hX sh_81 dX7_wall_230 rfl hw (fun hw => ?_)
    refine r_aload_n 232 hX dX7_wall_231 rfl rfl 0 rfl ?_
    refine g_X7_29_75 235 hX dX7_wall_232 rfl ?_
    refine r_iload_n 236 hX dX7_wall_235 rfl rfl 1 rfl ?_
    refine r_aload_n 237 hX dX7_wall_236 rfl rfl 0 rfl ?_
    refine g_X7_29_75 240 hX dX7_wall_237 rfl ?_
    refine r_iconst 241 hX dX7_wall_240 rfl 3 ic_3 ?_
    refine r_iload_n 242 hX dX7_wall_241 rfl rfl 1 rfl ?_
    refine r_iadd 243 hX dX7_wall_242 rfl ?_
    refine r_iald 244 hX sh_82 dX7_wall_243 rfl hw (fun hw => ?_)
    refine r_iast 245 hX sh_82 dX7_wall_244 rfl hw (fun hw => ?_)
    refine r_iconst 246 hX dX7_wall_245 rfl 0 ic_0 ?_
    refine r_istore_n (lv' := [(3, .int (0)), (0, .ref (X.kad 75)), (2, .int (x2))]) 247 hX dX7_wall_246 rfl rfl (by decide) rfl ?_
    refine r_sub [1, 2, 0] rfl ?_
    obtain ⟨n, hw⟩ := hw
    exact w_X7_wall_l247 hX hR hK198 n _ _ _ hw
set_option maxRecDepth 20000 in
set_option maxHeartbeats 4000000 in
theorem w_X7_wall_l198 {X : Cx} {Q : RV → St → Prop} (hX : CxB X RX7 cX7_wall 4 (7)) (hR : CxR X (some .int) Q) (n : Nat) : ∀ (x2 : Int32) (σ : St), wp_X7_wall_l198 (aI Q)  n x2 σ → At X 4 198 [(0, .ref (X.kad 75)), (2, .int (x2))] [] σ := by
  induction n with
  | zero => intro x2 σ h; exact h.elim
  | succ n ih => intro x2 σ h; exact w_X7_wall_b198  hX hR ih x2 σ h
set_option maxRecDepth 20000 in
set_option maxHeartbeats 4000000 in
theorem w_X7_wall_b169 {X : Cx} {Q : RV → St → Prop} (hX : CxB X RX7 cX7_wall 4 (7)) (hR : CxR X (some .int) Q) {K169 : Int32 → St → Prop} (hK169 : ∀ (x2 : Int32) (σ : St), K169 x2 σ → At X 4 169 [(0, .ref (X.kad 75)), (2, .int (x2))] [] σ) (x2 : Int32) (σ : St) (hw : wp_X7_wall_b169 (aI Q) K169 x2 σ) : At X 4 169 [(0, .ref (X.kad 75)), (2, .int (x2))] [] σ := by
  unfold wp_X7_wall_b169 at hw
  refine r_iload_n 170 hX dX7_wall_169 rfl rfl 1 rfl ?_
  refine r_bipush 172 hX dX7_wall_170 rfl 16 bi_16 ?_
  refine r_icmp_ge 196 175 hX dX7_wall_172 (by decide) rfl hw (fun hw => ?_) (fun hw => ?_)
  · refine r_iconst 197 hX dX7_wall_196 rfl 0 ic_0 ?_
    refine r_istore_n (lv' := [(2, .int (0)), (0, .ref (X.kad 75))]) 198 hX dX7_wall_197 rfl rfl (by decide) rfl ?_
    refine r_sub [1, 0] rfl ?_
    obtain ⟨n, hw⟩ := hw
    exact w_X7_wall_l198 hX hR n _ _ hw
  · refine r_aload_n 176 hX dX7_wall_175 rfl rfl 0 rfl ?_
    refine g_X7_32_75 179 hX dX7_wall_176 rfl ?_
    refine r_iload_n 180 hX dX7_wall_179 rfl rfl 1 rfl ?_
    refine r_aload_n 181 hX dX7_wall_180 rfl rfl 0 rfl ?_
    refine g_X7_32_75 184 hX dX7_wall_181 rfl ?_
    refine r_bipush 186 hX dX7_wall_184 rfl 16 bi_16 ?_
    refine r_iload_n 187 hX dX7_wall_186 rfl rfl 1 rfl ?_
    refine r_iadd 188 hX dX7_wall_187 rfl ?_
    refine r_iald 189 hX sh_83 dX7_wall_188 rfl hw (fun hw => ?_)
    refine r_iast 190 hX sh_83 dX7_wall_189 rfl hw (fun hw => ?_)
    refine r_iinc (lv' := [(2, .int (x2 + 1)), (0, .ref (X.kad 75))]) 193 hX dX7_wall_190 rfl 1 rfl (x2 + 1) (ici_1 _) (by decide) rfl ?_
    refine r_goto 169 hX dX7_wall_193 (by decide) ?_
    refine r_sub [1, 0] rfl ?_
    exact hK169 _ _ hw
set_option maxRecDepth 20000 in
set_option maxHeartbeats 4000000 in
theorem w_X7_wall_l169 {X : Cx} {Q : RV → St → Prop} (hX : CxB X RX7 cX7_wall 4 (7)) (hR : CxR X (some .int) Q) (n : Nat) : ∀ (x2 : Int32) (σ : St), wp_X7_wall_l169 (aI Q)  n x2 σ → At X 4 169 [(0, .ref (X.kad 75)), (2, .int (x2))] [] σ := by
  induction n with
  | zero => intro x2 σ h; exact h.elim
  | succ n ih => intro x2 σ h; exact w_X7_wall_b169  hX hR ih x2 σ h
set_option maxRecDepth 20000 in
set_option maxHeartbeats 4000000 in
theorem w_X7_wall_b102 {X : Cx} {Q : RV → St → Prop} (hX : CxB X RX7 cX7_wall 4 (7)) (hR : CxR X (some .int) Q) (σ : St) (hw : wp_X7_wall_b102 (aI Q)   σ) : At X 4 102 [(0, .ref (X.kad 75))] [] σ := by
  unfold wp_X7_wall_b102 at hw
  refine r_aload_n 103 hX dX7_wall_102 rfl rfl 0 rfl ?_
  refine g_X7_115_75 106 hX dX7_wall_103 rfl ?_
  refine r_bipush 108 hX dX7_wall_106 rfl (-9) bi_m9 ?_
  refine r_icmp_eq 119 111 hX dX7_wall_108 (by decide) rfl hw (fun hw => ?_) (fun hw => ?_)
  · refine r_aload_n 120 hX dX7_wall_119 rfl rfl 0 rfl ?_
    refine g_X7_13_75 123 hX dX7_wall_120 rfl ?_
    refine r_iconst 124 hX dX7_wall_123 rfl 0 ic_0 ?_
    refine r_aload_n 125 hX dX7_wall_124 rfl rfl 0 rfl ?_
    refine g_X7_13_75 128 hX dX7_wall_125 rfl ?_
    refine r_iconst 129 hX dX7_wall_128 rfl 1 ic_1 ?_
    refine r_iald 130 hX sh_77 dX7_wall_129 rfl hw (fun hw => ?_)
    refine r_iast 131 hX sh_77 dX7_wall_130 rfl hw (fun hw => ?_)
    refine r_aload_n 132 hX dX7_wall_131 rfl rfl 0 rfl ?_
    refine g_X7_17_75 135 hX dX7_wall_132 rfl ?_
    refine r_iconst 136 hX dX7_wall_135 rfl 0 ic_0 ?_
    refine r_aload_n 137 hX dX7_wall_136 rfl rfl 0 rfl ?_
    refine g_X7_17_75 140 hX dX7_wall_137 rfl ?_
    refine r_iconst 141 hX dX7_wall_140 rfl 1 ic_1 ?_
    refine r_iald 142 hX sh_78 dX7_wall_141 rfl hw (fun hw => ?_)
    refine r_iast 143 hX sh_78 dX7_wall_142 rfl hw (fun hw => ?_)
    refine r_aload_n 144 hX dX7_wall_143 rfl rfl 0 rfl ?_
    refine g_X7_20_75 147 hX dX7_wall_144 rfl ?_
    refine r_iconst 148 hX dX7_wall_147 rfl 0 ic_0 ?_
    refine r_aload_n 149 hX dX7_wall_148 rfl rfl 0 rfl ?_
    refine g_X7_20_75 152 hX dX7_wall_149 rfl ?_
    refine r_iconst 153 hX dX7_wall_152 rfl 1 ic_1 ?_
    refine r_iald 154 hX sh_79 dX7_wall_153 rfl hw (fun hw => ?_)
    refine r_iast 155 hX sh_79 dX7_wall_154 rfl hw (fun hw => ?_)
    refine r_aload_n 156 hX dX7_wall_155 rfl rfl 0 rfl ?_
    refine g_X7_35_75 159 hX dX7_wall_156 rfl ?_
    refine r_iconst 160 hX dX7_wall_159 rfl 0 ic_0 ?_
    refine r_aload_n 161 hX dX7_wall_160 rfl rfl 0 rfl ?_
    refine g_X7_35_75 164 hX dX7_wall_161 rfl ?_
    refine r_iconst 165 hX dX7_wall_164 rfl 1 ic_1 ?_
    refine r_iald 166 hX sh_84 dX7_wall_165 rfl hw (fun hw => ?_)
    refine r_iast 167 hX sh_84 dX7_wall_166 rfl hw (fun hw => ?_)
    refine r_iconst 168 hX dX7_wall_167 rfl 0 ic_0 ?_
    refine r_istore_n (lv' := [(2, .int (0)), (0, .ref (X.kad 75))]) 169 hX dX7_wall_168 rfl rfl (by decide) rfl ?_
    refine r_sub [1, 0] rfl ?_
    obtain ⟨n, hw⟩ := hw
    exact w_X7_wall_l169 hX hR n _ _ hw
  · refine r_bipush 113 hX dX7_wall_111 rfl (-10) bi_m10 ?_
    refine r_aload_n 114 hX dX7_wall_113 rfl rfl 0 rfl ?_
    refine g_X7_115_75 117 hX dX7_wall_114 rfl ?_
    refine r_isub 118 hX dX7_wall_117 rfl ?_
    exact r_iret hX hR dX7_wall_118 hw
set_option maxRecDepth 20000 in
set_option maxHeartbeats 4000000 in
theorem w_X7_wall_b71 {X : Cx} {Q : RV → St → Prop} (hX : CxB X RX7 cX7_wall 4 (7)) (hR : CxR X (some .int) Q) {K71 : Int32 → St → Prop} (hK71 : ∀ (x1 : Int32) (σ : St), K71 x1 σ → At X 4 71 [(0, .ref (X.kad 75)), (1, .int (x1))] [] σ) (x1 : Int32) (σ : St) (hw : wp_X7_wall_b71 (aI Q) K71 x1 σ) : At X 4 71 [(0, .ref (X.kad 75)), (1, .int (x1))] [] σ := by
  unfold wp_X7_wall_b71 at hw
  refine r_aload_n 72 hX dX7_wall_71 rfl rfl 0 rfl ?_
  refine g_X7_115_75 75 hX dX7_wall_72 rfl ?_
  refine r_bipush 77 hX dX7_wall_75 rfl (-9) bi_m9 ?_
  refine r_icmp_ne 102 80 hX dX7_wall_77 (by decide) rfl hw (fun hw => ?_) (fun hw => ?_)
  · refine r_sub [0] rfl ?_
    exact w_X7_wall_b102 hX hR _ hw
  · refine r_aload_n 81 hX dX7_wall_80 rfl rfl 0 rfl ?_
    refine g_X7_108_75 84 hX dX7_wall_81 rfl ?_
    refine r_if_eq 102 87 hX dX7_wall_84 (by decide) rfl hw (fun hw => ?_) (fun hw => ?_)
    · refine r_sub [0] rfl ?_
      exact w_X7_wall_b102 hX hR _ hw
    · refine r_aload_n 88 hX dX7_wall_87 rfl rfl 0 rfl ?_
      refine r_aload_n 89 hX dX7_wall_88 rfl rfl 0 rfl ?_
      refine g_X7_108_75 92 hX dX7_wall_89 rfl ?_
      refine r_iload_n 93 hX dX7_wall_92 rfl rfl 1 rfl ?_
      refine k_X7_132_X7_item 96 hX (by omega) (σ.1 75 15) (x1) (Nat.le_of_ble_eq_true rfl) dX7_wall_93 rfl hw (fun σ93 hw => ?_)
      refine r_iinc (lv' := [(1, .int (x1 + 1)), (0, .ref (X.kad 75))]) 99 hX dX7_wall_96 rfl 1 rfl (x1 + 1) (ici_1 _) (by decide) rfl ?_
      refine r_goto 71 hX dX7_wall_99 (by decide) ?_
      refine r_sub [1, 0] rfl ?_
      exact hK71 _ _ hw
set_option maxRecDepth 20000 in
set_option maxHeartbeats 4000000 in
theorem w_X7_wall_l71 {X : Cx} {Q : RV → St → Prop} (hX : CxB X RX7 cX7_wall 4 (7)) (hR : CxR X (some .int) Q) (n : Nat) : ∀ (x1 : Int32) (σ : St), wp_X7_wall_l71 (aI Q)  n x1 σ → At X 4 71 [(0, .ref (X.kad 75)), (1, .int (x1))] [] σ := by
  induction n with
  | zero => intro x1 σ h; exact h.elim
  | succ n ih => intro x1 σ h; exact w_X7_wall_b71  hX hR ih x1 σ h
set_option maxRecDepth 20000 in
set_option maxHeartbeats 4000000 in
theorem w_X7_wall_b43 {X : Cx} {Q : RV → St → Prop} (hX : CxB X RX7 cX7_wall 4 (7)) (hR : CxR X (some .int) Q) {K43 : Int32 → St → Prop} (hK43 : ∀ (x1 : Int32) (σ : St), K43 x1 σ → At X 4 43 [(0, .ref (X.kad 75)), (1, .int (x1))] [] σ) (x1 : Int32) (σ : St) (hw : wp_X7_wall_b43 (aI Q) K43 x1 σ) : At X 4 43 [(0, .ref (X.kad 75)), (1, .int (x1))] [] σ := by
  unfold wp_X7_wall_b43 at hw
  refine r_iload_n 44 hX dX7_wall_43 rfl rfl 1 rfl ?_
  refine r_bipush 46 hX dX7_wall_44 rfl 16 bi_16 ?_
  refine r_icmp_ge 65 49 hX dX7_wall_46 (by decide) rfl hw (fun hw => ?_) (fun hw => ?_)
  · refine r_iconst 66 hX dX7_wall_65 rfl 0 ic_0 ?_
    refine r_istore_n (lv' := [(1, .int (0)), (0, .ref (X.kad 75))]) 67 hX dX7_wall_66 rfl rfl (by decide) rfl ?_
    refine r_aload_n 68 hX dX7_wall_67 rfl rfl 1 rfl ?_
    refine k_X7_118_X7_next 71 hX (by omega)  (Nat.le_of_ble_eq_true rfl) dX7_wall_68 rfl hw (fun σ68 hw => ?_)
    refine r_sub [1, 0] rfl ?_
    obtain ⟨n, hw⟩ := hw
    exact w_X7_wall_l71 hX hR n _ _ hw
  · refine r_aload_n 50 hX dX7_wall_49 rfl rfl 0 rfl ?_
    refine g_X7_32_75 53 hX dX7_wall_50 rfl ?_
    refine r_bipush 55 hX dX7_wall_53 rfl 16 bi_16 ?_
    refine r_iload_n 56 hX dX7_wall_55 rfl rfl 1 rfl ?_
    refine r_iadd 57 hX dX7_wall_56 rfl ?_
    refine r_iconst 58 hX dX7_wall_57 rfl 0 ic_0 ?_
    refine r_iast 59 hX sh_83 dX7_wall_58 rfl hw (fun hw => ?_)
    refine r_iinc (lv' := [(1, .int (x1 + 1)), (0, .ref (X.kad 75))]) 62 hX dX7_wall_59 rfl 1 rfl (x1 + 1) (ici_1 _) (by decide) rfl ?_
    refine r_goto 43 hX dX7_wall_62 (by decide) ?_
    refine r_sub [1, 0] rfl ?_
    exact hK43 _ _ hw
set_option maxRecDepth 20000 in
set_option maxHeartbeats 4000000 in
theorem w_X7_wall_l43 {X : Cx} {Q : RV → St → Prop} (hX : CxB X RX7 cX7_wall 4 (7)) (hR : CxR X (some .int) Q) (n : Nat) : ∀ (x1 : Int32) (σ : St), wp_X7_wall_l43 (aI Q)  n x1 σ → At X 4 43 [(0, .ref (X.kad 75)), (1, .int (x1))] [] σ := by
  induction n with
  | zero => intro x1 σ h; exact h.elim
  | succ n ih => intro x1 σ h; exact w_X7_wall_b43  hX hR ih x1 σ h
set_option maxRecDepth 20000 in
set_option maxHeartbeats 4000000 in
theorem c_X7_wall : Con yX7_wall cX7_wall 4 (some .int) (7) (fun ad => [.ref (ad 75)]) (fun Q σ => wp_X7_wall  (aI Q) σ) := by
  refine con_intro (by decide +kernel) (fun _ => Nat.le_of_ble_eq_true rfl) (by omega) (fun X Q σ hX hR hw => ?_)
  have hX : CxB X RX7 cX7_wall 4 (7) := hX
  unfold wp_X7_wall at hw
  show At X 4 0 [(0, .ref (X.kad 75))] [] σ
  refine r_aload_n 1 hX dX7_wall_0 rfl rfl 0 rfl ?_
  refine r_iconst 2 hX dX7_wall_1 rfl 0 ic_0 ?_
  refine p_X7_95_75 5 hX dX7_wall_2 rfl ?_
  refine r_aload_n 6 hX dX7_wall_5 rfl rfl 0 rfl ?_
  refine r_bipush 8 hX dX7_wall_6 rfl (-9) bi_m9 ?_
  refine p_X7_115_75 11 hX dX7_wall_8 rfl ?_
  refine r_aload_n 12 hX dX7_wall_11 rfl rfl 0 rfl ?_
  refine g_X7_13_75 15 hX dX7_wall_12 rfl ?_
  refine r_iconst 16 hX dX7_wall_15 rfl 1 ic_1 ?_
  refine r_bipush 18 hX dX7_wall_16 rfl 10 bi_10 ?_
  refine r_iast 19 hX sh_77 dX7_wall_18 rfl hw (fun hw => ?_)
  refine r_aload_n 20 hX dX7_wall_19 rfl rfl 0 rfl ?_
  refine g_X7_17_75 23 hX dX7_wall_20 rfl ?_
  refine r_iconst 24 hX dX7_wall_23 rfl 1 ic_1 ?_
  refine r_bipush 26 hX dX7_wall_24 rfl 10 bi_10 ?_
  refine r_iast 27 hX sh_78 dX7_wall_26 rfl hw (fun hw => ?_)
  refine r_aload_n 28 hX dX7_wall_27 rfl rfl 0 rfl ?_
  refine g_X7_20_75 31 hX dX7_wall_28 rfl ?_
  refine r_iconst 32 hX dX7_wall_31 rfl 1 ic_1 ?_
  refine r_iconst 33 hX dX7_wall_32 rfl 0 ic_0 ?_
  refine r_iast 34 hX sh_79 dX7_wall_33 rfl hw (fun hw => ?_)
  refine r_aload_n 35 hX dX7_wall_34 rfl rfl 0 rfl ?_
  refine g_X7_35_75 38 hX dX7_wall_35 rfl ?_
  refine r_iconst 39 hX dX7_wall_38 rfl 1 ic_1 ?_
  refine r_iconst 40 hX dX7_wall_39 rfl 0 ic_0 ?_
  refine r_iast 41 hX sh_84 dX7_wall_40 rfl hw (fun hw => ?_)
  refine r_iconst 42 hX dX7_wall_41 rfl 0 ic_0 ?_
  refine r_istore_n (lv' := [(1, .int (0)), (0, .ref (X.kad 75))]) 43 hX dX7_wall_42 rfl rfl (by decide) rfl ?_
  refine r_sub [1, 0] rfl ?_
  obtain ⟨n, hw⟩ := hw
  exact w_X7_wall_l43 hX hR n _ _ hw
set_option maxRecDepth 20000 in
set_option maxHeartbeats 4000000 in
theorem c_X7_isIn (x1 : Int32) : Con yX7_isIn cX7_isIn 2 (some .boolean) (2) (fun ad => [.ref (ad 75), .int (x1)]) (fun Q σ => wp_X7_isIn x1 (aI Q) σ) := by
  refine con_intro (by decide +kernel) (fun _ => Nat.le_of_ble_eq_true rfl) (by omega) (fun X Q σ hX hR hw => ?_)
  have hX : CxB X RX7 cX7_isIn 2 (2) := hX
  unfold wp_X7_isIn at hw
  show At X 2 0 [(0, .ref (X.kad 75)), (1, .int (x1))] [] σ
  refine r_iload_n 1 hX dX7_isIn_0 rfl rfl 1 rfl ?_
  refine r_iconst 2 hX dX7_isIn_1 rfl 0 ic_0 ?_
  refine r_aload_n 3 hX dX7_isIn_2 rfl rfl 0 rfl ?_
  refine g_X7_13_75 6 hX dX7_isIn_3 rfl ?_
  refine r_iconst 7 hX dX7_isIn_6 rfl 0 ic_0 ?_
  refine r_iald 8 hX sh_77 dX7_isIn_7 rfl hw (fun hw => ?_)
  refine r_iconst 9 hX dX7_isIn_8 rfl 1 ic_1 ?_
  refine r_isub 10 hX dX7_isIn_9 rfl ?_
  refine k_X7_85_X7_in 13 hX (by omega) (x1) (0) ((σ.1 77 (0 : Int32).toNatClampNeg) - 1) (Nat.le_of_ble_eq_true rfl) dX7_isIn_10 rfl hw (fun r10 σ10 hw => ?_)
  exact r_zret hX hR (nar01 hw.1) dX7_isIn_13 hw.2
set_option maxRecDepth 20000 in
set_option maxHeartbeats 4000000 in
theorem c_X7_isCourse (x1 : Int32) : Con yX7_isCourse cX7_isCourse 2 (some .boolean) (2) (fun ad => [.ref (ad 75), .int (x1)]) (fun Q σ => wp_X7_isCourse x1 (aI Q) σ) := by
  refine con_intro (by decide +kernel) (fun _ => Nat.le_of_ble_eq_true rfl) (by omega) (fun X Q σ hX hR hw => ?_)
  have hX : CxB X RX7 cX7_isCourse 2 (2) := hX
  unfold wp_X7_isCourse at hw
  show At X 2 0 [(0, .ref (X.kad 75)), (1, .int (x1))] [] σ
  refine r_iload_n 1 hX dX7_isCourse_0 rfl rfl 1 rfl ?_
  refine r_iconst 2 hX dX7_isCourse_1 rfl 0 ic_0 ?_
  refine r_aload_n 3 hX dX7_isCourse_2 rfl rfl 0 rfl ?_
  refine g_X7_17_75 6 hX dX7_isCourse_3 rfl ?_
  refine r_iconst 7 hX dX7_isCourse_6 rfl 0 ic_0 ?_
  refine r_iald 8 hX sh_78 dX7_isCourse_7 rfl hw (fun hw => ?_)
  refine r_iconst 9 hX dX7_isCourse_8 rfl 1 ic_1 ?_
  refine r_isub 10 hX dX7_isCourse_9 rfl ?_
  refine k_X7_85_X7_in 13 hX (by omega) (x1) (0) ((σ.1 78 (0 : Int32).toNatClampNeg) - 1) (Nat.le_of_ble_eq_true rfl) dX7_isCourse_10 rfl hw (fun r10 σ10 hw => ?_)
  exact r_zret hX hR (nar01 hw.1) dX7_isCourse_13 hw.2
set_option maxRecDepth 20000 in
set_option maxHeartbeats 4000000 in
theorem c_X7_isHearth (x1 : Int32) : Con yX7_isHearth cX7_isHearth 2 (some .boolean) (2) (fun ad => [.ref (ad 75), .int (x1)]) (fun Q σ => wp_X7_isHearth x1 (aI Q) σ) := by
  refine con_intro (by decide +kernel) (fun _ => Nat.le_of_ble_eq_true rfl) (by omega) (fun X Q σ hX hR hw => ?_)
  have hX : CxB X RX7 cX7_isHearth 2 (2) := hX
  unfold wp_X7_isHearth at hw
  show At X 2 0 [(0, .ref (X.kad 75)), (1, .int (x1))] [] σ
  refine r_iload_n 1 hX dX7_isHearth_0 rfl rfl 1 rfl ?_
  refine r_iconst 2 hX dX7_isHearth_1 rfl 0 ic_0 ?_
  refine r_aload_n 3 hX dX7_isHearth_2 rfl rfl 0 rfl ?_
  refine g_X7_20_75 6 hX dX7_isHearth_3 rfl ?_
  refine r_iconst 7 hX dX7_isHearth_6 rfl 0 ic_0 ?_
  refine r_iald 8 hX sh_79 dX7_isHearth_7 rfl hw (fun hw => ?_)
  refine r_iconst 9 hX dX7_isHearth_8 rfl 1 ic_1 ?_
  refine r_isub 10 hX dX7_isHearth_9 rfl ?_
  refine k_X7_85_X7_in 13 hX (by omega) (x1) (0) ((σ.1 79 (0 : Int32).toNatClampNeg) - 1) (Nat.le_of_ble_eq_true rfl) dX7_isHearth_10 rfl hw (fun r10 σ10 hw => ?_)
  exact r_zret hX hR (nar01 hw.1) dX7_isHearth_13 hw.2
set_option maxRecDepth 20000 in
set_option maxHeartbeats 4000000 in
theorem c_X7_isBarred (x1 : Int32) (x2 : Int32) : Con yX7_isBarred cX7_isBarred 3 (some .boolean) (1) (fun ad => [.ref (ad 75), .int (x1), .int (x2)]) (fun Q σ => wp_X7_isBarred x1 x2 (aI Q) σ) := by
  refine con_intro (by decide +kernel) (fun _ => Nat.le_of_ble_eq_true rfl) (by omega) (fun X Q σ hX hR hw => ?_)
  have hX : CxB X RX7 cX7_isBarred 3 (1) := hX
  unfold wp_X7_isBarred at hw
  show At X 3 0 [(0, .ref (X.kad 75)), (1, .int (x1)), (2, .int (x2))] [] σ
  refine r_aload_n 1 hX dX7_isBarred_0 rfl rfl 0 rfl ?_
  refine g_X7_32_75 4 hX dX7_isBarred_1 rfl ?_
  refine r_iload_n 5 hX dX7_isBarred_4 rfl rfl 1 rfl ?_
  refine r_iald 6 hX sh_83 dX7_isBarred_5 rfl hw (fun hw => ?_)
  refine r_iload_n 7 hX dX7_isBarred_6 rfl rfl 2 rfl ?_
  refine r_ishr 8 hX dX7_isBarred_7 rfl ?_
  refine r_iconst 9 hX dX7_isBarred_8 rfl 1 ic_1 ?_
  refine r_iand 10 hX dX7_isBarred_9 rfl ?_
  refine r_iconst 11 hX dX7_isBarred_10 rfl 1 ic_1 ?_
  refine r_icmp_ne 18 14 hX dX7_isBarred_11 (by decide) rfl hw (fun hw => ?_) (fun hw => ?_)
  · refine r_iconst 19 hX dX7_isBarred_18 rfl 0 ic_0 ?_
    exact r_zret hX hR narrow_b0 dX7_isBarred_19 hw
  · refine r_iconst 15 hX dX7_isBarred_14 rfl 1 ic_1 ?_
    refine r_goto 19 hX dX7_isBarred_15 (by decide) ?_
    exact r_zret hX hR narrow_b1 dX7_isBarred_19 hw
theorem k_X7_136_X7_isIn {X : Cx} {cc : ByteArray} {nL d pc : Nat} {lv : List (Nat × Value)} {rest : List Value} {σ : St} {K : Int32 → St → Prop} (q : Nat) (hX : CxB X RX7 cc nL d) (hdc : 2 + 1 ≤ d) (x1 : Int32) (hst : (rest.map fun v => v.category).sum ≤ 8) (hd : decode cc pc = .ok (.invokevirtual 136, 3)) (hq : pc + 3 = q) (hw : wp_X7_isIn x1 K σ) (kk : ∀ (r : Int32) (τ : St), K r τ → At X nL q lv (.int r :: rest) τ) : At X nL pc lv (.int (x1) :: .ref (X.kad 75) :: rest) σ := r_callV (n := 1) q hX (k0 := 75) (c_X7_isIn x1) tw_567 tw_568 tw_569 tw_517 tw_570 ⟨by decide +kernel, by decide +kernel, by decide +kernel⟩ hdc (by decide) (As := [.int (x1)]) rfl rfl (by decide) ⟨_, _, _, rfl, rfl, rfl⟩ hst hd hq rfl (K := qI K) hw (kI kk)
set_option maxRecDepth 20000 in
set_option maxHeartbeats 4000000 in
theorem c_X7_isCold (x1 : Int32) : Con yX7_isCold cX7_isCold 2 (some .boolean) (3) (fun ad => [.ref (ad 75), .int (x1)]) (fun Q σ => wp_X7_isCold x1 (aI Q) σ) := by
  refine con_intro (by decide +kernel) (fun _ => Nat.le_of_ble_eq_true rfl) (by omega) (fun X Q σ hX hR hw => ?_)
  have hX : CxB X RX7 cX7_isCold 2 (3) := hX
  unfold wp_X7_isCold at hw
  show At X 2 0 [(0, .ref (X.kad 75)), (1, .int (x1))] [] σ
  refine r_aload_n 1 hX dX7_isCold_0 rfl rfl 0 rfl ?_
  refine r_iload_n 2 hX dX7_isCold_1 rfl rfl 1 rfl ?_
  refine k_X7_136_X7_isIn 5 hX (by omega) (x1) (Nat.le_of_ble_eq_true rfl) dX7_isCold_2 rfl hw (fun r2 σ2 hw => ?_)
  refine r_if_eq 26 8 hX dX7_isCold_5 (by decide) rfl hw (fun hw => ?_) (fun hw => ?_)
  · refine r_iconst 27 hX dX7_isCold_26 rfl 0 ic_0 ?_
    exact r_zret hX hR narrow_b0 dX7_isCold_27 hw
  · refine r_aload_n 9 hX dX7_isCold_8 rfl rfl 0 rfl ?_
    refine g_X7_35_75 12 hX dX7_isCold_9 rfl ?_
    refine r_iconst 13 hX dX7_isCold_12 rfl 0 ic_0 ?_
    refine r_iald 14 hX sh_84 dX7_isCold_13 rfl hw (fun hw => ?_)
    refine r_iload_n 15 hX dX7_isCold_14 rfl rfl 1 rfl ?_
    refine r_ishr 16 hX dX7_isCold_15 rfl ?_
    refine r_iconst 17 hX dX7_isCold_16 rfl 1 ic_1 ?_
    refine r_iand 18 hX dX7_isCold_17 rfl ?_
    refine r_iconst 19 hX dX7_isCold_18 rfl 1 ic_1 ?_
    refine r_icmp_ne 26 22 hX dX7_isCold_19 (by decide) rfl hw (fun hw => ?_) (fun hw => ?_)
    · refine r_iconst 27 hX dX7_isCold_26 rfl 0 ic_0 ?_
      exact r_zret hX hR narrow_b0 dX7_isCold_27 hw
    · refine r_iconst 23 hX dX7_isCold_22 rfl 1 ic_1 ?_
      refine r_goto 27 hX dX7_isCold_23 (by decide) ?_
      exact r_zret hX hR narrow_b1 dX7_isCold_27 hw
theorem k_X7_140_X7_isCourse {X : Cx} {cc : ByteArray} {nL d pc : Nat} {lv : List (Nat × Value)} {rest : List Value} {σ : St} {K : Int32 → St → Prop} (q : Nat) (hX : CxB X RX7 cc nL d) (hdc : 2 + 1 ≤ d) (x1 : Int32) (hst : (rest.map fun v => v.category).sum ≤ 8) (hd : decode cc pc = .ok (.invokevirtual 140, 3)) (hq : pc + 3 = q) (hw : wp_X7_isCourse x1 K σ) (kk : ∀ (r : Int32) (τ : St), K r τ → At X nL q lv (.int r :: rest) τ) : At X nL pc lv (.int (x1) :: .ref (X.kad 75) :: rest) σ := r_callV (n := 1) q hX (k0 := 75) (c_X7_isCourse x1) tw_571 tw_572 tw_573 tw_517 tw_574 ⟨by decide +kernel, by decide +kernel, by decide +kernel⟩ hdc (by decide) (As := [.int (x1)]) rfl rfl (by decide) ⟨_, _, _, rfl, rfl, rfl⟩ hst hd hq rfl (K := qI K) hw (kI kk)
theorem k_X7_143_X7_isBarred {X : Cx} {cc : ByteArray} {nL d pc : Nat} {lv : List (Nat × Value)} {rest : List Value} {σ : St} {K : Int32 → St → Prop} (q : Nat) (hX : CxB X RX7 cc nL d) (hdc : 1 + 1 ≤ d) (x1 : Int32) (x2 : Int32) (hst : (rest.map fun v => v.category).sum ≤ 8) (hd : decode cc pc = .ok (.invokevirtual 143, 3)) (hq : pc + 3 = q) (hw : wp_X7_isBarred x1 x2 K σ) (kk : ∀ (r : Int32) (τ : St), K r τ → At X nL q lv (.int r :: rest) τ) : At X nL pc lv (.int (x2) :: .int (x1) :: .ref (X.kad 75) :: rest) σ := r_callV (n := 2) q hX (k0 := 75) (c_X7_isBarred x1 x2) tw_575 tw_576 tw_577 tw_517 tw_578 ⟨by decide +kernel, by decide +kernel, by decide +kernel⟩ hdc (by decide) (As := [.int (x1), .int (x2)]) rfl rfl (by decide) ⟨_, _, _, rfl, rfl, rfl⟩ hst hd hq rfl (K := qI K) hw (kI kk)
theorem k_X7_147_X7_isCold {X : Cx} {cc : ByteArray} {nL d pc : Nat} {lv : List (Nat × Value)} {rest : List Value} {σ : St} {K : Int32 → St → Prop} (q : Nat) (hX : CxB X RX7 cc nL d) (hdc : 3 + 1 ≤ d) (x1 : Int32) (hst : (rest.map fun v => v.category).sum ≤ 8) (hd : decode cc pc = .ok (.invokevirtual 147, 3)) (hq : pc + 3 = q) (hw : wp_X7_isCold x1 K σ) (kk : ∀ (r : Int32) (τ : St), K r τ → At X nL q lv (.int r :: rest) τ) : At X nL pc lv (.int (x1) :: .ref (X.kad 75) :: rest) σ := r_callV (n := 1) q hX (k0 := 75) (c_X7_isCold x1) tw_579 tw_580 tw_581 tw_517 tw_582 ⟨by decide +kernel, by decide +kernel, by decide +kernel⟩ hdc (by decide) (As := [.int (x1)]) rfl rfl (by decide) ⟨_, _, _, rfl, rfl, rfl⟩ hst hd hq rfl (K := qI K) hw (kI kk)
set_option maxRecDepth 20000 in
set_option maxHeartbeats 4000000 in
theorem w_X7_brick_b30 {X : Cx} {Q : RV → St → Prop} (hX : CxB X RX7 cX7_brick 3 (4)) (hR : CxR X (some .int) Q) (x2 : Int32) (s0 : Int32) (σ : St) (hw : wp_X7_brick_b30 (aI Q)  x2 s0 σ) : At X 3 30 [(0, .ref (X.kad 75)), (2, .int (x2))] [.int (s0)] σ := by
  unfold wp_X7_brick_b30 at hw
  refine r_aload_n 31 hX dX7_brick_30 rfl rfl 0 rfl ?_
  refine r_iload_n 32 hX dX7_brick_31 rfl rfl 1 rfl ?_
  refine k_X7_147_X7_isCold 35 hX (by omega) (x2) (Nat.le_of_ble_eq_true rfl) dX7_brick_32 rfl hw (fun r32 σ32 hw => ?_)
  refine r_if_eq 42 38 hX dX7_brick_35 (by decide) rfl hw (fun hw => ?_) (fun hw => ?_)
  · refine r_iconst 43 hX dX7_brick_42 rfl 0 ic_0 ?_
    refine r_iadd 44 hX dX7_brick_43 rfl ?_
    refine r_goto 48 hX dX7_brick_44 (by decide) ?_
    exact r_iret hX hR dX7_brick_48 hw
  · refine r_iconst 39 hX dX7_brick_38 rfl 2 ic_2 ?_
    refine r_goto 43 hX dX7_brick_39 (by decide) ?_
    refine r_iadd 44 hX dX7_brick_43 rfl ?_
    refine r_goto 48 hX dX7_brick_44 (by decide) ?_
    exact r_iret hX hR dX7_brick_48 hw
set_option maxRecDepth 20000 in
set_option maxHeartbeats 4000000 in
theorem c_X7_brick (x1 : Int32) (x2 : Int32) : Con yX7_brick cX7_brick 3 (some .int) (4) (fun ad => [.ref (ad 75), .int (x1), .int (x2)]) (fun Q σ => wp_X7_brick x1 x2 (aI Q) σ) := by
  refine con_intro (by decide +kernel) (fun _ => Nat.le_of_ble_eq_true rfl) (by omega) (fun X Q σ hX hR hw => ?_)
  have hX : CxB X RX7 cX7_brick 3 (4) := hX
  unfold wp_X7_brick at hw
  show At X 3 0 [(0, .ref (X.kad 75)), (1, .int (x1)), (2, .int (x2))] [] σ
  refine r_aload_n 1 hX dX7_brick_0 rfl rfl 0 rfl ?_
  refine r_iload_n 2 hX dX7_brick_1 rfl rfl 1 rfl ?_
  refine k_X7_140_X7_isCourse 5 hX (by omega) (x1) (Nat.le_of_ble_eq_true rfl) dX7_brick_2 rfl hw (fun r2 σ2 hw => ?_)
  refine r_if_eq 47 8 hX dX7_brick_5 (by decide) rfl hw (fun hw => ?_) (fun hw => ?_)
  · refine r_iconst 48 hX dX7_brick_47 rfl (-1) ic_m1 ?_
    exact r_iret hX hR dX7_brick_48 hw
  · refine r_aload_n 9 hX dX7_brick_8 rfl rfl 0 rfl ?_
    refine r_iload_n 10 hX dX7_brick_9 rfl rfl 2 rfl ?_
    refine k_X7_136_X7_isIn 13 hX (by omega) (x2) (Nat.le_of_ble_eq_true rfl) dX7_brick_10 rfl hw (fun r10 σ10 hw => ?_)
    refine r_if_eq 47 16 hX dX7_brick_13 (by decide) rfl hw (fun hw => ?_) (fun hw => ?_)
    · refine r_iconst 48 hX dX7_brick_47 rfl (-1) ic_m1 ?_
      exact r_iret hX hR dX7_brick_48 hw
    · refine r_aload_n 17 hX dX7_brick_16 rfl rfl 0 rfl ?_
      refine r_iload_n 18 hX dX7_brick_17 rfl rfl 1 rfl ?_
      refine r_iload_n 19 hX dX7_brick_18 rfl rfl 2 rfl ?_
      refine k_X7_143_X7_isBarred 22 hX (by omega) (x1) (x2) (Nat.le_of_ble_eq_true rfl) dX7_brick_19 rfl hw (fun r19 σ19 hw => ?_)
      refine r_if_eq 29 25 hX dX7_brick_22 (by decide) rfl hw (fun hw => ?_) (fun hw => ?_)
      · refine r_iconst 30 hX dX7_brick_29 rfl 0 ic_0 ?_
        refine r_sub [0, 2] rfl ?_
        exact w_X7_brick_b30 hX hR _ _ _ hw
      · refine r_iconst 26 hX dX7_brick_25 rfl 1 ic_1 ?_
        refine r_goto 30 hX dX7_brick_26 (by decide) ?_
        refine r_sub [0, 2] rfl ?_
        exact w_X7_brick_b30 hX hR _ _ _ hw
theorem k_X7_150_X7_isHearth {X : Cx} {cc : ByteArray} {nL d pc : Nat} {lv : List (Nat × Value)} {rest : List Value} {σ : St} {K : Int32 → St → Prop} (q : Nat) (hX : CxB X RX7 cc nL d) (hdc : 2 + 1 ≤ d) (x1 : Int32) (hst : (rest.map fun v => v.category).sum ≤ 8) (hd : decode cc pc = .ok (.invokevirtual 150, 3)) (hq : pc + 3 = q) (hw : wp_X7_isHearth x1 K σ) (kk : ∀ (r : Int32) (τ : St), K r τ → At X nL q lv (.int r :: rest) τ) : At X nL pc lv (.int (x1) :: .ref (X.kad 75) :: rest) σ := r_callV (n := 1) q hX (k0 := 75) (c_X7_isHearth x1) tw_583 tw_584 tw_585 tw_517 tw_586 ⟨by decide +kernel, by decide +kernel, by decide +kernel⟩ hdc (by decide) (As := [.int (x1)]) rfl rfl (by decide) ⟨_, _, _, rfl, rfl, rfl⟩ hst hd hq rfl (K := qI K) hw (kI kk)
set_option maxRecDepth 20000 in
set_option maxHeartbeats 4000000 in
theorem c_X7_hearth (x1 : Int32) (x2 : Int32) : Con yX7_hearth cX7_hearth 3 (some .int) (3) (fun ad => [.ref (ad 75), .int (x1), .int (x2)]) (fun Q σ => wp_X7_hearth x1 x2 (aI Q) σ) := by
  refine con_intro (by decide +kernel) (fun _ => Nat.le_of_ble_eq_true rfl) (by omega) (fun X Q σ hX hR hw => ?_)
  have hX : CxB X RX7 cX7_hearth 3 (3) := hX
  unfold wp_X7_hearth at hw
  show At X 3 0 [(0, .ref (X.kad 75)), (1, .int (x1)), (2, .int (x2))] [] σ
  refine r_aload_n 1 hX dX7_hearth_0 rfl rfl 0 rfl ?_
  refine r_iload_n 2 hX dX7_hearth_1 rfl rfl 1 rfl ?_
  refine k_X7_150_X7_isHearth 5 hX (by omega) (x1) (Nat.le_of_ble_eq_true rfl) dX7_hearth_2 rfl hw (fun r2 σ2 hw => ?_)
  refine r_if_ne 10 8 hX dX7_hearth_5 (by decide) rfl hw (fun hw => ?_) (fun hw => ?_)
  · refine r_iload_n 11 hX dX7_hearth_10 rfl rfl 2 rfl ?_
    refine r_if_ne 23 14 hX dX7_hearth_11 (by decide) rfl hw (fun hw => ?_) (fun hw => ?_)
    · refine r_iload_n 24 hX dX7_hearth_23 rfl rfl 2 rfl ?_
      refine r_iconst 25 hX dX7_hearth_24 rfl 1 ic_1 ?_
      refine r_icmp_ne 37 28 hX dX7_hearth_25 (by decide) rfl hw (fun hw => ?_) (fun hw => ?_)
      · refine r_iload_n 38 hX dX7_hearth_37 rfl rfl 2 rfl ?_
        refine r_iconst 39 hX dX7_hearth_38 rfl 2 ic_2 ?_
        refine r_icmp_ne 51 42 hX dX7_hearth_39 (by decide) rfl hw (fun hw => ?_) (fun hw => ?_)
        · refine r_iconst 52 hX dX7_hearth_51 rfl (-1) ic_m1 ?_
          exact r_iret hX hR dX7_hearth_52 hw
        · refine r_aload_n 43 hX dX7_hearth_42 rfl rfl 0 rfl ?_
          refine g_X7_29_75 46 hX dX7_hearth_43 rfl ?_
          refine r_iload_n 47 hX dX7_hearth_46 rfl rfl 1 rfl ?_
          refine r_iald 48 hX sh_82 dX7_hearth_47 rfl hw (fun hw => ?_)
          refine r_goto 52 hX dX7_hearth_48 (by decide) ?_
          exact r_iret hX hR dX7_hearth_52 hw
      · refine r_aload_n 29 hX dX7_hearth_28 rfl rfl 0 rfl ?_
        refine g_X7_26_75 32 hX dX7_hearth_29 rfl ?_
        refine r_iload_n 33 hX dX7_hearth_32 rfl rfl 1 rfl ?_
        refine r_iald 34 hX sh_81 dX7_hearth_33 rfl hw (fun hw => ?_)
        refine r_goto 52 hX dX7_hearth_34 (by decide) ?_
        exact r_iret hX hR dX7_hearth_52 hw
    · refine r_aload_n 15 hX dX7_hearth_14 rfl rfl 0 rfl ?_
      refine g_X7_23_75 18 hX dX7_hearth_15 rfl ?_
      refine r_iload_n 19 hX dX7_hearth_18 rfl rfl 1 rfl ?_
      refine r_iald 20 hX sh_80 dX7_hearth_19 rfl hw (fun hw => ?_)
      refine r_goto 52 hX dX7_hearth_20 (by decide) ?_
      exact r_iret hX hR dX7_hearth_52 hw
  · refine r_iconst 9 hX dX7_hearth_8 rfl (-1) ic_m1 ?_
    exact r_iret hX hR dX7_hearth_9 hw
set_option maxRecDepth 20000 in
set_option maxHeartbeats 4000000 in
theorem w_X7_tune_b51 {X : Cx} {Q : RV → St → Prop} (hX : CxB X RX7 cX7_tune 5 (2)) (hR : CxR X (some .int) Q) (x1 : Int32) (x2 : Int32) (x3 : Int32) (s0 : Int32) (s1 : Int32) (σ : St) (hw : wp_X7_tune_b51 (aI Q)  x1 x2 x3 s0 s1 σ) : At X 5 51 [(0, .ref (X.kad 75)), (1, .int (x1)), (2, .int (x2)), (3, .int (x3))] [.int (s0), .int (s1)] σ := by
  unfold wp_X7_tune_b51 at hw
  refine r_iload_n 52 hX dX7_tune_51 rfl rfl 3 rfl ?_
  refine k_X7_85_X7_in 55 hX (by omega) (s1) (s0) (x3) (Nat.le_of_ble_eq_true rfl) dX7_tune_52 rfl hw (fun r52 σ52 hw => ?_)
  refine r_if_ne 60 58 hX dX7_tune_55 (by decide) rfl hw (fun hw => ?_) (fun hw => ?_)
  · refine r_aload_n 61 hX dX7_tune_60 rfl rfl 0 rfl ?_
    refine g_X7_38_75 64 hX dX7_tune_61 rfl ?_
    refine r_iload_n 65 hX dX7_tune_64 rfl rfl 1 rfl ?_
    refine r_iald 66 hX sh_85 dX7_tune_65 rfl hw (fun hw => ?_)
    refine r_istore (lv' := [(4, .int (σ52.1 85 x1.toNatClampNeg)), (0, .ref (X.kad 75)), (1, .int (x1)), (2, .int (x2)), (3, .int (x3))]) 68 hX dX7_tune_66 rfl (by decide) rfl ?_
    refine r_aload_n 69 hX dX7_tune_68 rfl rfl 1 rfl ?_
    refine g_X7_38_75 72 hX dX7_tune_69 rfl ?_
    refine r_iload_n 73 hX dX7_tune_72 rfl rfl 2 rfl ?_
    refine r_iload_n 74 hX dX7_tune_73 rfl rfl 3 rfl ?_
    refine r_iast 75 hX sh_85 dX7_tune_74 rfl hw (fun hw => ?_)
    refine r_iload 77 hX dX7_tune_75 rfl 0 rfl ?_
    exact r_iret hX hR dX7_tune_77 hw
  · refine r_iconst 59 hX dX7_tune_58 rfl (-1) ic_m1 ?_
    exact r_iret hX hR dX7_tune_59 hw
set_option maxRecDepth 20000 in
set_option maxHeartbeats 4000000 in
theorem w_X7_tune_b30 {X : Cx} {Q : RV → St → Prop} (hX : CxB X RX7 cX7_tune 5 (2)) (hR : CxR X (some .int) Q) (x1 : Int32) (x2 : Int32) (s0 : Int32) (σ : St) (hw : wp_X7_tune_b30 (aI Q)  x1 x2 s0 σ) : At X 5 30 [(0, .ref (X.kad 75)), (1, .int (x1)), (2, .int (x2))] [.int (s0)] σ := by
  unfold wp_X7_tune_b30 at hw
  refine r_istore_n (lv' := [(3, .int (s0)), (0, .ref (X.kad 75)), (1, .int (x1)), (2, .int (x2))]) 31 hX dX7_tune_30 rfl rfl (by decide) rfl ?_
  refine r_iload_n 32 hX dX7_tune_31 rfl rfl 2 rfl ?_
  refine r_iconst 33 hX dX7_tune_32 rfl 0 ic_0 ?_
  refine r_iconst 34 hX dX7_tune_33 rfl 5 ic_5 ?_
  refine k_X7_85_X7_in 37 hX (by omega) (x1) (0) (5) (Nat.le_of_ble_eq_true rfl) dX7_tune_34 rfl hw (fun r34 σ34 hw => ?_)
  refine r_if_eq 58 40 hX dX7_tune_37 (by decide) rfl hw (fun hw => ?_) (fun hw => ?_)
  · refine r_iconst 59 hX dX7_tune_58 rfl (-1) ic_m1 ?_
    exact r_iret hX hR dX7_tune_59 hw
  · refine r_iload_n 41 hX dX7_tune_40 rfl rfl 3 rfl ?_
    refine r_iload_n 42 hX dX7_tune_41 rfl rfl 2 rfl ?_
    refine r_iconst 43 hX dX7_tune_42 rfl 3 ic_3 ?_
    refine r_icmp_ne 50 46 hX dX7_tune_43 (by decide) rfl hw (fun hw => ?_) (fun hw => ?_)
    · refine r_iconst 51 hX dX7_tune_50 rfl 0 ic_0 ?_
      refine r_sub [1, 2, 3, 0] rfl ?_
      exact w_X7_tune_b51 hX hR _ _ _ _ _ _ hw
    · refine r_iconst 47 hX dX7_tune_46 rfl 1 ic_1 ?_
      refine r_goto 51 hX dX7_tune_47 (by decide) ?_
      refine r_sub [1, 2, 3, 0] rfl ?_
      exact w_X7_tune_b51 hX hR _ _ _ _ _ _ hw
set_option maxRecDepth 20000 in
set_option maxHeartbeats 4000000 in
theorem c_X7_tune (x1 : Int32) (x2 : Int32) : Con yX7_tune cX7_tune 5 (some .int) (2) (fun ad => [.ref (ad 75), .int (x1), .int (x2)]) (fun Q σ => wp_X7_tune x1 x2 (aI Q) σ) := by
  refine con_intro (by decide +kernel) (fun _ => Nat.le_of_ble_eq_true rfl) (by omega) (fun X Q σ hX hR hw => ?_)
  have hX : CxB X RX7 cX7_tune 5 (2) := hX
  unfold wp_X7_tune at hw
  show At X 5 0 [(0, .ref (X.kad 75)), (1, .int (x1)), (2, .int (x2))] [] σ
  refine r_iload_n 1 hX dX7_tune_0 rfl rfl 1 rfl ?_
  refine r_if_ne 8 4 hX dX7_tune_1 (by decide) rfl hw (fun hw => ?_) (fun hw => ?_)
  · refine r_iload_n 9 hX dX7_tune_8 rfl rfl 1 rfl ?_
    refine r_iconst 10 hX dX7_tune_9 rfl 4 ic_4 ?_
    refine r_icmp_ne 18 13 hX dX7_tune_10 (by decide) rfl hw (fun hw => ?_) (fun hw => ?_)
    · refine r_iload_n 19 hX dX7_tune_18 rfl rfl 1 rfl ?_
      refine r_iconst 20 hX dX7_tune_19 rfl 5 ic_5 ?_
      refine r_icmp_ne 28 23 hX dX7_tune_20 (by decide) rfl hw (fun hw => ?_) (fun hw => ?_)
      · refine r_bipush 30 hX dX7_tune_28 rfl 20 bi_20 ?_
        exact w_X7_tune_b30 hX hR _ _ _ _ hw
      · refine r_bipush 25 hX dX7_tune_23 rfl 99 bi_99 ?_
        refine r_goto 30 hX dX7_tune_25 (by decide) ?_
        exact w_X7_tune_b30 hX hR _ _ _ _ hw
    · refine r_bipush 15 hX dX7_tune_13 rfl 9 bi_9 ?_
      refine r_goto 30 hX dX7_tune_15 (by decide) ?_
      exact w_X7_tune_b30 hX hR _ _ _ _ hw
  · refine r_iconst 5 hX dX7_tune_4 rfl 3 ic_3 ?_
    refine r_goto 30 hX dX7_tune_5 (by decide) ?_
    exact w_X7_tune_b30 hX hR _ _ _ _ hw
set_option maxRecDepth 20000 in
set_option maxHeartbeats 4000000 in
theorem c_X7_wind (x1 : Int32) (x2 : Int32) (x3 : Int32) : Con yX7_wind cX7_wind 5 (some .int) (3) (fun ad => [.ref (ad 75), .int (x1), .int (x2), .int (x3)]) (fun Q σ => wp_X7_wind x1 x2 x3 (aI Q) σ) := by
  refine con_intro (by decide +kernel) (fun _ => Nat.le_of_ble_eq_true rfl) (by omega) (fun X Q σ hX hR hw => ?_)
  have hX : CxB X RX7 cX7_wind 5 (3) := hX
  unfold wp_X7_wind at hw
  show At X 5 0 [(0, .ref (X.kad 75)), (1, .int (x1)), (2, .int (x2)), (3, .int (x3))] [] σ
  refine r_iload_n 1 hX dX7_wind_0 rfl rfl 1 rfl ?_
  refine r_iconst 2 hX dX7_wind_1 rfl 0 ic_0 ?_
  refine r_iconst 3 hX dX7_wind_2 rfl 3 ic_3 ?_
  refine k_X7_85_X7_in 6 hX (by omega) (x1) (0) (3) (Nat.le_of_ble_eq_true rfl) dX7_wind_3 rfl hw (fun r3 σ3 hw => ?_)
  refine r_if_eq 28 9 hX dX7_wind_6 (by decide) rfl hw (fun hw => ?_) (fun hw => ?_)
  · refine r_ldc 30 hX (-1000000) tw_588 dX7_wind_28 rfl ?_
    exact r_iret hX hR dX7_wind_30 hw
  · refine r_aload_n 10 hX dX7_wind_9 rfl rfl 0 rfl ?_
    refine r_iload_n 11 hX dX7_wind_10 rfl rfl 2 rfl ?_
    refine k_X7_136_X7_isIn 14 hX (by omega) (x2) (Nat.le_of_ble_eq_true rfl) dX7_wind_11 rfl hw (fun r11 σ11 hw => ?_)
    refine r_if_eq 28 17 hX dX7_wind_14 (by decide) rfl hw (fun hw => ?_) (fun hw => ?_)
    · refine r_ldc 30 hX (-1000000) tw_588 dX7_wind_28 rfl ?_
      exact r_iret hX hR dX7_wind_30 hw
    · refine r_iload_n 18 hX dX7_wind_17 rfl rfl 3 rfl ?_
      refine r_bipush 20 hX dX7_wind_18 rfl (-9) bi_m9 ?_
      refine r_bipush 22 hX dX7_wind_20 rfl 9 bi_9 ?_
      refine k_X7_85_X7_in 25 hX (by omega) (x3) ((-9)) (9) (Nat.le_of_ble_eq_true rfl) dX7_wind_22 rfl hw (fun r22 σ22 hw => ?_)
      refine r_if_ne 31 28 hX dX7_wind_25 (by decide) rfl hw (fun hw => ?_) (fun hw => ?_)
      · refine r_aload_n 32 hX dX7_wind_31 rfl rfl 0 rfl ?_
        refine g_X7_41_75 35 hX dX7_wind_32 rfl ?_
        refine r_bipush 37 hX dX7_wind_35 rfl 10 bi_10 ?_
        refine r_iload_n 38 hX dX7_wind_37 rfl rfl 1 rfl ?_
        refine r_imul 39 hX dX7_wind_38 rfl ?_
        refine r_iload_n 40 hX dX7_wind_39 rfl rfl 2 rfl ?_
        refine r_iadd 41 hX dX7_wind_40 rfl ?_
        refine r_iald 42 hX sh_86 dX7_wind_41 rfl hw (fun hw => ?_)
        refine r_topi hw (fun v42 hw => ?_)
        refine r_istore (lv' := [(4, .int (v42)), (0, .ref (X.kad 75)), (1, .int (x1)), (2, .int (x2)), (3, .int (x3))]) 44 hX dX7_wind_42 rfl (by decide) rfl ?_
        refine r_aload_n 45 hX dX7_wind_44 rfl rfl 1 rfl ?_
        refine g_X7_41_75 48 hX dX7_wind_45 rfl ?_
        refine r_bipush 50 hX dX7_wind_48 rfl 10 bi_10 ?_
        refine r_iload_n 51 hX dX7_wind_50 rfl rfl 2 rfl ?_
        refine r_imul 52 hX dX7_wind_51 rfl ?_
        refine r_iload_n 53 hX dX7_wind_52 rfl rfl 3 rfl ?_
        refine r_iadd 54 hX dX7_wind_53 rfl ?_
        refine r_iload_n 55 hX dX7_wind_54 rfl rfl 4 rfl ?_
        refine r_iast 56 hX sh_86 dX7_wind_55 rfl hw (fun hw => ?_)
        refine r_iload 58 hX dX7_wind_56 rfl 0 rfl ?_
        exact r_iret hX hR dX7_wind_58 hw
      · refine r_ldc 30 hX (-1000000) tw_588 dX7_wind_28 rfl ?_
        exact r_iret hX hR dX7_wind_30 hw
set_option maxRecDepth 20000 in
set_option maxHeartbeats 4000000 in
theorem w_X7_isMarked_b52 {X : Cx} {Q : RV → St → Prop} (hX : CxB X RX7 cX7_isMarked 6 (1)) (hR : CxR X (some .boolean) Q) {K6 : Int32 → Int32 → Int32 → Int32 → Int32 → St → Prop} (hK6 : ∀ (x1 : Int32) (x2 : Int32) (x3 : Int32) (x4 : Int32) (x5 : Int32) (σ : St), K6 x1 x2 x3 x4 x5 σ → At X 6 6 [(0, .ref (X.kad 75)), (1, .int (x1)), (2, .int (x2)), (3, .int (x3)), (4, .int (x4)), (5, .int (x5))] [] σ) (x1 : Int32) (x2 : Int32) (x3 : Int32) (x5 : Int32) (σ : St) (hw : wp_X7_isMarked_b52 (aI Q) K6 x1 x2 x3 x5 σ) : At X 6 52 [(0, .ref (X.kad 75)), (1, .int (x1)), (2, .int (x2)), (3, .int (x3)), (5, .int (x5))] [] σ := by
  unfold wp_X7_isMarked_b52 at hw
  refine r_iconst 53 hX dX7_isMarked_52 rfl 0 ic_0 ?_
  refine r_istore (lv' := [(4, .int (0)), (0, .ref (X.kad 75)), (1, .int (x1)), (2, .int (x2)), (3, .int (x3)), (5, .int (x5))]) 55 hX dX7_isMarked_53 rfl (by decide) rfl ?_
  refine r_iinc (lv' := [(5, .int (x5 + 1)), (4, .int (0)), (0, .ref (X.kad 75)), (1, .int (x1)), (2, .int (x2)), (3, .int (x3))]) 58 hX dX7_isMarked_55 rfl 5 rfl (x5 + 1) (ici_1 _) (by decide) rfl ?_
  refine r_goto 6 hX dX7_isMarked_58 (by decide) ?_
  refine r_sub [2, 3, 4, 5, 1, 0] rfl ?_
  exact hK6 _ _ _ _ _ _ hw
set_option maxRecDepth 20000 in
set_option maxHeartbeats 4000000 in
theorem w_X7_isMarked_b48 {X : Cx} {Q : RV → St → Prop} (hX : CxB X RX7 cX7_isMarked 6 (1)) (hR : CxR X (some .boolean) Q) {K6 : Int32 → Int32 → Int32 → Int32 → Int32 → St → Prop} (hK6 : ∀ (x1 : Int32) (x2 : Int32) (x3 : Int32) (x4 : Int32) (x5 : Int32) (σ : St), K6 x1 x2 x3 x4 x5 σ → At X 6 6 [(0, .ref (X.kad 75)), (1, .int (x1)), (2, .int (x2)), (3, .int (x3)), (4, .int (x4)), (5, .int (x5))] [] σ) (x1 : Int32) (x2 : Int32) (x3 : Int32) (x5 : Int32) (σ : St) (hw : wp_X7_isMarked_b48 (aI Q) K6 x1 x2 x3 x5 σ) : At X 6 48 [(0, .ref (X.kad 75)), (1, .int (x1)), (2, .int (x2)), (3, .int (x3)), (5, .int (x5))] [] σ := by
  unfold wp_X7_isMarked_b48 at hw
  refine r_iconst 49 hX dX7_isMarked_48 rfl 1 ic_1 ?_
  refine r_goto 53 hX dX7_isMarked_49 (by decide) ?_
  refine r_istore (lv' := [(4, .int (1)), (0, .ref (X.kad 75)), (1, .int (x1)), (2, .int (x2)), (3, .int (x3)), (5, .int (x5))]) 55 hX dX7_isMarked_53 rfl (by decide) rfl ?_
  refine r_iinc (lv' := [(5, .int (x5 + 1)), (4, .int (1)), (0, .ref (X.kad 75)), (1, .int (x1)), (2, .int (x2)), (3, .int (x3))]) 58 hX dX7_isMarked_55 rfl 5 rfl (x5 + 1) (ici_1 _) (by decide) rfl ?_
  refine r_goto 6 hX dX7_isMarked_58 (by decide) ?_
  refine r_sub [2, 3, 4, 5, 1, 0] rfl ?_
  exact hK6 _ _ _ _ _ _ hw
set_option maxRecDepth 20000 in
set_option maxHeartbeats 4000000 in
theorem w_X7_isMarked_b6 {X : Cx} {Q : RV → St → Prop} (hX : CxB X RX7 cX7_isMarked 6 (1)) (hR : CxR X (some .boolean) Q) {K6 : Int32 → Int32 → Int32 → Int32 → Int32 → St → Prop} (hK6 : ∀ (x1 : Int32) (x2 : Int32) (x3 : Int32) (x4 : Int32) (x5 : Int32) (σ : St), K6 x1 x2 x3 x4 x5 σ → At X 6 6 [(0, .ref (X.kad 75)), (1, .int (x1)), (2, .int (x2)), (3, .int (x3)), (4, .int (x4)), (5, .int (x5))] [] σ) (x1 : Int32) (x2 : Int32) (x3 : Int32) (x4 : Int32) (x5 : Int32) (σ : St) (hw : wp_X7_isMarked_b6 (aI Q) K6 x1 x2 x3 x4 x5 σ) : At X 6 6 [(0, .ref (X.kad 75)), (1, .int (x1)), (2, .int (x2)), (3, .int (x3)), (4, .int (x4)), (5, .int (x5))] [] σ := by
  unfold wp_X7_isMarked_b6 at hw
  refine r_iload 8 hX dX7_isMarked_6 rfl 5 rfl ?_
  refine r_aload_n 9 hX dX7_isMarked_8 rfl rfl 0 rfl ?_
  refine g_X7_72_75 12 hX dX7_isMarked_9 rfl ?_
  refine r_iconst 13 hX dX7_isMarked_12 rfl 0 ic_0 ?_
  refine r_iald 14 hX sh_96 dX7_isMarked_13 rfl hw (fun hw => ?_)
  refine r_icmp_ge 61 17 hX dX7_isMarked_14 (by decide) rfl hw (fun hw => ?_) (fun hw => ?_)
  · refine r_iload 63 hX dX7_isMarked_61 rfl 4 rfl ?_
    exact r_zret hX hR (nar01 hw.1) dX7_isMarked_63 hw.2
  · refine r_iload_n 18 hX dX7_isMarked_17 rfl rfl 3 rfl ?_
    refine r_if_eq 61 21 hX dX7_isMarked_18 (by decide) rfl hw (fun hw => ?_) (fun hw => ?_)
    · refine r_iload 63 hX dX7_isMarked_61 rfl 4 rfl ?_
      exact r_zret hX hR (nar01 hw.1) dX7_isMarked_63 hw.2
    · refine r_iload 23 hX dX7_isMarked_21 rfl 4 rfl ?_
      refine r_if_eq 52 26 hX dX7_isMarked_23 (by decide) rfl hw (fun hw => ?_) (fun hw => ?_)
      · refine r_sub [0, 1, 2, 3, 5] rfl ?_
        exact w_X7_isMarked_b52 hX hR hK6 _ _ _ _ _ hw
      · refine r_aload_n 27 hX dX7_isMarked_26 rfl rfl 0 rfl ?_
        refine g_X7_75_75 30 hX dX7_isMarked_27 rfl ?_
        refine r_iload 32 hX dX7_isMarked_30 rfl 5 rfl ?_
        refine r_iald 33 hX sh_97 dX7_isMarked_32 rfl hw (fun hw => ?_)
        refine r_iload_n 34 hX dX7_isMarked_33 rfl rfl 1 rfl ?_
        refine r_icmp_ne 48 37 hX dX7_isMarked_34 (by decide) rfl hw (fun hw => ?_) (fun hw => ?_)
        · refine r_sub [0, 1, 2, 3, 5] rfl ?_
          exact w_X7_isMarked_b48 hX hR hK6 _ _ _ _ _ hw
        · refine r_aload_n 38 hX dX7_isMarked_37 rfl rfl 0 rfl ?_
          refine g_X7_78_75 41 hX dX7_isMarked_38 rfl ?_
          refine r_iload 43 hX dX7_isMarked_41 rfl 5 rfl ?_
          refine r_iald 44 hX sh_98 dX7_isMarked_43 rfl hw (fun hw => ?_)
          refine r_iload_n 45 hX dX7_isMarked_44 rfl rfl 2 rfl ?_
          refine r_icmp_ne 52 48 hX dX7_isMarked_45 (by decide) rfl hw (fun hw => ?_) (fun hw => ?_)
          · refine r_sub [0, 1, 2, 3, 5] rfl ?_
            exact w_X7_isMarked_b52 hX hR hK6 _ _ _ _ _ hw
          · refine r_sub [0, 1, 2, 3, 5] rfl ?_
            exact w_X7_isMarked_b48 hX hR hK6 _ _ _ _ _ hw
set_option maxRecDepth 20000 in
set_option maxHeartbeats 4000000 in
theorem w_X7_isMarked_l6 {X : Cx} {Q : RV → St → Prop} (hX : CxB X RX7 cX7_isMarked 6 (1)) (hR : CxR X (some .boolean) Q) (n : Nat) : ∀ (x1 : Int32) (x2 : Int32) (x3 : Int32) (x4 : Int32) (x5 : Int32) (σ : St), wp_X7_isMarked_l6 (aI Q)  n x1 x2 x3 x4 x5 σ → At X 6 6 [(0, .ref (X.kad 75)), (1, .int (x1)), (2, .int (x2)), (3, .int (x3)), (4, .int (x4)), (5, .int (x5))] [] σ := by
  induction n with
  | zero => intro x1 x2 x3 x4 x5 σ h; exact h.elim
  | succ n ih => intro x1 x2 x3 x4 x5 σ h; exact w_X7_isMarked_b6  hX hR ih x1 x2 x3 x4 x5 σ h
set_option maxRecDepth 20000 in
set_option maxHeartbeats 4000000 in
theorem c_X7_isMarked (x1 : Int32) (x2 : Int32) (x3 : Int32) : Con yX7_isMarked cX7_isMarked 6 (some .boolean) (1) (fun ad => [.ref (ad 75), .int (x1), .int (x2), .int (x3)]) (fun Q σ => wp_X7_isMarked x1 x2 x3 (aI Q) σ) := by
  refine con_intro (by decide +kernel) (fun _ => Nat.le_of_ble_eq_true rfl) (by omega) (fun X Q σ hX hR hw => ?_)
  have hX : CxB X RX7 cX7_isMarked 6 (1) := hX
  unfold wp_X7_isMarked at hw
  show At X 6 0 [(0, .ref (X.kad 75)), (1, .int (x1)), (2, .int (x2)), (3, .int (x3))] [] σ
  refine r_iconst 1 hX dX7_isMarked_0 rfl 1 ic_1 ?_
  refine r_istore (lv' := [(4, .int (1)), (0, .ref (X.kad 75)), (1, .int (x1)), (2, .int (x2)), (3, .int (x3))]) 3 hX dX7_isMarked_1 rfl (by decide) rfl ?_
  refine r_iconst 4 hX dX7_isMarked_3 rfl 0 ic_0 ?_
  refine r_istore (lv' := [(5, .int (0)), (4, .int (1)), (0, .ref (X.kad 75)), (1, .int (x1)), (2, .int (x2)), (3, .int (x3))]) 6 hX dX7_isMarked_4 rfl (by decide) rfl ?_
  refine r_sub [2, 3, 4, 5, 1, 0] rfl ?_
  obtain ⟨n, hw⟩ := hw
  exact w_X7_isMarked_l6 hX hR n _ _ _ _ _ _ hw
theorem k_X7_154_X7_isMarked {X : Cx} {cc : ByteArray} {nL d pc : Nat} {lv : List (Nat × Value)} {rest : List Value} {σ : St} {K : Int32 → St → Prop} (q : Nat) (hX : CxB X RX7 cc nL d) (hdc : 1 + 1 ≤ d) (x1 : Int32) (x2 : Int32) (x3 : Int32) (hst : (rest.map fun v => v.category).sum ≤ 8) (hd : decode cc pc = .ok (.invokevirtual 154, 3)) (hq : pc + 3 = q) (hw : wp_X7_isMarked x1 x2 x3 K σ) (kk : ∀ (r : Int32) (τ : St), K r τ → At X nL q lv (.int r :: rest) τ) : At X nL pc lv (.int (x3) :: .int (x2) :: .int (x1) :: .ref (X.kad 75) :: rest) σ := r_callV (n := 3) q hX (k0 := 75) (c_X7_isMarked x1 x2 x3) tw_593 tw_594 tw_595 tw_517 tw_596 ⟨by decide +kernel, by decide +kernel, by decide +kernel⟩ hdc (by decide) (As := [.int (x1), .int (x2), .int (x3)]) rfl rfl (by decide) ⟨_, _, _, rfl, rfl, rfl⟩ hst hd hq rfl (K := qI K) hw (kI kk)
set_option maxRecDepth 20000 in
set_option maxHeartbeats 4000000 in
theorem w_X7_countWays_b195 {X : Cx} {Q : RV → St → Prop} (hX : CxB X RX7 cX7_countWays 7 (3)) (hR : CxR X (some .long) Q) {K195 : Int64 → Int32 → St → Prop} (hK195 : ∀ (x3 : Int64) (x5 : Int32) (σ : St), K195 x3 x5 σ → At X 7 195 [(0, .ref (X.kad 75)), (3, .long (x3)), (5, .int (x5))] [] σ) (x3 : Int64) (x5 : Int32) (σ : St) (hw : wp_X7_countWays_b195 (aJ Q) K195 x3 x5 σ) : At X 7 195 [(0, .ref (X.kad 75)), (3, .long (x3)), (5, .int (x5))] [] σ := by
  unfold wp_X7_countWays_b195 at hw
  refine r_iload 197 hX dX7_countWays_195 rfl 2 rfl ?_
  refine r_bipush 199 hX dX7_countWays_197 rfl 10 bi_10 ?_
  refine r_icmp_ge 218 202 hX dX7_countWays_199 (by decide) rfl hw (fun hw => ?_) (fun hw => ?_)
  · refine r_lload_n 219 hX dX7_countWays_218 rfl rfl 1 rfl ?_
    exact r_lret hX hR dX7_countWays_219 hw
  · refine r_lload_n 203 hX dX7_countWays_202 rfl rfl 1 rfl ?_
    refine r_aload_n 204 hX dX7_countWays_203 rfl rfl 0 rfl ?_
    refine g_X7_44_75 207 hX dX7_countWays_204 rfl ?_
    refine r_iload 209 hX dX7_countWays_207 rfl 2 rfl ?_
    refine r_lald 210 hX sh_87 dX7_countWays_209 rfl hw (fun hw => ?_)
    refine r_ladd 211 hX dX7_countWays_210 rfl ?_
    refine r_lstore_n (lv' := [(3, .long (x3 + (σ.2 87 x5.toNatClampNeg))), (0, .ref (X.kad 75)), (5, .int (x5))]) 212 hX dX7_countWays_211 rfl rfl (by decide) rfl ?_
    refine r_iinc (lv' := [(5, .int (x5 + 1)), (3, .long (x3 + (σ.2 87 x5.toNatClampNeg))), (0, .ref (X.kad 75))]) 215 hX dX7_countWays_212 rfl 2 rfl (x5 + 1) (ici_1 _) (by decide) rfl ?_
    refine r_goto 195 hX dX7_countWays_215 (by decide) ?_
    refine r_sub [2, 1, 0] rfl ?_
    exact hK195 _ _ _ hw
set_option maxRecDepth 20000 in
set_option maxHeartbeats 4000000 in
theorem w_X7_countWays_l195 {X : Cx} {Q : RV → St → Prop} (hX : CxB X RX7 cX7_countWays 7 (3)) (hR : CxR X (some .long) Q) (n : Nat) : ∀ (x3 : Int64) (x5 : Int32) (σ : St), wp_X7_countWays_l195 (aJ Q)  n x3 x5 σ → At X 7 195 [(0, .ref (X.kad 75)), (3, .long (x3)), (5, .int (x5))] [] σ := by
  induction n with
  | zero => intro x3 x5 σ h; exact h.elim
  | succ n ih => intro x3 x5 σ h; exact w_X7_countWays_b195  hX hR ih x3 x5 σ h
set_option maxRecDepth 20000 in
set_option maxHeartbeats 4000000 in
theorem w_X7_countWays_b176 {X : Cx} {Q : RV → St → Prop} (hX : CxB X RX7 cX7_countWays 7 (3)) (hR : CxR X (some .long) Q) {K7 : Int32 → Int32 → Int32 → St → Prop} (hK7 : ∀ (x1 : Int32) (x2 : Int32) (x3 : Int32) (σ : St), K7 x1 x2 x3 σ → At X 7 7 [(0, .ref (X.kad 75)), (1, .int (x1)), (2, .int (x2)), (3, .int (x3))] [] σ) {K50 : Int32 → Int32 → Int32 → Int32 → St → Prop} (hK50 : ∀ (x1 : Int32) (x2 : Int32) (x3 : Int32) (x4 : Int32) (σ : St), K50 x1 x2 x3 x4 σ → At X 7 50 [(0, .ref (X.kad 75)), (1, .int (x1)), (2, .int (x2)), (3, .int (x3)), (4, .int (x4))] [] σ) (x1 : Int32) (x2 : Int32) (x3 : Int32) (x4 : Int32) (s0 : Int32) (σ : St) (hw : wp_X7_countWays_b176 (aJ Q) K7 K50 x1 x2 x3 x4 s0 σ) : At X 7 176 [(0, .ref (X.kad 75)), (1, .int (x1)), (2, .int (x2)), (3, .int (x3)), (4, .int (x4))] [.int (s0), .ref (X.kad 87)] σ := by
  unfold wp_X7_countWays_b176 at hw
  refine r_lconst 177 hX dX7_countWays_176 rfl 0 lc_0 ?_
  refine r_last 178 hX sh_87 dX7_countWays_177 rfl hw (fun hw => ?_)
  refine r_iinc (lv' := [(4, .int (x4 + 1)), (0, .ref (X.kad 75)), (1, .int (x1)), (2, .int (x2)), (3, .int (x3))]) 181 hX dX7_countWays_178 rfl 4 rfl (x4 + 1) (ici_1 _) (by decide) rfl ?_
  refine r_goto 50 hX dX7_countWays_181 (by decide) ?_
  refine r_sub [1, 2, 3, 4, 0] rfl ?_
  exact hK50 _ _ _ _ _ hw
set_option maxRecDepth 20000 in
set_option maxHeartbeats 4000000 in
theorem w_X7_countWays_b133 {X : Cx} {Q : RV → St → Prop} (hX : CxB X RX7 cX7_countWays 7 (3)) (hR : CxR X (some .long) Q) {K7 : Int32 → Int32 → Int32 → St → Prop} (hK7 : ∀ (x1 : Int32) (x2 : Int32) (x3 : Int32) (σ : St), K7 x1 x2 x3 σ → At X 7 7 [(0, .ref (X.kad 75)), (1, .int (x1)), (2, .int (x2)), (3, .int (x3))] [] σ) {K50 : Int32 → Int32 → Int32 → Int32 → St → Prop} (hK50 : ∀ (x1 : Int32) (x2 : Int32) (x3 : Int32) (x4 : Int32) (σ : St), K50 x1 x2 x3 x4 σ → At X 7 50 [(0, .ref (X.kad 75)), (1, .int (x1)), (2, .int (x2)), (3, .int (x3)), (4, .int (x4))] [] σ) (x1 : Int32) (x2 : Int32) (x3 : Int32) (x4 : Int32) (s0 : Int64) (σ : St) (hw : wp_X7_countWays_b133 (aJ Q) K7 K50 x1 x2 x3 x4 s0 σ) : At X 7 133 [(0, .ref (X.kad 75)), (1, .int (x1)), (2, .int (x2)), (3, .int (x3)), (4, .int (x4))] [.long (s0)] σ := by
  unfold wp_X7_countWays_b133 at hw
  refine r_lstore (lv' := [(5, .long (s0)), (0, .ref (X.kad 75)), (1, .int (x1)), (2, .int (x2)), (3, .int (x3)), (4, .int (x4))]) 135 hX dX7_countWays_133 rfl (by decide) rfl ?_
  refine r_aload_n 136 hX dX7_countWays_135 rfl rfl 1 rfl ?_
  refine g_X7_44_75 139 hX dX7_countWays_136 rfl ?_
  refine r_iload 141 hX dX7_countWays_139 rfl 5 rfl ?_
  refine r_aload_n 142 hX dX7_countWays_141 rfl rfl 1 rfl ?_
  refine r_iload 144 hX dX7_countWays_142 rfl 5 rfl ?_
  refine k_X7_136_X7_isIn 147 hX (by omega) (x4) (Nat.le_of_ble_eq_true rfl) dX7_countWays_144 rfl hw (fun r144 σ144 hw => ?_)
  refine r_if_eq 176 150 hX dX7_countWays_147 (by decide) rfl hw (fun hw => ?_) (fun hw => ?_)
  · refine r_sub [1, 2, 3, 4, 5] rfl ?_
    exact w_X7_countWays_b176 hX hR hK7 hK50 _ _ _ _ _ _ hw
  · refine r_aload_n 151 hX dX7_countWays_150 rfl rfl 1 rfl ?_
    refine r_iload_n 152 hX dX7_countWays_151 rfl rfl 4 rfl ?_
    refine r_iload 154 hX dX7_countWays_152 rfl 5 rfl ?_
    refine k_X7_143_X7_isBarred 157 hX (by omega) (x3) (x4) (Nat.le_of_ble_eq_true rfl) dX7_countWays_154 rfl hw (fun r154 σ154 hw => ?_)
    refine r_if_ne 176 160 hX dX7_countWays_157 (by decide) rfl hw (fun hw => ?_) (fun hw => ?_)
    · refine r_sub [1, 2, 3, 4, 5] rfl ?_
      exact w_X7_countWays_b176 hX hR hK7 hK50 _ _ _ _ _ _ hw
    · refine r_aload_n 161 hX dX7_countWays_160 rfl rfl 1 rfl ?_
      refine r_iload_n 162 hX dX7_countWays_161 rfl rfl 4 rfl ?_
      refine r_iload 164 hX dX7_countWays_162 rfl 5 rfl ?_
      refine r_iload_n 165 hX dX7_countWays_164 rfl rfl 3 rfl ?_
      refine k_X7_154_X7_isMarked 168 hX (by omega) (x3) (x4) (x2) (Nat.le_of_ble_eq_true rfl) dX7_countWays_165 rfl hw (fun r165 σ165 hw => ?_)
      refine r_if_eq 176 171 hX dX7_countWays_168 (by decide) rfl hw (fun hw => ?_) (fun hw => ?_)
      · refine r_sub [1, 2, 3, 4, 5] rfl ?_
        exact w_X7_countWays_b176 hX hR hK7 hK50 _ _ _ _ _ _ hw
      · refine r_lload 173 hX dX7_countWays_171 rfl 0 rfl ?_
        refine r_goto 177 hX dX7_countWays_173 (by decide) ?_
        refine r_last 178 hX sh_87 dX7_countWays_177 rfl hw (fun hw => ?_)
        refine r_iinc (lv' := [(4, .int (x4 + 1)), (5, .long (s0)), (0, .ref (X.kad 75)), (1, .int (x1)), (2, .int (x2)), (3, .int (x3))]) 181 hX dX7_countWays_178 rfl 5 rfl (x4 + 1) (ici_1 _) (by decide) rfl ?_
        refine r_goto 50 hX dX7_countWays_181 (by decide) ?_
        refine r_sub [2, 3, 4, 5, 0] rfl ?_
        exact hK50 _ _ _ _ _ hw
set_option maxRecDepth 20000 in
set_option maxHeartbeats 4000000 in
theorem w_X7_countWays_b132 {X : Cx} {Q : RV → St → Prop} (hX : CxB X RX7 cX7_countWays 7 (3)) (hR : CxR X (some .long) Q) {K7 : Int32 → Int32 → Int32 → St → Prop} (hK7 : ∀ (x1 : Int32) (x2 : Int32) (x3 : Int32) (σ : St), K7 x1 x2 x3 σ → At X 7 7 [(0, .ref (X.kad 75)), (1, .int (x1)), (2, .int (x2)), (3, .int (x3))] [] σ) {K50 : Int32 → Int32 → Int32 → Int32 → St → Prop} (hK50 : ∀ (x1 : Int32) (x2 : Int32) (x3 : Int32) (x4 : Int32) (σ : St), K50 x1 x2 x3 x4 σ → At X 7 50 [(0, .ref (X.kad 75)), (1, .int (x1)), (2, .int (x2)), (3, .int (x3)), (4, .int (x4))] [] σ) (x1 : Int32) (x2 : Int32) (x3 : Int32) (x4 : Int32) (s0 : Int64) (s1 : Int64) (σ : St) (hw : wp_X7_countWays_b132 (aJ Q) K7 K50 x1 x2 x3 x4 s0 s1 σ) : At X 7 132 [(0, .ref (X.kad 75)), (1, .int (x1)), (2, .int (x2)), (3, .int (x3)), (4, .int (x4))] [.long (s0), .long (s1)] σ := by
  unfold wp_X7_countWays_b132 at hw
  refine r_ladd 133 hX dX7_countWays_132 rfl ?_
  exact w_X7_countWays_b133 hX hR hK7 hK50 _ _ _ _ _ _ hw
set_option maxRecDepth 20000 in
set_option maxHeartbeats 4000000 in
theorem w_X7_countWays_b111 {X : Cx} {Q : RV → St → Prop} (hX : CxB X RX7 cX7_countWays 7 (3)) (hR : CxR X (some .long) Q) {K7 : Int32 → Int32 → Int32 → St → Prop} (hK7 : ∀ (x1 : Int32) (x2 : Int32) (x3 : Int32) (σ : St), K7 x1 x2 x3 σ → At X 7 7 [(0, .ref (X.kad 75)), (1, .int (x1)), (2, .int (x2)), (3, .int (x3))] [] σ) {K50 : Int32 → Int32 → Int32 → Int32 → St → Prop} (hK50 : ∀ (x1 : Int32) (x2 : Int32) (x3 : Int32) (x4 : Int32) (σ : St), K50 x1 x2 x3 x4 σ → At X 7 50 [(0, .ref (X.kad 75)), (1, .int (x1)), (2, .int (x2)), (3, .int (x3)), (4, .int (x4))] [] σ) (x1 : Int32) (x2 : Int32) (x3 : Int32) (x4 : Int32) (s0 : Int64) (s1 : Int64) (σ : St) (hw : wp_X7_countWays_b111 (aJ Q) K7 K50 x1 x2 x3 x4 s0 s1 σ) : At X 7 111 [(0, .ref (X.kad 75)), (1, .int (x1)), (2, .int (x2)), (3, .int (x3)), (4, .int (x4))] [.long (s0), .long (s1)] σ := by
  unfold wp_X7_countWays_b111 at hw
  refine r_ladd 112 hX dX7_countWays_111 rfl ?_
  refine r_iload 114 hX dX7_countWays_112 rfl 4 rfl ?_
  refine r_bipush 116 hX dX7_countWays_114 rfl 9 bi_9 ?_
  refine r_icmp_ge 131 119 hX dX7_countWays_116 (by decide) rfl hw (fun hw => ?_) (fun hw => ?_)
  · refine r_lconst 132 hX dX7_countWays_131 rfl 0 lc_0 ?_
    exact w_X7_countWays_b132 hX hR hK7 hK50 _ _ _ _ _ _ _ hw
  · refine r_aload_n 120 hX dX7_countWays_119 rfl rfl 0 rfl ?_
    refine g_X7_48_75 123 hX dX7_countWays_120 rfl ?_
    refine r_iload 125 hX dX7_countWays_123 rfl 4 rfl ?_
    refine r_iconst 126 hX dX7_countWays_125 rfl 1 ic_1 ?_
    refine r_iadd 127 hX dX7_countWays_126 rfl ?_
    refine r_lald 128 hX sh_88 dX7_countWays_127 rfl hw (fun hw => ?_)
    refine r_goto 132 hX dX7_countWays_128 (by decide) ?_
    exact w_X7_countWays_b132 hX hR hK7 hK50 _ _ _ _ _ _ _ hw
set_option maxRecDepth 20000 in
set_option maxHeartbeats 4000000 in
theorem w_X7_countWays_b50 {X : Cx} {Q : RV → St → Prop} (hX : CxB X RX7 cX7_countWays 7 (3)) (hR : CxR X (some .long) Q) {K7 : Int32 → Int32 → Int32 → St → Prop} (hK7 : ∀ (x1 : Int32) (x2 : Int32) (x3 : Int32) (σ : St), K7 x1 x2 x3 σ → At X 7 7 [(0, .ref (X.kad 75)), (1, .int (x1)), (2, .int (x2)), (3, .int (x3))] [] σ) {K50 : Int32 → Int32 → Int32 → Int32 → St → Prop} (hK50 : ∀ (x1 : Int32) (x2 : Int32) (x3 : Int32) (x4 : Int32) (σ : St), K50 x1 x2 x3 x4 σ → At X 7 50 [(0, .ref (X.kad 75)), (1, .int (x1)), (2, .int (x2)), (3, .int (x3)), (4, .int (x4))] [] σ) (x1 : Int32) (x2 : Int32) (x3 : Int32) (x4 : Int32) (σ : St) (hw : wp_X7_countWays_b50 (aJ Q) K7 K50 x1 x2 x3 x4 σ) : At X 7 50 [(0, .ref (X.kad 75)), (1, .int (x1)), (2, .int (x2)), (3, .int (x3)), (4, .int (x4))] [] σ := by
  unfold wp_X7_countWays_b50 at hw
  refine r_iload 52 hX dX7_countWays_50 rfl 4 rfl ?_
  refine r_bipush 54 hX dX7_countWays_52 rfl 10 bi_10 ?_
  refine r_icmp_ge 184 57 hX dX7_countWays_54 (by decide) rfl hw (fun hw => ?_) (fun hw => ?_)
  · refine r_iinc (lv' := [(3, .int (x3 + 1)), (0, .ref (X.kad 75)), (1, .int (x1)), (2, .int (x2)), (4, .int (x4))]) 187 hX dX7_countWays_184 rfl 3 rfl (x3 + 1) (ici_1 _) (by decide) rfl ?_
    refine r_goto 7 hX dX7_countWays_187 (by decide) ?_
    refine r_sub [1, 2, 3, 0] rfl ?_
    exact hK7 _ _ _ _ hw
  · refine r_iload_n 58 hX dX7_countWays_57 rfl rfl 3 rfl ?_
    refine r_aload_n 59 hX dX7_countWays_58 rfl rfl 0 rfl ?_
    refine g_X7_23_75 62 hX dX7_countWays_59 rfl ?_
    refine r_iload_n 63 hX dX7_countWays_62 rfl rfl 1 rfl ?_
    refine r_iald 64 hX sh_80 dX7_countWays_63 rfl hw (fun hw => ?_)
    refine r_icmp_ne 86 67 hX dX7_countWays_64 (by decide) rfl hw (fun hw => ?_) (fun hw => ?_)
    · refine r_aload_n 87 hX dX7_countWays_86 rfl rfl 0 rfl ?_
      refine g_X7_48_75 90 hX dX7_countWays_87 rfl ?_
      refine r_iload 92 hX dX7_countWays_90 rfl 4 rfl ?_
      refine r_lald 93 hX sh_88 dX7_countWays_92 rfl hw (fun hw => ?_)
      refine r_iload 95 hX dX7_countWays_93 rfl 4 rfl ?_
      refine r_if_le 110 98 hX dX7_countWays_95 (by decide) rfl hw (fun hw => ?_) (fun hw => ?_)
      · refine r_lconst 111 hX dX7_countWays_110 rfl 0 lc_0 ?_
        exact w_X7_countWays_b111 hX hR hK7 hK50 _ _ _ _ _ _ _ hw
      · refine r_aload_n 99 hX dX7_countWays_98 rfl rfl 0 rfl ?_
        refine g_X7_48_75 102 hX dX7_countWays_99 rfl ?_
        refine r_iload 104 hX dX7_countWays_102 rfl 4 rfl ?_
        refine r_iconst 105 hX dX7_countWays_104 rfl 1 ic_1 ?_
        refine r_isub 106 hX dX7_countWays_105 rfl ?_
        refine r_lald 107 hX sh_88 dX7_countWays_106 rfl hw (fun hw => ?_)
        refine r_goto 111 hX dX7_countWays_107 (by decide) ?_
        exact w_X7_countWays_b111 hX hR hK7 hK50 _ _ _ _ _ _ _ hw
    · refine r_iload 69 hX dX7_countWays_67 rfl 4 rfl ?_
      refine r_aload_n 70 hX dX7_countWays_69 rfl rfl 0 rfl ?_
      refine g_X7_26_75 73 hX dX7_countWays_70 rfl ?_
      refine r_iload_n 74 hX dX7_countWays_73 rfl rfl 1 rfl ?_
      refine r_iald 75 hX sh_81 dX7_countWays_74 rfl hw (fun hw => ?_)
      refine r_icmp_ne 82 78 hX dX7_countWays_75 (by decide) rfl hw (fun hw => ?_) (fun hw => ?_)
      · refine r_lconst 83 hX dX7_countWays_82 rfl 0 lc_0 ?_
        refine r_goto 133 hX dX7_countWays_83 (by decide) ?_
        exact w_X7_countWays_b133 hX hR hK7 hK50 _ _ _ _ _ _ hw
      · refine r_lconst 79 hX dX7_countWays_78 rfl 1 lc_1 ?_
        refine r_goto 133 hX dX7_countWays_79 (by decide) ?_
        exact w_X7_countWays_b133 hX hR hK7 hK50 _ _ _ _ _ _ hw
set_option maxRecDepth 20000 in
set_option maxHeartbeats 4000000 in
theorem w_X7_countWays_l50 {X : Cx} {Q : RV → St → Prop} (hX : CxB X RX7 cX7_countWays 7 (3)) (hR : CxR X (some .long) Q) {K7 : Int32 → Int32 → Int32 → St → Prop} (hK7 : ∀ (x1 : Int32) (x2 : Int32) (x3 : Int32) (σ : St), K7 x1 x2 x3 σ → At X 7 7 [(0, .ref (X.kad 75)), (1, .int (x1)), (2, .int (x2)), (3, .int (x3))] [] σ) (n : Nat) : ∀ (x1 : Int32) (x2 : Int32) (x3 : Int32) (x4 : Int32) (σ : St), wp_X7_countWays_l50 (aJ Q) K7 n x1 x2 x3 x4 σ → At X 7 50 [(0, .ref (X.kad 75)), (1, .int (x1)), (2, .int (x2)), (3, .int (x3)), (4, .int (x4))] [] σ := by
  induction n with
  | zero => intro x1 x2 x3 x4 σ h; exact h.elim
  | succ n ih => intro x1 x2 x3 x4 σ h; exact w_X7_countWays_b50  hX hR hK7 ih x1 x2 x3 x4 σ h
set_option maxRecDepth 20000 in
set_option maxHeartbeats 4000000 in
theorem w_X7_countWays_b20 {X : Cx} {Q : RV → St → Prop} (hX : CxB X RX7 cX7_countWays 7 (3)) (hR : CxR X (some .long) Q) {K7 : Int32 → Int32 → Int32 → St → Prop} (hK7 : ∀ (x1 : Int32) (x2 : Int32) (x3 : Int32) (σ : St), K7 x1 x2 x3 σ → At X 7 7 [(0, .ref (X.kad 75)), (1, .int (x1)), (2, .int (x2)), (3, .int (x3))] [] σ) {K20 : Int32 → Int32 → Int32 → Int32 → St → Prop} (hK20 : ∀ (x1 : Int32) (x2 : Int32) (x3 : Int32) (x4 : Int32) (σ : St), K20 x1 x2 x3 x4 σ → At X 7 20 [(0, .ref (X.kad 75)), (1, .int (x1)), (2, .int (x2)), (3, .int (x3)), (4, .int (x4))] [] σ) (x1 : Int32) (x2 : Int32) (x3 : Int32) (x4 : Int32) (σ : St) (hw : wp_X7_countWays_b20 (aJ Q) K7 K20 x1 x2 x3 x4 σ) : At X 7 20 [(0, .ref (X.kad 75)), (1, .int (x1)), (2, .int (x2)), (3, .int (x3)), (4, .int (x4))] [] σ := by
  unfold wp_X7_countWays_b20 at hw
  refine r_iload 22 hX dX7_countWays_20 rfl 4 rfl ?_
  refine r_bipush 24 hX dX7_countWays_22 rfl 10 bi_10 ?_
  refine r_icmp_ge 47 27 hX dX7_countWays_24 (by decide) rfl hw (fun hw => ?_) (fun hw => ?_)
  · refine r_iconst 48 hX dX7_countWays_47 rfl 0 ic_0 ?_
    refine r_istore (lv' := [(4, .int (0)), (0, .ref (X.kad 75)), (1, .int (x1)), (2, .int (x2)), (3, .int (x3))]) 50 hX dX7_countWays_48 rfl (by decide) rfl ?_
    refine r_sub [1, 2, 3, 4, 0] rfl ?_
    obtain ⟨n, hw⟩ := hw
    exact w_X7_countWays_l50 hX hR hK7 n _ _ _ _ _ hw
  · refine r_aload_n 28 hX dX7_countWays_27 rfl rfl 0 rfl ?_
    refine g_X7_48_75 31 hX dX7_countWays_28 rfl ?_
    refine r_iload 33 hX dX7_countWays_31 rfl 4 rfl ?_
    refine r_aload_n 34 hX dX7_countWays_33 rfl rfl 0 rfl ?_
    refine g_X7_44_75 37 hX dX7_countWays_34 rfl ?_
    refine r_iload 39 hX dX7_countWays_37 rfl 4 rfl ?_
    refine r_lald 40 hX sh_87 dX7_countWays_39 rfl hw (fun hw => ?_)
    refine r_last 41 hX sh_88 dX7_countWays_40 rfl hw (fun hw => ?_)
    refine r_iinc (lv' := [(4, .int (x4 + 1)), (0, .ref (X.kad 75)), (1, .int (x1)), (2, .int (x2)), (3, .int (x3))]) 44 hX dX7_countWays_41 rfl 4 rfl (x4 + 1) (ici_1 _) (by decide) rfl ?_
    refine r_goto 20 hX dX7_countWays_44 (by decide) ?_
    refine r_sub [1, 2, 3, 4, 0] rfl ?_
    exact hK20 _ _ _ _ _ hw
set_option maxRecDepth 20000 in
set_option maxHeartbeats 4000000 in
theorem w_X7_countWays_l20 {X : Cx} {Q : RV → St → Prop} (hX : CxB X RX7 cX7_countWays 7 (3)) (hR : CxR X (some .long) Q) {K7 : Int32 → Int32 → Int32 → St → Prop} (hK7 : ∀ (x1 : Int32) (x2 : Int32) (x3 : Int32) (σ : St), K7 x1 x2 x3 σ → At X 7 7 [(0, .ref (X.kad 75)), (1, .int (x1)), (2, .int (x2)), (3, .int (x3))] [] σ) (n : Nat) : ∀ (x1 : Int32) (x2 : Int32) (x3 : Int32) (x4 : Int32) (σ : St), wp_X7_countWays_l20 (aJ Q) K7 n x1 x2 x3 x4 σ → At X 7 20 [(0, .ref (X.kad 75)), (1, .int (x1)), (2, .int (x2)), (3, .int (x3)), (4, .int (x4))] [] σ := by
  induction n with
  | zero => intro x1 x2 x3 x4 σ h; exact h.elim
  | succ n ih => intro x1 x2 x3 x4 σ h; exact w_X7_countWays_b20  hX hR hK7 ih x1 x2 x3 x4 σ h
set_option maxRecDepth 20000 in
set_option maxHeartbeats 4000000 in
theorem w_X7_countWays_b7 {X : Cx} {Q : RV → St → Prop} (hX : CxB X RX7 cX7_countWays 7 (3)) (hR : CxR X (some .long) Q) {K7 : Int32 → Int32 → Int32 → St → Prop} (hK7 : ∀ (x1 : Int32) (x2 : Int32) (x3 : Int32) (σ : St), K7 x1 x2 x3 σ → At X 7 7 [(0, .ref (X.kad 75)), (1, .int (x1)), (2, .int (x2)), (3, .int (x3))] [] σ) (x1 : Int32) (x2 : Int32) (x3 : Int32) (σ : St) (hw : wp_X7_countWays_b7 (aJ Q) K7 x1 x2 x3 σ) : At X 7 7 [(0, .ref (X.kad 75)), (1, .int (x1)), (2, .int (x2)), (3, .int (x3))] [] σ := by
  unfold wp_X7_countWays_b7 at hw
  refine r_iload_n 8 hX dX7_countWays_7 rfl rfl 3 rfl ?_
  refine r_aload_n 9 hX dX7_countWays_8 rfl rfl 0 rfl ?_
  refine g_X7_17_75 12 hX dX7_countWays_9 rfl ?_
  refine r_iconst 13 hX dX7_countWays_12 rfl 0 ic_0 ?_
  refine r_iald 14 hX sh_78 dX7_countWays_13 rfl hw (fun hw => ?_)
  refine r_icmp_ge 190 17 hX dX7_countWays_14 (by decide) rfl hw (fun hw => ?_) (fun hw => ?_)
  · refine r_lconst 191 hX dX7_countWays_190 rfl 0 lc_0 ?_
    refine r_lstore_n (lv' := [(3, .long (0)), (0, .ref (X.kad 75)), (1, .int (x1)), (2, .int (x2))]) 192 hX dX7_countWays_191 rfl rfl (by decide) rfl ?_
    refine r_iconst 193 hX dX7_countWays_192 rfl 0 ic_0 ?_
    refine r_istore (lv' := [(5, .int (0)), (3, .long (0)), (0, .ref (X.kad 75)), (1, .int (x1)), (2, .int (x2))]) 195 hX dX7_countWays_193 rfl (by decide) rfl ?_
    refine r_sub [2, 1, 0] rfl ?_
    obtain ⟨n, hw⟩ := hw
    exact w_X7_countWays_l195 hX hR n _ _ _ hw
  · refine r_iconst 18 hX dX7_countWays_17 rfl 0 ic_0 ?_
    refine r_istore (lv' := [(4, .int (0)), (0, .ref (X.kad 75)), (1, .int (x1)), (2, .int (x2)), (3, .int (x3))]) 20 hX dX7_countWays_18 rfl (by decide) rfl ?_
    refine r_sub [1, 2, 3, 4, 0] rfl ?_
    obtain ⟨n, hw⟩ := hw
    exact w_X7_countWays_l20 hX hR hK7 n _ _ _ _ _ hw
set_option maxRecDepth 20000 in
set_option maxHeartbeats 4000000 in
theorem w_X7_countWays_l7 {X : Cx} {Q : RV → St → Prop} (hX : CxB X RX7 cX7_countWays 7 (3)) (hR : CxR X (some .long) Q) (n : Nat) : ∀ (x1 : Int32) (x2 : Int32) (x3 : Int32) (σ : St), wp_X7_countWays_l7 (aJ Q)  n x1 x2 x3 σ → At X 7 7 [(0, .ref (X.kad 75)), (1, .int (x1)), (2, .int (x2)), (3, .int (x3))] [] σ := by
  induction n with
  | zero => intro x1 x2 x3 σ h; exact h.elim
  | succ n ih => intro x1 x2 x3 σ h; exact w_X7_countWays_b7  hX hR ih x1 x2 x3 σ h
set_option maxRecDepth 20000 in
set_option maxHeartbeats 4000000 in
theorem c_X7_countWays (x1 : Int32) (x2 : Int32) : Con yX7_countWays cX7_countWays 7 (some .long) (3) (fun ad => [.ref (ad 75), .int (x1), .int (x2)]) (fun Q σ => wp_X7_countWays x1 x2 (aJ Q) σ) := by
  refine con_intro (by decide +kernel) (fun _ => Nat.le_of_ble_eq_true rfl) (by omega) (fun X Q σ hX hR hw => ?_)
  have hX : CxB X RX7 cX7_countWays 7 (3) := hX
  unfold wp_X7_countWays at hw
  show At X 7 0 [(0, .ref (X.kad 75)), (1, .int (x1)), (2, .int (x2))] [] σ
  refine r_aload_n 1 hX dX7_countWays_0 rfl rfl 0 rfl ?_
  refine g_X7_23_75 4 hX dX7_countWays_1 rfl ?_
  refine r_iload_n 5 hX dX7_countWays_4 rfl rfl 1 rfl ?_
  refine r_iald 6 hX sh_80 dX7_countWays_5 rfl hw (fun hw => ?_)
  refine r_istore_n (lv' := [(3, .int (σ.1 80 x1.toNatClampNeg)), (0, .ref (X.kad 75)), (1, .int (x1)), (2, .int (x2))]) 7 hX dX7_countWays_6 rfl rfl (by decide) rfl ?_
  refine r_sub [1, 2, 3, 0] rfl ?_
  obtain ⟨n, hw⟩ := hw
  exact w_X7_countWays_l7 hX hR n _ _ _ _ hw
theorem k_X7_158_X7_countWays {X : Cx} {cc : ByteArray} {nL d pc : Nat} {lv : List (Nat × Value)} {rest : List Value} {σ : St} {K : Int64 → St → Prop} (q : Nat) (hX : CxB X RX7 cc nL d) (hdc : 3 + 1 ≤ d) (x1 : Int32) (x2 : Int32) (hst : (rest.map fun v => v.category).sum ≤ 8) (hd : decode cc pc = .ok (.invokevirtual 158, 3)) (hq : pc + 3 = q) (hw : wp_X7_countWays x1 x2 K σ) (kk : ∀ (r : Int64) (τ : St), K r τ → At X nL q lv (.long r :: rest) τ) : At X nL pc lv (.int (x2) :: .int (x1) :: .ref (X.kad 75) :: rest) σ := r_callV (n := 2) q hX (k0 := 75) (c_X7_countWays x1 x2) tw_598 tw_599 tw_600 tw_517 tw_601 ⟨by decide +kernel, by decide +kernel, by decide +kernel⟩ hdc (by decide) (As := [.int (x1), .int (x2)]) rfl rfl (by decide) ⟨_, _, _, rfl, rfl, rfl⟩ hst hd hq rfl (K := qJ K) hw (kJ kk)
set_option maxRecDepth 20000 in
set_option maxHeartbeats 4000000 in
theorem c_X7_many (x1 : Int32) : Con yX7_many cX7_many 2 (some .long) (4) (fun ad => [.ref (ad 75), .int (x1)]) (fun Q σ => wp_X7_many x1 (aJ Q) σ) := by
  refine con_intro (by decide +kernel) (fun _ => Nat.le_of_ble_eq_true rfl) (by omega) (fun X Q σ hX hR hw => ?_)
  have hX : CxB X RX7 cX7_many 2 (4) := hX
  unfold wp_X7_many at hw
  show At X 2 0 [(0, .ref (X.kad 75)), (1, .int (x1))] [] σ
  refine r_aload_n 1 hX dX7_many_0 rfl rfl 0 rfl ?_
  refine r_iload_n 2 hX dX7_many_1 rfl rfl 1 rfl ?_
  refine k_X7_150_X7_isHearth 5 hX (by omega) (x1) (Nat.le_of_ble_eq_true rfl) dX7_many_2 rfl hw (fun r2 σ2 hw => ?_)
  refine r_if_eq 17 8 hX dX7_many_5 (by decide) rfl hw (fun hw => ?_) (fun hw => ?_)
  · refine r_ldc2 20 hX (-1) tw_597 dX7_many_17 rfl ?_
    exact r_lret hX hR dX7_many_20 hw
  · refine r_aload_n 9 hX dX7_many_8 rfl rfl 0 rfl ?_
    refine r_iload_n 10 hX dX7_many_9 rfl rfl 1 rfl ?_
    refine r_iconst 11 hX dX7_many_10 rfl 0 ic_0 ?_
    refine k_X7_158_X7_countWays 14 hX (by omega) (x1) (0) (Nat.le_of_ble_eq_true rfl) dX7_many_11 rfl hw (fun r11 σ11 hw => ?_)
    refine r_goto 20 hX dX7_many_14 (by decide) ?_
    exact r_lret hX hR dX7_many_20 hw
set_option maxRecDepth 20000 in
set_option maxHeartbeats 4000000 in
theorem c_X7_guess (x1 : Int32) : Con yX7_guess cX7_guess 2 (some .long) (4) (fun ad => [.ref (ad 75), .int (x1)]) (fun Q σ => wp_X7_guess x1 (aJ Q) σ) := by
  refine con_intro (by decide +kernel) (fun _ => Nat.le_of_ble_eq_true rfl) (by omega) (fun X Q σ hX hR hw => ?_)
  have hX : CxB X RX7 cX7_guess 2 (4) := hX
  unfold wp_X7_guess at hw
  show At X 2 0 [(0, .ref (X.kad 75)), (1, .int (x1))] [] σ
  refine r_aload_n 1 hX dX7_guess_0 rfl rfl 0 rfl ?_
  refine r_iload_n 2 hX dX7_guess_1 rfl rfl 1 rfl ?_
  refine k_X7_150_X7_isHearth 5 hX (by omega) (x1) (Nat.le_of_ble_eq_true rfl) dX7_guess_2 rfl hw (fun r2 σ2 hw => ?_)
  refine r_if_eq 17 8 hX dX7_guess_5 (by decide) rfl hw (fun hw => ?_) (fun hw => ?_)
  · refine r_ldc2 20 hX (-1) tw_597 dX7_guess_17 rfl ?_
    exact r_lret hX hR dX7_guess_20 hw
  · refine r_aload_n 9 hX dX7_guess_8 rfl rfl 0 rfl ?_
    refine r_iload_n 10 hX dX7_guess_9 rfl rfl 1 rfl ?_
    refine r_iconst 11 hX dX7_guess_10 rfl 1 ic_1 ?_
    refine k_X7_158_X7_countWays 14 hX (by omega) (x1) (1) (Nat.le_of_ble_eq_true rfl) dX7_guess_11 rfl hw (fun r11 σ11 hw => ?_)
    refine r_goto 20 hX dX7_guess_14 (by decide) ?_
    exact r_lret hX hR dX7_guess_20 hw
set_option maxRecDepth 20000 in
set_option maxHeartbeats 4000000 in
theorem c_X7_stillAt (x1 : Int32) (x2 : Int32) (x3 : Int32) : Con yX7_stillAt cX7_stillAt 4 (some .int) (1) (fun ad => [.ref (ad 75), .int (x1), .int (x2), .int (x3)]) (fun Q σ => wp_X7_stillAt x1 x2 x3 (aI Q) σ) := by
  refine con_intro (by decide +kernel) (fun _ => Nat.le_of_ble_eq_true rfl) (by omega) (fun X Q σ hX hR hw => ?_)
  have hX : CxB X RX7 cX7_stillAt 4 (1) := hX
  unfold wp_X7_stillAt at hw
  show At X 4 0 [(0, .ref (X.kad 75)), (1, .int (x1)), (2, .int (x2)), (3, .int (x3))] [] σ
  refine r_aload_n 1 hX dX7_stillAt_0 rfl rfl 0 rfl ?_
  refine g_X7_51_75 4 hX dX7_stillAt_1 rfl ?_
  refine r_bipush 6 hX dX7_stillAt_4 rfl 10 bi_10 ?_
  refine r_iload_n 7 hX dX7_stillAt_6 rfl rfl 1 rfl ?_
  refine r_imul 8 hX dX7_stillAt_7 rfl ?_
  refine r_iload_n 9 hX dX7_stillAt_8 rfl rfl 2 rfl ?_
  refine r_iadd 10 hX dX7_stillAt_9 rfl ?_
  refine r_iconst 11 hX dX7_stillAt_10 rfl 4 ic_4 ?_
  refine r_imul 12 hX dX7_stillAt_11 rfl ?_
  refine r_iload_n 13 hX dX7_stillAt_12 rfl rfl 3 rfl ?_
  refine r_iadd 14 hX dX7_stillAt_13 rfl ?_
  refine r_iald 15 hX sh_89 dX7_stillAt_14 rfl hw (fun hw => ?_)
  exact r_iret hX hR dX7_stillAt_15 hw
theorem k_X7_165_X7_stillAt {X : Cx} {cc : ByteArray} {nL d pc : Nat} {lv : List (Nat × Value)} {rest : List Value} {σ : St} {K : Int32 → St → Prop} (q : Nat) (hX : CxB X RX7 cc nL d) (hdc : 1 + 1 ≤ d) (x1 : Int32) (x2 : Int32) (x3 : Int32) (hst : (rest.map fun v => v.category).sum ≤ 8) (hd : decode cc pc = .ok (.invokevirtual 165, 3)) (hq : pc + 3 = q) (hw : wp_X7_stillAt x1 x2 x3 K σ) (kk : ∀ (r : Int32) (τ : St), K r τ → At X nL q lv (.int r :: rest) τ) : At X nL pc lv (.int (x3) :: .int (x2) :: .int (x1) :: .ref (X.kad 75) :: rest) σ := r_callV (n := 3) q hX (k0 := 75) (c_X7_stillAt x1 x2 x3) tw_604 tw_605 tw_606 tw_517 tw_607 ⟨by decide +kernel, by decide +kernel, by decide +kernel⟩ hdc (by decide) (As := [.int (x1), .int (x2), .int (x3)]) rfl rfl (by decide) ⟨_, _, _, rfl, rfl, rfl⟩ hst hd hq rfl (K := qI K) hw (kI kk)
set_option maxRecDepth 20000 in
set_option maxHeartbeats 4000000 in
theorem w_X7_byStep_b48 {X : Cx} {Q : RV → St → Prop} (hX : CxB X RX7 cX7_byStep 7 (3)) (hR : CxR X (some .int) Q) (x1 : Int32) (x4 : Int32) (x5 : Int32) (s0 : Int32) (σ : St) (hw : wp_X7_byStep_b48 (aI Q)  x1 x4 x5 s0 σ) : At X 7 48 [(0, .ref (X.kad 75)), (1, .int (x1)), (4, .int (x4)), (5, .int (x5))] [.int (s0)] σ := by
  unfold wp_X7_byStep_b48 at hw
  refine r_istore (lv' := [(6, .int (s0)), (0, .ref (X.kad 75)), (1, .int (x1)), (4, .int (x4)), (5, .int (x5))]) 50 hX dX7_byStep_48 rfl (by decide) rfl ?_
  refine r_aload_n 51 hX dX7_byStep_50 rfl rfl 1 rfl ?_
  refine r_iload_n 52 hX dX7_byStep_51 rfl rfl 2 rfl ?_
  refine r_iconst 53 hX dX7_byStep_52 rfl 1 ic_1 ?_
  refine r_iadd 54 hX dX7_byStep_53 rfl ?_
  refine r_iload 56 hX dX7_byStep_54 rfl 4 rfl ?_
  refine r_iload 58 hX dX7_byStep_56 rfl 3 rfl ?_
  refine r_iconst 59 hX dX7_byStep_58 rfl 2 ic_2 ?_
  refine r_iadd 60 hX dX7_byStep_59 rfl ?_
  refine k_X7_165_X7_stillAt 63 hX (by omega) (x1 + 1) (x5) (x4 + 2) (Nat.le_of_ble_eq_true rfl) dX7_byStep_60 rfl hw (fun r60 σ60 hw => ?_)
  refine r_iload 65 hX dX7_byStep_63 rfl 0 rfl ?_
  refine r_iadd 66 hX dX7_byStep_65 rfl ?_
  refine r_iload 68 hX dX7_byStep_66 rfl 3 rfl ?_
  refine r_if_ne 75 71 hX dX7_byStep_68 (by decide) rfl hw (fun hw => ?_) (fun hw => ?_)
  · refine r_iconst 76 hX dX7_byStep_75 rfl 1 ic_1 ?_
    refine r_iadd 77 hX dX7_byStep_76 rfl ?_
    exact r_iret hX hR dX7_byStep_77 hw
  · refine r_iconst 72 hX dX7_byStep_71 rfl 0 ic_0 ?_
    refine r_goto 76 hX dX7_byStep_72 (by decide) ?_
    refine r_iadd 77 hX dX7_byStep_76 rfl ?_
    exact r_iret hX hR dX7_byStep_77 hw
set_option maxRecDepth 20000 in
set_option maxHeartbeats 4000000 in
theorem w_X7_byStep_b47 {X : Cx} {Q : RV → St → Prop} (hX : CxB X RX7 cX7_byStep 7 (3)) (hR : CxR X (some .int) Q) (x1 : Int32) (x4 : Int32) (x5 : Int32) (σ : St) (hw : wp_X7_byStep_b47 (aI Q)  x1 x4 x5 σ) : At X 7 47 [(0, .ref (X.kad 75)), (1, .int (x1)), (4, .int (x4)), (5, .int (x5))] [] σ := by
  unfold wp_X7_byStep_b47 at hw
  refine r_iconst 48 hX dX7_byStep_47 rfl 0 ic_0 ?_
  exact w_X7_byStep_b48 hX hR _ _ _ _ _ hw
set_option maxRecDepth 20000 in
set_option maxHeartbeats 4000000 in
theorem c_X7_byStep (x1 : Int32) (x2 : Int32) (x3 : Int32) (x4 : Int32) : Con yX7_byStep cX7_byStep 7 (some .int) (3) (fun ad => [.ref (ad 75), .int (x1), .int (x2), .int (x3), .int (x4)]) (fun Q σ => wp_X7_byStep x1 x2 x3 x4 (aI Q) σ) := by
  refine con_intro (by decide +kernel) (fun _ => Nat.le_of_ble_eq_true rfl) (by omega) (fun X Q σ hX hR hw => ?_)
  have hX : CxB X RX7 cX7_byStep 7 (3) := hX
  unfold wp_X7_byStep at hw
  show At X 7 0 [(0, .ref (X.kad 75)), (1, .int (x1)), (2, .int (x2)), (3, .int (x3)), (4, .int (x4))] [] σ
  refine r_iload_n 1 hX dX7_byStep_0 rfl rfl 2 rfl ?_
  refine r_iload 3 hX dX7_byStep_1 rfl 4 rfl ?_
  refine r_iadd 4 hX dX7_byStep_3 rfl ?_
  refine r_istore (lv' := [(5, .int (x2 + x4)), (0, .ref (X.kad 75)), (1, .int (x1)), (2, .int (x2)), (3, .int (x3)), (4, .int (x4))]) 6 hX dX7_byStep_4 rfl (by decide) rfl ?_
  refine r_aload_n 7 hX dX7_byStep_6 rfl rfl 1 rfl ?_
  refine r_iload 9 hX dX7_byStep_7 rfl 0 rfl ?_
  refine k_X7_136_X7_isIn 12 hX (by omega) (x2 + x4) (Nat.le_of_ble_eq_true rfl) dX7_byStep_9 rfl hw (fun r9 σ9 hw => ?_)
  refine r_if_eq 27 15 hX dX7_byStep_12 (by decide) rfl hw (fun hw => ?_) (fun hw => ?_)
  · refine r_ldc 29 hX 100000 tw_603 dX7_byStep_27 rfl ?_
    exact r_iret hX hR dX7_byStep_29 hw
  · refine r_aload_n 16 hX dX7_byStep_15 rfl rfl 1 rfl ?_
    refine r_iload_n 17 hX dX7_byStep_16 rfl rfl 2 rfl ?_
    refine r_iconst 18 hX dX7_byStep_17 rfl 1 ic_1 ?_
    refine r_iadd 19 hX dX7_byStep_18 rfl ?_
    refine r_iload 21 hX dX7_byStep_19 rfl 0 rfl ?_
    refine k_X7_143_X7_isBarred 24 hX (by omega) (x1 + 1) (x2 + x4) (Nat.le_of_ble_eq_true rfl) dX7_byStep_21 rfl hw (fun r21 σ21 hw => ?_)
    refine r_if_eq 30 27 hX dX7_byStep_24 (by decide) rfl hw (fun hw => ?_) (fun hw => ?_)
    · refine r_iload_n 31 hX dX7_byStep_30 rfl rfl 4 rfl ?_
      refine r_if_le 47 34 hX dX7_byStep_31 (by decide) rfl hw (fun hw => ?_) (fun hw => ?_)
      · refine r_sub [1, 2, 5, 0] rfl ?_
        exact w_X7_byStep_b47 hX hR _ _ _ _ hw
      · refine r_iload_n 35 hX dX7_byStep_34 rfl rfl 4 rfl ?_
        refine r_iload 37 hX dX7_byStep_35 rfl 5 rfl ?_
        refine r_iconst 38 hX dX7_byStep_37 rfl 2 ic_2 ?_
        refine r_iadd 39 hX dX7_byStep_38 rfl ?_
        refine r_icmp_eq 47 42 hX dX7_byStep_39 (by decide) rfl hw (fun hw => ?_) (fun hw => ?_)
        · refine r_sub [1, 2, 5, 0] rfl ?_
          exact w_X7_byStep_b47 hX hR _ _ _ _ hw
        · refine r_bipush 44 hX dX7_byStep_42 rfl 100 bi_100 ?_
          refine r_goto 48 hX dX7_byStep_44 (by decide) ?_
          refine r_sub [1, 2, 5, 0] rfl ?_
          exact w_X7_byStep_b48 hX hR _ _ _ _ _ hw
    · refine r_ldc 29 hX 100000 tw_603 dX7_byStep_27 rfl ?_
      exact r_iret hX hR dX7_byStep_29 hw
theorem k_X7_169_X7_byStep {X : Cx} {cc : ByteArray} {nL d pc : Nat} {lv : List (Nat × Value)} {rest : List Value} {σ : St} {K : Int32 → St → Prop} (q : Nat) (hX : CxB X RX7 cc nL d) (hdc : 3 + 1 ≤ d) (x1 : Int32) (x2 : Int32) (x3 : Int32) (x4 : Int32) (hst : (rest.map fun v => v.category).sum ≤ 8) (hd : decode cc pc = .ok (.invokevirtual 169, 3)) (hq : pc + 3 = q) (hw : wp_X7_byStep x1 x2 x3 x4 K σ) (kk : ∀ (r : Int32) (τ : St), K r τ → At X nL q lv (.int r :: rest) τ) : At X nL pc lv (.int (x4) :: .int (x3) :: .int (x2) :: .int (x1) :: .ref (X.kad 75) :: rest) σ := r_callV (n := 4) q hX (k0 := 75) (c_X7_byStep x1 x2 x3 x4) tw_608 tw_609 tw_610 tw_517 tw_611 ⟨by decide +kernel, by decide +kernel, by decide +kernel⟩ hdc (by decide) (As := [.int (x1), .int (x2), .int (x3), .int (x4)]) rfl rfl (by decide) ⟨_, _, _, rfl, rfl, rfl⟩ hst hd hq rfl (K := qI K) hw (kI kk)
set_option maxRecDepth 20000 in
set_option maxHeartbeats 4000000 in
theorem w_X7_leastOne_b115 {X : Cx} {Q : RV → St → Prop} (hX : CxB X RX7 cX7_leastOne 8 (4)) (hR : CxR X (some .int) Q) {K9 : Int32 → Int32 → St → Prop} (hK9 : ∀ (x1 : Int32) (x2 : Int32) (σ : St), K9 x1 x2 σ → At X 8 9 [(0, .ref (X.kad 75)), (1, .int (x1)), (2, .int (x2))] [] σ) {K21 : Int32 → Int32 → Int32 → St → Prop} (hK21 : ∀ (x1 : Int32) (x2 : Int32) (x3 : Int32) (σ : St), K21 x1 x2 x3 σ → At X 8 21 [(0, .ref (X.kad 75)), (1, .int (x1)), (2, .int (x2)), (3, .int (x3))] [] σ) {K34 : Int32 → Int32 → Int32 → Int32 → St → Prop} (hK34 : ∀ (x1 : Int32) (x2 : Int32) (x3 : Int32) (x4 : Int32) (σ : St), K34 x1 x2 x3 x4 σ → At X 8 34 [(0, .ref (X.kad 75)), (1, .int (x1)), (2, .int (x2)), (3, .int (x3)), (4, .int (x4))] [] σ) (x1 : Int32) (x2 : Int32) (x3 : Int32) (x4 : Int32) (x5 : Int32) (σ : St) (hw : wp_X7_leastOne_b115 (aI Q) K9 K21 K34 x1 x2 x3 x4 x5 σ) : At X 8 115 [(0, .ref (X.kad 75)), (1, .int (x1)), (2, .int (x2)), (3, .int (x3)), (4, .int (x4)), (5, .int (x5))] [] σ := by
  unfold wp_X7_leastOne_b115 at hw
  refine r_aload_n 116 hX dX7_leastOne_115 rfl rfl 0 rfl ?_
  refine g_X7_51_75 119 hX dX7_leastOne_116 rfl ?_
  refine r_bipush 121 hX dX7_leastOne_119 rfl 10 bi_10 ?_
  refine r_iload_n 122 hX dX7_leastOne_121 rfl rfl 2 rfl ?_
  refine r_imul 123 hX dX7_leastOne_122 rfl ?_
  refine r_iload_n 124 hX dX7_leastOne_123 rfl rfl 3 rfl ?_
  refine r_iadd 125 hX dX7_leastOne_124 rfl ?_
  refine r_iconst 126 hX dX7_leastOne_125 rfl 4 ic_4 ?_
  refine r_imul 127 hX dX7_leastOne_126 rfl ?_
  refine r_iload 129 hX dX7_leastOne_127 rfl 4 rfl ?_
  refine r_iadd 130 hX dX7_leastOne_129 rfl ?_
  refine r_aload_n 131 hX dX7_leastOne_130 rfl rfl 0 rfl ?_
  refine r_iload_n 132 hX dX7_leastOne_131 rfl rfl 2 rfl ?_
  refine r_iload_n 133 hX dX7_leastOne_132 rfl rfl 3 rfl ?_
  refine k_X7_143_X7_isBarred 136 hX (by omega) (x2) (x3) (Nat.le_of_ble_eq_true rfl) dX7_leastOne_133 rfl hw (fun r133 σ133 hw => ?_)
  refine r_if_eq 144 139 hX dX7_leastOne_136 (by decide) rfl hw (fun hw => ?_) (fun hw => ?_)
  · refine r_iload 146 hX dX7_leastOne_144 rfl 5 rfl ?_
    refine r_iast 147 hX sh_89 dX7_leastOne_146 rfl hw (fun hw => ?_)
    refine r_iinc (lv' := [(4, .int (x4 + 1)), (0, .ref (X.kad 75)), (1, .int (x1)), (2, .int (x2)), (3, .int (x3)), (5, .int (x5))]) 150 hX dX7_leastOne_147 rfl 4 rfl (x4 + 1) (ici_1 _) (by decide) rfl ?_
    refine r_goto 34 hX dX7_leastOne_150 (by decide) ?_
    refine r_sub [1, 2, 3, 4, 0] rfl ?_
    exact hK34 _ _ _ _ _ hw
  · refine r_ldc 141 hX 100000 tw_603 dX7_leastOne_139 rfl ?_
    refine r_goto 146 hX dX7_leastOne_141 (by decide) ?_
    refine r_iast 147 hX sh_89 dX7_leastOne_146 rfl hw (fun hw => ?_)
    refine r_iinc (lv' := [(4, .int (x4 + 1)), (0, .ref (X.kad 75)), (1, .int (x1)), (2, .int (x2)), (3, .int (x3)), (5, .int (x5))]) 150 hX dX7_leastOne_147 rfl 4 rfl (x4 + 1) (ici_1 _) (by decide) rfl ?_
    refine r_goto 34 hX dX7_leastOne_150 (by decide) ?_
    refine r_sub [1, 2, 3, 4, 0] rfl ?_
    exact hK34 _ _ _ _ _ hw
set_option maxRecDepth 20000 in
set_option maxHeartbeats 4000000 in
theorem w_X7_leastOne_b63 {X : Cx} {Q : RV → St → Prop} (hX : CxB X RX7 cX7_leastOne 8 (4)) (hR : CxR X (some .int) Q) {K9 : Int32 → Int32 → St → Prop} (hK9 : ∀ (x1 : Int32) (x2 : Int32) (σ : St), K9 x1 x2 σ → At X 8 9 [(0, .ref (X.kad 75)), (1, .int (x1)), (2, .int (x2))] [] σ) {K21 : Int32 → Int32 → Int32 → St → Prop} (hK21 : ∀ (x1 : Int32) (x2 : Int32) (x3 : Int32) (σ : St), K21 x1 x2 x3 σ → At X 8 21 [(0, .ref (X.kad 75)), (1, .int (x1)), (2, .int (x2)), (3, .int (x3))] [] σ) {K34 : Int32 → Int32 → Int32 → Int32 → St → Prop} (hK34 : ∀ (x1 : Int32) (x2 : Int32) (x3 : Int32) (x4 : Int32) (σ : St), K34 x1 x2 x3 x4 σ → At X 8 34 [(0, .ref (X.kad 75)), (1, .int (x1)), (2, .int (x2)), (3, .int (x3)), (4, .int (x4))] [] σ) {K63 : Int32 → Int32 → Int32 → Int32 → Int32 → Int32 → St → Prop} (hK63 : ∀ (x1 : Int32) (x2 : Int32) (x3 : Int32) (x4 : Int32) (x5 : Int32) (x6 : Int32) (σ : St), K63 x1 x2 x3 x4 x5 x6 σ → At X 8 63 [(0, .ref (X.kad 75)), (1, .int (x1)), (2, .int (x2)), (3, .int (x3)), (4, .int (x4)), (5, .int (x5)), (6, .int (x6))] [] σ) (x1 : Int32) (x2 : Int32) (x3 : Int32) (x4 : Int32) (x5 : Int32) (x6 : Int32) (σ : St) (hw : wp_X7_leastOne_b63 (aI Q) K9 K21 K34 K63 x1 x2 x3 x4 x5 x6 σ) : At X 8 63 [(0, .ref (X.kad 75)), (1, .int (x1)), (2, .int (x2)), (3, .int (x3)), (4, .int (x4)), (5, .int (x5)), (6, .int (x6))] [] σ := by
  unfold wp_X7_leastOne_b63 at hw
  refine r_iload 65 hX dX7_leastOne_63 rfl 6 rfl ?_
  refine r_iconst 66 hX dX7_leastOne_65 rfl 1 ic_1 ?_
  refine r_icmp_gt 115 69 hX dX7_leastOne_66 (by decide) rfl hw (fun hw => ?_) (fun hw => ?_)
  · refine r_sub [0, 1, 2, 3, 4, 5] rfl ?_
    exact w_X7_leastOne_b115 hX hR hK9 hK21 hK34 _ _ _ _ _ _ hw
  · refine r_iload_n 70 hX dX7_leastOne_69 rfl rfl 2 rfl ?_
    refine r_aload_n 71 hX dX7_leastOne_70 rfl rfl 0 rfl ?_
    refine g_X7_17_75 74 hX dX7_leastOne_71 rfl ?_
    refine r_iconst 75 hX dX7_leastOne_74 rfl 0 ic_0 ?_
    refine r_iald 76 hX sh_78 dX7_leastOne_75 rfl hw (fun hw => ?_)
    refine r_iconst 77 hX dX7_leastOne_76 rfl 1 ic_1 ?_
    refine r_isub 78 hX dX7_leastOne_77 rfl ?_
    refine r_icmp_ge 115 81 hX dX7_leastOne_78 (by decide) rfl hw (fun hw => ?_) (fun hw => ?_)
    · refine r_sub [0, 1, 2, 3, 4, 5] rfl ?_
      exact w_X7_leastOne_b115 hX hR hK9 hK21 hK34 _ _ _ _ _ _ hw
    · refine r_aload_n 82 hX dX7_leastOne_81 rfl rfl 0 rfl ?_
      refine r_iload_n 83 hX dX7_leastOne_82 rfl rfl 2 rfl ?_
      refine r_iload_n 84 hX dX7_leastOne_83 rfl rfl 3 rfl ?_
      refine r_iload 86 hX dX7_leastOne_84 rfl 4 rfl ?_
      refine r_iload 88 hX dX7_leastOne_86 rfl 6 rfl ?_
      refine k_X7_169_X7_byStep 91 hX (by omega) (x2) (x3) (x4) (x6) (Nat.le_of_ble_eq_true rfl) dX7_leastOne_88 rfl hw (fun r88 σ88 hw => ?_)
      refine r_istore (lv' := [(7, .int (r88)), (0, .ref (X.kad 75)), (1, .int (x1)), (2, .int (x2)), (3, .int (x3)), (4, .int (x4)), (5, .int (x5)), (6, .int (x6))]) 93 hX dX7_leastOne_91 rfl (by decide) rfl ?_
      refine r_iload 95 hX dX7_leastOne_93 rfl 0 rfl ?_
      refine r_iload 97 hX dX7_leastOne_95 rfl 6 rfl ?_
      refine r_icmp_ge 105 100 hX dX7_leastOne_97 (by decide) rfl hw (fun hw => ?_) (fun hw => ?_)
      · refine r_iload 107 hX dX7_leastOne_105 rfl 6 rfl ?_
        refine r_istore (lv' := [(5, .int (x5)), (7, .int (r88)), (0, .ref (X.kad 75)), (1, .int (x1)), (2, .int (x2)), (3, .int (x3)), (4, .int (x4)), (6, .int (x6))]) 109 hX dX7_leastOne_107 rfl (by decide) rfl ?_
        refine r_iinc (lv' := [(6, .int (x6 + 1)), (5, .int (x5)), (7, .int (r88)), (0, .ref (X.kad 75)), (1, .int (x1)), (2, .int (x2)), (3, .int (x3)), (4, .int (x4))]) 112 hX dX7_leastOne_109 rfl 7 rfl (x6 + 1) (ici_1 _) (by decide) rfl ?_
        refine r_goto 63 hX dX7_leastOne_112 (by decide) ?_
        refine r_sub [3, 4, 5, 6, 7, 1, 0] rfl ?_
        exact hK63 _ _ _ _ _ _ _ hw
      · refine r_iload 102 hX dX7_leastOne_100 rfl 0 rfl ?_
        refine r_goto 107 hX dX7_leastOne_102 (by decide) ?_
        refine r_istore (lv' := [(5, .int (r88)), (7, .int (r88)), (0, .ref (X.kad 75)), (1, .int (x1)), (2, .int (x2)), (3, .int (x3)), (4, .int (x4)), (6, .int (x6))]) 109 hX dX7_leastOne_107 rfl (by decide) rfl ?_
        refine r_iinc (lv' := [(6, .int (x6 + 1)), (5, .int (r88)), (7, .int (r88)), (0, .ref (X.kad 75)), (1, .int (x1)), (2, .int (x2)), (3, .int (x3)), (4, .int (x4))]) 112 hX dX7_leastOne_109 rfl 7 rfl (x6 + 1) (ici_1 _) (by decide) rfl ?_
        refine r_goto 63 hX dX7_leastOne_112 (by decide) ?_
        refine r_sub [3, 4, 5, 6, 7, 1, 0] rfl ?_
        exact hK63 _ _ _ _ _ _ _ hw
set_option maxRecDepth 20000 in
set_option maxHeartbeats 4000000 in
theorem w_X7_leastOne_l63 {X : Cx} {Q : RV → St → Prop} (hX : CxB X RX7 cX7_leastOne 8 (4)) (hR : CxR X (some .int) Q) {K9 : Int32 → Int32 → St → Prop} (hK9 : ∀ (x1 : Int32) (x2 : Int32) (σ : St), K9 x1 x2 σ → At X 8 9 [(0, .ref (X.kad 75)), (1, .int (x1)), (2, .int (x2))] [] σ) {K21 : Int32 → Int32 → Int32 → St → Prop} (hK21 : ∀ (x1 : Int32) (x2 : Int32) (x3 : Int32) (σ : St), K21 x1 x2 x3 σ → At X 8 21 [(0, .ref (X.kad 75)), (1, .int (x1)), (2, .int (x2)), (3, .int (x3))] [] σ) {K34 : Int32 → Int32 → Int32 → Int32 → St → Prop} (hK34 : ∀ (x1 : Int32) (x2 : Int32) (x3 : Int32) (x4 : Int32) (σ : St), K34 x1 x2 x3 x4 σ → At X 8 34 [(0, .ref (X.kad 75)), (1, .int (x1)), (2, .int (x2)), (3, .int (x3)), (4, .int (x4))] [] σ) (n : Nat) : ∀ (x1 : Int32) (x2 : Int32) (x3 : Int32) (x4 : Int32) (x5 : Int32) (x6 : Int32) (σ : St), wp_X7_leastOne_l63 (aI Q) K9 K21 K34 n x1 x2 x3 x4 x5 x6 σ → At X 8 63 [(0, .ref (X.kad 75)), (1, .int (x1)), (2, .int (x2)), (3, .int (x3)), (4, .int (x4)), (5, .int (x5)), (6, .int (x6))] [] σ := by
  induction n with
  | zero => intro x1 x2 x3 x4 x5 x6 σ h; exact h.elim
  | succ n ih => intro x1 x2 x3 x4 x5 x6 σ h; exact w_X7_leastOne_b63  hX hR hK9 hK21 hK34 ih x1 x2 x3 x4 x5 x6 σ h
set_option maxRecDepth 20000 in
set_option maxHeartbeats 4000000 in
theorem w_X7_leastOne_b34 {X : Cx} {Q : RV → St → Prop} (hX : CxB X RX7 cX7_leastOne 8 (4)) (hR : CxR X (some .int) Q) {K9 : Int32 → Int32 → St → Prop} (hK9 : ∀ (x1 : Int32) (x2 : Int32) (σ : St), K9 x1 x2 σ → At X 8 9 [(0, .ref (X.kad 75)), (1, .int (x1)), (2, .int (x2))] [] σ) {K21 : Int32 → Int32 → Int32 → St → Prop} (hK21 : ∀ (x1 : Int32) (x2 : Int32) (x3 : Int32) (σ : St), K21 x1 x2 x3 σ → At X 8 21 [(0, .ref (X.kad 75)), (1, .int (x1)), (2, .int (x2)), (3, .int (x3))] [] σ) {K34 : Int32 → Int32 → Int32 → Int32 → St → Prop} (hK34 : ∀ (x1 : Int32) (x2 : Int32) (x3 : Int32) (x4 : Int32) (σ : St), K34 x1 x2 x3 x4 σ → At X 8 34 [(0, .ref (X.kad 75)), (1, .int (x1)), (2, .int (x2)), (3, .int (x3)), (4, .int (x4))] [] σ) (x1 : Int32) (x2 : Int32) (x3 : Int32) (x4 : Int32) (σ : St) (hw : wp_X7_leastOne_b34 (aI Q) K9 K21 K34 x1 x2 x3 x4 σ) : At X 8 34 [(0, .ref (X.kad 75)), (1, .int (x1)), (2, .int (x2)), (3, .int (x3)), (4, .int (x4))] [] σ := by
  unfold wp_X7_leastOne_b34 at hw
  refine r_iload 36 hX dX7_leastOne_34 rfl 4 rfl ?_
  refine r_iconst 37 hX dX7_leastOne_36 rfl 4 ic_4 ?_
  refine r_icmp_ge 153 40 hX dX7_leastOne_37 (by decide) rfl hw (fun hw => ?_) (fun hw => ?_)
  · refine r_iinc (lv' := [(3, .int (x3 + 1)), (0, .ref (X.kad 75)), (1, .int (x1)), (2, .int (x2)), (4, .int (x4))]) 156 hX dX7_leastOne_153 rfl 3 rfl (x3 + 1) (ici_1 _) (by decide) rfl ?_
    refine r_goto 21 hX dX7_leastOne_156 (by decide) ?_
    refine r_sub [1, 2, 3, 0] rfl ?_
    exact hK21 _ _ _ _ hw
  · refine r_iload_n 41 hX dX7_leastOne_40 rfl rfl 2 rfl ?_
    refine r_aload_n 42 hX dX7_leastOne_41 rfl rfl 0 rfl ?_
    refine g_X7_17_75 45 hX dX7_leastOne_42 rfl ?_
    refine r_iconst 46 hX dX7_leastOne_45 rfl 0 ic_0 ?_
    refine r_iald 47 hX sh_78 dX7_leastOne_46 rfl hw (fun hw => ?_)
    refine r_iconst 48 hX dX7_leastOne_47 rfl 1 ic_1 ?_
    refine r_isub 49 hX dX7_leastOne_48 rfl ?_
    refine r_icmp_ne 56 52 hX dX7_leastOne_49 (by decide) rfl hw (fun hw => ?_) (fun hw => ?_)
    · refine r_ldc 58 hX 100000 tw_603 dX7_leastOne_56 rfl ?_
      refine r_istore (lv' := [(5, .int (100000)), (0, .ref (X.kad 75)), (1, .int (x1)), (2, .int (x2)), (3, .int (x3)), (4, .int (x4))]) 60 hX dX7_leastOne_58 rfl (by decide) rfl ?_
      refine r_iconst 61 hX dX7_leastOne_60 rfl (-1) ic_m1 ?_
      refine r_istore (lv' := [(6, .int ((-1))), (5, .int (100000)), (0, .ref (X.kad 75)), (1, .int (x1)), (2, .int (x2)), (3, .int (x3)), (4, .int (x4))]) 63 hX dX7_leastOne_61 rfl (by decide) rfl ?_
      refine r_sub [2, 3, 4, 5, 6, 1, 0] rfl ?_
      obtain ⟨n, hw⟩ := hw
      exact w_X7_leastOne_l63 hX hR hK9 hK21 hK34 n _ _ _ _ _ _ _ hw
    · refine r_iconst 53 hX dX7_leastOne_52 rfl 0 ic_0 ?_
      refine r_goto 58 hX dX7_leastOne_53 (by decide) ?_
      refine r_istore (lv' := [(5, .int (0)), (0, .ref (X.kad 75)), (1, .int (x1)), (2, .int (x2)), (3, .int (x3)), (4, .int (x4))]) 60 hX dX7_leastOne_58 rfl (by decide) rfl ?_
      refine r_iconst 61 hX dX7_leastOne_60 rfl (-1) ic_m1 ?_
      refine r_istore (lv' := [(6, .int ((-1))), (5, .int (0)), (0, .ref (X.kad 75)), (1, .int (x1)), (2, .int (x2)), (3, .int (x3)), (4, .int (x4))]) 63 hX dX7_leastOne_61 rfl (by decide) rfl ?_
      refine r_sub [2, 3, 4, 5, 6, 1, 0] rfl ?_
      obtain ⟨n, hw⟩ := hw
      exact w_X7_leastOne_l63 hX hR hK9 hK21 hK34 n _ _ _ _ _ _ _ hw
set_option maxRecDepth 20000 in
set_option maxHeartbeats 4000000 in
theorem w_X7_leastOne_l34 {X : Cx} {Q : RV → St → Prop} (hX : CxB X RX7 cX7_leastOne 8 (4)) (hR : CxR X (some .int) Q) {K9 : Int32 → Int32 → St → Prop} (hK9 : ∀ (x1 : Int32) (x2 : Int32) (σ : St), K9 x1 x2 σ → At X 8 9 [(0, .ref (X.kad 75)), (1, .int (x1)), (2, .int (x2))] [] σ) {K21 : Int32 → Int32 → Int32 → St → Prop} (hK21 : ∀ (x1 : Int32) (x2 : Int32) (x3 : Int32) (σ : St), K21 x1 x2 x3 σ → At X 8 21 [(0, .ref (X.kad 75)), (1, .int (x1)), (2, .int (x2)), (3, .int (x3))] [] σ) (n : Nat) : ∀ (x1 : Int32) (x2 : Int32) (x3 : Int32) (x4 : Int32) (σ : St), wp_X7_leastOne_l34 (aI Q) K9 K21 n x1 x2 x3 x4 σ → At X 8 34 [(0, .ref (X.kad 75)), (1, .int (x1)), (2, .int (x2)), (3, .int (x3)), (4, .int (x4))] [] σ := by
  induction n with
  | zero => intro x1 x2 x3 x4 σ h; exact h.elim
  | succ n ih => intro x1 x2 x3 x4 σ h; exact w_X7_leastOne_b34  hX hR hK9 hK21 ih x1 x2 x3 x4 σ h
set_option maxRecDepth 20000 in
set_option maxHeartbeats 4000000 in
theorem w_X7_leastOne_b21 {X : Cx} {Q : RV → St → Prop} (hX : CxB X RX7 cX7_leastOne 8 (4)) (hR : CxR X (some .int) Q) {K9 : Int32 → Int32 → St → Prop} (hK9 : ∀ (x1 : Int32) (x2 : Int32) (σ : St), K9 x1 x2 σ → At X 8 9 [(0, .ref (X.kad 75)), (1, .int (x1)), (2, .int (x2))] [] σ) {K21 : Int32 → Int32 → Int32 → St → Prop} (hK21 : ∀ (x1 : Int32) (x2 : Int32) (x3 : Int32) (σ : St), K21 x1 x2 x3 σ → At X 8 21 [(0, .ref (X.kad 75)), (1, .int (x1)), (2, .int (x2)), (3, .int (x3))] [] σ) (x1 : Int32) (x2 : Int32) (x3 : Int32) (σ : St) (hw : wp_X7_leastOne_b21 (aI Q) K9 K21 x1 x2 x3 σ) : At X 8 21 [(0, .ref (X.kad 75)), (1, .int (x1)), (2, .int (x2)), (3, .int (x3))] [] σ := by
  unfold wp_X7_leastOne_b21 at hw
  refine r_iload_n 22 hX dX7_leastOne_21 rfl rfl 3 rfl ?_
  refine r_aload_n 23 hX dX7_leastOne_22 rfl rfl 0 rfl ?_
  refine g_X7_13_75 26 hX dX7_leastOne_23 rfl ?_
  refine r_iconst 27 hX dX7_leastOne_26 rfl 0 ic_0 ?_
  refine r_iald 28 hX sh_77 dX7_leastOne_27 rfl hw (fun hw => ?_)
  refine r_icmp_ge 159 31 hX dX7_leastOne_28 (by decide) rfl hw (fun hw => ?_) (fun hw => ?_)
  · refine r_iinc (lv' := [(2, .int (x2 + (-1))), (0, .ref (X.kad 75)), (1, .int (x1)), (3, .int (x3))]) 162 hX dX7_leastOne_159 rfl 2 rfl (x2 + (-1)) (ici_m1 _) (by decide) rfl ?_
    refine r_goto 9 hX dX7_leastOne_162 (by decide) ?_
    refine r_sub [1, 2, 0] rfl ?_
    exact hK9 _ _ _ hw
  · refine r_iconst 32 hX dX7_leastOne_31 rfl 0 ic_0 ?_
    refine r_istore (lv' := [(4, .int (0)), (0, .ref (X.kad 75)), (1, .int (x1)), (2, .int (x2)), (3, .int (x3))]) 34 hX dX7_leastOne_32 rfl (by decide) rfl ?_
    refine r_sub [1, 2, 3, 4, 0] rfl ?_
    obtain ⟨n, hw⟩ := hw
    exact w_X7_leastOne_l34 hX hR hK9 hK21 n _ _ _ _ _ hw
set_option maxRecDepth 20000 in
set_option maxHeartbeats 4000000 in
theorem w_X7_leastOne_l21 {X : Cx} {Q : RV → St → Prop} (hX : CxB X RX7 cX7_leastOne 8 (4)) (hR : CxR X (some .int) Q) {K9 : Int32 → Int32 → St → Prop} (hK9 : ∀ (x1 : Int32) (x2 : Int32) (σ : St), K9 x1 x2 σ → At X 8 9 [(0, .ref (X.kad 75)), (1, .int (x1)), (2, .int (x2))] [] σ) (n : Nat) : ∀ (x1 : Int32) (x2 : Int32) (x3 : Int32) (σ : St), wp_X7_leastOne_l21 (aI Q) K9 n x1 x2 x3 σ → At X 8 21 [(0, .ref (X.kad 75)), (1, .int (x1)), (2, .int (x2)), (3, .int (x3))] [] σ := by
  induction n with
  | zero => intro x1 x2 x3 σ h; exact h.elim
  | succ n ih => intro x1 x2 x3 σ h; exact w_X7_leastOne_b21  hX hR hK9 ih x1 x2 x3 σ h
set_option maxRecDepth 20000 in
set_option maxHeartbeats 4000000 in
theorem w_X7_leastOne_b9 {X : Cx} {Q : RV → St → Prop} (hX : CxB X RX7 cX7_leastOne 8 (4)) (hR : CxR X (some .int) Q) {K9 : Int32 → Int32 → St → Prop} (hK9 : ∀ (x1 : Int32) (x2 : Int32) (σ : St), K9 x1 x2 σ → At X 8 9 [(0, .ref (X.kad 75)), (1, .int (x1)), (2, .int (x2))] [] σ) (x1 : Int32) (x2 : Int32) (σ : St) (hw : wp_X7_leastOne_b9 (aI Q) K9 x1 x2 σ) : At X 8 9 [(0, .ref (X.kad 75)), (1, .int (x1)), (2, .int (x2))] [] σ := by
  unfold wp_X7_leastOne_b9 at hw
  refine r_iload_n 10 hX dX7_leastOne_9 rfl rfl 2 rfl ?_
  refine r_aload_n 11 hX dX7_leastOne_10 rfl rfl 0 rfl ?_
  refine g_X7_23_75 14 hX dX7_leastOne_11 rfl ?_
  refine r_iload_n 15 hX dX7_leastOne_14 rfl rfl 1 rfl ?_
  refine r_iald 16 hX sh_80 dX7_leastOne_15 rfl hw (fun hw => ?_)
  refine r_icmp_lt 165 19 hX dX7_leastOne_16 (by decide) rfl hw (fun hw => ?_) (fun hw => ?_)
  · refine r_aload_n 166 hX dX7_leastOne_165 rfl rfl 0 rfl ?_
    refine r_aload_n 167 hX dX7_leastOne_166 rfl rfl 0 rfl ?_
    refine g_X7_23_75 170 hX dX7_leastOne_167 rfl ?_
    refine r_iload_n 171 hX dX7_leastOne_170 rfl rfl 1 rfl ?_
    refine r_iald 172 hX sh_80 dX7_leastOne_171 rfl hw (fun hw => ?_)
    refine r_aload_n 173 hX dX7_leastOne_172 rfl rfl 0 rfl ?_
    refine g_X7_26_75 176 hX dX7_leastOne_173 rfl ?_
    refine r_iload_n 177 hX dX7_leastOne_176 rfl rfl 1 rfl ?_
    refine r_iald 178 hX sh_81 dX7_leastOne_177 rfl hw (fun hw => ?_)
    refine r_iconst 179 hX dX7_leastOne_178 rfl 0 ic_0 ?_
    refine k_X7_165_X7_stillAt 182 hX (by omega) (σ.1 80 x1.toNatClampNeg) (σ.1 81 x1.toNatClampNeg) (0) (Nat.le_of_ble_eq_true rfl) dX7_leastOne_179 rfl hw (fun r179 σ179 hw => ?_)
    exact r_iret hX hR dX7_leastOne_182 hw
  · refine r_iconst 20 hX dX7_leastOne_19 rfl 0 ic_0 ?_
    refine r_istore_n (lv' := [(3, .int (0)), (0, .ref (X.kad 75)), (1, .int (x1)), (2, .int (x2))]) 21 hX dX7_leastOne_20 rfl rfl (by decide) rfl ?_
    refine r_sub [1, 2, 3, 0] rfl ?_
    obtain ⟨n, hw⟩ := hw
    exact w_X7_leastOne_l21 hX hR hK9 n _ _ _ _ hw
set_option maxRecDepth 20000 in
set_option maxHeartbeats 4000000 in
theorem w_X7_leastOne_l9 {X : Cx} {Q : RV → St → Prop} (hX : CxB X RX7 cX7_leastOne 8 (4)) (hR : CxR X (some .int) Q) (n : Nat) : ∀ (x1 : Int32) (x2 : Int32) (σ : St), wp_X7_leastOne_l9 (aI Q)  n x1 x2 σ → At X 8 9 [(0, .ref (X.kad 75)), (1, .int (x1)), (2, .int (x2))] [] σ := by
  induction n with
  | zero => intro x1 x2 σ h; exact h.elim
  | succ n ih => intro x1 x2 σ h; exact w_X7_leastOne_b9  hX hR ih x1 x2 σ h
set_option maxRecDepth 20000 in
set_option maxHeartbeats 4000000 in
theorem c_X7_leastOne (x1 : Int32) : Con yX7_leastOne cX7_leastOne 8 (some .int) (4) (fun ad => [.ref (ad 75), .int (x1)]) (fun Q σ => wp_X7_leastOne x1 (aI Q) σ) := by
  refine con_intro (by decide +kernel) (fun _ => Nat.le_of_ble_eq_true rfl) (by omega) (fun X Q σ hX hR hw => ?_)
  have hX : CxB X RX7 cX7_leastOne 8 (4) := hX
  unfold wp_X7_leastOne at hw
  show At X 8 0 [(0, .ref (X.kad 75)), (1, .int (x1))] [] σ
  refine r_aload_n 1 hX dX7_leastOne_0 rfl rfl 0 rfl ?_
  refine g_X7_17_75 4 hX dX7_leastOne_1 rfl ?_
  refine r_iconst 5 hX dX7_leastOne_4 rfl 0 ic_0 ?_
  refine r_iald 6 hX sh_78 dX7_leastOne_5 rfl hw (fun hw => ?_)
  refine r_iconst 7 hX dX7_leastOne_6 rfl 1 ic_1 ?_
  refine r_isub 8 hX dX7_leastOne_7 rfl ?_
  refine r_topi hw (fun v8 hw => ?_)
  refine r_istore_n (lv' := [(2, .int (v8)), (0, .ref (X.kad 75)), (1, .int (x1))]) 9 hX dX7_leastOne_8 rfl rfl (by decide) rfl ?_
  refine r_sub [1, 2, 0] rfl ?_
  obtain ⟨n, hw⟩ := hw
  exact w_X7_leastOne_l9 hX hR n _ _ _ hw
theorem k_X7_173_X7_leastOne {X : Cx} {cc : ByteArray} {nL d pc : Nat} {lv : List (Nat × Value)} {rest : List Value} {σ : St} {K : Int32 → St → Prop} (q : Nat) (hX : CxB X RX7 cc nL d) (hdc : 4 + 1 ≤ d) (x1 : Int32) (hst : (rest.map fun v => v.category).sum ≤ 8) (hd : decode cc pc = .ok (.invokevirtual 173, 3)) (hq : pc + 3 = q) (hw : wp_X7_leastOne x1 K σ) (kk : ∀ (r : Int32) (τ : St), K r τ → At X nL q lv (.int r :: rest) τ) : At X nL pc lv (.int (x1) :: .ref (X.kad 75) :: rest) σ := r_callV (n := 1) q hX (k0 := 75) (c_X7_leastOne x1) tw_612 tw_613 tw_614 tw_517 tw_615 ⟨by decide +kernel, by decide +kernel, by decide +kernel⟩ hdc (by decide) (As := [.int (x1)]) rfl rfl (by decide) ⟨_, _, _, rfl, rfl, rfl⟩ hst hd hq rfl (K := qI K) hw (kI kk)
set_option maxRecDepth 20000 in
set_option maxHeartbeats 4000000 in
theorem w_X7_one_b105 {X : Cx} {Q : RV → St → Prop} (hX : CxB X RX7 cX7_one 8 (5)) (hR : CxR X (some .int) Q) {K96 : Int32 → Int32 → Int32 → Int32 → St → Prop} (hK96 : ∀ (x2 : Int32) (x4 : Int32) (x5 : Int32) (x6 : Int32) (σ : St), K96 x2 x4 x5 x6 σ → At X 8 96 [(0, .ref (X.kad 75)), (2, .int (x2)), (4, .int (x4)), (5, .int (x5)), (6, .int (x6))] [] σ) {K105 : Int32 → Int32 → Int32 → Int32 → Int32 → St → Prop} (hK105 : ∀ (x2 : Int32) (x4 : Int32) (x5 : Int32) (x6 : Int32) (x7 : Int32) (σ : St), K105 x2 x4 x5 x6 x7 σ → At X 8 105 [(0, .ref (X.kad 75)), (2, .int (x2)), (4, .int (x4)), (5, .int (x5)), (6, .int (x6)), (7, .int (x7))] [] σ) (x2 : Int32) (x4 : Int32) (x5 : Int32) (x6 : Int32) (x7 : Int32) (σ : St) (hw : wp_X7_one_b105 (aI Q) K96 K105 x2 x4 x5 x6 x7 σ) : At X 8 105 [(0, .ref (X.kad 75)), (2, .int (x2)), (4, .int (x4)), (5, .int (x5)), (6, .int (x6)), (7, .int (x7))] [] σ := by
  unfold wp_X7_one_b105 at hw
  refine r_aload_n 106 hX dX7_one_105 rfl rfl 0 rfl ?_
  refine r_iload 108 hX dX7_one_106 rfl 4 rfl ?_
  refine r_iload 110 hX dX7_one_108 rfl 2 rfl ?_
  refine r_iload 112 hX dX7_one_110 rfl 3 rfl ?_
  refine r_iload 114 hX dX7_one_112 rfl 5 rfl ?_
  refine k_X7_169_X7_byStep 117 hX (by omega) (x6) (x4) (x5) (x7) (Nat.le_of_ble_eq_true rfl) dX7_one_114 rfl hw (fun r114 σ114 hw => ?_)
  refine r_aload_n 118 hX dX7_one_117 rfl rfl 0 rfl ?_
  refine r_iload 120 hX dX7_one_118 rfl 4 rfl ?_
  refine r_iload 122 hX dX7_one_120 rfl 2 rfl ?_
  refine r_iload 124 hX dX7_one_122 rfl 3 rfl ?_
  refine k_X7_165_X7_stillAt 127 hX (by omega) (x6) (x4) (x5) (Nat.le_of_ble_eq_true rfl) dX7_one_124 rfl hw (fun r124 σ124 hw => ?_)
  refine r_icmp_eq 136 130 hX dX7_one_127 (by decide) rfl hw (fun hw => ?_) (fun hw => ?_)
  · refine r_iload 138 hX dX7_one_136 rfl 2 rfl ?_
    refine r_iload 140 hX dX7_one_138 rfl 5 rfl ?_
    refine r_iadd 141 hX dX7_one_140 rfl ?_
    refine r_istore (lv' := [(4, .int (x4 + x7)), (0, .ref (X.kad 75)), (2, .int (x2)), (5, .int (x5)), (6, .int (x6)), (7, .int (x7))]) 143 hX dX7_one_141 rfl (by decide) rfl ?_
    refine r_iload 145 hX dX7_one_143 rfl 5 rfl ?_
    refine r_iconst 146 hX dX7_one_145 rfl 2 ic_2 ?_
    refine r_iadd 147 hX dX7_one_146 rfl ?_
    refine r_istore (lv' := [(5, .int (x7 + 2)), (4, .int (x4 + x7)), (0, .ref (X.kad 75)), (2, .int (x2)), (6, .int (x6)), (7, .int (x7))]) 149 hX dX7_one_147 rfl (by decide) rfl ?_
    refine r_iinc (lv' := [(6, .int (x6 + 1)), (5, .int (x7 + 2)), (4, .int (x4 + x7)), (0, .ref (X.kad 75)), (2, .int (x2)), (7, .int (x7))]) 152 hX dX7_one_149 rfl 4 rfl (x6 + 1) (ici_1 _) (by decide) rfl ?_
    refine r_goto 96 hX dX7_one_152 (by decide) ?_
    refine r_sub [3, 4, 2, 1, 0] rfl ?_
    exact hK96 _ _ _ _ _ hw
  · refine r_iinc (lv' := [(7, .int (x7 + 1)), (0, .ref (X.kad 75)), (2, .int (x2)), (4, .int (x4)), (5, .int (x5)), (6, .int (x6))]) 133 hX dX7_one_130 rfl 5 rfl (x7 + 1) (ici_1 _) (by decide) rfl ?_
    refine r_goto 105 hX dX7_one_133 (by decide) ?_
    refine r_sub [1, 2, 3, 4, 5, 0] rfl ?_
    exact hK105 _ _ _ _ _ _ hw
set_option maxRecDepth 20000 in
set_option maxHeartbeats 4000000 in
theorem w_X7_one_l105 {X : Cx} {Q : RV → St → Prop} (hX : CxB X RX7 cX7_one 8 (5)) (hR : CxR X (some .int) Q) {K96 : Int32 → Int32 → Int32 → Int32 → St → Prop} (hK96 : ∀ (x2 : Int32) (x4 : Int32) (x5 : Int32) (x6 : Int32) (σ : St), K96 x2 x4 x5 x6 σ → At X 8 96 [(0, .ref (X.kad 75)), (2, .int (x2)), (4, .int (x4)), (5, .int (x5)), (6, .int (x6))] [] σ) (n : Nat) : ∀ (x2 : Int32) (x4 : Int32) (x5 : Int32) (x6 : Int32) (x7 : Int32) (σ : St), wp_X7_one_l105 (aI Q) K96 n x2 x4 x5 x6 x7 σ → At X 8 105 [(0, .ref (X.kad 75)), (2, .int (x2)), (4, .int (x4)), (5, .int (x5)), (6, .int (x6)), (7, .int (x7))] [] σ := by
  induction n with
  | zero => intro x2 x4 x5 x6 x7 σ h; exact h.elim
  | succ n ih => intro x2 x4 x5 x6 x7 σ h; exact w_X7_one_b105  hX hR hK96 ih x2 x4 x5 x6 x7 σ h
set_option maxRecDepth 20000 in
set_option maxHeartbeats 4000000 in
theorem w_X7_one_b96 {X : Cx} {Q : RV → St → Prop} (hX : CxB X RX7 cX7_one 8 (5)) (hR : CxR X (some .int) Q) {K96 : Int32 → Int32 → Int32 → Int32 → St → Prop} (hK96 : ∀ (x2 : Int32) (x4 : Int32) (x5 : Int32) (x6 : Int32) (σ : St), K96 x2 x4 x5 x6 σ → At X 8 96 [(0, .ref (X.kad 75)), (2, .int (x2)), (4, .int (x4)), (5, .int (x5)), (6, .int (x6))] [] σ) (x2 : Int32) (x4 : Int32) (x5 : Int32) (x6 : Int32) (σ : St) (hw : wp_X7_one_b96 (aI Q) K96 x2 x4 x5 x6 σ) : At X 8 96 [(0, .ref (X.kad 75)), (2, .int (x2)), (4, .int (x4)), (5, .int (x5)), (6, .int (x6))] [] σ := by
  unfold wp_X7_one_b96 at hw
  refine r_iload 98 hX dX7_one_96 rfl 4 rfl ?_
  refine r_iload_n 99 hX dX7_one_98 rfl rfl 1 rfl ?_
  refine r_icmp_ge 155 102 hX dX7_one_99 (by decide) rfl hw (fun hw => ?_) (fun hw => ?_)
  · refine r_iload 157 hX dX7_one_155 rfl 2 rfl ?_
    exact r_iret hX hR dX7_one_157 hw
  · refine r_iconst 103 hX dX7_one_102 rfl (-1) ic_m1 ?_
    refine r_istore (lv' := [(7, .int ((-1))), (0, .ref (X.kad 75)), (2, .int (x2)), (4, .int (x4)), (5, .int (x5)), (6, .int (x6))]) 105 hX dX7_one_103 rfl (by decide) rfl ?_
    refine r_sub [1, 2, 3, 4, 5, 0] rfl ?_
    obtain ⟨n, hw⟩ := hw
    exact w_X7_one_l105 hX hR hK96 n _ _ _ _ _ _ hw
set_option maxRecDepth 20000 in
set_option maxHeartbeats 4000000 in
theorem w_X7_one_l96 {X : Cx} {Q : RV → St → Prop} (hX : CxB X RX7 cX7_one 8 (5)) (hR : CxR X (some .int) Q) (n : Nat) : ∀ (x2 : Int32) (x4 : Int32) (x5 : Int32) (x6 : Int32) (σ : St), wp_X7_one_l96 (aI Q)  n x2 x4 x5 x6 σ → At X 8 96 [(0, .ref (X.kad 75)), (2, .int (x2)), (4, .int (x4)), (5, .int (x5)), (6, .int (x6))] [] σ := by
  induction n with
  | zero => intro x2 x4 x5 x6 σ h; exact h.elim
  | succ n ih => intro x2 x4 x5 x6 σ h; exact w_X7_one_b96  hX hR ih x2 x4 x5 x6 σ h
set_option maxRecDepth 20000 in
set_option maxHeartbeats 4000000 in
theorem w_X7_one_b41 {X : Cx} {Q : RV → St → Prop} (hX : CxB X RX7 cX7_one 8 (5)) (hR : CxR X (some .int) Q) (x1 : Int32) (x2 : Int32) (σ : St) (hw : wp_X7_one_b41 (aI Q)  x1 x2 σ) : At X 8 41 [(0, .ref (X.kad 75)), (1, .int (x1)), (2, .int (x2))] [] σ := by
  unfold wp_X7_one_b41 at hw
  refine r_aload_n 42 hX dX7_one_41 rfl rfl 0 rfl ?_
  refine r_iload_n 43 hX dX7_one_42 rfl rfl 1 rfl ?_
  refine k_X7_173_X7_leastOne 46 hX (by omega) (x1) (Nat.le_of_ble_eq_true rfl) dX7_one_43 rfl hw (fun r43 σ43 hw => ?_)
  refine r_istore_n (lv' := [(3, .int (r43)), (0, .ref (X.kad 75)), (1, .int (x1)), (2, .int (x2))]) 47 hX dX7_one_46 rfl rfl (by decide) rfl ?_
  refine r_iload_n 48 hX dX7_one_47 rfl rfl 0 rfl ?_
  refine r_ldc 50 hX 100000 tw_603 dX7_one_48 rfl ?_
  refine r_icmp_lt 56 53 hX dX7_one_50 (by decide) rfl hw (fun hw => ?_) (fun hw => ?_)
  · refine r_iload_n 57 hX dX7_one_56 rfl rfl 3 rfl ?_
    refine r_if_ge 77 60 hX dX7_one_57 (by decide) rfl hw (fun hw => ?_) (fun hw => ?_)
    · refine r_aload_n 78 hX dX7_one_77 rfl rfl 1 rfl ?_
      refine g_X7_26_75 81 hX dX7_one_78 rfl ?_
      refine r_iload_n 82 hX dX7_one_81 rfl rfl 2 rfl ?_
      refine r_iald 83 hX sh_81 dX7_one_82 rfl hw (fun hw => ?_)
      refine r_istore (lv' := [(4, .int (σ43.1 81 x1.toNatClampNeg)), (3, .int (r43)), (0, .ref (X.kad 75)), (1, .int (x1)), (2, .int (x2))]) 85 hX dX7_one_83 rfl (by decide) rfl ?_
      refine r_iconst 86 hX dX7_one_85 rfl 0 ic_0 ?_
      refine r_istore (lv' := [(5, .int (0)), (4, .int (σ43.1 81 x1.toNatClampNeg)), (3, .int (r43)), (0, .ref (X.kad 75)), (1, .int (x1)), (2, .int (x2))]) 88 hX dX7_one_86 rfl (by decide) rfl ?_
      refine r_aload_n 89 hX dX7_one_88 rfl rfl 3 rfl ?_
      refine g_X7_23_75 92 hX dX7_one_89 rfl ?_
      refine r_iload_n 93 hX dX7_one_92 rfl rfl 4 rfl ?_
      refine r_iald 94 hX sh_80 dX7_one_93 rfl hw (fun hw => ?_)
      refine r_istore (lv' := [(6, .int (σ43.1 80 x1.toNatClampNeg)), (5, .int (0)), (4, .int (σ43.1 81 x1.toNatClampNeg)), (3, .int (r43)), (0, .ref (X.kad 75)), (1, .int (x1)), (2, .int (x2))]) 96 hX dX7_one_94 rfl (by decide) rfl ?_
      refine r_sub [4, 6, 2, 1, 0] rfl ?_
      obtain ⟨n, hw⟩ := hw
      exact w_X7_one_l96 hX hR n _ _ _ _ _ hw
    · refine r_iload_n 61 hX dX7_one_60 rfl rfl 3 rfl ?_
      refine r_iconst 62 hX dX7_one_61 rfl (-1) ic_m1 ?_
      refine r_icmp_ne 72 65 hX dX7_one_62 (by decide) rfl hw (fun hw => ?_) (fun hw => ?_)
      · refine r_iload_n 73 hX dX7_one_72 rfl rfl 0 rfl ?_
        refine r_bipush 75 hX dX7_one_73 rfl 100 bi_100 ?_
        refine r_irem 76 hX dX7_one_75 rfl hw (fun hw => ?_)
        exact r_iret hX hR dX7_one_76 hw
      · refine r_iload_n 66 hX dX7_one_65 rfl rfl 0 rfl ?_
        refine r_bipush 68 hX dX7_one_66 rfl 100 bi_100 ?_
        refine r_idiv 69 hX dX7_one_68 rfl hw (fun hw => ?_)
        refine r_goto 76 hX dX7_one_69 (by decide) ?_
        exact r_iret hX hR dX7_one_76 hw
  · refine r_bipush 55 hX dX7_one_53 rfl (-9) bi_m9 ?_
    exact r_iret hX hR dX7_one_55 hw
set_option maxRecDepth 20000 in
set_option maxHeartbeats 4000000 in
theorem c_X7_one (x1 : Int32) (x2 : Int32) : Con yX7_one cX7_one 8 (some .int) (5) (fun ad => [.ref (ad 75), .int (x1), .int (x2)]) (fun Q σ => wp_X7_one x1 x2 (aI Q) σ) := by
  refine con_intro (by decide +kernel) (fun _ => Nat.le_of_ble_eq_true rfl) (by omega) (fun X Q σ hX hR hw => ?_)
  have hX : CxB X RX7 cX7_one 8 (5) := hX
  unfold wp_X7_one at hw
  show At X 8 0 [(0, .ref (X.kad 75)), (1, .int (x1)), (2, .int (x2))] [] σ
  refine r_aload_n 1 hX dX7_one_0 rfl rfl 0 rfl ?_
  refine r_iload_n 2 hX dX7_one_1 rfl rfl 1 rfl ?_
  refine k_X7_150_X7_isHearth 5 hX (by omega) (x1) (Nat.le_of_ble_eq_true rfl) dX7_one_2 rfl hw (fun r2 σ2 hw => ?_)
  refine r_if_eq 39 8 hX dX7_one_5 (by decide) rfl hw (fun hw => ?_) (fun hw => ?_)
  · refine r_iconst 40 hX dX7_one_39 rfl (-1) ic_m1 ?_
    exact r_iret hX hR dX7_one_40 hw
  · refine r_iload_n 9 hX dX7_one_8 rfl rfl 2 rfl ?_
    refine r_bipush 11 hX dX7_one_9 rfl (-2) bi_m2 ?_
    refine r_iconst 12 hX dX7_one_11 rfl (-1) ic_m1 ?_
    refine k_X7_85_X7_in 15 hX (by omega) (x2) ((-2)) ((-1)) (Nat.le_of_ble_eq_true rfl) dX7_one_12 rfl hw (fun r12 σ12 hw => ?_)
    refine r_if_ne 41 18 hX dX7_one_15 (by decide) rfl hw (fun hw => ?_) (fun hw => ?_)
    · exact w_X7_one_b41 hX hR _ _ _ hw
    · refine r_iload_n 19 hX dX7_one_18 rfl rfl 2 rfl ?_
      refine r_aload_n 20 hX dX7_one_19 rfl rfl 0 rfl ?_
      refine g_X7_23_75 23 hX dX7_one_20 rfl ?_
      refine r_iload_n 24 hX dX7_one_23 rfl rfl 1 rfl ?_
      refine r_iald 25 hX sh_80 dX7_one_24 rfl hw (fun hw => ?_)
      refine r_aload_n 26 hX dX7_one_25 rfl rfl 0 rfl ?_
      refine g_X7_17_75 29 hX dX7_one_26 rfl ?_
      refine r_iconst 30 hX dX7_one_29 rfl 0 ic_0 ?_
      refine r_iald 31 hX sh_78 dX7_one_30 rfl hw (fun hw => ?_)
      refine r_iconst 32 hX dX7_one_31 rfl 1 ic_1 ?_
      refine r_isub 33 hX dX7_one_32 rfl ?_
      refine k_X7_85_X7_in 36 hX (by omega) (x2) (σ12.1 80 x1.toNatClampNeg) ((σ12.1 78 (0 : Int32).toNatClampNeg) - 1) (Nat.le_of_ble_eq_true rfl) dX7_one_33 rfl hw (fun r33 σ33 hw => ?_)
      refine r_if_ne 41 39 hX dX7_one_36 (by decide) rfl hw (fun hw => ?_) (fun hw => ?_)
      · exact w_X7_one_b41 hX hR _ _ _ hw
      · refine r_iconst 40 hX dX7_one_39 rfl (-1) ic_m1 ?_
        exact r_iret hX hR dX7_one_40 hw
set_option maxRecDepth 20000 in
set_option maxHeartbeats 4000000 in
theorem c_X7_add (x1 : Int32) (x2 : Int32) (x3 : Int32) : Con yX7_add cX7_add 4 (none) (1) (fun ad => [.ref (ad 75), .int (x1), .int (x2), .int (x3)]) (fun Q σ => wp_X7_add x1 x2 x3 (aV Q) σ) := by
  refine con_intro (by decide +kernel) (fun _ => Nat.le_of_ble_eq_true rfl) (by omega) (fun X Q σ hX hR hw => ?_)
  have hX : CxB X RX7 cX7_add 4 (1) := hX
  unfold wp_X7_add at hw
  show At X 4 0 [(0, .ref (X.kad 75)), (1, .int (x1)), (2, .int (x2)), (3, .int (x3))] [] σ
  refine r_aload_n 1 hX dX7_add_0 rfl rfl 0 rfl ?_
  refine g_X7_54_75 4 hX dX7_add_1 rfl ?_
  refine r_aload_n 5 hX dX7_add_4 rfl rfl 0 rfl ?_
  refine g_X7_177_75 8 hX dX7_add_5 rfl ?_
  refine r_iload_n 9 hX dX7_add_8 rfl rfl 1 rfl ?_
  refine r_iast 10 hX sh_90 dX7_add_9 rfl hw (fun hw => ?_)
  refine r_aload_n 11 hX dX7_add_10 rfl rfl 0 rfl ?_
  refine g_X7_57_75 14 hX dX7_add_11 rfl ?_
  refine r_aload_n 15 hX dX7_add_14 rfl rfl 0 rfl ?_
  refine g_X7_177_75 18 hX dX7_add_15 rfl ?_
  refine r_iload_n 19 hX dX7_add_18 rfl rfl 2 rfl ?_
  refine r_iast 20 hX sh_91 dX7_add_19 rfl hw (fun hw => ?_)
  refine r_aload_n 21 hX dX7_add_20 rfl rfl 0 rfl ?_
  refine g_X7_60_75 24 hX dX7_add_21 rfl ?_
  refine r_aload_n 25 hX dX7_add_24 rfl rfl 0 rfl ?_
  refine g_X7_177_75 28 hX dX7_add_25 rfl ?_
  refine r_iload_n 29 hX dX7_add_28 rfl rfl 3 rfl ?_
  refine r_iast 30 hX sh_92 dX7_add_29 rfl hw (fun hw => ?_)
  refine r_aload_n 31 hX dX7_add_30 rfl rfl 0 rfl ?_
  refine r_dup 32 hX dX7_add_31 rfl rfl ?_
  refine g_X7_177_75 35 hX dX7_add_32 rfl ?_
  refine r_iconst 36 hX dX7_add_35 rfl 1 ic_1 ?_
  refine r_iadd 37 hX dX7_add_36 rfl ?_
  refine p_X7_177_75 40 hX dX7_add_37 rfl ?_
  refine r_aload_n 41 hX dX7_add_40 rfl rfl 0 rfl ?_
  refine r_iload_n 42 hX dX7_add_41 rfl rfl 1 rfl ?_
  refine r_aload_n 43 hX dX7_add_42 rfl rfl 0 rfl ?_
  refine g_X7_180_75 46 hX dX7_add_43 rfl ?_
  refine r_icmp_ge 53 49 hX dX7_add_46 (by decide) rfl hw (fun hw => ?_) (fun hw => ?_)
  · refine r_aload_n 54 hX dX7_add_53 rfl rfl 0 rfl ?_
    refine g_X7_180_75 57 hX dX7_add_54 rfl ?_
    refine p_X7_180_75 60 hX dX7_add_57 rfl ?_
    exact r_vret hX hR dX7_add_60 hw
  · refine r_iload_n 50 hX dX7_add_49 rfl rfl 1 rfl ?_
    refine r_goto 57 hX dX7_add_50 (by decide) ?_
    refine p_X7_180_75 60 hX dX7_add_57 rfl ?_
    exact r_vret hX hR dX7_add_60 hw
theorem k_X7_186_X7_add {X : Cx} {cc : ByteArray} {nL d pc : Nat} {lv : List (Nat × Value)} {rest : List Value} {σ : St} {K : St → Prop} (q : Nat) (hX : CxB X RX7 cc nL d) (hdc : 1 + 1 ≤ d) (x1 : Int32) (x2 : Int32) (x3 : Int32) (hst : (rest.map fun v => v.category).sum ≤ 8) (hd : decode cc pc = .ok (.invokevirtual 186, 3)) (hq : pc + 3 = q) (hw : wp_X7_add x1 x2 x3 K σ) (kk : ∀ (τ : St), K τ → At X nL q lv (rest) τ) : At X nL pc lv (.int (x3) :: .int (x2) :: .int (x1) :: .ref (X.kad 75) :: rest) σ := r_callV (n := 3) q hX (k0 := 75) (c_X7_add x1 x2 x3) tw_622 tw_623 tw_624 tw_517 tw_625 ⟨by decide +kernel, by decide +kernel, by decide +kernel⟩ hdc (by decide) (As := [.int (x1), .int (x2), .int (x3)]) rfl rfl (by decide) ⟨_, _, _, rfl, rfl, rfl⟩ hst hd hq rfl (K := qV K) hw (kV kk)
set_option maxRecDepth 20000 in
set_option maxHeartbeats 4000000 in
theorem w_X7_gather_b18 {X : Cx} {Q : RV → St → Prop} (hX : CxB X RX7 cX7_gather 3 (2)) (hR : CxR X (none) Q) {K18 : Int32 → Int32 → St → Prop} (hK18 : ∀ (x1 : Int32) (x2 : Int32) (σ : St), K18 x1 x2 σ → At X 3 18 [(0, .ref (X.kad 75)), (1, .int (x1)), (2, .int (x2))] [] σ) (x1 : Int32) (x2 : Int32) (σ : St) (hw : wp_X7_gather_b18 (aV Q) K18 x1 x2 σ) : At X 3 18 [(0, .ref (X.kad 75)), (1, .int (x1)), (2, .int (x2))] [] σ := by
  unfold wp_X7_gather_b18 at hw
  refine r_iload_n 19 hX dX7_gather_18 rfl rfl 2 rfl ?_
  refine r_iconst 20 hX dX7_gather_19 rfl 3 ic_3 ?_
  refine r_icmp_ge 55 23 hX dX7_gather_20 (by decide) rfl hw (fun hw => ?_) (fun hw => ?_)
  · exact r_vret hX hR dX7_gather_55 hw
  · refine r_iload_n 24 hX dX7_gather_23 rfl rfl 1 rfl ?_
    refine r_iload_n 25 hX dX7_gather_24 rfl rfl 2 rfl ?_
    refine r_ishr 26 hX dX7_gather_25 rfl ?_
    refine r_iconst 27 hX dX7_gather_26 rfl 1 ic_1 ?_
    refine r_iand 28 hX dX7_gather_27 rfl ?_
    refine r_iconst 29 hX dX7_gather_28 rfl 1 ic_1 ?_
    refine r_icmp_ne 49 32 hX dX7_gather_29 (by decide) rfl hw (fun hw => ?_) (fun hw => ?_)
    · refine r_iinc (lv' := [(2, .int (x2 + 1)), (0, .ref (X.kad 75)), (1, .int (x1))]) 52 hX dX7_gather_49 rfl 2 rfl (x2 + 1) (ici_1 _) (by decide) rfl ?_
      refine r_goto 18 hX dX7_gather_52 (by decide) ?_
      refine r_sub [1, 2, 0] rfl ?_
      exact hK18 _ _ _ hw
    · refine r_aload_n 33 hX dX7_gather_32 rfl rfl 0 rfl ?_
      refine r_aload_n 34 hX dX7_gather_33 rfl rfl 0 rfl ?_
      refine g_X7_23_75 37 hX dX7_gather_34 rfl ?_
      refine r_iload_n 38 hX dX7_gather_37 rfl rfl 2 rfl ?_
      refine r_iald 39 hX sh_80 dX7_gather_38 rfl hw (fun hw => ?_)
      refine r_aload_n 40 hX dX7_gather_39 rfl rfl 0 rfl ?_
      refine g_X7_26_75 43 hX dX7_gather_40 rfl ?_
      refine r_iload_n 44 hX dX7_gather_43 rfl rfl 2 rfl ?_
      refine r_iald 45 hX sh_81 dX7_gather_44 rfl hw (fun hw => ?_)
      refine r_iconst 46 hX dX7_gather_45 rfl (-1) ic_m1 ?_
      refine k_X7_186_X7_add 49 hX (by omega) (σ.1 80 x2.toNatClampNeg) (σ.1 81 x2.toNatClampNeg) ((-1)) (Nat.le_of_ble_eq_true rfl) dX7_gather_46 rfl hw (fun σ46 hw => ?_)
      refine r_iinc (lv' := [(2, .int (x2 + 1)), (0, .ref (X.kad 75)), (1, .int (x1))]) 52 hX dX7_gather_49 rfl 2 rfl (x2 + 1) (ici_1 _) (by decide) rfl ?_
      refine r_goto 18 hX dX7_gather_52 (by decide) ?_
      refine r_sub [1, 2, 0] rfl ?_
      exact hK18 _ _ _ hw
set_option maxRecDepth 20000 in
set_option maxHeartbeats 4000000 in
theorem w_X7_gather_l18 {X : Cx} {Q : RV → St → Prop} (hX : CxB X RX7 cX7_gather 3 (2)) (hR : CxR X (none) Q) (n : Nat) : ∀ (x1 : Int32) (x2 : Int32) (σ : St), wp_X7_gather_l18 (aV Q)  n x1 x2 σ → At X 3 18 [(0, .ref (X.kad 75)), (1, .int (x1)), (2, .int (x2))] [] σ := by
  induction n with
  | zero => intro x1 x2 σ h; exact h.elim
  | succ n ih => intro x1 x2 σ h; exact w_X7_gather_b18  hX hR ih x1 x2 σ h
set_option maxRecDepth 20000 in
set_option maxHeartbeats 4000000 in
theorem c_X7_gather (x1 : Int32) : Con yX7_gather cX7_gather 3 (none) (2) (fun ad => [.ref (ad 75), .int (x1)]) (fun Q σ => wp_X7_gather x1 (aV Q) σ) := by
  refine con_intro (by decide +kernel) (fun _ => Nat.le_of_ble_eq_true rfl) (by omega) (fun X Q σ hX hR hw => ?_)
  have hX : CxB X RX7 cX7_gather 3 (2) := hX
  unfold wp_X7_gather at hw
  show At X 3 0 [(0, .ref (X.kad 75)), (1, .int (x1))] [] σ
  refine r_aload_n 1 hX dX7_gather_0 rfl rfl 0 rfl ?_
  refine r_iconst 2 hX dX7_gather_1 rfl 0 ic_0 ?_
  refine p_X7_177_75 5 hX dX7_gather_2 rfl ?_
  refine r_aload_n 6 hX dX7_gather_5 rfl rfl 0 rfl ?_
  refine r_bipush 8 hX dX7_gather_6 rfl 16 bi_16 ?_
  refine p_X7_180_75 11 hX dX7_gather_8 rfl ?_
  refine r_aload_n 12 hX dX7_gather_11 rfl rfl 0 rfl ?_
  refine r_iconst 13 hX dX7_gather_12 rfl 0 ic_0 ?_
  refine p_X7_183_75 16 hX dX7_gather_13 rfl ?_
  refine r_iconst 17 hX dX7_gather_16 rfl 0 ic_0 ?_
  refine r_istore_n (lv' := [(2, .int (0)), (0, .ref (X.kad 75)), (1, .int (x1))]) 18 hX dX7_gather_17 rfl rfl (by decide) rfl ?_
  refine r_sub [1, 2, 0] rfl ?_
  obtain ⟨n, hw⟩ := hw
  exact w_X7_gather_l18 hX hR n _ _ _ hw
set_option maxRecDepth 20000 in
set_option maxHeartbeats 4000000 in
theorem c_X7_placeIn (x1 : Int32) (x2 : Int32) : Con yX7_placeIn cX7_placeIn 3 (some .int) (1) (fun ad => [.ref (ad 75), .int (x1), .int (x2)]) (fun Q σ => wp_X7_placeIn x1 x2 (aI Q) σ) := by
  refine con_intro (by decide +kernel) (fun _ => Nat.le_of_ble_eq_true rfl) (by omega) (fun X Q σ hX hR hw => ?_)
  have hX : CxB X RX7 cX7_placeIn 3 (1) := hX
  unfold wp_X7_placeIn at hw
  show At X 3 0 [(0, .ref (X.kad 75)), (1, .int (x1)), (2, .int (x2))] [] σ
  refine r_iload_n 1 hX dX7_placeIn_0 rfl rfl 1 rfl ?_
  refine r_aload_n 2 hX dX7_placeIn_1 rfl rfl 0 rfl ?_
  refine g_X7_66_75 5 hX dX7_placeIn_2 rfl ?_
  refine r_iload_n 6 hX dX7_placeIn_5 rfl rfl 2 rfl ?_
  refine r_iald 7 hX sh_94 dX7_placeIn_6 rfl hw (fun hw => ?_)
  refine r_idiv 8 hX dX7_placeIn_7 rfl hw (fun hw => ?_)
  refine r_bipush 10 hX dX7_placeIn_8 rfl 10 bi_10 ?_
  refine r_irem 11 hX dX7_placeIn_10 rfl hw (fun hw => ?_)
  exact r_iret hX hR dX7_placeIn_11 hw
set_option maxRecDepth 20000 in
set_option maxHeartbeats 4000000 in
theorem w_X7_mayBe_b73 {X : Cx} {Q : RV → St → Prop} (hX : CxB X RX7 cX7_mayBe 5 (3)) (hR : CxR X (some .boolean) Q) (x1 : Int32) (x2 : Int32) (x3 : Int32) (s0 : Int32) (σ : St) (hw : wp_X7_mayBe_b73 (aI Q)  x1 x2 x3 s0 σ) : At X 5 73 [(0, .ref (X.kad 75)), (1, .int (x1)), (2, .int (x2)), (3, .int (x3))] [.int (s0)] σ := by
  unfold wp_X7_mayBe_b73 at hw
  refine r_istore (lv' := [(4, .int (s0)), (0, .ref (X.kad 75)), (1, .int (x1)), (2, .int (x2)), (3, .int (x3))]) 75 hX dX7_mayBe_73 rfl (by decide) rfl ?_
  refine r_iload 77 hX dX7_mayBe_75 rfl 0 rfl ?_
  refine r_if_eq 114 80 hX dX7_mayBe_77 (by decide) rfl hw (fun hw => ?_) (fun hw => ?_)
  · refine r_iconst 115 hX dX7_mayBe_114 rfl 0 ic_0 ?_
    exact r_zret hX hR narrow_b0 dX7_mayBe_115 hw
  · refine r_aload_n 81 hX dX7_mayBe_80 rfl rfl 1 rfl ?_
    refine g_X7_60_75 84 hX dX7_mayBe_81 rfl ?_
    refine r_iload_n 85 hX dX7_mayBe_84 rfl rfl 2 rfl ?_
    refine r_iald 86 hX sh_92 dX7_mayBe_85 rfl hw (fun hw => ?_)
    refine r_iconst 87 hX dX7_mayBe_86 rfl (-1) ic_m1 ?_
    refine r_icmp_eq 110 90 hX dX7_mayBe_87 (by decide) rfl hw (fun hw => ?_) (fun hw => ?_)
    · refine r_iconst 111 hX dX7_mayBe_110 rfl 1 ic_1 ?_
      refine r_goto 115 hX dX7_mayBe_111 (by decide) ?_
      exact r_zret hX hR narrow_b1 dX7_mayBe_115 hw
    · refine r_aload_n 91 hX dX7_mayBe_90 rfl rfl 1 rfl ?_
      refine g_X7_69_75 94 hX dX7_mayBe_91 rfl ?_
      refine r_bipush 96 hX dX7_mayBe_94 rfl 16 bi_16 ?_
      refine r_aload_n 97 hX dX7_mayBe_96 rfl rfl 1 rfl ?_
      refine g_X7_60_75 100 hX dX7_mayBe_97 rfl ?_
      refine r_iload_n 101 hX dX7_mayBe_100 rfl rfl 2 rfl ?_
      refine r_iald 102 hX sh_92 dX7_mayBe_101 rfl hw (fun hw => ?_)
      refine r_imul 103 hX dX7_mayBe_102 rfl ?_
      refine r_iload_n 104 hX dX7_mayBe_103 rfl rfl 3 rfl ?_
      refine r_iadd 105 hX dX7_mayBe_104 rfl ?_
      refine r_iald 106 hX sh_95 dX7_mayBe_105 rfl hw (fun hw => ?_)
      refine r_iload_n 107 hX dX7_mayBe_106 rfl rfl 4 rfl ?_
      refine r_icmp_ne 114 110 hX dX7_mayBe_107 (by decide) rfl hw (fun hw => ?_) (fun hw => ?_)
      · refine r_iconst 115 hX dX7_mayBe_114 rfl 0 ic_0 ?_
        exact r_zret hX hR narrow_b0 dX7_mayBe_115 hw
      · refine r_iconst 111 hX dX7_mayBe_110 rfl 1 ic_1 ?_
        refine r_goto 115 hX dX7_mayBe_111 (by decide) ?_
        exact r_zret hX hR narrow_b1 dX7_mayBe_115 hw
set_option maxRecDepth 20000 in
set_option maxHeartbeats 4000000 in
theorem w_X7_mayBe_b72 {X : Cx} {Q : RV → St → Prop} (hX : CxB X RX7 cX7_mayBe 5 (3)) (hR : CxR X (some .boolean) Q) (x1 : Int32) (x2 : Int32) (x3 : Int32) (σ : St) (hw : wp_X7_mayBe_b72 (aI Q)  x1 x2 x3 σ) : At X 5 72 [(0, .ref (X.kad 75)), (1, .int (x1)), (2, .int (x2)), (3, .int (x3))] [] σ := by
  unfold wp_X7_mayBe_b72 at hw
  refine r_iconst 73 hX dX7_mayBe_72 rfl 0 ic_0 ?_
  exact w_X7_mayBe_b73 hX hR _ _ _ _ _ hw
set_option maxRecDepth 20000 in
set_option maxHeartbeats 4000000 in
theorem w_X7_mayBe_b68 {X : Cx} {Q : RV → St → Prop} (hX : CxB X RX7 cX7_mayBe 5 (3)) (hR : CxR X (some .boolean) Q) (x1 : Int32) (x2 : Int32) (x3 : Int32) (σ : St) (hw : wp_X7_mayBe_b68 (aI Q)  x1 x2 x3 σ) : At X 5 68 [(0, .ref (X.kad 75)), (1, .int (x1)), (2, .int (x2)), (3, .int (x3))] [] σ := by
  unfold wp_X7_mayBe_b68 at hw
  refine r_iconst 69 hX dX7_mayBe_68 rfl 1 ic_1 ?_
  refine r_goto 73 hX dX7_mayBe_69 (by decide) ?_
  exact w_X7_mayBe_b73 hX hR _ _ _ _ _ hw
set_option maxRecDepth 20000 in
set_option maxHeartbeats 4000000 in
theorem c_X7_mayBe (x1 : Int32) (x2 : Int32) (x3 : Int32) : Con yX7_mayBe cX7_mayBe 5 (some .boolean) (3) (fun ad => [.ref (ad 75), .int (x1), .int (x2), .int (x3)]) (fun Q σ => wp_X7_mayBe x1 x2 x3 (aI Q) σ) := by
  refine con_intro (by decide +kernel) (fun _ => Nat.le_of_ble_eq_true rfl) (by omega) (fun X Q σ hX hR hw => ?_)
  have hX : CxB X RX7 cX7_mayBe 5 (3) := hX
  unfold wp_X7_mayBe at hw
  show At X 5 0 [(0, .ref (X.kad 75)), (1, .int (x1)), (2, .int (x2)), (3, .int (x3))] [] σ
  refine r_iload_n 1 hX dX7_mayBe_0 rfl rfl 2 rfl ?_
  refine r_aload_n 2 hX dX7_mayBe_1 rfl rfl 0 rfl ?_
  refine g_X7_54_75 5 hX dX7_mayBe_2 rfl ?_
  refine r_iload_n 6 hX dX7_mayBe_5 rfl rfl 1 rfl ?_
  refine r_iald 7 hX sh_90 dX7_mayBe_6 rfl hw (fun hw => ?_)
  refine r_icmp_ge 20 10 hX dX7_mayBe_7 (by decide) rfl hw (fun hw => ?_) (fun hw => ?_)
  · refine r_aload_n 21 hX dX7_mayBe_20 rfl rfl 0 rfl ?_
    refine r_iload_n 22 hX dX7_mayBe_21 rfl rfl 3 rfl ?_
    refine k_X7_136_X7_isIn 25 hX (by omega) (x3) (Nat.le_of_ble_eq_true rfl) dX7_mayBe_22 rfl hw (fun r22 σ22 hw => ?_)
    refine r_if_eq 72 28 hX dX7_mayBe_25 (by decide) rfl hw (fun hw => ?_) (fun hw => ?_)
    · exact w_X7_mayBe_b72 hX hR _ _ _ _ hw
    · refine r_aload_n 29 hX dX7_mayBe_28 rfl rfl 0 rfl ?_
      refine r_iload_n 30 hX dX7_mayBe_29 rfl rfl 2 rfl ?_
      refine r_iload_n 31 hX dX7_mayBe_30 rfl rfl 3 rfl ?_
      refine k_X7_143_X7_isBarred 34 hX (by omega) (x2) (x3) (Nat.le_of_ble_eq_true rfl) dX7_mayBe_31 rfl hw (fun r31 σ31 hw => ?_)
      refine r_if_ne 72 37 hX dX7_mayBe_34 (by decide) rfl hw (fun hw => ?_) (fun hw => ?_)
      · exact w_X7_mayBe_b72 hX hR _ _ _ _ hw
      · refine r_aload_n 38 hX dX7_mayBe_37 rfl rfl 0 rfl ?_
        refine g_X7_183_75 41 hX dX7_mayBe_38 rfl ?_
        refine r_iload_n 42 hX dX7_mayBe_41 rfl rfl 3 rfl ?_
        refine r_ishr 43 hX dX7_mayBe_42 rfl ?_
        refine r_iconst 44 hX dX7_mayBe_43 rfl 1 ic_1 ?_
        refine r_iand 45 hX dX7_mayBe_44 rfl ?_
        refine r_if_ne 72 48 hX dX7_mayBe_45 (by decide) rfl hw (fun hw => ?_) (fun hw => ?_)
        · exact w_X7_mayBe_b72 hX hR _ _ _ _ hw
        · refine r_iload_n 49 hX dX7_mayBe_48 rfl rfl 2 rfl ?_
          refine r_aload_n 50 hX dX7_mayBe_49 rfl rfl 0 rfl ?_
          refine g_X7_54_75 53 hX dX7_mayBe_50 rfl ?_
          refine r_iload_n 54 hX dX7_mayBe_53 rfl rfl 1 rfl ?_
          refine r_iald 55 hX sh_90 dX7_mayBe_54 rfl hw (fun hw => ?_)
          refine r_icmp_gt 68 58 hX dX7_mayBe_55 (by decide) rfl hw (fun hw => ?_) (fun hw => ?_)
          · exact w_X7_mayBe_b68 hX hR _ _ _ _ hw
          · refine r_iload_n 59 hX dX7_mayBe_58 rfl rfl 3 rfl ?_
            refine r_aload_n 60 hX dX7_mayBe_59 rfl rfl 0 rfl ?_
            refine g_X7_57_75 63 hX dX7_mayBe_60 rfl ?_
            refine r_iload_n 64 hX dX7_mayBe_63 rfl rfl 1 rfl ?_
            refine r_iald 65 hX sh_91 dX7_mayBe_64 rfl hw (fun hw => ?_)
            refine r_icmp_ne 72 68 hX dX7_mayBe_65 (by decide) rfl hw (fun hw => ?_) (fun hw => ?_)
            · exact w_X7_mayBe_b72 hX hR _ _ _ _ hw
            · exact w_X7_mayBe_b68 hX hR _ _ _ _ hw
  · refine r_iload_n 11 hX dX7_mayBe_10 rfl rfl 3 rfl ?_
    refine r_if_ne 18 14 hX dX7_mayBe_11 (by decide) rfl hw (fun hw => ?_) (fun hw => ?_)
    · refine r_iconst 19 hX dX7_mayBe_18 rfl 0 ic_0 ?_
      exact r_zret hX hR narrow_b0 dX7_mayBe_19 hw
    · refine r_iconst 15 hX dX7_mayBe_14 rfl 1 ic_1 ?_
      refine r_goto 19 hX dX7_mayBe_15 (by decide) ?_
      exact r_zret hX hR narrow_b1 dX7_mayBe_19 hw
theorem k_X7_190_X7_placeIn {X : Cx} {cc : ByteArray} {nL d pc : Nat} {lv : List (Nat × Value)} {rest : List Value} {σ : St} {K : Int32 → St → Prop} (q : Nat) (hX : CxB X RX7 cc nL d) (hdc : 1 + 1 ≤ d) (x1 : Int32) (x2 : Int32) (hst : (rest.map fun v => v.category).sum ≤ 8) (hd : decode cc pc = .ok (.invokevirtual 190, 3)) (hq : pc + 3 = q) (hw : wp_X7_placeIn x1 x2 K σ) (kk : ∀ (r : Int32) (τ : St), K r τ → At X nL q lv (.int r :: rest) τ) : At X nL pc lv (.int (x2) :: .int (x1) :: .ref (X.kad 75) :: rest) σ := r_callV (n := 2) q hX (k0 := 75) (c_X7_placeIn x1 x2) tw_627 tw_628 tw_629 tw_517 tw_630 ⟨by decide +kernel, by decide +kernel, by decide +kernel⟩ hdc (by decide) (As := [.int (x1), .int (x2)]) rfl rfl (by decide) ⟨_, _, _, rfl, rfl, rfl⟩ hst hd hq rfl (K := qI K) hw (kI kk)
theorem k_X7_193_X7_mayBe {X : Cx} {cc : ByteArray} {nL d pc : Nat} {lv : List (Nat × Value)} {rest : List Value} {σ : St} {K : Int32 → St → Prop} (q : Nat) (hX : CxB X RX7 cc nL d) (hdc : 3 + 1 ≤ d) (x1 : Int32) (x2 : Int32) (x3 : Int32) (hst : (rest.map fun v => v.category).sum ≤ 8) (hd : decode cc pc = .ok (.invokevirtual 193, 3)) (hq : pc + 3 = q) (hw : wp_X7_mayBe x1 x2 x3 K σ) (kk : ∀ (r : Int32) (τ : St), K r τ → At X nL q lv (.int r :: rest) τ) : At X nL pc lv (.int (x3) :: .int (x2) :: .int (x1) :: .ref (X.kad 75) :: rest) σ := r_callV (n := 3) q hX (k0 := 75) (c_X7_mayBe x1 x2 x3) tw_631 tw_632 tw_633 tw_517 tw_634 ⟨by decide +kernel, by decide +kernel, by decide +kernel⟩ hdc (by decide) (As := [.int (x1), .int (x2), .int (x3)]) rfl rfl (by decide) ⟨_, _, _, rfl, rfl, rfl⟩ hst hd hq rfl (K := qI K) hw (kI kk)
set_option maxRecDepth 20000 in
set_option maxHeartbeats 4000000 in
theorem w_X7_isSpot_b108 {X : Cx} {Q : RV → St → Prop} (hX : CxB X RX7 cX7_isSpot 7 (4)) (hR : CxR X (some .boolean) Q) {K5 : Int32 → Int32 → Int32 → Int32 → St → Prop} (hK5 : ∀ (x1 : Int32) (x2 : Int32) (x3 : Int32) (x4 : Int32) (σ : St), K5 x1 x2 x3 x4 σ → At X 7 5 [(0, .ref (X.kad 75)), (1, .int (x1)), (2, .int (x2)), (3, .int (x3)), (4, .int (x4))] [] σ) {K36 : Int32 → Int32 → Int32 → Int32 → Int32 → St → Prop} (hK36 : ∀ (x1 : Int32) (x2 : Int32) (x3 : Int32) (x4 : Int32) (x5 : Int32) (σ : St), K36 x1 x2 x3 x4 x5 σ → At X 7 36 [(0, .ref (X.kad 75)), (1, .int (x1)), (2, .int (x2)), (3, .int (x3)), (4, .int (x4)), (5, .int (x5))] [] σ) (x1 : Int32) (x2 : Int32) (x4 : Int32) (x5 : Int32) (σ : St) (hw : wp_X7_isSpot_b108 (aI Q) K5 K36 x1 x2 x4 x5 σ) : At X 7 108 [(0, .ref (X.kad 75)), (1, .int (x1)), (2, .int (x2)), (4, .int (x4)), (5, .int (x5))] [] σ := by
  unfold wp_X7_isSpot_b108 at hw
  refine r_iconst 109 hX dX7_isSpot_108 rfl 1 ic_1 ?_
  refine r_goto 113 hX dX7_isSpot_109 (by decide) ?_
  refine r_istore_n (lv' := [(3, .int (1)), (0, .ref (X.kad 75)), (1, .int (x1)), (2, .int (x2)), (4, .int (x4)), (5, .int (x5))]) 114 hX dX7_isSpot_113 rfl rfl (by decide) rfl ?_
  refine r_iinc (lv' := [(5, .int (x5 + 1)), (3, .int (1)), (0, .ref (X.kad 75)), (1, .int (x1)), (2, .int (x2)), (4, .int (x4))]) 117 hX dX7_isSpot_114 rfl 5 rfl (x5 + 1) (ici_1 _) (by decide) rfl ?_
  refine r_goto 36 hX dX7_isSpot_117 (by decide) ?_
  refine r_sub [2, 3, 4, 1, 5, 0] rfl ?_
  exact hK36 _ _ _ _ _ _ hw
set_option maxRecDepth 20000 in
set_option maxHeartbeats 4000000 in
theorem w_X7_isSpot_b99 {X : Cx} {Q : RV → St → Prop} (hX : CxB X RX7 cX7_isSpot 7 (4)) (hR : CxR X (some .boolean) Q) {K5 : Int32 → Int32 → Int32 → Int32 → St → Prop} (hK5 : ∀ (x1 : Int32) (x2 : Int32) (x3 : Int32) (x4 : Int32) (σ : St), K5 x1 x2 x3 x4 σ → At X 7 5 [(0, .ref (X.kad 75)), (1, .int (x1)), (2, .int (x2)), (3, .int (x3)), (4, .int (x4))] [] σ) {K36 : Int32 → Int32 → Int32 → Int32 → Int32 → St → Prop} (hK36 : ∀ (x1 : Int32) (x2 : Int32) (x3 : Int32) (x4 : Int32) (x5 : Int32) (σ : St), K36 x1 x2 x3 x4 x5 σ → At X 7 36 [(0, .ref (X.kad 75)), (1, .int (x1)), (2, .int (x2)), (3, .int (x3)), (4, .int (x4)), (5, .int (x5))] [] σ) (x1 : Int32) (x2 : Int32) (x4 : Int32) (x5 : Int32) (s0 : Int32) (σ : St) (hw : wp_X7_isSpot_b99 (aI Q) K5 K36 x1 x2 x4 x5 s0 σ) : At X 7 99 [(0, .ref (X.kad 75)), (1, .int (x1)), (2, .int (x2)), (4, .int (x4)), (5, .int (x5))] [.int (s0)] σ := by
  unfold wp_X7_isSpot_b99 at hw
  refine r_aload_n 100 hX dX7_isSpot_99 rfl rfl 0 rfl ?_
  refine g_X7_38_75 103 hX dX7_isSpot_100 rfl ?_
  refine r_iconst 104 hX dX7_isSpot_103 rfl 0 ic_0 ?_
  refine r_iald 105 hX sh_85 dX7_isSpot_104 rfl hw (fun hw => ?_)
  refine r_icmp_le 112 108 hX dX7_isSpot_105 (by decide) rfl hw (fun hw => ?_) (fun hw => ?_)
  · refine r_iconst 113 hX dX7_isSpot_112 rfl 0 ic_0 ?_
    refine r_istore_n (lv' := [(3, .int (0)), (0, .ref (X.kad 75)), (1, .int (x1)), (2, .int (x2)), (4, .int (x4)), (5, .int (x5))]) 114 hX dX7_isSpot_113 rfl rfl (by decide) rfl ?_
    refine r_iinc (lv' := [(5, .int (x5 + 1)), (3, .int (0)), (0, .ref (X.kad 75)), (1, .int (x1)), (2, .int (x2)), (4, .int (x4))]) 117 hX dX7_isSpot_114 rfl 5 rfl (x5 + 1) (ici_1 _) (by decide) rfl ?_
    refine r_goto 36 hX dX7_isSpot_117 (by decide) ?_
    refine r_sub [2, 3, 4, 1, 5, 0] rfl ?_
    exact hK36 _ _ _ _ _ _ hw
  · exact w_X7_isSpot_b108 hX hR hK5 hK36 _ _ _ _ _ hw
set_option maxRecDepth 20000 in
set_option maxHeartbeats 4000000 in
theorem w_X7_isSpot_b36 {X : Cx} {Q : RV → St → Prop} (hX : CxB X RX7 cX7_isSpot 7 (4)) (hR : CxR X (some .boolean) Q) {K5 : Int32 → Int32 → Int32 → Int32 → St → Prop} (hK5 : ∀ (x1 : Int32) (x2 : Int32) (x3 : Int32) (x4 : Int32) (σ : St), K5 x1 x2 x3 x4 σ → At X 7 5 [(0, .ref (X.kad 75)), (1, .int (x1)), (2, .int (x2)), (3, .int (x3)), (4, .int (x4))] [] σ) {K36 : Int32 → Int32 → Int32 → Int32 → Int32 → St → Prop} (hK36 : ∀ (x1 : Int32) (x2 : Int32) (x3 : Int32) (x4 : Int32) (x5 : Int32) (σ : St), K36 x1 x2 x3 x4 x5 σ → At X 7 36 [(0, .ref (X.kad 75)), (1, .int (x1)), (2, .int (x2)), (3, .int (x3)), (4, .int (x4)), (5, .int (x5))] [] σ) (x1 : Int32) (x2 : Int32) (x3 : Int32) (x4 : Int32) (x5 : Int32) (σ : St) (hw : wp_X7_isSpot_b36 (aI Q) K5 K36 x1 x2 x3 x4 x5 σ) : At X 7 36 [(0, .ref (X.kad 75)), (1, .int (x1)), (2, .int (x2)), (3, .int (x3)), (4, .int (x4)), (5, .int (x5))] [] σ := by
  unfold wp_X7_isSpot_b36 at hw
  refine r_iload 38 hX dX7_isSpot_36 rfl 5 rfl ?_
  refine r_iload 40 hX dX7_isSpot_38 rfl 4 rfl ?_
  refine r_icmp_ge 120 43 hX dX7_isSpot_40 (by decide) rfl hw (fun hw => ?_) (fun hw => ?_)
  · refine r_iinc (lv' := [(4, .int (x4 + 1)), (0, .ref (X.kad 75)), (1, .int (x1)), (2, .int (x2)), (3, .int (x3)), (5, .int (x5))]) 123 hX dX7_isSpot_120 rfl 4 rfl (x4 + 1) (ici_1 _) (by decide) rfl ?_
    refine r_goto 5 hX dX7_isSpot_123 (by decide) ?_
    refine r_sub [1, 2, 3, 4, 0] rfl ?_
    exact hK5 _ _ _ _ _ hw
  · refine r_iload_n 44 hX dX7_isSpot_43 rfl rfl 3 rfl ?_
    refine r_if_eq 120 47 hX dX7_isSpot_44 (by decide) rfl hw (fun hw => ?_) (fun hw => ?_)
    · refine r_iinc (lv' := [(4, .int (x4 + 1)), (0, .ref (X.kad 75)), (1, .int (x1)), (2, .int (x2)), (3, .int (x3)), (5, .int (x5))]) 123 hX dX7_isSpot_120 rfl 4 rfl (x4 + 1) (ici_1 _) (by decide) rfl ?_
      refine r_goto 5 hX dX7_isSpot_123 (by decide) ?_
      refine r_sub [1, 2, 3, 4, 0] rfl ?_
      exact hK5 _ _ _ _ _ hw
    · refine r_iload_n 48 hX dX7_isSpot_47 rfl rfl 1 rfl ?_
      refine r_aload_n 49 hX dX7_isSpot_48 rfl rfl 0 rfl ?_
      refine g_X7_54_75 52 hX dX7_isSpot_49 rfl ?_
      refine r_iload 54 hX dX7_isSpot_52 rfl 4 rfl ?_
      refine r_iald 55 hX sh_90 dX7_isSpot_54 rfl hw (fun hw => ?_)
      refine r_icmp_lt 120 58 hX dX7_isSpot_55 (by decide) rfl hw (fun hw => ?_) (fun hw => ?_)
      · refine r_iinc (lv' := [(4, .int (x4 + 1)), (0, .ref (X.kad 75)), (1, .int (x1)), (2, .int (x2)), (3, .int (x3)), (5, .int (x5))]) 123 hX dX7_isSpot_120 rfl 4 rfl (x4 + 1) (ici_1 _) (by decide) rfl ?_
        refine r_goto 5 hX dX7_isSpot_123 (by decide) ?_
        refine r_sub [1, 2, 3, 4, 0] rfl ?_
        exact hK5 _ _ _ _ _ hw
      · refine r_aload_n 59 hX dX7_isSpot_58 rfl rfl 0 rfl ?_
        refine r_iload_n 60 hX dX7_isSpot_59 rfl rfl 2 rfl ?_
        refine r_iload 62 hX dX7_isSpot_60 rfl 4 rfl ?_
        refine k_X7_190_X7_placeIn 65 hX (by omega) (x2) (x4) (Nat.le_of_ble_eq_true rfl) dX7_isSpot_62 rfl hw (fun r62 σ62 hw => ?_)
        refine r_aload_n 66 hX dX7_isSpot_65 rfl rfl 0 rfl ?_
        refine r_iload_n 67 hX dX7_isSpot_66 rfl rfl 2 rfl ?_
        refine r_iload 69 hX dX7_isSpot_67 rfl 5 rfl ?_
        refine k_X7_190_X7_placeIn 72 hX (by omega) (x2) (x5) (Nat.le_of_ble_eq_true rfl) dX7_isSpot_69 rfl hw (fun r69 σ69 hw => ?_)
        refine r_isub 73 hX dX7_isSpot_72 rfl ?_
        refine r_istore (lv' := [(6, .int (r62 - r69)), (0, .ref (X.kad 75)), (1, .int (x1)), (2, .int (x2)), (3, .int (x3)), (4, .int (x4)), (5, .int (x5))]) 75 hX dX7_isSpot_73 rfl (by decide) rfl ?_
        refine r_iload_n 76 hX dX7_isSpot_75 rfl rfl 2 rfl ?_
        refine r_aload_n 77 hX dX7_isSpot_76 rfl rfl 1 rfl ?_
        refine g_X7_54_75 80 hX dX7_isSpot_77 rfl ?_
        refine r_iload 82 hX dX7_isSpot_80 rfl 6 rfl ?_
        refine r_iald 83 hX sh_90 dX7_isSpot_82 rfl hw (fun hw => ?_)
        refine r_icmp_lt 108 86 hX dX7_isSpot_83 (by decide) rfl hw (fun hw => ?_) (fun hw => ?_)
        · refine r_sub [1, 2, 3, 5, 6] rfl ?_
          exact w_X7_isSpot_b108 hX hR hK5 hK36 _ _ _ _ _ hw
        · refine r_iload 88 hX dX7_isSpot_86 rfl 0 rfl ?_
          refine r_if_ge 97 91 hX dX7_isSpot_88 (by decide) rfl hw (fun hw => ?_) (fun hw => ?_)
          · refine r_iload 99 hX dX7_isSpot_97 rfl 0 rfl ?_
            refine r_sub [1, 2, 3, 5, 6] rfl ?_
            exact w_X7_isSpot_b99 hX hR hK5 hK36 _ _ _ _ _ _ hw
          · refine r_iload 93 hX dX7_isSpot_91 rfl 0 rfl ?_
            refine r_ineg 94 hX dX7_isSpot_93 rfl ?_
            refine r_goto 99 hX dX7_isSpot_94 (by decide) ?_
            refine r_sub [1, 2, 3, 5, 6] rfl ?_
            exact w_X7_isSpot_b99 hX hR hK5 hK36 _ _ _ _ _ _ hw
set_option maxRecDepth 20000 in
set_option maxHeartbeats 4000000 in
theorem w_X7_isSpot_l36 {X : Cx} {Q : RV → St → Prop} (hX : CxB X RX7 cX7_isSpot 7 (4)) (hR : CxR X (some .boolean) Q) {K5 : Int32 → Int32 → Int32 → Int32 → St → Prop} (hK5 : ∀ (x1 : Int32) (x2 : Int32) (x3 : Int32) (x4 : Int32) (σ : St), K5 x1 x2 x3 x4 σ → At X 7 5 [(0, .ref (X.kad 75)), (1, .int (x1)), (2, .int (x2)), (3, .int (x3)), (4, .int (x4))] [] σ) (n : Nat) : ∀ (x1 : Int32) (x2 : Int32) (x3 : Int32) (x4 : Int32) (x5 : Int32) (σ : St), wp_X7_isSpot_l36 (aI Q) K5 n x1 x2 x3 x4 x5 σ → At X 7 36 [(0, .ref (X.kad 75)), (1, .int (x1)), (2, .int (x2)), (3, .int (x3)), (4, .int (x4)), (5, .int (x5))] [] σ := by
  induction n with
  | zero => intro x1 x2 x3 x4 x5 σ h; exact h.elim
  | succ n ih => intro x1 x2 x3 x4 x5 σ h; exact w_X7_isSpot_b36  hX hR hK5 ih x1 x2 x3 x4 x5 σ h
set_option maxRecDepth 20000 in
set_option maxHeartbeats 4000000 in
theorem w_X7_isSpot_b5 {X : Cx} {Q : RV → St → Prop} (hX : CxB X RX7 cX7_isSpot 7 (4)) (hR : CxR X (some .boolean) Q) {K5 : Int32 → Int32 → Int32 → Int32 → St → Prop} (hK5 : ∀ (x1 : Int32) (x2 : Int32) (x3 : Int32) (x4 : Int32) (σ : St), K5 x1 x2 x3 x4 σ → At X 7 5 [(0, .ref (X.kad 75)), (1, .int (x1)), (2, .int (x2)), (3, .int (x3)), (4, .int (x4))] [] σ) (x1 : Int32) (x2 : Int32) (x3 : Int32) (x4 : Int32) (σ : St) (hw : wp_X7_isSpot_b5 (aI Q) K5 x1 x2 x3 x4 σ) : At X 7 5 [(0, .ref (X.kad 75)), (1, .int (x1)), (2, .int (x2)), (3, .int (x3)), (4, .int (x4))] [] σ := by
  unfold wp_X7_isSpot_b5 at hw
  refine r_iload 7 hX dX7_isSpot_5 rfl 4 rfl ?_
  refine r_aload_n 8 hX dX7_isSpot_7 rfl rfl 0 rfl ?_
  refine g_X7_177_75 11 hX dX7_isSpot_8 rfl ?_
  refine r_icmp_ge 126 14 hX dX7_isSpot_11 (by decide) rfl hw (fun hw => ?_) (fun hw => ?_)
  · refine r_iload_n 127 hX dX7_isSpot_126 rfl rfl 3 rfl ?_
    exact r_zret hX hR (nar01 hw.1) dX7_isSpot_127 hw.2
  · refine r_iload_n 15 hX dX7_isSpot_14 rfl rfl 3 rfl ?_
    refine r_if_eq 126 18 hX dX7_isSpot_15 (by decide) rfl hw (fun hw => ?_) (fun hw => ?_)
    · refine r_iload_n 127 hX dX7_isSpot_126 rfl rfl 3 rfl ?_
      exact r_zret hX hR (nar01 hw.1) dX7_isSpot_127 hw.2
    · refine r_aload_n 19 hX dX7_isSpot_18 rfl rfl 0 rfl ?_
      refine r_iload 21 hX dX7_isSpot_19 rfl 4 rfl ?_
      refine r_iload_n 22 hX dX7_isSpot_21 rfl rfl 1 rfl ?_
      refine r_aload_n 23 hX dX7_isSpot_22 rfl rfl 0 rfl ?_
      refine r_iload_n 24 hX dX7_isSpot_23 rfl rfl 2 rfl ?_
      refine r_iload 26 hX dX7_isSpot_24 rfl 4 rfl ?_
      refine k_X7_190_X7_placeIn 29 hX (by omega) (x2) (x4) (Nat.le_of_ble_eq_true rfl) dX7_isSpot_26 rfl hw (fun r26 σ26 hw => ?_)
      refine k_X7_193_X7_mayBe 32 hX (by omega) (x4) (x1) (r26) (Nat.le_of_ble_eq_true rfl) dX7_isSpot_29 rfl hw (fun r29 σ29 hw => ?_)
      refine r_istore_n (lv' := [(3, .int (r29)), (0, .ref (X.kad 75)), (1, .int (x1)), (2, .int (x2)), (4, .int (x4))]) 33 hX dX7_isSpot_32 rfl rfl (by decide) rfl ?_
      refine r_iconst 34 hX dX7_isSpot_33 rfl 0 ic_0 ?_
      refine r_istore (lv' := [(5, .int (0)), (3, .int (r29)), (0, .ref (X.kad 75)), (1, .int (x1)), (2, .int (x2)), (4, .int (x4))]) 36 hX dX7_isSpot_34 rfl (by decide) rfl ?_
      refine r_sub [2, 3, 4, 1, 5, 0] rfl ?_
      obtain ⟨n, hw⟩ := hw
      exact w_X7_isSpot_l36 hX hR hK5 n _ _ _ _ _ _ hw
set_option maxRecDepth 20000 in
set_option maxHeartbeats 4000000 in
theorem w_X7_isSpot_l5 {X : Cx} {Q : RV → St → Prop} (hX : CxB X RX7 cX7_isSpot 7 (4)) (hR : CxR X (some .boolean) Q) (n : Nat) : ∀ (x1 : Int32) (x2 : Int32) (x3 : Int32) (x4 : Int32) (σ : St), wp_X7_isSpot_l5 (aI Q)  n x1 x2 x3 x4 σ → At X 7 5 [(0, .ref (X.kad 75)), (1, .int (x1)), (2, .int (x2)), (3, .int (x3)), (4, .int (x4))] [] σ := by
  induction n with
  | zero => intro x1 x2 x3 x4 σ h; exact h.elim
  | succ n ih => intro x1 x2 x3 x4 σ h; exact w_X7_isSpot_b5  hX hR ih x1 x2 x3 x4 σ h
set_option maxRecDepth 20000 in
set_option maxHeartbeats 4000000 in
theorem c_X7_isSpot (x1 : Int32) (x2 : Int32) : Con yX7_isSpot cX7_isSpot 7 (some .boolean) (4) (fun ad => [.ref (ad 75), .int (x1), .int (x2)]) (fun Q σ => wp_X7_isSpot x1 x2 (aI Q) σ) := by
  refine con_intro (by decide +kernel) (fun _ => Nat.le_of_ble_eq_true rfl) (by omega) (fun X Q σ hX hR hw => ?_)
  have hX : CxB X RX7 cX7_isSpot 7 (4) := hX
  unfold wp_X7_isSpot at hw
  show At X 7 0 [(0, .ref (X.kad 75)), (1, .int (x1)), (2, .int (x2))] [] σ
  refine r_iconst 1 hX dX7_isSpot_0 rfl 1 ic_1 ?_
  refine r_istore_n (lv' := [(3, .int (1)), (0, .ref (X.kad 75)), (1, .int (x1)), (2, .int (x2))]) 2 hX dX7_isSpot_1 rfl rfl (by decide) rfl ?_
  refine r_iconst 3 hX dX7_isSpot_2 rfl 0 ic_0 ?_
  refine r_istore (lv' := [(4, .int (0)), (3, .int (1)), (0, .ref (X.kad 75)), (1, .int (x1)), (2, .int (x2))]) 5 hX dX7_isSpot_3 rfl (by decide) rfl ?_
  refine r_sub [2, 3, 4, 1, 0] rfl ?_
  obtain ⟨n, hw⟩ := hw
  exact w_X7_isSpot_l5 hX hR n _ _ _ _ _ hw
set_option maxRecDepth 20000 in
set_option maxHeartbeats 4000000 in
theorem w_X7_breadthOf_b39 {X : Cx} {Q : RV → St → Prop} (hX : CxB X RX7 cX7_breadthOf 5 (2)) (hR : CxR X (some .int) Q) {K8 : Int32 → Int32 → Int32 → Int32 → St → Prop} (hK8 : ∀ (x1 : Int32) (x2 : Int32) (x3 : Int32) (x4 : Int32) (σ : St), K8 x1 x2 x3 x4 σ → At X 5 8 [(0, .ref (X.kad 75)), (1, .int (x1)), (2, .int (x2)), (3, .int (x3)), (4, .int (x4))] [] σ) (x1 : Int32) (x3 : Int32) (x4 : Int32) (s0 : Int32) (σ : St) (hw : wp_X7_breadthOf_b39 (aI Q) K8 x1 x3 x4 s0 σ) : At X 5 39 [(0, .ref (X.kad 75)), (1, .int (x1)), (3, .int (x3)), (4, .int (x4))] [.int (s0)] σ := by
  unfold wp_X7_breadthOf_b39 at hw
  refine r_istore_n (lv' := [(2, .int (s0)), (0, .ref (X.kad 75)), (1, .int (x1)), (3, .int (x3)), (4, .int (x4))]) 40 hX dX7_breadthOf_39 rfl rfl (by decide) rfl ?_
  refine r_aload_n 41 hX dX7_breadthOf_40 rfl rfl 1 rfl ?_
  refine r_iload_n 42 hX dX7_breadthOf_41 rfl rfl 2 rfl ?_
  refine r_iload 44 hX dX7_breadthOf_42 rfl 4 rfl ?_
  refine k_X7_190_X7_placeIn 47 hX (by omega) (x1) (x4) (Nat.le_of_ble_eq_true rfl) dX7_breadthOf_44 rfl hw (fun r44 σ44 hw => ?_)
  refine r_iload_n 48 hX dX7_breadthOf_47 rfl rfl 3 rfl ?_
  refine r_icmp_le 61 51 hX dX7_breadthOf_48 (by decide) rfl hw (fun hw => ?_) (fun hw => ?_)
  · refine r_iload_n 62 hX dX7_breadthOf_61 rfl rfl 3 rfl ?_
    refine r_istore_n (lv' := [(3, .int (x3)), (2, .int (s0)), (0, .ref (X.kad 75)), (1, .int (x1)), (4, .int (x4))]) 63 hX dX7_breadthOf_62 rfl rfl (by decide) rfl ?_
    refine r_iinc (lv' := [(4, .int (x4 + 1)), (3, .int (x3)), (2, .int (s0)), (0, .ref (X.kad 75)), (1, .int (x1))]) 66 hX dX7_breadthOf_63 rfl 4 rfl (x4 + 1) (ici_1 _) (by decide) rfl ?_
    refine r_goto 8 hX dX7_breadthOf_66 (by decide) ?_
    refine r_sub [3, 4, 2, 1, 0] rfl ?_
    exact hK8 _ _ _ _ _ hw
  · refine r_aload_n 52 hX dX7_breadthOf_51 rfl rfl 1 rfl ?_
    refine r_iload_n 53 hX dX7_breadthOf_52 rfl rfl 2 rfl ?_
    refine r_iload 55 hX dX7_breadthOf_53 rfl 4 rfl ?_
    refine k_X7_190_X7_placeIn 58 hX (by omega) (x1) (x4) (Nat.le_of_ble_eq_true rfl) dX7_breadthOf_55 rfl hw (fun r55 σ55 hw => ?_)
    refine r_goto 62 hX dX7_breadthOf_58 (by decide) ?_
    refine r_istore_n (lv' := [(3, .int (r55)), (2, .int (s0)), (0, .ref (X.kad 75)), (1, .int (x1)), (4, .int (x4))]) 63 hX dX7_breadthOf_62 rfl rfl (by decide) rfl ?_
    refine r_iinc (lv' := [(4, .int (x4 + 1)), (3, .int (r55)), (2, .int (s0)), (0, .ref (X.kad 75)), (1, .int (x1))]) 66 hX dX7_breadthOf_63 rfl 4 rfl (x4 + 1) (ici_1 _) (by decide) rfl ?_
    refine r_goto 8 hX dX7_breadthOf_66 (by decide) ?_
    refine r_sub [3, 4, 2, 1, 0] rfl ?_
    exact hK8 _ _ _ _ _ hw
set_option maxRecDepth 20000 in
set_option maxHeartbeats 4000000 in
theorem w_X7_breadthOf_b8 {X : Cx} {Q : RV → St → Prop} (hX : CxB X RX7 cX7_breadthOf 5 (2)) (hR : CxR X (some .int) Q) {K8 : Int32 → Int32 → Int32 → Int32 → St → Prop} (hK8 : ∀ (x1 : Int32) (x2 : Int32) (x3 : Int32) (x4 : Int32) (σ : St), K8 x1 x2 x3 x4 σ → At X 5 8 [(0, .ref (X.kad 75)), (1, .int (x1)), (2, .int (x2)), (3, .int (x3)), (4, .int (x4))] [] σ) (x1 : Int32) (x2 : Int32) (x3 : Int32) (x4 : Int32) (σ : St) (hw : wp_X7_breadthOf_b8 (aI Q) K8 x1 x2 x3 x4 σ) : At X 5 8 [(0, .ref (X.kad 75)), (1, .int (x1)), (2, .int (x2)), (3, .int (x3)), (4, .int (x4))] [] σ := by
  unfold wp_X7_breadthOf_b8 at hw
  refine r_iload 10 hX dX7_breadthOf_8 rfl 4 rfl ?_
  refine r_aload_n 11 hX dX7_breadthOf_10 rfl rfl 0 rfl ?_
  refine g_X7_177_75 14 hX dX7_breadthOf_11 rfl ?_
  refine r_icmp_ge 69 17 hX dX7_breadthOf_14 (by decide) rfl hw (fun hw => ?_) (fun hw => ?_)
  · refine r_iload_n 70 hX dX7_breadthOf_69 rfl rfl 3 rfl ?_
    refine r_iload_n 71 hX dX7_breadthOf_70 rfl rfl 2 rfl ?_
    refine r_isub 72 hX dX7_breadthOf_71 rfl ?_
    refine r_iconst 73 hX dX7_breadthOf_72 rfl 1 ic_1 ?_
    refine r_iadd 74 hX dX7_breadthOf_73 rfl ?_
    exact r_iret hX hR dX7_breadthOf_74 hw
  · refine r_aload_n 18 hX dX7_breadthOf_17 rfl rfl 0 rfl ?_
    refine r_iload_n 19 hX dX7_breadthOf_18 rfl rfl 1 rfl ?_
    refine r_iload 21 hX dX7_breadthOf_19 rfl 4 rfl ?_
    refine k_X7_190_X7_placeIn 24 hX (by omega) (x1) (x4) (Nat.le_of_ble_eq_true rfl) dX7_breadthOf_21 rfl hw (fun r21 σ21 hw => ?_)
    refine r_iload_n 25 hX dX7_breadthOf_24 rfl rfl 2 rfl ?_
    refine r_icmp_ge 38 28 hX dX7_breadthOf_25 (by decide) rfl hw (fun hw => ?_) (fun hw => ?_)
    · refine r_iload_n 39 hX dX7_breadthOf_38 rfl rfl 2 rfl ?_
      refine r_sub [0, 1, 3, 4] rfl ?_
      exact w_X7_breadthOf_b39 hX hR hK8 _ _ _ _ _ hw
    · refine r_aload_n 29 hX dX7_breadthOf_28 rfl rfl 0 rfl ?_
      refine r_iload_n 30 hX dX7_breadthOf_29 rfl rfl 1 rfl ?_
      refine r_iload 32 hX dX7_breadthOf_30 rfl 4 rfl ?_
      refine k_X7_190_X7_placeIn 35 hX (by omega) (x1) (x4) (Nat.le_of_ble_eq_true rfl) dX7_breadthOf_32 rfl hw (fun r32 σ32 hw => ?_)
      refine r_goto 39 hX dX7_breadthOf_35 (by decide) ?_
      refine r_sub [0, 1, 3, 4] rfl ?_
      exact w_X7_breadthOf_b39 hX hR hK8 _ _ _ _ _ hw
set_option maxRecDepth 20000 in
set_option maxHeartbeats 4000000 in
theorem w_X7_breadthOf_l8 {X : Cx} {Q : RV → St → Prop} (hX : CxB X RX7 cX7_breadthOf 5 (2)) (hR : CxR X (some .int) Q) (n : Nat) : ∀ (x1 : Int32) (x2 : Int32) (x3 : Int32) (x4 : Int32) (σ : St), wp_X7_breadthOf_l8 (aI Q)  n x1 x2 x3 x4 σ → At X 5 8 [(0, .ref (X.kad 75)), (1, .int (x1)), (2, .int (x2)), (3, .int (x3)), (4, .int (x4))] [] σ := by
  induction n with
  | zero => intro x1 x2 x3 x4 σ h; exact h.elim
  | succ n ih => intro x1 x2 x3 x4 σ h; exact w_X7_breadthOf_b8  hX hR ih x1 x2 x3 x4 σ h
set_option maxRecDepth 20000 in
set_option maxHeartbeats 4000000 in
theorem c_X7_breadthOf (x1 : Int32) : Con yX7_breadthOf cX7_breadthOf 5 (some .int) (2) (fun ad => [.ref (ad 75), .int (x1)]) (fun Q σ => wp_X7_breadthOf x1 (aI Q) σ) := by
  refine con_intro (by decide +kernel) (fun _ => Nat.le_of_ble_eq_true rfl) (by omega) (fun X Q σ hX hR hw => ?_)
  have hX : CxB X RX7 cX7_breadthOf 5 (2) := hX
  unfold wp_X7_breadthOf at hw
  show At X 5 0 [(0, .ref (X.kad 75)), (1, .int (x1))] [] σ
  refine r_bipush 2 hX dX7_breadthOf_0 rfl 10 bi_10 ?_
  refine r_istore_n (lv' := [(2, .int (10)), (0, .ref (X.kad 75)), (1, .int (x1))]) 3 hX dX7_breadthOf_2 rfl rfl (by decide) rfl ?_
  refine r_iconst 4 hX dX7_breadthOf_3 rfl 0 ic_0 ?_
  refine r_istore_n (lv' := [(3, .int (0)), (2, .int (10)), (0, .ref (X.kad 75)), (1, .int (x1))]) 5 hX dX7_breadthOf_4 rfl rfl (by decide) rfl ?_
  refine r_iconst 6 hX dX7_breadthOf_5 rfl 0 ic_0 ?_
  refine r_istore (lv' := [(4, .int (0)), (3, .int (0)), (2, .int (10)), (0, .ref (X.kad 75)), (1, .int (x1))]) 8 hX dX7_breadthOf_6 rfl (by decide) rfl ?_
  refine r_sub [3, 4, 2, 1, 0] rfl ?_
  obtain ⟨n, hw⟩ := hw
  exact w_X7_breadthOf_l8 hX hR n _ _ _ _ _ hw
set_option maxRecDepth 20000 in
set_option maxHeartbeats 4000000 in
theorem w_X7_leansTo_b136 {X : Cx} {Q : RV → St → Prop} (hX : CxB X RX7 cX7_leansTo 8 (2)) (hR : CxR X (some .int) Q) {K6 : Int32 → Int32 → Int32 → Int32 → Int32 → St → Prop} (hK6 : ∀ (x1 : Int32) (x2 : Int32) (x3 : Int32) (x4 : Int32) (x5 : Int32) (σ : St), K6 x1 x2 x3 x4 x5 σ → At X 8 6 [(0, .ref (X.kad 75)), (1, .int (x1)), (2, .int (x2)), (3, .int (x3)), (4, .int (x4)), (5, .int (x5))] [] σ) {K74 : Int32 → Int32 → Int32 → Int32 → Int32 → Int32 → St → Prop} (hK74 : ∀ (x1 : Int32) (x2 : Int32) (x3 : Int32) (x4 : Int32) (x5 : Int32) (x7 : Int32) (σ : St), K74 x1 x2 x3 x4 x5 x7 σ → At X 8 74 [(0, .ref (X.kad 75)), (1, .int (x1)), (2, .int (x2)), (3, .int (x3)), (4, .int (x4)), (5, .int (x5)), (7, .int (x7))] [] σ) (x1 : Int32) (x2 : Int32) (x3 : Int32) (x4 : Int32) (x5 : Int32) (x7 : Int32) (s0 : Int32) (s1 : Int32) (σ : St) (hw : wp_X7_leansTo_b136 (aI Q) K6 K74 x1 x2 x3 x4 x5 x7 s0 s1 σ) : At X 8 136 [(0, .ref (X.kad 75)), (1, .int (x1)), (2, .int (x2)), (3, .int (x3)), (4, .int (x4)), (5, .int (x5)), (7, .int (x7))] [.int (s0), .int (s1)] σ := by
  unfold wp_X7_leansTo_b136 at hw
  refine r_icmp_eq 142 139 hX dX7_leansTo_136 (by decide) rfl hw (fun hw => ?_) (fun hw => ?_)
  · refine r_iinc (lv' := [(7, .int (x7 + 1)), (0, .ref (X.kad 75)), (1, .int (x1)), (2, .int (x2)), (3, .int (x3)), (4, .int (x4)), (5, .int (x5))]) 145 hX dX7_leansTo_142 rfl 6 rfl (x7 + 1) (ici_1 _) (by decide) rfl ?_
    refine r_goto 74 hX dX7_leansTo_145 (by decide) ?_
    refine r_sub [1, 2, 3, 4, 5, 6, 0] rfl ?_
    exact hK74 _ _ _ _ _ _ _ hw
  · refine r_ldc 141 hX 100000 tw_603 dX7_leansTo_139 rfl ?_
    exact r_iret hX hR dX7_leansTo_141 hw
set_option maxRecDepth 20000 in
set_option maxHeartbeats 4000000 in
theorem w_X7_leansTo_b114 {X : Cx} {Q : RV → St → Prop} (hX : CxB X RX7 cX7_leansTo 8 (2)) (hR : CxR X (some .int) Q) {K6 : Int32 → Int32 → Int32 → Int32 → Int32 → St → Prop} (hK6 : ∀ (x1 : Int32) (x2 : Int32) (x3 : Int32) (x4 : Int32) (x5 : Int32) (σ : St), K6 x1 x2 x3 x4 x5 σ → At X 8 6 [(0, .ref (X.kad 75)), (1, .int (x1)), (2, .int (x2)), (3, .int (x3)), (4, .int (x4)), (5, .int (x5))] [] σ) {K74 : Int32 → Int32 → Int32 → Int32 → Int32 → Int32 → St → Prop} (hK74 : ∀ (x1 : Int32) (x2 : Int32) (x3 : Int32) (x4 : Int32) (x5 : Int32) (x7 : Int32) (σ : St), K74 x1 x2 x3 x4 x5 x7 σ → At X 8 74 [(0, .ref (X.kad 75)), (1, .int (x1)), (2, .int (x2)), (3, .int (x3)), (4, .int (x4)), (5, .int (x5)), (7, .int (x7))] [] σ) (x1 : Int32) (x2 : Int32) (x3 : Int32) (x4 : Int32) (x5 : Int32) (x7 : Int32) (s0 : Int32) (σ : St) (hw : wp_X7_leansTo_b114 (aI Q) K6 K74 x1 x2 x3 x4 x5 x7 s0 σ) : At X 8 114 [(0, .ref (X.kad 75)), (1, .int (x1)), (2, .int (x2)), (3, .int (x3)), (4, .int (x4)), (5, .int (x5)), (7, .int (x7))] [.int (s0)] σ := by
  unfold wp_X7_leansTo_b114 at hw
  refine r_aload_n 115 hX dX7_leansTo_114 rfl rfl 0 rfl ?_
  refine r_iload_n 116 hX dX7_leansTo_115 rfl rfl 3 rfl ?_
  refine r_iload 118 hX dX7_leansTo_116 rfl 5 rfl ?_
  refine k_X7_190_X7_placeIn 121 hX (by omega) (x3) (x5) (Nat.le_of_ble_eq_true rfl) dX7_leansTo_118 rfl hw (fun r118 σ118 hw => ?_)
  refine r_aload_n 122 hX dX7_leansTo_121 rfl rfl 0 rfl ?_
  refine r_iload_n 123 hX dX7_leansTo_122 rfl rfl 3 rfl ?_
  refine r_iload 125 hX dX7_leansTo_123 rfl 6 rfl ?_
  refine k_X7_190_X7_placeIn 128 hX (by omega) (x3) (x7) (Nat.le_of_ble_eq_true rfl) dX7_leansTo_125 rfl hw (fun r125 σ125 hw => ?_)
  refine r_icmp_ge 135 131 hX dX7_leansTo_128 (by decide) rfl hw (fun hw => ?_) (fun hw => ?_)
  · refine r_iconst 136 hX dX7_leansTo_135 rfl 0 ic_0 ?_
    exact w_X7_leansTo_b136 hX hR hK6 hK74 _ _ _ _ _ _ _ _ _ hw
  · refine r_iconst 132 hX dX7_leansTo_131 rfl 1 ic_1 ?_
    refine r_goto 136 hX dX7_leansTo_132 (by decide) ?_
    exact w_X7_leansTo_b136 hX hR hK6 hK74 _ _ _ _ _ _ _ _ _ hw
set_option maxRecDepth 20000 in
set_option maxHeartbeats 4000000 in
theorem w_X7_leansTo_b74 {X : Cx} {Q : RV → St → Prop} (hX : CxB X RX7 cX7_leansTo 8 (2)) (hR : CxR X (some .int) Q) {K6 : Int32 → Int32 → Int32 → Int32 → Int32 → St → Prop} (hK6 : ∀ (x1 : Int32) (x2 : Int32) (x3 : Int32) (x4 : Int32) (x5 : Int32) (σ : St), K6 x1 x2 x3 x4 x5 σ → At X 8 6 [(0, .ref (X.kad 75)), (1, .int (x1)), (2, .int (x2)), (3, .int (x3)), (4, .int (x4)), (5, .int (x5))] [] σ) {K74 : Int32 → Int32 → Int32 → Int32 → Int32 → Int32 → St → Prop} (hK74 : ∀ (x1 : Int32) (x2 : Int32) (x3 : Int32) (x4 : Int32) (x5 : Int32) (x7 : Int32) (σ : St), K74 x1 x2 x3 x4 x5 x7 σ → At X 8 74 [(0, .ref (X.kad 75)), (1, .int (x1)), (2, .int (x2)), (3, .int (x3)), (4, .int (x4)), (5, .int (x5)), (7, .int (x7))] [] σ) (x1 : Int32) (x2 : Int32) (x3 : Int32) (x4 : Int32) (x5 : Int32) (x7 : Int32) (σ : St) (hw : wp_X7_leansTo_b74 (aI Q) K6 K74 x1 x2 x3 x4 x5 x7 σ) : At X 8 74 [(0, .ref (X.kad 75)), (1, .int (x1)), (2, .int (x2)), (3, .int (x3)), (4, .int (x4)), (5, .int (x5)), (7, .int (x7))] [] σ := by
  unfold wp_X7_leansTo_b74 at hw
  refine r_iload 76 hX dX7_leansTo_74 rfl 6 rfl ?_
  refine r_iload 78 hX dX7_leansTo_76 rfl 5 rfl ?_
  refine r_icmp_ge 148 81 hX dX7_leansTo_78 (by decide) rfl hw (fun hw => ?_) (fun hw => ?_)
  · refine r_iinc (lv' := [(5, .int (x5 + 1)), (0, .ref (X.kad 75)), (1, .int (x1)), (2, .int (x2)), (3, .int (x3)), (4, .int (x4)), (7, .int (x7))]) 151 hX dX7_leansTo_148 rfl 5 rfl (x5 + 1) (ici_1 _) (by decide) rfl ?_
    refine r_goto 6 hX dX7_leansTo_151 (by decide) ?_
    refine r_sub [1, 2, 3, 4, 5, 0] rfl ?_
    exact hK6 _ _ _ _ _ _ hw
  · refine r_iload_n 82 hX dX7_leansTo_81 rfl rfl 1 rfl ?_
    refine r_aload_n 83 hX dX7_leansTo_82 rfl rfl 0 rfl ?_
    refine g_X7_54_75 86 hX dX7_leansTo_83 rfl ?_
    refine r_iload 88 hX dX7_leansTo_86 rfl 6 rfl ?_
    refine r_iald 89 hX sh_90 dX7_leansTo_88 rfl hw (fun hw => ?_)
    refine r_icmp_lt 142 92 hX dX7_leansTo_89 (by decide) rfl hw (fun hw => ?_) (fun hw => ?_)
    · refine r_iinc (lv' := [(7, .int (x7 + 1)), (0, .ref (X.kad 75)), (1, .int (x1)), (2, .int (x2)), (3, .int (x3)), (4, .int (x4)), (5, .int (x5))]) 145 hX dX7_leansTo_142 rfl 6 rfl (x7 + 1) (ici_1 _) (by decide) rfl ?_
      refine r_goto 74 hX dX7_leansTo_145 (by decide) ?_
      refine r_sub [1, 2, 3, 4, 5, 6, 0] rfl ?_
      exact hK74 _ _ _ _ _ _ _ hw
    · refine r_aload_n 93 hX dX7_leansTo_92 rfl rfl 0 rfl ?_
      refine r_iload_n 94 hX dX7_leansTo_93 rfl rfl 2 rfl ?_
      refine r_iload 96 hX dX7_leansTo_94 rfl 5 rfl ?_
      refine k_X7_190_X7_placeIn 99 hX (by omega) (x2) (x5) (Nat.le_of_ble_eq_true rfl) dX7_leansTo_96 rfl hw (fun r96 σ96 hw => ?_)
      refine r_aload_n 100 hX dX7_leansTo_99 rfl rfl 0 rfl ?_
      refine r_iload_n 101 hX dX7_leansTo_100 rfl rfl 2 rfl ?_
      refine r_iload 103 hX dX7_leansTo_101 rfl 6 rfl ?_
      refine k_X7_190_X7_placeIn 106 hX (by omega) (x2) (x7) (Nat.le_of_ble_eq_true rfl) dX7_leansTo_103 rfl hw (fun r103 σ103 hw => ?_)
      refine r_icmp_ge 113 109 hX dX7_leansTo_106 (by decide) rfl hw (fun hw => ?_) (fun hw => ?_)
      · refine r_iconst 114 hX dX7_leansTo_113 rfl 0 ic_0 ?_
        exact w_X7_leansTo_b114 hX hR hK6 hK74 _ _ _ _ _ _ _ _ hw
      · refine r_iconst 110 hX dX7_leansTo_109 rfl 1 ic_1 ?_
        refine r_goto 114 hX dX7_leansTo_110 (by decide) ?_
        exact w_X7_leansTo_b114 hX hR hK6 hK74 _ _ _ _ _ _ _ _ hw
set_option maxRecDepth 20000 in
set_option maxHeartbeats 4000000 in
theorem w_X7_leansTo_l74 {X : Cx} {Q : RV → St → Prop} (hX : CxB X RX7 cX7_leansTo 8 (2)) (hR : CxR X (some .int) Q) {K6 : Int32 → Int32 → Int32 → Int32 → Int32 → St → Prop} (hK6 : ∀ (x1 : Int32) (x2 : Int32) (x3 : Int32) (x4 : Int32) (x5 : Int32) (σ : St), K6 x1 x2 x3 x4 x5 σ → At X 8 6 [(0, .ref (X.kad 75)), (1, .int (x1)), (2, .int (x2)), (3, .int (x3)), (4, .int (x4)), (5, .int (x5))] [] σ) (n : Nat) : ∀ (x1 : Int32) (x2 : Int32) (x3 : Int32) (x4 : Int32) (x5 : Int32) (x7 : Int32) (σ : St), wp_X7_leansTo_l74 (aI Q) K6 n x1 x2 x3 x4 x5 x7 σ → At X 8 74 [(0, .ref (X.kad 75)), (1, .int (x1)), (2, .int (x2)), (3, .int (x3)), (4, .int (x4)), (5, .int (x5)), (7, .int (x7))] [] σ := by
  induction n with
  | zero => intro x1 x2 x3 x4 x5 x7 σ h; exact h.elim
  | succ n ih => intro x1 x2 x3 x4 x5 x7 σ h; exact w_X7_leansTo_b74  hX hR hK6 ih x1 x2 x3 x4 x5 x7 σ h
set_option maxRecDepth 20000 in
set_option maxHeartbeats 4000000 in
theorem w_X7_leansTo_b6 {X : Cx} {Q : RV → St → Prop} (hX : CxB X RX7 cX7_leansTo 8 (2)) (hR : CxR X (some .int) Q) {K6 : Int32 → Int32 → Int32 → Int32 → Int32 → St → Prop} (hK6 : ∀ (x1 : Int32) (x2 : Int32) (x3 : Int32) (x4 : Int32) (x5 : Int32) (σ : St), K6 x1 x2 x3 x4 x5 σ → At X 8 6 [(0, .ref (X.kad 75)), (1, .int (x1)), (2, .int (x2)), (3, .int (x3)), (4, .int (x4)), (5, .int (x5))] [] σ) (x1 : Int32) (x2 : Int32) (x3 : Int32) (x4 : Int32) (x5 : Int32) (σ : St) (hw : wp_X7_leansTo_b6 (aI Q) K6 x1 x2 x3 x4 x5 σ) : At X 8 6 [(0, .ref (X.kad 75)), (1, .int (x1)), (2, .int (x2)), (3, .int (x3)), (4, .int (x4)), (5, .int (x5))] [] σ := by
  unfold wp_X7_leansTo_b6 at hw
  refine r_iload 8 hX dX7_leansTo_6 rfl 5 rfl ?_
  refine r_aload_n 9 hX dX7_leansTo_8 rfl rfl 0 rfl ?_
  refine g_X7_177_75 12 hX dX7_leansTo_9 rfl ?_
  refine r_icmp_ge 154 15 hX dX7_leansTo_12 (by decide) rfl hw (fun hw => ?_) (fun hw => ?_)
  · refine r_iload 156 hX dX7_leansTo_154 rfl 4 rfl ?_
    exact r_iret hX hR dX7_leansTo_156 hw
  · refine r_iload_n 16 hX dX7_leansTo_15 rfl rfl 1 rfl ?_
    refine r_aload_n 17 hX dX7_leansTo_16 rfl rfl 0 rfl ?_
    refine g_X7_54_75 20 hX dX7_leansTo_17 rfl ?_
    refine r_iload 22 hX dX7_leansTo_20 rfl 5 rfl ?_
    refine r_iald 23 hX sh_90 dX7_leansTo_22 rfl hw (fun hw => ?_)
    refine r_icmp_lt 148 26 hX dX7_leansTo_23 (by decide) rfl hw (fun hw => ?_) (fun hw => ?_)
    · refine r_iinc (lv' := [(5, .int (x5 + 1)), (0, .ref (X.kad 75)), (1, .int (x1)), (2, .int (x2)), (3, .int (x3)), (4, .int (x4))]) 151 hX dX7_leansTo_148 rfl 5 rfl (x5 + 1) (ici_1 _) (by decide) rfl ?_
      refine r_goto 6 hX dX7_leansTo_151 (by decide) ?_
      refine r_sub [1, 2, 3, 4, 5, 0] rfl ?_
      exact hK6 _ _ _ _ _ _ hw
    · refine r_aload_n 27 hX dX7_leansTo_26 rfl rfl 0 rfl ?_
      refine r_iload_n 28 hX dX7_leansTo_27 rfl rfl 3 rfl ?_
      refine r_iload 30 hX dX7_leansTo_28 rfl 5 rfl ?_
      refine k_X7_190_X7_placeIn 33 hX (by omega) (x3) (x5) (Nat.le_of_ble_eq_true rfl) dX7_leansTo_30 rfl hw (fun r30 σ30 hw => ?_)
      refine r_aload_n 34 hX dX7_leansTo_33 rfl rfl 0 rfl ?_
      refine r_iload_n 35 hX dX7_leansTo_34 rfl rfl 2 rfl ?_
      refine r_iload 37 hX dX7_leansTo_35 rfl 5 rfl ?_
      refine k_X7_190_X7_placeIn 40 hX (by omega) (x2) (x5) (Nat.le_of_ble_eq_true rfl) dX7_leansTo_37 rfl hw (fun r37 σ37 hw => ?_)
      refine r_isub 41 hX dX7_leansTo_40 rfl ?_
      refine r_istore (lv' := [(6, .int (r30 - r37)), (0, .ref (X.kad 75)), (1, .int (x1)), (2, .int (x2)), (3, .int (x3)), (4, .int (x4)), (5, .int (x5))]) 43 hX dX7_leansTo_41 rfl (by decide) rfl ?_
      refine r_iload 45 hX dX7_leansTo_43 rfl 0 rfl ?_
      refine r_iconst 46 hX dX7_leansTo_45 rfl (-1) ic_m1 ?_
      refine r_iconst 47 hX dX7_leansTo_46 rfl 1 ic_1 ?_
      refine k_X7_85_X7_in 50 hX (by omega) (r30 - r37) ((-1)) (1) (Nat.le_of_ble_eq_true rfl) dX7_leansTo_47 rfl hw (fun r47 σ47 hw => ?_)
      refine r_if_ne 56 53 hX dX7_leansTo_50 (by decide) rfl hw (fun hw => ?_) (fun hw => ?_)
      · refine r_iload 58 hX dX7_leansTo_56 rfl 5 rfl ?_
        refine r_iload 60 hX dX7_leansTo_58 rfl 0 rfl ?_
        refine r_if_ne 67 63 hX dX7_leansTo_60 (by decide) rfl hw (fun hw => ?_) (fun hw => ?_)
        · refine r_iconst 68 hX dX7_leansTo_67 rfl 1 ic_1 ?_
          refine r_iadd 69 hX dX7_leansTo_68 rfl ?_
          refine r_istore (lv' := [(4, .int (x4 + 1)), (6, .int (r30 - r37)), (0, .ref (X.kad 75)), (1, .int (x1)), (2, .int (x2)), (3, .int (x3)), (5, .int (x5))]) 71 hX dX7_leansTo_69 rfl (by decide) rfl ?_
          refine r_iconst 72 hX dX7_leansTo_71 rfl 0 ic_0 ?_
          refine r_istore (lv' := [(7, .int (0)), (4, .int (x4 + 1)), (6, .int (r30 - r37)), (0, .ref (X.kad 75)), (1, .int (x1)), (2, .int (x2)), (3, .int (x3)), (5, .int (x5))]) 74 hX dX7_leansTo_72 rfl (by decide) rfl ?_
          refine r_sub [3, 4, 5, 6, 1, 7, 0] rfl ?_
          obtain ⟨n, hw⟩ := hw
          exact w_X7_leansTo_l74 hX hR hK6 n _ _ _ _ _ _ _ hw
        · refine r_iconst 64 hX dX7_leansTo_63 rfl 0 ic_0 ?_
          refine r_goto 68 hX dX7_leansTo_64 (by decide) ?_
          refine r_iadd 69 hX dX7_leansTo_68 rfl ?_
          refine r_istore (lv' := [(4, .int (x4 + 0)), (6, .int (r30 - r37)), (0, .ref (X.kad 75)), (1, .int (x1)), (2, .int (x2)), (3, .int (x3)), (5, .int (x5))]) 71 hX dX7_leansTo_69 rfl (by decide) rfl ?_
          refine r_iconst 72 hX dX7_leansTo_71 rfl 0 ic_0 ?_
          refine r_istore (lv' := [(7, .int (0)), (4, .int (x4 + 0)), (6, .int (r30 - r37)), (0, .ref (X.kad 75)), (1, .int (x1)), (2, .int (x2)), (3, .int (x3)), (5, .int (x5))]) 74 hX dX7_leansTo_72 rfl (by decide) rfl ?_
          refine r_sub [3, 4, 5, 6, 1, 7, 0] rfl ?_
          obtain ⟨n, hw⟩ := hw
          exact w_X7_leansTo_l74 hX hR hK6 n _ _ _ _ _ _ _ hw
      · refine r_ldc 55 hX 100000 tw_603 dX7_leansTo_53 rfl ?_
        exact r_iret hX hR dX7_leansTo_55 hw
set_option maxRecDepth 20000 in
set_option maxHeartbeats 4000000 in
theorem w_X7_leansTo_l6 {X : Cx} {Q : RV → St → Prop} (hX : CxB X RX7 cX7_leansTo 8 (2)) (hR : CxR X (some .int) Q) (n : Nat) : ∀ (x1 : Int32) (x2 : Int32) (x3 : Int32) (x4 : Int32) (x5 : Int32) (σ : St), wp_X7_leansTo_l6 (aI Q)  n x1 x2 x3 x4 x5 σ → At X 8 6 [(0, .ref (X.kad 75)), (1, .int (x1)), (2, .int (x2)), (3, .int (x3)), (4, .int (x4)), (5, .int (x5))] [] σ := by
  induction n with
  | zero => intro x1 x2 x3 x4 x5 σ h; exact h.elim
  | succ n ih => intro x1 x2 x3 x4 x5 σ h; exact w_X7_leansTo_b6  hX hR ih x1 x2 x3 x4 x5 σ h
set_option maxRecDepth 20000 in
set_option maxHeartbeats 4000000 in
theorem c_X7_leansTo (x1 : Int32) (x2 : Int32) (x3 : Int32) : Con yX7_leansTo cX7_leansTo 8 (some .int) (2) (fun ad => [.ref (ad 75), .int (x1), .int (x2), .int (x3)]) (fun Q σ => wp_X7_leansTo x1 x2 x3 (aI Q) σ) := by
  refine con_intro (by decide +kernel) (fun _ => Nat.le_of_ble_eq_true rfl) (by omega) (fun X Q σ hX hR hw => ?_)
  have hX : CxB X RX7 cX7_leansTo 8 (2) := hX
  unfold wp_X7_leansTo at hw
  show At X 8 0 [(0, .ref (X.kad 75)), (1, .int (x1)), (2, .int (x2)), (3, .int (x3))] [] σ
  refine r_iconst 1 hX dX7_leansTo_0 rfl 0 ic_0 ?_
  refine r_istore (lv' := [(4, .int (0)), (0, .ref (X.kad 75)), (1, .int (x1)), (2, .int (x2)), (3, .int (x3))]) 3 hX dX7_leansTo_1 rfl (by decide) rfl ?_
  refine r_iconst 4 hX dX7_leansTo_3 rfl 0 ic_0 ?_
  refine r_istore (lv' := [(5, .int (0)), (4, .int (0)), (0, .ref (X.kad 75)), (1, .int (x1)), (2, .int (x2)), (3, .int (x3))]) 6 hX dX7_leansTo_4 rfl (by decide) rfl ?_
  refine r_sub [2, 3, 4, 5, 1, 0] rfl ?_
  obtain ⟨n, hw⟩ := hw
  exact w_X7_leansTo_l6 hX hR n _ _ _ _ _ _ hw
