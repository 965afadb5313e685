set_option maxRecDepth 100000 in
set_option maxHeartbeats 8000000 in
theorem start_uC {s : State} {b : Nat} (hts0 : ∀ w ∈ lw_tbl, w.before #[Value.ref b] s = true) (hgv : (Jvm.Cond.and given_1 narrow_1).before #[Value.ref b] s = true) : ∃ cs : List Nat, ∀ (a0 a8 : Nat) (u4 u12 : Nat → Nat), uC (adF a0 a8 u4 u12 cs) (fun q => s.heap.size ≤ q) s s.heap := by
  have hA : ∀ a : Nat, a < s.heap.size → ¬ (fun q : Nat => s.heap.size ≤ q) a := fun a h => Nat.not_le.mpr h
  have hs := flat_of_before _ hgv
  obtain ⟨t1, ht1, hT1⟩ := va_Tof (tm := .static "FlueStack" "LEAST_TUNES" "[I") (ty := .int) (N := 6) (f := fun j => .int (tab_LEAST_TUNES j)) (A := fun q => s.heap.size ≤ q) (by decide) (hs _ (by decide +kernel)) (va_eqt (z := 6) (hs _ (by decide +kernel))) (fun j hj => by
    match j, hj with
    | 0, _ => exact va_eqt (z := 0) (hs _ (by decide +kernel))
    | 1, _ => exact va_eqt (z := 0) (hs _ (by decide +kernel))
    | 2, _ => exact va_eqt (z := 0) (hs _ (by decide +kernel))
    | 3, _ => exact va_eqt (z := 1) (hs _ (by decide +kernel))
    | 4, _ => exact va_eqt (z := 0) (hs _ (by decide +kernel))
    | 5, _ => exact va_eqt (z := 0) (hs _ (by decide +kernel))
    | j + 6, h => exact absurd h (by omega)) hA
  have hz1 := va_Zref (C := "FlueStack") (n := "LEAST_TUNES") (d := "[I") (hts0 _ (List.mem_append_right _ (List.mem_of_getElem? (i := 481) (by decide +kernel)))) (hts0 _ (List.mem_append_right _ (List.mem_of_getElem? (i := 1) (by decide +kernel)))) ht1 hA
  obtain ⟨t2, ht2, hT2⟩ := va_Tof (tm := .static "FlueStack" "MOST_TUNES" "[I") (ty := .int) (N := 6) (f := fun j => .int (tab_MOST_TUNES j)) (A := fun q => s.heap.size ≤ q) (by decide) (hs _ (by decide +kernel)) (va_eqt (z := 6) (hs _ (by decide +kernel))) (fun j hj => by
    match j, hj with
    | 0, _ => exact va_eqt (z := 3) (hs _ (by decide +kernel))
    | 1, _ => exact va_eqt (z := 20) (hs _ (by decide +kernel))
    | 2, _ => exact va_eqt (z := 20) (hs _ (by decide +kernel))
    | 3, _ => exact va_eqt (z := 20) (hs _ (by decide +kernel))
    | 4, _ => exact va_eqt (z := 9) (hs _ (by decide +kernel))
    | 5, _ => exact va_eqt (z := 99) (hs _ (by decide +kernel))
    | j + 6, h => exact absurd h (by omega)) hA
  have hz2 := va_Zref (C := "FlueStack") (n := "MOST_TUNES") (d := "[I") (hts0 _ (List.mem_append_right _ (List.mem_of_getElem? (i := 483) (by decide +kernel)))) (hts0 _ (List.mem_append_right _ (List.mem_of_getElem? (i := 1) (by decide +kernel)))) ht2 hA
  have hcs := va_Zof (C := "java/lang/String") (n := "COMPACT_STRINGS") (d := "Z") (hts0 _ (List.mem_append_right _ (List.mem_of_getElem? (i := 340) (by decide +kernel)))) (hts0 _ (List.mem_append_right _ (List.mem_of_getElem? (i := 10) (by decide +kernel)))) (va_eqi (z := 1) (hs _ (by decide +kernel))) hA
  have hsf := va_Zqof (C := "jdk/internal/util/Preconditions") (n := "SIOOBE_FORMATTER") (d := "Ljava/util/function/BiFunction;") (hts0 _ (List.mem_append_right _ (List.mem_of_getElem? (i := 356) (by decide +kernel)))) (hts0 _ (List.mem_append_right _ (List.mem_of_getElem? (i := 12) (by decide +kernel)))) (hs _ (by decide +kernel)) hA
  obtain ⟨adK, adV, hS, hev⟩ := vk_Sof (args := #[Value.ref b]) (s := s) (N := 4) (tm := fun i => .string "FlueStack$Reader" ([128, 134, 136, 137].getD i 0)) (len := strL) (byt := strB) (A := fun q => s.heap.size ≤ q) (by decide +kernel) (fun i hi => by
    match i, hi with
    | 0, _ => exact hs _ (by decide +kernel)
    | 1, _ => exact hs _ (by decide +kernel)
    | 2, _ => exact hs _ (by decide +kernel)
    | 3, _ => exact hs _ (by decide +kernel)
    | j + 4, h => exact absurd h (by omega)) (fun i hi => by
    match i, hi with
    | 0, _ => exact hs _ (by decide +kernel)
    | 1, _ => exact hs _ (by decide +kernel)
    | 2, _ => exact hs _ (by decide +kernel)
    | 3, _ => exact hs _ (by decide +kernel)
    | j + 4, h => exact absurd h (by omega)) (fun i hi => by
    match i, hi with
    | 0, _ => exact hs _ (by decide +kernel)
    | 1, _ => exact hs _ (by decide +kernel)
    | 2, _ => exact hs _ (by decide +kernel)
    | 3, _ => exact hs _ (by decide +kernel)
    | j + 4, h => exact absurd h (by omega)) (fun i hi => by
    match i, hi with
    | 0, _ => exact hs _ (by decide +kernel)
    | 1, _ => exact hs _ (by decide +kernel)
    | 2, _ => exact hs _ (by decide +kernel)
    | 3, _ => exact hs _ (by decide +kernel)
    | j + 4, h => exact absurd h (by omega)) (fun i hi j hj => by
    match i, hi, j, hj with
    | 0, _, 0, _ => exact hs _ (by decide +kernel)
    | 0, _, 1, _ => exact hs _ (by decide +kernel)
    | 0, _, 2, _ => exact hs _ (by decide +kernel)
    | 0, _, 3, _ => exact hs _ (by decide +kernel)
    | 1, _, 0, _ => exact hs _ (by decide +kernel)
    | 1, _, 1, _ => exact hs _ (by decide +kernel)
    | 1, _, 2, _ => exact hs _ (by decide +kernel)
    | 1, _, 3, _ => exact hs _ (by decide +kernel)
    | 2, _, 0, _ => exact hs _ (by decide +kernel)
    | 2, _, 1, _ => exact hs _ (by decide +kernel)
    | 2, _, 2, _ => exact hs _ (by decide +kernel)
    | 2, _, 3, _ => exact hs _ (by decide +kernel)
    | 3, _, 0, _ => exact hs _ (by decide +kernel)
    | 3, _, 1, _ => exact hs _ (by decide +kernel)
    | 3, _, 2, _ => exact hs _ (by decide +kernel)
    | 3, _, 3, _ => exact hs _ (by decide +kernel)
    | 3, _, 4, _ => exact hs _ (by decide +kernel)
    | 3, _, 5, _ => exact hs _ (by decide +kernel)
    | 0, _, j + 4, h => exact absurd h (by show ¬ j + 4 < 4; omega)
    | 1, _, j + 4, h => exact absurd h (by show ¬ j + 4 < 4; omega)
    | 2, _, j + 4, h => exact absurd h (by show ¬ j + 4 < 4; omega)
    | 3, _, j + 6, h => exact absurd h (by show ¬ j + 6 < 6; omega)
    | i + 4, h, _, _ => exact absurd h (by omega)) (fun i j hi hj hij => by
    match i, j, hi, hj, hij with
    | 0, 0, _, _, h => exact absurd rfl h
    | 0, 1, _, _, _ => exact Or.inl (hs _ (by decide +kernel))
    | 0, 2, _, _, _ => exact Or.inl (hs _ (by decide +kernel))
    | 0, 3, _, _, _ => exact Or.inl (hs _ (by decide +kernel))
    | 1, 0, _, _, _ => exact Or.inr (hs _ (by decide +kernel))
    | 1, 1, _, _, h => exact absurd rfl h
    | 1, 2, _, _, _ => exact Or.inl (hs _ (by decide +kernel))
    | 1, 3, _, _, _ => exact Or.inl (hs _ (by decide +kernel))
    | 2, 0, _, _, _ => exact Or.inr (hs _ (by decide +kernel))
    | 2, 1, _, _, _ => exact Or.inr (hs _ (by decide +kernel))
    | 2, 2, _, _, h => exact absurd rfl h
    | 2, 3, _, _, _ => exact Or.inl (hs _ (by decide +kernel))
    | 3, 0, _, _, _ => exact Or.inr (hs _ (by decide +kernel))
    | 3, 1, _, _, _ => exact Or.inr (hs _ (by decide +kernel))
    | 3, 2, _, _, _ => exact Or.inr (hs _ (by decide +kernel))
    | 3, 3, _, _, h => exact absurd rfl h
    | i + 4, _, h, _, _ => exact absurd h (by omega)
    | 0, j + 4, _, h, _ => exact absurd h (by omega)
    | 1, j + 4, _, h, _ => exact absurd h (by omega)
    | 2, j + 4, _, h, _ => exact absurd h (by omega)
    | 3, j + 4, _, h, _ => exact absurd h (by omega)) hA
  refine ⟨[adK 0, adK 1, adK 2, adK 3, adV 0, adV 1, adV 2, adV 3, t1, t2], fun a0 a8 u4 u12 => ⟨⟨hz1, hT1, hz2, hT2⟩, ⟨hcs, hsf, ?_, ?_⟩, ?_, ?_, ?_, ?_⟩⟩
  · intro i hi
    match i, hi with
    | 0, h => exact hS.1 0 h
    | 1, h => exact hS.1 1 h
    | 2, h => exact hS.1 2 h
    | 3, h => exact hS.1 3 h
    | j + 4, h => exact absurd h (by omega)
  · intro i j hi hj h
    have e : ∀ i, i < 4 → adF a0 a8 u4 u12 [adK 0, adK 1, adK 2, adK 3, adV 0, adV 1, adV 2, adV 3, t1, t2] (102 + i) = adK i := by
      intro i hi
      match i, hi with
      | 0, _ => rfl
      | 1, _ => rfl
      | 2, _ => rfl
      | 3, _ => rfl
      | j + 4, h => exact absurd h (by omega)
    exact hS.2 i j hi hj ((e i hi).symm.trans (h.trans (e j hj)))
  · exact vk_R.of (hts0 _ (List.mem_append_right _ (List.mem_of_getElem? (i := 326) (by decide +kernel)))) (hev 0 (by decide))
  · exact vk_R.of (hts0 _ (List.mem_append_right _ (List.mem_of_getElem? (i := 379) (by decide +kernel)))) (hev 1 (by decide))
  · exact vk_R.of (hts0 _ (List.mem_append_right _ (List.mem_of_getElem? (i := 380) (by decide +kernel)))) (hev 2 (by decide))
  · exact vk_R.of (hts0 _ (List.mem_append_right _ (List.mem_of_getElem? (i := 381) (by decide +kernel)))) (hev 3 (by decide))
theorem start_uN {s : State} {b : Nat} (hts0 : ∀ w ∈ lw_tbl, w.before #[Value.ref b] s = true) : uN s := ⟨va_AOA.of (hts0 _ (List.mem_append_right _ (List.mem_of_getElem? (i := 118) (by decide +kernel)))), va_Nw.of rfl (hts0 _ (List.mem_append_right _ (List.mem_of_getElem? (i := 27) (by decide +kernel)))), va_Nw.of rfl (hts0 _ (List.mem_append_right _ (List.mem_of_getElem? (i := 63) (by decide +kernel)))), va_Nw.of rfl (hts0 _ (List.mem_append_right _ (List.mem_of_getElem? (i := 121) (by decide +kernel)))), va_Nw.of rfl (hts0 _ (List.mem_append_right _ (List.mem_of_getElem? (i := 150) (by decide +kernel)))), va_Nw.of rfl (hts0 _ (List.mem_append_right _ (List.mem_of_getElem? (i := 169) (by decide +kernel)))), va_Nw.of rfl (hts0 _ (List.mem_append_right _ (List.mem_of_getElem? (i := 214) (by decide +kernel))))⟩
theorem start_K {s : State} {b : Nat} (hts : ∀ w ∈ TB, w.before #[Value.ref b] s = true) (hN : uN s) : ∃ (D : va_G) (cy : Nat → ClassId), va_K D vwCl (wT cy) s := by
  obtain ⟨c0, iS0, hKn0⟩ := u_known (C := RX0) (T := TX0) (N := 3) (n := 3) hts inX0 (hts _ tw_981)
  obtain ⟨c1, iS1, hKn1⟩ := u_known (C := RX1) (T := TX1) (N := 9) (n := 9) hts inX1 (hts _ tw_968)
  obtain ⟨c2, iS2, hKn2⟩ := u_known (C := RX2) (T := TX2) (N := 4) (n := 4) hts inX2 (hts _ tw_977)
  obtain ⟨c3, iS3, hKn3⟩ := u_known (C := RX3) (T := TX3) (N := 7) (n := 7) hts inX3 (hts _ tw_990)
  obtain ⟨c4, iS4, hKn4⟩ := u_known (C := RX4) (T := TX4) (N := 8) (n := 8) hts inX4 (hts _ tw_972)
  obtain ⟨c5, iS5, hKn5⟩ := u_known (C := RX5) (T := TX5) (N := 11) (n := 11) hts inX5 (hts _ tw_986)
  obtain ⟨c6, iS6, hKn6⟩ := u_known (C := RX6) (T := TX6) (N := 15) (n := 15) hts inX6 (hts _ tw_994)
  obtain ⟨c7, iS7, hKn7⟩ := u_known (C := RX7) (T := TX7) (N := 35) (n := 35) hts inX7 (hts _ tw_995)
  obtain ⟨kB, k1, k2⟩ := k_arr (hts _ tw_956) (fun C h => by cases h)
  obtain ⟨kI, k3, k4⟩ := k_arr (hts _ tw_958) (fun C h => by cases h)
  obtain ⟨kJ, k5, k6⟩ := k_arr (hts _ tw_965) (fun C h => by cases h)
  obtain ⟨kZ, k7, k8⟩ := k_arr (hts _ tw_984) (fun C h => by cases h)
  obtain ⟨kA, k9, k10⟩ := k_arr2 hN.1
  refine ⟨(fun k => [c0, c1, c2, c3, c4, c5, c6, c7].getD k c0, fun k => [iS0, iS1, iS2, iS3, iS4, iS5, iS6, iS7].getD k iS0), fun k => [kB, kI, kJ, kZ, kA].getD k kB, fun k q hq => ?_, fun k q hq => ?_⟩
  · match k, hq with
    | 0, hq => cases hq; exact hKn0
    | 1, hq => cases hq; exact hKn1
    | 2, hq => cases hq; exact hKn2
    | 3, hq => cases hq; exact hKn3
    | 4, hq => cases hq; exact hKn4
    | 5, hq => cases hq; exact hKn5
    | 6, hq => cases hq; exact hKn6
    | 7, hq => cases hq; exact hKn7
    | k + 8, hq => simp [vwCl] at hq
  · match k, hq with
    | 0, hq => cases hq; exact ⟨k1, k2⟩
    | 1, hq => cases hq; exact ⟨k3, k4⟩
    | 2, hq => cases hq; exact ⟨k5, k6⟩
    | 3, hq => cases hq; exact ⟨k7, k8⟩
    | 4, hq => cases hq; exact ⟨k9, k10⟩
    | k + 5, hq => simp [wT] at hq
set_option maxRecDepth 100000 in
set_option maxHeartbeats 8000000 in
/-- THE LAW, from its entry -/
theorem whole_start {p : Program} {e : Env} {s : State} {m : MethodId} {below : List Frame} {meth : Method} {c : Code} (l : Launch) (hflags : l.flags = flags0) {b L : Nat} {xs : Nat → Int32} (hL : L ≤ 256) (C0 : lw_At p s m meth c b L xs) : W p l e room_1 s m #[Value.ref b] below meth c s.heap [] 0 0 (lw_Z below #[Value.ref b] s) (entryFrame m ([Value.ref b] : List Value).toArray 4) := by
  obtain ⟨hx, hb, hr, hml, hown, hts0, hXs, hbl, hlocks, hgv⟩ := C0
  have hts : ∀ w ∈ TB, w.before #[Value.ref b] s = true := fun w h => hts0 w (tb_tbl h)
  have hN := start_uN hts0
  obtain ⟨cs, hU⟩ := start_uC hts0 hgv
  obtain ⟨D, cy, hK⟩ := start_K hts hN
  let X (ad : Nat → Nat) : Cx := (p, l, e, room_1, s, m, #[Value.ref b], below, meth, c, 102, 36639, D, cy, ad, fun q => s.heap.size ≤ q, lw_Z below #[Value.ref b] s)
  have hV : CxV (X id) RL cL_law 4 200 600000 7302250 := ⟨hx, hb, hml, hown, hts, hK, fun q h => h, by show 200 ≤ 2048; omega, by show 40 * 200 ≤ 84000; omega, Nat.le_refl _, Nat.le_refl _, hN⟩
  have walk : AtV (X id) 4 0 [(0, .ref b)] [] [] 0 0 := by
    refine v_new 3 hV (ci := 6) (fs := [.null, .int 0, .null, .null, .null, .null, .null, .null, .null, .null, .null, .null, .null, .null, .long 0]) inX6 tyX6 tyX6_ok tw_996 tw_994 tw_328 rfl nd_X6 (Nat.le_of_ble_eq_true rfl) (Nat.le_of_ble_eq_true rfl) dL_law_0 rfl (fun a0 => ?_)
    refine v_dup 4 hV dL_law_3 rfl rfl ?_
    refine v_call (ws' := []) 7 hV c_X6_init tw_997 tw_998 tw_328 tw_999 rfl (by decide +kernel) (Nat.le_of_ble_eq_true rfl) (Nat.le_of_ble_eq_true rfl) 0 rfl [] rfl (by decide) (by decide) (Nat.le_of_ble_eq_true rfl) (Nat.le_of_ble_eq_true rfl) (Nat.le_of_ble_eq_true rfl) dL_law_4 rfl (fun u4 => ?_)
    refine v_astore_n (lv' := [(1, .ref a0), (0, .ref b)]) 8 hV dL_law_7 rfl rfl (by decide) rfl ?_
    refine v_new 11 hV (ci := 7) (fs := [.long 0, .null, .int 0, .null, .null, .null, .null, .null, .null, .null, .null, .null, .null, .int 0, .int 0, .int 0, .int 0, .int 0, .null, .null, .null, .int 0, .null, .null, .null, .int 0, .int 0, .null, .null, .int 0, .null, .null, .null, .null, .null]) inX7 tyX7 tyX7_ok tw_1000 tw_995 tw_517 rfl nd_X7 (Nat.le_of_ble_eq_true rfl) (Nat.le_of_ble_eq_true rfl) dL_law_8 rfl (fun a8 => ?_)
    refine v_dup 12 hV dL_law_11 rfl rfl ?_
    refine v_call (ws' := post_X6 cy a0 u4) 15 hV c_X7_init tw_1001 tw_1002 tw_517 tw_1003 rfl (by decide +kernel) (Nat.le_of_ble_eq_true rfl) (Nat.le_of_ble_eq_true rfl) 77 rfl [0, 1, 2, 3, 4, 5, 6, 7, 8, 9, 10, 11, 12, 13, 14, 15, 16, 17, 18, 19, 20, 21, 22, 23, 24, 25, 26, 27, 28, 29, 30, 31, 32, 33, 34, 35, 36, 37, 38, 39, 40, 41, 42, 43, 44, 45, 46, 47, 48, 49, 50, 51, 52, 53, 54, 55, 56, 57, 58, 59, 60, 61, 62, 63, 64, 65, 66, 67, 68, 69, 70, 71, 72, 73, 74, 75, 76] rfl (by decide) (by decide) (Nat.le_of_ble_eq_true rfl) (Nat.le_of_ble_eq_true rfl) (Nat.le_of_ble_eq_true rfl) dL_law_12 rfl (fun u12 => ?_)
    refine v_astore_n (lv' := [(2, .ref a8), (1, .ref a0), (0, .ref b)]) 16 hV dL_law_15 rfl rfl (by decide) rfl ?_
    refine v_iconst 17 hV dL_law_16 rfl 0 ic_0 ?_
    refine v_istore_n (lv' := [(3, .int 0), (2, .ref a8), (1, .ref a0), (0, .ref b)]) 18 hV dL_law_17 rfl rfl (by decide) rfl ?_
    intro H locs ls hP hD hS hl
    obtain ⟨hP2, hinj, hAw⟩ := world_at cs hP hD
    have hB : CxB (X (adF a0 a8 u4 u12 cs)) RL cL_law 4 200 := ⟨hx, hb, hml, hown, hts, hK, hinj, hAw, fun q h => h, by decide, by show 200 ≤ 2048; omega, by show 40 * 200 ≤ 84000; omega, by show 102 ≤ 600000; omega, by show 36639 ≤ 7302250; omega, hU a0 a8 u4 u12⟩
    have hR : CxL (X (adF a0 a8 u4 u12 cs)) b L xs := ⟨rfl, rfl, rfl, by show 102 ≤ 600000; omega, by show 36639 ≤ 7302250; omega, hXs, hbl, rfl, hr, hlocks⟩
    obtain ⟨n, hn⟩ := law_true L xs hL
    exact w_L_law_l18 hB hR n 0 σ0 hn H locs ls hP2 hS (lv_sub hl [3, 2, 1, 0] rfl)
  rw [lg_entry_eq]
  exact walk s.heap [] _ (fun k q h => by simp at h) ⟨fun i j q1 q2 h => by simp at h, fun k q h => by simp at h⟩ va_S.rf (lv_entry [Value.ref b] (Nat.le_of_ble_eq_true rfl))

set_option maxHeartbeats 4000000 in
theorem lw_walk (l : Launch) (hflags : l.flags = flags0) (b : Addr) (xs : List Int32) : MetFree l x (headSpec (Jvm.Cond.code x code maxLocals ret :: tables_1) room_1) (lw_P b xs) (fun _ _ _ _ _ => True) lw_Q := by
  refine MetFree.of_bodyS (code := code) (maxLocals := maxLocals) (ret := ret) (by decide) ?_ ?_
  · intro args s m h hn
    obtain ⟨meth, c, h1, h2, h3, h4, h5, h6, -, -⟩ := Cond.code_spec hn (atoms_spec (ws := Jvm.Cond.code x code maxLocals ret :: tables_1) h _ List.mem_cons_self)
    exact ⟨meth, c, h1, h2, h3, h4, h5, h6⟩
  · intro p e s m args below meth c s₁ B hml0 hP _
    obtain ⟨rfl, hx, hbd, hgv⟩ := hP
    obtain ⟨scr, harrAt, hlist, hof, hsmall⟩ := hx
    obtain ⟨hcb, hkn, -, -⟩ := State.arrayAt?_spec harrAt
    have hown : s.vm.findClass R_law = some m.cls := findClass_of_methodNamed B.named
    have hts0 : ∀ c ∈ (Jvm.Cond.code x code maxLocals ret :: tables_1), c.before #[Value.ref b] s = true := atoms_spec (ws := Jvm.Cond.code x code maxLocals ret :: tables_1) B.pre
    have hts : ∀ w ∈ lw_tbl, w.before #[Value.ref b] s = true := k2_hts_sels lw_privs (fun w hw => hts0 w (List.mem_cons_of_mem _ hw)) lw_privs_ok
    have hml : c.maxLocals = 4 := B.maxLocals_eq (hts0 _ List.mem_cons_self)
    have X₀ : Stand p l e room_1 s m #[Value.ref b] below meth c s₁ [] 0 0 := Stand.of_body B
    have hh0 : s₁.heap = s.heap := by rw [B.state]; rfl
    have hsz : scr.slots.size = xs.length := by rw [← Array.length_toList, hlist, List.length_map]
    have hval : ∀ j : Nat, j < xs.length → scr.slots[j]? = some (.int (xs.getD j 0)) := fun j hj => by
      rw [← Array.getElem?_toList, hlist]
      simp [hj]
    have hbl : b < s.heap.size := (Array.getElem?_eq_some_iff.mp hcb).1
    have hX : va_X b xs.length (fun j => xs.getD j 0) s s.heap := ⟨scr, hcb, hof, hkn, hsz, hval⟩
    have K : W p l e room_1 s m #[Value.ref b] below meth c s₁.heap [] 0 0 (lw_Z below #[Value.ref b] s) (entryFrame m ([Value.ref b] : List Value).toArray 4) := by
      rw [hh0]
      exact whole_start l hflags hbd ⟨B.exec, B.bytes, B.returns, hml, hown, hts, hX, hbl, B.notSynchronized, hgv⟩
    obtain ⟨t, a1, o, b1, b2, b3⟩ := K s₁ rfl X₀
    exact ⟨t, o, a1, b1, b2, b3⟩
theorem lw_pre_spec {args : Array Value} {s : State} (h : (Jvm.Cond.and given_1 narrow_1).before args s = true) (hr : rest_1_c.before args s = true) : ∃ (b : Addr) (xs : List Int32), lw_P b xs args s := by
  have hs := flat_of_before _ h
  have hq := flat_of_before _ hr
  have hc : (Cond.count 1).before args s = true := hs _ (by decide +kernel)
  have harr : (Cond.arrayOf (.arg 0) .int).before args s = true := hs _ (by decide +kernel)
  have hle : (Cond.le (.length (.arg 0)) (.int 256)).before args s = true := hs _ (by decide +kernel)
  have hlen : (Cond.isInt (.length (.arg 0))).before args s = true := hq _ (by decide +kernel)
  have hall : (Cond.all (.arg 0) (.isInt (.elem (.arg 0) (.index 0)))).before args s = true := hq _ (by decide +kernel)
  obtain ⟨b, xs, hb, hx⟩ := State.ints_of_pre rfl harr hlen hall
  have hsm : xs.length < 2 ^ 31 := hx.choose_spec.2.2.2
  have hev : (Term.length (.arg 0)).eval args s none [] s = some (.int xs.length.toInt32) := hx.length_eval hb
  have hv := Cond.le_ints hev (show (Term.int 256).eval args s none [] s = some (.int 256) from rfl)
  have hd : xs.length.toInt32 ≤ 256 := by
    simpa [Cond.before, Cond.holds, hv] using hle
  have hN : xs.length ≤ 256 := (Int32.ofNat_le_ofNat hsm (by decide)).mp (show Int32.ofNat xs.length ≤ Int32.ofNat 256 from hd)
  exact ⟨b, xs, Cond.one_arg hc (show args[0]? = some (.ref b) from hb), hx, hN, h⟩
theorem lw_comes (l : Launch) (hflags : l.flags = flags0) : Comes l x (Jvm.Cond.code x code maxLocals ret :: tables_1) room_1 (fun tb e args s => Calls_1 tb e args s ∧ rest_1 tb e args s ∧ Pre_1 tb e args s)
    (fun _ _ args s o t => lw_Q args s o t) := by
  intro p e ha hc hk s m args below hf hfit hheap happ hpre
  obtain ⟨b, xs, hP⟩ := lw_pre_spec hpre.2.2 hpre.2.1
  obtain ⟨k, o, h1, h2, h3, hQ⟩ := lw_walk l hflags b xs p e ha hc hk s m args below hf ((Spec.applies_iff_loose hf).mp happ).1 hP trivial
  exact ⟨k, o, h1, h2, h3, hQ⟩
theorem lw_frame {s t : State} {o : Outcome} {args : Array Value} (h : Framed s o t [] 600000 7302250) :
    Framed s o t (fieldLocs frame_1_writes args s ++ arrayLocs frame_1_arrays args s ++ staticLocs frame_1_statics s) 600000 7302250 := h
theorem lw_limb (L : Cond) (hL : ∀ (args : Array Value) (s t : State), L.after args s (.returned (some (.int 1))) t = true) :
    ArmFor flags0 classFile x code maxLocals ret World_1 tables_1 room_1 Calls_1 rest_1 Pre_1
      (fun tb e a s o t => postC L tb e a s o t ∧ Framed s o t (fieldLocs frame_1_writes a s ++ arrayLocs frame_1_arrays a s ++ staticLocs frame_1_statics s) 600000 7302250) := by
  intro l hflags _ _ p e ha hc hk s m args below hf hfit hheap happ hpre
  obtain ⟨k, o, h1, h2, h3, rfl, hF⟩ := lw_comes l hflags p e ha hc hk s m args below hf hfit hheap happ hpre
  exact ⟨k, _, h1, h2, h3, hL args s _, lw_frame hF⟩
theorem i_vc : Claimed_1_1 ∧ Claimed_1_2 := ⟨lw_limb limb_1_1 (fun args s t => by simp [limb_1_1, Cond.after, Cond.holds, Cond.value]), lw_limb limb_1_2 (fun args s t => Cond.after_iff.mpr (by
  first | (rw [show limb_1_2 = Cond.eq .result (.int 1) from rfl, Cond.eq_ints (x := 1) (y := 1) rfl rfl]; simp; done) | (simp [limb_1_2, Cond.value, Term.eval]; done)))⟩

