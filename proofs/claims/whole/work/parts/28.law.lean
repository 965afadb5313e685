/-! THE CLAIM OUT OF ONE WALK OF THE LAW'S BODY. Your part is whole_start (and what it stands on); all else here is the same for every law, but numbers. -/
def R_law : String := "FlueStackLaw"
def lw_P (b : Addr) (xs : List Int32) (args : Array Value) (s : State) : Prop := args = #[.ref b] ∧ s.IntsAt b xs ∧ xs.length ≤ 256 ∧ (Jvm.Cond.and given_1 narrow_1).before args s = true
def lw_Q (_ : Array Value) (s : State) (o : Outcome) (t : State) : Prop := o = .returned (some (.int 1)) ∧ Framed s o t [] 600000 7302250
def lw_Z (below : List Frame) (a : Array Value) (s : State) : State → Prop := fun t => ∃ o, t.status = .running ∧ Ended t below o ∧ lw_Q a s o t
/-- the law's own end, with 1 on the stack, nothing written that was there before, its room as the claim has it -/
theorem lw_ret {p : Program} {l : Launch} {e : Env} {s : State} {m : MethodId} {below : List Frame} {meth : Method} {c : Code} {b : Nat} (hx : p.tables.exec = Jvm.exec) (hb : c.code = code) (hr : meth.sig.returnType = ret) (hlocks : meth.locks = false) {pc : Nat} {H : Heap} {ls : Array Slot} (hdg : decode code pc = .ok (.ireturn, 1)) : W p l e room_1 s m #[Value.ref b] below meth c H [] 600000 7302250 (lw_Z below #[Value.ref b] s) (F0 m pc ls [.int 1]) := by
  intro T hT X
  obtain ⟨fs, hret, hrun, hended, hW, hframe⟩ := X.leave (v := some (.int 1)) (hlocks := hlocks) (fun h => by rw [hr] at h; cases h)
  have hmeth' : T.vm.method? m = some meth := X.method'
  refine ⟨T.setFrames fs, ?_, .returned (some (.int 1)), hrun, hended, rfl, ⟨_, rfl⟩, hW, hframe⟩
  jvm_step X.here [X.here.top, hx, hb, hdg, hmeth', hr, ret, narrow_b1]
  (try refine ⟨rfl, ?_⟩); (try refine ⟨rfl, ?_⟩)
  first | (intro acts; rw [hret _ acts rfl rfl rfl]) | rw [hret _ _ rfl rfl rfl]
  exact Steps.refl _
/-- what holds at the law's entry: the machine, the code, the tables' words (any of lw_tbl by 'hts w (by decide +kernel)'), the script of L ints xs at the cell b, what the Statement gives of the start (any of its parts by flat_of_before) -/
def lw_At (p : Program) (s : State) (m : MethodId) (meth : Method) (c : Code) (b L : Nat) (xs : Nat → Int32) : Prop :=
  p.tables.exec = Jvm.exec ∧ c.code = code ∧ meth.sig.returnType = ret ∧ c.maxLocals = 4 ∧ s.vm.findClass R_law = some m.cls ∧ (∀ w ∈ lw_tbl, w.before #[Value.ref b] s = true) ∧ va_X b L xs s s.heap ∧ b < s.heap.size ∧ meth.locks = false ∧ (Jvm.Cond.and given_1 narrow_1).before #[Value.ref b] s = true
def CxL (X : Cx) (b L : Nat) (xs : Nat → Int32) : Prop := X.kQf = lw_Z X.kbelow #[Value.ref b] X.ks ∧ X.kargs = #[Value.ref b] ∧ X.kR = room_1 ∧ X.kcells ≤ 600000 ∧ X.kslots ≤ 7302250 ∧ va_X b L xs X.ks X.ks.heap ∧ b < X.ks.heap.size ∧ X.kA = (fun q => X.ks.heap.size ≤ q) ∧ X.kmeth.sig.returnType = ret ∧ X.kmeth.locks = false
section LW
variable {X : Cx} {b L : Nat} {xs : Nat → Int32} {own : String} {nL d pc : Nat} {lv : List (Nat × Value)} {st : List Value} {σ : St}
theorem CxL.nb (hR : CxL X b L xs) : ¬ X.kA b := by
  obtain ⟨-, -, -, -, -, -, h, hA, -⟩ := hR
  rw [hA]
  exact Nat.not_le.mpr h
theorem r_sld (q : Nat) (hX : CxB X own cL_law nL d) (hR : CxL X b L xs) {i : Int32} {B : Prop} (hd : decode cL_law pc = .ok (.iaload, 1)) (hq : pc + 1 = q) (hw : vp_in i L ∧ B) (kk : B → At X nL q lv (.int (xs i.toNatClampNeg) :: st) σ) : At X nL pc lv (.int i :: .ref b :: st) σ := by
  subst hq
  exact fun H locs ls hP hS hl => va_sld hX.hx hX.hb hR.2.2.2.2.2.1 hR.2.2.2.2.2.2.1 hR.nb hS hw.1 hd (kk hw.2 H locs ls hP hS hl)
theorem r_slen (q : Nat) (hX : CxB X own cL_law nL d) (hR : CxL X b L xs) (hd : decode cL_law pc = .ok (.arraylength, 1)) (hq : pc + 1 = q) (kk : At X nL q lv (.int (nI L) :: st) σ) : At X nL pc lv (.ref b :: st) σ := by
  subst hq
  exact fun H locs ls hP hS hl => va_slen hX.hx hX.hb hR.2.2.2.2.2.1 hR.2.2.2.2.2.2.1 hR.nb hS hd (kk H locs ls hP hS hl)
theorem r_lawret (hX : CxB X own cL_law nL d) (hR : CxL X b L xs) {v : Int32} (hd : decode cL_law pc = .ok (.ireturn, 1)) (hw : v = 1) : At X nL pc lv [.int v] σ := by
  subst hw
  intro H locs ls hP hS hl
  obtain ⟨h1, h2, h3, h4, h5, h6, h7, h8, h9, h10⟩ := hR
  rw [h1, h2, h3]
  refine va_forget (fun q hq => by have := hS.2.2 q hq; rw [h8] at this; exact this) ?_
  refine W.widen (k := 600000) (n := 7302250) h4 h5 ?_
  exact lw_ret hX.hx hX.hb h9 h10 hd
end LW
theorem k_L_15_X6_type {X : Cx} {cc : ByteArray} {nL d pc : Nat} {lv : List (Nat × Value)} {rest : List Value} {σ : St} {K : Int32 → St → Prop} (q : Nat) (hX : CxB X RL cc nL d) (hdc : 1 + 1 ≤ d) (x1 : Int64) (x3 : Int32) (hst : (rest.map fun v => v.category).sum ≤ 8) (hd : decode cc pc = .ok (.invokevirtual 15, 3)) (hq : pc + 3 = q) (hw : wp_X6_type x1 x3 K σ) (kk : ∀ (r : Int32) (τ : St), K r τ → At X nL q lv (.int r :: rest) τ) : At X nL pc lv (.int (x3) :: .long (x1) :: .ref (X.kad 0) :: rest) σ := r_callV (n := 2) q hX (k0 := 0) (c_X6_type x1 x3) tw_731 tw_732 tw_733 tw_328 tw_734 ⟨by decide +kernel, by decide +kernel, by decide +kernel⟩ hdc (by decide) (As := [.long (x1), .int (x3)]) rfl rfl (by decide) ⟨_, _, _, rfl, rfl, rfl⟩ hst hd hq rfl (K := qI K) hw (kI kk)
theorem k_L_19_X7_type {X : Cx} {cc : ByteArray} {nL d pc : Nat} {lv : List (Nat × Value)} {rest : List Value} {σ : St} {K : Int32 → St → Prop} (q : Nat) (hX : CxB X RL cc nL d) (hdc : 2 + 1 ≤ d) (x1 : Int64) (x3 : Int32) (hst : (rest.map fun v => v.category).sum ≤ 8) (hd : decode cc pc = .ok (.invokevirtual 19, 3)) (hq : pc + 3 = q) (hw : wp_X7_type x1 x3 K σ) (kk : ∀ (r : Int32) (τ : St), K r τ → At X nL q lv (.int r :: rest) τ) : At X nL pc lv (.int (x3) :: .long (x1) :: .ref (X.kad 75) :: rest) σ := r_callV (n := 2) q hX (k0 := 75) (c_X7_type x1 x3) tw_735 tw_736 tw_737 tw_517 tw_738 ⟨by decide +kernel, by decide +kernel, by decide +kernel⟩ hdc (by decide) (As := [.long (x1), .int (x3)]) rfl rfl (by decide) ⟨_, _, _, rfl, rfl, rfl⟩ hst hd hq rfl (K := qI K) hw (kI kk)
theorem k_L_20_X6_clear {X : Cx} {cc : ByteArray} {nL d pc : Nat} {lv : List (Nat × Value)} {rest : List Value} {σ : St} {K : Int32 → St → Prop} (q : Nat) (hX : CxB X RL cc nL d) (hdc : 1 + 1 ≤ d) (hst : (rest.map fun v => v.category).sum ≤ 8) (hd : decode cc pc = .ok (.invokevirtual 20, 3)) (hq : pc + 3 = q) (hw : wp_X6_clear  K σ) (kk : ∀ (r : Int32) (τ : St), K r τ → At X nL q lv (.int r :: rest) τ) : At X nL pc lv (.ref (X.kad 0) :: rest) σ := r_callV (n := 0) q hX (k0 := 0) (c_X6_clear ) tw_739 tw_740 tw_741 tw_328 tw_742 ⟨by decide +kernel, by decide +kernel, by decide +kernel⟩ hdc (by decide) (As := []) rfl rfl (by decide) ⟨_, _, _, rfl, rfl, rfl⟩ hst hd hq rfl (K := qI K) hw (kI kk)
theorem k_L_24_X7_clear {X : Cx} {cc : ByteArray} {nL d pc : Nat} {lv : List (Nat × Value)} {rest : List Value} {σ : St} {K : Int32 → St → Prop} (q : Nat) (hX : CxB X RL cc nL d) (hdc : 1 + 1 ≤ d) (hst : (rest.map fun v => v.category).sum ≤ 8) (hd : decode cc pc = .ok (.invokevirtual 24, 3)) (hq : pc + 3 = q) (hw : wp_X7_clear  K σ) (kk : ∀ (r : Int32) (τ : St), K r τ → At X nL q lv (.int r :: rest) τ) : At X nL pc lv (.ref (X.kad 75) :: rest) σ := r_callV (n := 0) q hX (k0 := 75) (c_X7_clear ) tw_743 tw_744 tw_745 tw_517 tw_746 ⟨by decide +kernel, by decide +kernel, by decide +kernel⟩ hdc (by decide) (As := []) rfl rfl (by decide) ⟨_, _, _, rfl, rfl, rfl⟩ hst hd hq rfl (K := qI K) hw (kI kk)
theorem k_L_25_X6_wall {X : Cx} {cc : ByteArray} {nL d pc : Nat} {lv : List (Nat × Value)} {rest : List Value} {σ : St} {K : Int32 → St → Prop} (q : Nat) (hX : CxB X RL cc nL d) (hdc : 10 + 1 ≤ d) (hst : (rest.map fun v => v.category).sum ≤ 8) (hd : decode cc pc = .ok (.invokevirtual 25, 3)) (hq : pc + 3 = q) (hw : wp_X6_wall  K σ) (kk : ∀ (r : Int32) (τ : St), K r τ → At X nL q lv (.int r :: rest) τ) : At X nL pc lv (.ref (X.kad 0) :: rest) σ := r_callV (n := 0) q hX (k0 := 0) (c_X6_wall ) tw_747 tw_748 tw_749 tw_328 tw_750 ⟨by decide +kernel, by decide +kernel, by decide +kernel⟩ hdc (by decide) (As := []) rfl rfl (by decide) ⟨_, _, _, rfl, rfl, rfl⟩ hst hd hq rfl (K := qI K) hw (kI kk)
theorem k_L_28_X7_wall {X : Cx} {cc : ByteArray} {nL d pc : Nat} {lv : List (Nat × Value)} {rest : List Value} {σ : St} {K : Int32 → St → Prop} (q : Nat) (hX : CxB X RL cc nL d) (hdc : 7 + 1 ≤ d) (hst : (rest.map fun v => v.category).sum ≤ 8) (hd : decode cc pc = .ok (.invokevirtual 28, 3)) (hq : pc + 3 = q) (hw : wp_X7_wall  K σ) (kk : ∀ (r : Int32) (τ : St), K r τ → At X nL q lv (.int r :: rest) τ) : At X nL pc lv (.ref (X.kad 75) :: rest) σ := r_callV (n := 0) q hX (k0 := 75) (c_X7_wall ) tw_751 tw_752 tw_753 tw_517 tw_754 ⟨by decide +kernel, by decide +kernel, by decide +kernel⟩ hdc (by decide) (As := []) rfl rfl (by decide) ⟨_, _, _, rfl, rfl, rfl⟩ hst hd hq rfl (K := qI K) hw (kI kk)
theorem k_L_29_X6_brick {X : Cx} {cc : ByteArray} {nL d pc : Nat} {lv : List (Nat × Value)} {rest : List Value} {σ : St} {K : Int32 → St → Prop} (q : Nat) (hX : CxB X RL cc nL d) (hdc : 4 + 1 ≤ d) (x1 : Int32) (x2 : Int32) (hst : (rest.map fun v => v.category).sum ≤ 8) (hd : decode cc pc = .ok (.invokevirtual 29, 3)) (hq : pc + 3 = q) (hw : wp_X6_brick x1 x2 K σ) (kk : ∀ (r : Int32) (τ : St), K r τ → At X nL q lv (.int r :: rest) τ) : At X nL pc lv (.int (x2) :: .int (x1) :: .ref (X.kad 0) :: rest) σ := r_callV (n := 2) q hX (k0 := 0) (c_X6_brick x1 x2) tw_755 tw_756 tw_757 tw_328 tw_758 ⟨by decide +kernel, by decide +kernel, by decide +kernel⟩ hdc (by decide) (As := [.int (x1), .int (x2)]) rfl rfl (by decide) ⟨_, _, _, rfl, rfl, rfl⟩ hst hd hq rfl (K := qI K) hw (kI kk)
theorem k_L_33_X7_brick {X : Cx} {cc : ByteArray} {nL d pc : Nat} {lv : List (Nat × Value)} {rest : List Value} {σ : St} {K : Int32 → St → Prop} (q : Nat) (hX : CxB X RL cc nL d) (hdc : 4 + 1 ≤ d) (x1 : Int32) (x2 : Int32) (hst : (rest.map fun v => v.category).sum ≤ 8) (hd : decode cc pc = .ok (.invokevirtual 33, 3)) (hq : pc + 3 = q) (hw : wp_X7_brick x1 x2 K σ) (kk : ∀ (r : Int32) (τ : St), K r τ → At X nL q lv (.int r :: rest) τ) : At X nL pc lv (.int (x2) :: .int (x1) :: .ref (X.kad 75) :: rest) σ := r_callV (n := 2) q hX (k0 := 75) (c_X7_brick x1 x2) tw_759 tw_760 tw_761 tw_517 tw_762 ⟨by decide +kernel, by decide +kernel, by decide +kernel⟩ hdc (by decide) (As := [.int (x1), .int (x2)]) rfl rfl (by decide) ⟨_, _, _, rfl, rfl, rfl⟩ hst hd hq rfl (K := qI K) hw (kI kk)
theorem k_L_34_X6_hearth {X : Cx} {cc : ByteArray} {nL d pc : Nat} {lv : List (Nat × Value)} {rest : List Value} {σ : St} {K : Int32 → St → Prop} (q : Nat) (hX : CxB X RL cc nL d) (hdc : 2 + 1 ≤ d) (x1 : Int32) (x2 : Int32) (hst : (rest.map fun v => v.category).sum ≤ 8) (hd : decode cc pc = .ok (.invokevirtual 34, 3)) (hq : pc + 3 = q) (hw : wp_X6_hearth x1 x2 K σ) (kk : ∀ (r : Int32) (τ : St), K r τ → At X nL q lv (.int r :: rest) τ) : At X nL pc lv (.int (x2) :: .int (x1) :: .ref (X.kad 0) :: rest) σ := r_callV (n := 2) q hX (k0 := 0) (c_X6_hearth x1 x2) tw_763 tw_764 tw_765 tw_328 tw_766 ⟨by decide +kernel, by decide +kernel, by decide +kernel⟩ hdc (by decide) (As := [.int (x1), .int (x2)]) rfl rfl (by decide) ⟨_, _, _, rfl, rfl, rfl⟩ hst hd hq rfl (K := qI K) hw (kI kk)
theorem k_L_37_X7_hearth {X : Cx} {cc : ByteArray} {nL d pc : Nat} {lv : List (Nat × Value)} {rest : List Value} {σ : St} {K : Int32 → St → Prop} (q : Nat) (hX : CxB X RL cc nL d) (hdc : 3 + 1 ≤ d) (x1 : Int32) (x2 : Int32) (hst : (rest.map fun v => v.category).sum ≤ 8) (hd : decode cc pc = .ok (.invokevirtual 37, 3)) (hq : pc + 3 = q) (hw : wp_X7_hearth x1 x2 K σ) (kk : ∀ (r : Int32) (τ : St), K r τ → At X nL q lv (.int r :: rest) τ) : At X nL pc lv (.int (x2) :: .int (x1) :: .ref (X.kad 75) :: rest) σ := r_callV (n := 2) q hX (k0 := 75) (c_X7_hearth x1 x2) tw_767 tw_768 tw_769 tw_517 tw_770 ⟨by decide +kernel, by decide +kernel, by decide +kernel⟩ hdc (by decide) (As := [.int (x1), .int (x2)]) rfl rfl (by decide) ⟨_, _, _, rfl, rfl, rfl⟩ hst hd hq rfl (K := qI K) hw (kI kk)
theorem k_L_38_X6_tune {X : Cx} {cc : ByteArray} {nL d pc : Nat} {lv : List (Nat × Value)} {rest : List Value} {σ : St} {K : Int32 → St → Prop} (q : Nat) (hX : CxB X RL cc nL d) (hdc : 1 + 1 ≤ d) (x1 : Int32) (x2 : Int32) (hst : (rest.map fun v => v.category).sum ≤ 8) (hd : decode cc pc = .ok (.invokevirtual 38, 3)) (hq : pc + 3 = q) (hw : wp_X6_tune x1 x2 K σ) (kk : ∀ (r : Int32) (τ : St), K r τ → At X nL q lv (.int r :: rest) τ) : At X nL pc lv (.int (x2) :: .int (x1) :: .ref (X.kad 0) :: rest) σ := r_callV (n := 2) q hX (k0 := 0) (c_X6_tune x1 x2) tw_771 tw_772 tw_773 tw_328 tw_774 ⟨by decide +kernel, by decide +kernel, by decide +kernel⟩ hdc (by decide) (As := [.int (x1), .int (x2)]) rfl rfl (by decide) ⟨_, _, _, rfl, rfl, rfl⟩ hst hd hq rfl (K := qI K) hw (kI kk)
theorem k_L_41_X7_tune {X : Cx} {cc : ByteArray} {nL d pc : Nat} {lv : List (Nat × Value)} {rest : List Value} {σ : St} {K : Int32 → St → Prop} (q : Nat) (hX : CxB X RL cc nL d) (hdc : 2 + 1 ≤ d) (x1 : Int32) (x2 : Int32) (hst : (rest.map fun v => v.category).sum ≤ 8) (hd : decode cc pc = .ok (.invokevirtual 41, 3)) (hq : pc + 3 = q) (hw : wp_X7_tune x1 x2 K σ) (kk : ∀ (r : Int32) (τ : St), K r τ → At X nL q lv (.int r :: rest) τ) : At X nL pc lv (.int (x2) :: .int (x1) :: .ref (X.kad 75) :: rest) σ := r_callV (n := 2) q hX (k0 := 75) (c_X7_tune x1 x2) tw_775 tw_776 tw_777 tw_517 tw_778 ⟨by decide +kernel, by decide +kernel, by decide +kernel⟩ hdc (by decide) (As := [.int (x1), .int (x2)]) rfl rfl (by decide) ⟨_, _, _, rfl, rfl, rfl⟩ hst hd hq rfl (K := qI K) hw (kI kk)
theorem k_L_42_X6_wind {X : Cx} {cc : ByteArray} {nL d pc : Nat} {lv : List (Nat × Value)} {rest : List Value} {σ : St} {K : Int32 → St → Prop} (q : Nat) (hX : CxB X RL cc nL d) (hdc : 2 + 1 ≤ d) (x1 : Int32) (x2 : Int32) (x3 : Int32) (hst : (rest.map fun v => v.category).sum ≤ 8) (hd : decode cc pc = .ok (.invokevirtual 42, 3)) (hq : pc + 3 = q) (hw : wp_X6_wind x1 x2 x3 K σ) (kk : ∀ (r : Int32) (τ : St), K r τ → At X nL q lv (.int r :: rest) τ) : At X nL pc lv (.int (x3) :: .int (x2) :: .int (x1) :: .ref (X.kad 0) :: rest) σ := r_callV (n := 3) q hX (k0 := 0) (c_X6_wind x1 x2 x3) tw_779 tw_780 tw_781 tw_328 tw_782 ⟨by decide +kernel, by decide +kernel, by decide +kernel⟩ hdc (by decide) (As := [.int (x1), .int (x2), .int (x3)]) rfl rfl (by decide) ⟨_, _, _, rfl, rfl, rfl⟩ hst hd hq rfl (K := qI K) hw (kI kk)
theorem k_L_46_X7_wind {X : Cx} {cc : ByteArray} {nL d pc : Nat} {lv : List (Nat × Value)} {rest : List Value} {σ : St} {K : Int32 → St → Prop} (q : Nat) (hX : CxB X RL cc nL d) (hdc : 3 + 1 ≤ d) (x1 : Int32) (x2 : Int32) (x3 : Int32) (hst : (rest.map fun v => v.category).sum ≤ 8) (hd : decode cc pc = .ok (.invokevirtual 46, 3)) (hq : pc + 3 = q) (hw : wp_X7_wind x1 x2 x3 K σ) (kk : ∀ (r : Int32) (τ : St), K r τ → At X nL q lv (.int r :: rest) τ) : At X nL pc lv (.int (x3) :: .int (x2) :: .int (x1) :: .ref (X.kad 75) :: rest) σ := r_callV (n := 3) q hX (k0 := 75) (c_X7_wind x1 x2 x3) tw_783 tw_784 tw_785 tw_517 tw_786 ⟨by decide +kernel, by decide +kernel, by decide +kernel⟩ hdc (by decide) (As := [.int (x1), .int (x2), .int (x3)]) rfl rfl (by decide) ⟨_, _, _, rfl, rfl, rfl⟩ hst hd hq rfl (K := qI K) hw (kI kk)
theorem k_L_47_X6_many {X : Cx} {cc : ByteArray} {nL d pc : Nat} {lv : List (Nat × Value)} {rest : List Value} {σ : St} {K : Int64 → St → Prop} (q : Nat) (hX : CxB X RL cc nL d) (hdc : 3 + 1 ≤ d) (x1 : Int32) (hst : (rest.map fun v => v.category).sum ≤ 8) (hd : decode cc pc = .ok (.invokevirtual 47, 3)) (hq : pc + 3 = q) (hw : wp_X6_many x1 K σ) (kk : ∀ (r : Int64) (τ : St), K r τ → At X nL q lv (.long r :: rest) τ) : At X nL pc lv (.int (x1) :: .ref (X.kad 0) :: rest) σ := r_callV (n := 1) q hX (k0 := 0) (c_X6_many x1) tw_787 tw_788 tw_789 tw_328 tw_790 ⟨by decide +kernel, by decide +kernel, by decide +kernel⟩ hdc (by decide) (As := [.int (x1)]) rfl rfl (by decide) ⟨_, _, _, rfl, rfl, rfl⟩ hst hd hq rfl (K := qJ K) hw (kJ kk)
theorem k_L_51_X7_many {X : Cx} {cc : ByteArray} {nL d pc : Nat} {lv : List (Nat × Value)} {rest : List Value} {σ : St} {K : Int64 → St → Prop} (q : Nat) (hX : CxB X RL cc nL d) (hdc : 4 + 1 ≤ d) (x1 : Int32) (hst : (rest.map fun v => v.category).sum ≤ 8) (hd : decode cc pc = .ok (.invokevirtual 51, 3)) (hq : pc + 3 = q) (hw : wp_X7_many x1 K σ) (kk : ∀ (r : Int64) (τ : St), K r τ → At X nL q lv (.long r :: rest) τ) : At X nL pc lv (.int (x1) :: .ref (X.kad 75) :: rest) σ := r_callV (n := 1) q hX (k0 := 75) (c_X7_many x1) tw_791 tw_792 tw_793 tw_517 tw_794 ⟨by decide +kernel, by decide +kernel, by decide +kernel⟩ hdc (by decide) (As := [.int (x1)]) rfl rfl (by decide) ⟨_, _, _, rfl, rfl, rfl⟩ hst hd hq rfl (K := qJ K) hw (kJ kk)
theorem k_L_52_X6_one {X : Cx} {cc : ByteArray} {nL d pc : Nat} {lv : List (Nat × Value)} {rest : List Value} {σ : St} {K : Int32 → St → Prop} (q : Nat) (hX : CxB X RL cc nL d) (hdc : 5 + 1 ≤ d) (x1 : Int32) (x2 : Int32) (hst : (rest.map fun v => v.category).sum ≤ 8) (hd : decode cc pc = .ok (.invokevirtual 52, 3)) (hq : pc + 3 = q) (hw : wp_X6_one x1 x2 K σ) (kk : ∀ (r : Int32) (τ : St), K r τ → At X nL q lv (.int r :: rest) τ) : At X nL pc lv (.int (x2) :: .int (x1) :: .ref (X.kad 0) :: rest) σ := r_callV (n := 2) q hX (k0 := 0) (c_X6_one x1 x2) tw_795 tw_796 tw_797 tw_328 tw_798 ⟨by decide +kernel, by decide +kernel, by decide +kernel⟩ hdc (by decide) (As := [.int (x1), .int (x2)]) rfl rfl (by decide) ⟨_, _, _, rfl, rfl, rfl⟩ hst hd hq rfl (K := qI K) hw (kI kk)
theorem k_L_55_X7_one {X : Cx} {cc : ByteArray} {nL d pc : Nat} {lv : List (Nat × Value)} {rest : List Value} {σ : St} {K : Int32 → St → Prop} (q : Nat) (hX : CxB X RL cc nL d) (hdc : 5 + 1 ≤ d) (x1 : Int32) (x2 : Int32) (hst : (rest.map fun v => v.category).sum ≤ 8) (hd : decode cc pc = .ok (.invokevirtual 55, 3)) (hq : pc + 3 = q) (hw : wp_X7_one x1 x2 K σ) (kk : ∀ (r : Int32) (τ : St), K r τ → At X nL q lv (.int r :: rest) τ) : At X nL pc lv (.int (x2) :: .int (x1) :: .ref (X.kad 75) :: rest) σ := r_callV (n := 2) q hX (k0 := 75) (c_X7_one x1 x2) tw_799 tw_800 tw_801 tw_517 tw_802 ⟨by decide +kernel, by decide +kernel, by decide +kernel⟩ hdc (by decide) (As := [.int (x1), .int (x2)]) rfl rfl (by decide) ⟨_, _, _, rfl, rfl, rfl⟩ hst hd hq rfl (K := qI K) hw (kI kk)
theorem k_L_56_X6_together {X : Cx} {cc : ByteArray} {nL d pc : Nat} {lv : List (Nat × Value)} {rest : List Value} {σ : St} {K : Int32 → St → Prop} (q : Nat) (hX : CxB X RL cc nL d) (hdc : 123 + 1 ≤ d) (x1 : Int32) (x2 : Int32) (hst : (rest.map fun v => v.category).sum ≤ 8) (hd : decode cc pc = .ok (.invokevirtual 56, 3)) (hq : pc + 3 = q) (hw : wp_X6_together x1 x2 K σ) (kk : ∀ (r : Int32) (τ : St), K r τ → At X nL q lv (.int r :: rest) τ) : At X nL pc lv (.int (x2) :: .int (x1) :: .ref (X.kad 0) :: rest) σ := r_callV (n := 2) q hX (k0 := 0) (c_X6_together x1 x2) tw_803 tw_804 tw_805 tw_328 tw_806 ⟨by decide +kernel, by decide +kernel, by decide +kernel⟩ hdc (by decide) (As := [.int (x1), .int (x2)]) rfl rfl (by decide) ⟨_, _, _, rfl, rfl, rfl⟩ hst hd hq rfl (K := qI K) hw (kI kk)
theorem k_L_59_X7_together {X : Cx} {cc : ByteArray} {nL d pc : Nat} {lv : List (Nat × Value)} {rest : List Value} {σ : St} {K : Int32 → St → Prop} (q : Nat) (hX : CxB X RL cc nL d) (hdc : 7 + 1 ≤ d) (x1 : Int32) (x2 : Int32) (hst : (rest.map fun v => v.category).sum ≤ 8) (hd : decode cc pc = .ok (.invokevirtual 59, 3)) (hq : pc + 3 = q) (hw : wp_X7_together x1 x2 K σ) (kk : ∀ (r : Int32) (τ : St), K r τ → At X nL q lv (.int r :: rest) τ) : At X nL pc lv (.int (x2) :: .int (x1) :: .ref (X.kad 75) :: rest) σ := r_callV (n := 2) q hX (k0 := 75) (c_X7_together x1 x2) tw_807 tw_808 tw_809 tw_517 tw_810 ⟨by decide +kernel, by decide +kernel, by decide +kernel⟩ hdc (by decide) (As := [.int (x1), .int (x2)]) rfl rfl (by decide) ⟨_, _, _, rfl, rfl, rfl⟩ hst hd hq rfl (K := qI K) hw (kI kk)
theorem k_L_60_X6_share {X : Cx} {cc : ByteArray} {nL d pc : Nat} {lv : List (Nat × Value)} {rest : List Value} {σ : St} {K : Int32 → St → Prop} (q : Nat) (hX : CxB X RL cc nL d) (hdc : 124 + 1 ≤ d) (x1 : Int32) (hst : (rest.map fun v => v.category).sum ≤ 8) (hd : decode cc pc = .ok (.invokevirtual 60, 3)) (hq : pc + 3 = q) (hw : wp_X6_share x1 K σ) (kk : ∀ (r : Int32) (τ : St), K r τ → At X nL q lv (.int r :: rest) τ) : At X nL pc lv (.int (x1) :: .ref (X.kad 0) :: rest) σ := r_callV (n := 1) q hX (k0 := 0) (c_X6_share x1) tw_811 tw_812 tw_813 tw_328 tw_814 ⟨by decide +kernel, by decide +kernel, by decide +kernel⟩ hdc (by decide) (As := [.int (x1)]) rfl rfl (by decide) ⟨_, _, _, rfl, rfl, rfl⟩ hst hd hq rfl (K := qI K) hw (kI kk)
theorem k_L_64_X7_share {X : Cx} {cc : ByteArray} {nL d pc : Nat} {lv : List (Nat × Value)} {rest : List Value} {σ : St} {K : Int32 → St → Prop} (q : Nat) (hX : CxB X RL cc nL d) (hdc : 7 + 1 ≤ d) (x1 : Int32) (hst : (rest.map fun v => v.category).sum ≤ 8) (hd : decode cc pc = .ok (.invokevirtual 64, 3)) (hq : pc + 3 = q) (hw : wp_X7_share x1 K σ) (kk : ∀ (r : Int32) (τ : St), K r τ → At X nL q lv (.int r :: rest) τ) : At X nL pc lv (.int (x1) :: .ref (X.kad 75) :: rest) σ := r_callV (n := 1) q hX (k0 := 75) (c_X7_share x1) tw_815 tw_816 tw_817 tw_517 tw_818 ⟨by decide +kernel, by decide +kernel, by decide +kernel⟩ hdc (by decide) (As := [.int (x1)]) rfl rfl (by decide) ⟨_, _, _, rfl, rfl, rfl⟩ hst hd hq rfl (K := qI K) hw (kI kk)
theorem k_L_65_X6_more {X : Cx} {cc : ByteArray} {nL d pc : Nat} {lv : List (Nat × Value)} {rest : List Value} {σ : St} {K : Int32 → St → Prop} (q : Nat) (hX : CxB X RL cc nL d) (hdc : 123 + 1 ≤ d) (x1 : Int32) (x2 : Int32) (x3 : Int32) (hst : (rest.map fun v => v.category).sum ≤ 8) (hd : decode cc pc = .ok (.invokevirtual 65, 3)) (hq : pc + 3 = q) (hw : wp_X6_more x1 x2 x3 K σ) (kk : ∀ (r : Int32) (τ : St), K r τ → At X nL q lv (.int r :: rest) τ) : At X nL pc lv (.int (x3) :: .int (x2) :: .int (x1) :: .ref (X.kad 0) :: rest) σ := r_callV (n := 3) q hX (k0 := 0) (c_X6_more x1 x2 x3) tw_819 tw_820 tw_821 tw_328 tw_822 ⟨by decide +kernel, by decide +kernel, by decide +kernel⟩ hdc (by decide) (As := [.int (x1), .int (x2), .int (x3)]) rfl rfl (by decide) ⟨_, _, _, rfl, rfl, rfl⟩ hst hd hq rfl (K := qI K) hw (kI kk)
theorem k_L_68_X7_more {X : Cx} {cc : ByteArray} {nL d pc : Nat} {lv : List (Nat × Value)} {rest : List Value} {σ : St} {K : Int32 → St → Prop} (q : Nat) (hX : CxB X RL cc nL d) (hdc : 7 + 1 ≤ d) (x1 : Int32) (x2 : Int32) (x3 : Int32) (hst : (rest.map fun v => v.category).sum ≤ 8) (hd : decode cc pc = .ok (.invokevirtual 68, 3)) (hq : pc + 3 = q) (hw : wp_X7_more x1 x2 x3 K σ) (kk : ∀ (r : Int32) (τ : St), K r τ → At X nL q lv (.int r :: rest) τ) : At X nL pc lv (.int (x3) :: .int (x2) :: .int (x1) :: .ref (X.kad 75) :: rest) σ := r_callV (n := 3) q hX (k0 := 75) (c_X7_more x1 x2 x3) tw_823 tw_824 tw_825 tw_517 tw_826 ⟨by decide +kernel, by decide +kernel, by decide +kernel⟩ hdc (by decide) (As := [.int (x1), .int (x2), .int (x3)]) rfl rfl (by decide) ⟨_, _, _, rfl, rfl, rfl⟩ hst hd hq rfl (K := qI K) hw (kI kk)
theorem k_L_69_X6_take {X : Cx} {cc : ByteArray} {nL d pc : Nat} {lv : List (Nat × Value)} {rest : List Value} {σ : St} {K : Int32 → St → Prop} (q : Nat) (hX : CxB X RL cc nL d) (hdc : 123 + 1 ≤ d) (x1 : Int32) (hst : (rest.map fun v => v.category).sum ≤ 8) (hd : decode cc pc = .ok (.invokevirtual 69, 3)) (hq : pc + 3 = q) (hw : wp_X6_take x1 K σ) (kk : ∀ (r : Int32) (τ : St), K r τ → At X nL q lv (.int r :: rest) τ) : At X nL pc lv (.int (x1) :: .ref (X.kad 0) :: rest) σ := r_callV (n := 1) q hX (k0 := 0) (c_X6_take x1) tw_827 tw_828 tw_829 tw_328 tw_830 ⟨by decide +kernel, by decide +kernel, by decide +kernel⟩ hdc (by decide) (As := [.int (x1)]) rfl rfl (by decide) ⟨_, _, _, rfl, rfl, rfl⟩ hst hd hq rfl (K := qI K) hw (kI kk)
theorem k_L_72_X7_take {X : Cx} {cc : ByteArray} {nL d pc : Nat} {lv : List (Nat × Value)} {rest : List Value} {σ : St} {K : Int32 → St → Prop} (q : Nat) (hX : CxB X RL cc nL d) (hdc : 7 + 1 ≤ d) (x1 : Int32) (hst : (rest.map fun v => v.category).sum ≤ 8) (hd : decode cc pc = .ok (.invokevirtual 72, 3)) (hq : pc + 3 = q) (hw : wp_X7_take x1 K σ) (kk : ∀ (r : Int32) (τ : St), K r τ → At X nL q lv (.int r :: rest) τ) : At X nL pc lv (.int (x1) :: .ref (X.kad 75) :: rest) σ := r_callV (n := 1) q hX (k0 := 75) (c_X7_take x1) tw_831 tw_832 tw_833 tw_517 tw_834 ⟨by decide +kernel, by decide +kernel, by decide +kernel⟩ hdc (by decide) (As := [.int (x1)]) rfl rfl (by decide) ⟨_, _, _, rfl, rfl, rfl⟩ hst hd hq rfl (K := qI K) hw (kI kk)
theorem k_L_73_X6_way {X : Cx} {cc : ByteArray} {nL d pc : Nat} {lv : List (Nat × Value)} {rest : List Value} {σ : St} {K : Int32 → St → Prop} (q : Nat) (hX : CxB X RL cc nL d) (hdc : 2 + 1 ≤ d) (x1 : Int32) (x2 : Int32) (hst : (rest.map fun v => v.category).sum ≤ 8) (hd : decode cc pc = .ok (.invokevirtual 73, 3)) (hq : pc + 3 = q) (hw : wp_X6_way x1 x2 K σ) (kk : ∀ (r : Int32) (τ : St), K r τ → At X nL q lv (.int r :: rest) τ) : At X nL pc lv (.int (x2) :: .int (x1) :: .ref (X.kad 0) :: rest) σ := r_callV (n := 2) q hX (k0 := 0) (c_X6_way x1 x2) tw_835 tw_836 tw_837 tw_328 tw_838 ⟨by decide +kernel, by decide +kernel, by decide +kernel⟩ hdc (by decide) (As := [.int (x1), .int (x2)]) rfl rfl (by decide) ⟨_, _, _, rfl, rfl, rfl⟩ hst hd hq rfl (K := qI K) hw (kI kk)
theorem k_L_76_X7_way {X : Cx} {cc : ByteArray} {nL d pc : Nat} {lv : List (Nat × Value)} {rest : List Value} {σ : St} {K : Int32 → St → Prop} (q : Nat) (hX : CxB X RL cc nL d) (hdc : 3 + 1 ≤ d) (x1 : Int32) (x2 : Int32) (hst : (rest.map fun v => v.category).sum ≤ 8) (hd : decode cc pc = .ok (.invokevirtual 76, 3)) (hq : pc + 3 = q) (hw : wp_X7_way x1 x2 K σ) (kk : ∀ (r : Int32) (τ : St), K r τ → At X nL q lv (.int r :: rest) τ) : At X nL pc lv (.int (x2) :: .int (x1) :: .ref (X.kad 75) :: rest) σ := r_callV (n := 2) q hX (k0 := 75) (c_X7_way x1 x2) tw_839 tw_840 tw_841 tw_517 tw_842 ⟨by decide +kernel, by decide +kernel, by decide +kernel⟩ hdc (by decide) (As := [.int (x1), .int (x2)]) rfl rfl (by decide) ⟨_, _, _, rfl, rfl, rfl⟩ hst hd hq rfl (K := qI K) hw (kI kk)
theorem k_L_77_X6_turn {X : Cx} {cc : ByteArray} {nL d pc : Nat} {lv : List (Nat × Value)} {rest : List Value} {σ : St} {K : Int32 → St → Prop} (q : Nat) (hX : CxB X RL cc nL d) (hdc : 2 + 1 ≤ d) (x1 : Int32) (x2 : Int32) (x3 : Int32) (hst : (rest.map fun v => v.category).sum ≤ 8) (hd : decode cc pc = .ok (.invokevirtual 77, 3)) (hq : pc + 3 = q) (hw : wp_X6_turn x1 x2 x3 K σ) (kk : ∀ (r : Int32) (τ : St), K r τ → At X nL q lv (.int r :: rest) τ) : At X nL pc lv (.int (x3) :: .int (x2) :: .int (x1) :: .ref (X.kad 0) :: rest) σ := r_callV (n := 3) q hX (k0 := 0) (c_X6_turn x1 x2 x3) tw_843 tw_844 tw_845 tw_328 tw_846 ⟨by decide +kernel, by decide +kernel, by decide +kernel⟩ hdc (by decide) (As := [.int (x1), .int (x2), .int (x3)]) rfl rfl (by decide) ⟨_, _, _, rfl, rfl, rfl⟩ hst hd hq rfl (K := qI K) hw (kI kk)
theorem k_L_80_X7_turn {X : Cx} {cc : ByteArray} {nL d pc : Nat} {lv : List (Nat × Value)} {rest : List Value} {σ : St} {K : Int32 → St → Prop} (q : Nat) (hX : CxB X RL cc nL d) (hdc : 3 + 1 ≤ d) (x1 : Int32) (x2 : Int32) (x3 : Int32) (hst : (rest.map fun v => v.category).sum ≤ 8) (hd : decode cc pc = .ok (.invokevirtual 80, 3)) (hq : pc + 3 = q) (hw : wp_X7_turn x1 x2 x3 K σ) (kk : ∀ (r : Int32) (τ : St), K r τ → At X nL q lv (.int r :: rest) τ) : At X nL pc lv (.int (x3) :: .int (x2) :: .int (x1) :: .ref (X.kad 75) :: rest) σ := r_callV (n := 3) q hX (k0 := 75) (c_X7_turn x1 x2 x3) tw_847 tw_848 tw_849 tw_517 tw_850 ⟨by decide +kernel, by decide +kernel, by decide +kernel⟩ hdc (by decide) (As := [.int (x1), .int (x2), .int (x3)]) rfl rfl (by decide) ⟨_, _, _, rfl, rfl, rfl⟩ hst hd hq rfl (K := qI K) hw (kI kk)
theorem k_L_81_X6_judge {X : Cx} {cc : ByteArray} {nL d pc : Nat} {lv : List (Nat × Value)} {rest : List Value} {σ : St} {K : Int32 → St → Prop} (q : Nat) (hX : CxB X RL cc nL d) (hdc : 6 + 1 ≤ d) (x1 : Int32) (hst : (rest.map fun v => v.category).sum ≤ 8) (hd : decode cc pc = .ok (.invokevirtual 81, 3)) (hq : pc + 3 = q) (hw : wp_X6_judge x1 K σ) (kk : ∀ (r : Int32) (τ : St), K r τ → At X nL q lv (.int r :: rest) τ) : At X nL pc lv (.int (x1) :: .ref (X.kad 0) :: rest) σ := r_callV (n := 1) q hX (k0 := 0) (c_X6_judge x1) tw_851 tw_852 tw_853 tw_328 tw_854 ⟨by decide +kernel, by decide +kernel, by decide +kernel⟩ hdc (by decide) (As := [.int (x1)]) rfl rfl (by decide) ⟨_, _, _, rfl, rfl, rfl⟩ hst hd hq rfl (K := qI K) hw (kI kk)
theorem k_L_84_X7_judge {X : Cx} {cc : ByteArray} {nL d pc : Nat} {lv : List (Nat × Value)} {rest : List Value} {σ : St} {K : Int32 → St → Prop} (q : Nat) (hX : CxB X RL cc nL d) (hdc : 4 + 1 ≤ d) (x1 : Int32) (hst : (rest.map fun v => v.category).sum ≤ 8) (hd : decode cc pc = .ok (.invokevirtual 84, 3)) (hq : pc + 3 = q) (hw : wp_X7_judge x1 K σ) (kk : ∀ (r : Int32) (τ : St), K r τ → At X nL q lv (.int r :: rest) τ) : At X nL pc lv (.int (x1) :: .ref (X.kad 75) :: rest) σ := r_callV (n := 1) q hX (k0 := 75) (c_X7_judge x1) tw_855 tw_713 tw_714 tw_517 tw_715 ⟨by decide +kernel, by decide +kernel, by decide +kernel⟩ hdc (by decide) (As := [.int (x1)]) rfl rfl (by decide) ⟨_, _, _, rfl, rfl, rfl⟩ hst hd hq rfl (K := qI K) hw (kI kk)
theorem k_L_85_X6_plan {X : Cx} {cc : ByteArray} {nL d pc : Nat} {lv : List (Nat × Value)} {rest : List Value} {σ : St} {K : Int32 → St → Prop} (q : Nat) (hX : CxB X RL cc nL d) (hdc : 4 + 1 ≤ d) (x1 : Int32) (x2 : Int32) (hst : (rest.map fun v => v.category).sum ≤ 8) (hd : decode cc pc = .ok (.invokevirtual 85, 3)) (hq : pc + 3 = q) (hw : wp_X6_plan x1 x2 K σ) (kk : ∀ (r : Int32) (τ : St), K r τ → At X nL q lv (.int r :: rest) τ) : At X nL pc lv (.int (x2) :: .int (x1) :: .ref (X.kad 0) :: rest) σ := r_callV (n := 2) q hX (k0 := 0) (c_X6_plan x1 x2) tw_856 tw_857 tw_858 tw_328 tw_859 ⟨by decide +kernel, by decide +kernel, by decide +kernel⟩ hdc (by decide) (As := [.int (x1), .int (x2)]) rfl rfl (by decide) ⟨_, _, _, rfl, rfl, rfl⟩ hst hd hq rfl (K := qI K) hw (kI kk)
theorem k_L_88_X7_plan {X : Cx} {cc : ByteArray} {nL d pc : Nat} {lv : List (Nat × Value)} {rest : List Value} {σ : St} {K : Int32 → St → Prop} (q : Nat) (hX : CxB X RL cc nL d) (hdc : 5 + 1 ≤ d) (x1 : Int32) (x2 : Int32) (hst : (rest.map fun v => v.category).sum ≤ 8) (hd : decode cc pc = .ok (.invokevirtual 88, 3)) (hq : pc + 3 = q) (hw : wp_X7_plan x1 x2 K σ) (kk : ∀ (r : Int32) (τ : St), K r τ → At X nL q lv (.int r :: rest) τ) : At X nL pc lv (.int (x2) :: .int (x1) :: .ref (X.kad 75) :: rest) σ := r_callV (n := 2) q hX (k0 := 75) (c_X7_plan x1 x2) tw_860 tw_861 tw_862 tw_517 tw_863 ⟨by decide +kernel, by decide +kernel, by decide +kernel⟩ hdc (by decide) (As := [.int (x1), .int (x2)]) rfl rfl (by decide) ⟨_, _, _, rfl, rfl, rfl⟩ hst hd hq rfl (K := qI K) hw (kI kk)
theorem k_L_89_X6_draw {X : Cx} {cc : ByteArray} {nL d pc : Nat} {lv : List (Nat × Value)} {rest : List Value} {σ : St} {K : Int32 → St → Prop} (q : Nat) (hX : CxB X RL cc nL d) (hdc : 5 + 1 ≤ d) (x1 : Int32) (x2 : Int32) (hst : (rest.map fun v => v.category).sum ≤ 8) (hd : decode cc pc = .ok (.invokevirtual 89, 3)) (hq : pc + 3 = q) (hw : wp_X6_draw x1 x2 K σ) (kk : ∀ (r : Int32) (τ : St), K r τ → At X nL q lv (.int r :: rest) τ) : At X nL pc lv (.int (x2) :: .int (x1) :: .ref (X.kad 0) :: rest) σ := r_callV (n := 2) q hX (k0 := 0) (c_X6_draw x1 x2) tw_864 tw_865 tw_866 tw_328 tw_867 ⟨by decide +kernel, by decide +kernel, by decide +kernel⟩ hdc (by decide) (As := [.int (x1), .int (x2)]) rfl rfl (by decide) ⟨_, _, _, rfl, rfl, rfl⟩ hst hd hq rfl (K := qI K) hw (kI kk)
theorem k_L_92_X7_draw {X : Cx} {cc : ByteArray} {nL d pc : Nat} {lv : List (Nat × Value)} {rest : List Value} {σ : St} {K : Int32 → St → Prop} (q : Nat) (hX : CxB X RL cc nL d) (hdc : 6 + 1 ≤ d) (x1 : Int32) (x2 : Int32) (hst : (rest.map fun v => v.category).sum ≤ 8) (hd : decode cc pc = .ok (.invokevirtual 92, 3)) (hq : pc + 3 = q) (hw : wp_X7_draw x1 x2 K σ) (kk : ∀ (r : Int32) (τ : St), K r τ → At X nL q lv (.int r :: rest) τ) : At X nL pc lv (.int (x2) :: .int (x1) :: .ref (X.kad 75) :: rest) σ := r_callV (n := 2) q hX (k0 := 75) (c_X7_draw x1 x2) tw_868 tw_869 tw_870 tw_517 tw_871 ⟨by decide +kernel, by decide +kernel, by decide +kernel⟩ hdc (by decide) (As := [.int (x1), .int (x2)]) rfl rfl (by decide) ⟨_, _, _, rfl, rfl, rfl⟩ hst hd hq rfl (K := qI K) hw (kI kk)
theorem k_L_93_X6_smokes {X : Cx} {cc : ByteArray} {nL d pc : Nat} {lv : List (Nat × Value)} {rest : List Value} {σ : St} {K : Int32 → St → Prop} (q : Nat) (hX : CxB X RL cc nL d) (hdc : 6 + 1 ≤ d) (x1 : Int32) (x2 : Int32) (x3 : Int32) (hst : (rest.map fun v => v.category).sum ≤ 8) (hd : decode cc pc = .ok (.invokevirtual 93, 3)) (hq : pc + 3 = q) (hw : wp_X6_smokes x1 x2 x3 K σ) (kk : ∀ (r : Int32) (τ : St), K r τ → At X nL q lv (.int r :: rest) τ) : At X nL pc lv (.int (x3) :: .int (x2) :: .int (x1) :: .ref (X.kad 0) :: rest) σ := r_callV (n := 3) q hX (k0 := 0) (c_X6_smokes x1 x2 x3) tw_872 tw_873 tw_874 tw_328 tw_875 ⟨by decide +kernel, by decide +kernel, by decide +kernel⟩ hdc (by decide) (As := [.int (x1), .int (x2), .int (x3)]) rfl rfl (by decide) ⟨_, _, _, rfl, rfl, rfl⟩ hst hd hq rfl (K := qI K) hw (kI kk)
theorem k_L_96_X7_smokes {X : Cx} {cc : ByteArray} {nL d pc : Nat} {lv : List (Nat × Value)} {rest : List Value} {σ : St} {K : Int32 → St → Prop} (q : Nat) (hX : CxB X RL cc nL d) (hdc : 6 + 1 ≤ d) (x1 : Int32) (x2 : Int32) (x3 : Int32) (hst : (rest.map fun v => v.category).sum ≤ 8) (hd : decode cc pc = .ok (.invokevirtual 96, 3)) (hq : pc + 3 = q) (hw : wp_X7_smokes x1 x2 x3 K σ) (kk : ∀ (r : Int32) (τ : St), K r τ → At X nL q lv (.int r :: rest) τ) : At X nL pc lv (.int (x3) :: .int (x2) :: .int (x1) :: .ref (X.kad 75) :: rest) σ := r_callV (n := 3) q hX (k0 := 75) (c_X7_smokes x1 x2 x3) tw_876 tw_877 tw_878 tw_517 tw_879 ⟨by decide +kernel, by decide +kernel, by decide +kernel⟩ hdc (by decide) (As := [.int (x1), .int (x2), .int (x3)]) rfl rfl (by decide) ⟨_, _, _, rfl, rfl, rfl⟩ hst hd hq rfl (K := qI K) hw (kI kk)
theorem k_L_97_X6_mend {X : Cx} {cc : ByteArray} {nL d pc : Nat} {lv : List (Nat × Value)} {rest : List Value} {σ : St} {K : Int32 → St → Prop} (q : Nat) (hX : CxB X RL cc nL d) (hdc : 6 + 1 ≤ d) (x1 : Int32) (hst : (rest.map fun v => v.category).sum ≤ 8) (hd : decode cc pc = .ok (.invokevirtual 97, 3)) (hq : pc + 3 = q) (hw : wp_X6_mend x1 K σ) (kk : ∀ (r : Int32) (τ : St), K r τ → At X nL q lv (.int r :: rest) τ) : At X nL pc lv (.int (x1) :: .ref (X.kad 0) :: rest) σ := r_callV (n := 1) q hX (k0 := 0) (c_X6_mend x1) tw_880 tw_881 tw_882 tw_328 tw_883 ⟨by decide +kernel, by decide +kernel, by decide +kernel⟩ hdc (by decide) (As := [.int (x1)]) rfl rfl (by decide) ⟨_, _, _, rfl, rfl, rfl⟩ hst hd hq rfl (K := qI K) hw (kI kk)
theorem k_L_100_X7_mend {X : Cx} {cc : ByteArray} {nL d pc : Nat} {lv : List (Nat × Value)} {rest : List Value} {σ : St} {K : Int32 → St → Prop} (q : Nat) (hX : CxB X RL cc nL d) (hdc : 6 + 1 ≤ d) (x1 : Int32) (hst : (rest.map fun v => v.category).sum ≤ 8) (hd : decode cc pc = .ok (.invokevirtual 100, 3)) (hq : pc + 3 = q) (hw : wp_X7_mend x1 K σ) (kk : ∀ (r : Int32) (τ : St), K r τ → At X nL q lv (.int r :: rest) τ) : At X nL pc lv (.int (x1) :: .ref (X.kad 75) :: rest) σ := r_callV (n := 1) q hX (k0 := 75) (c_X7_mend x1) tw_884 tw_885 tw_886 tw_517 tw_887 ⟨by decide +kernel, by decide +kernel, by decide +kernel⟩ hdc (by decide) (As := [.int (x1)]) rfl rfl (by decide) ⟨_, _, _, rfl, rfl, rfl⟩ hst hd hq rfl (K := qI K) hw (kI kk)
theorem k_L_101_X6_moved {X : Cx} {cc : ByteArray} {nL d pc : Nat} {lv : List (Nat × Value)} {rest : List Value} {σ : St} {K : Int32 → St → Prop} (q : Nat) (hX : CxB X RL cc nL d) (hdc : 124 + 1 ≤ d) (x1 : Int32) (x2 : Int32) (hst : (rest.map fun v => v.category).sum ≤ 8) (hd : decode cc pc = .ok (.invokevirtual 101, 3)) (hq : pc + 3 = q) (hw : wp_X6_moved x1 x2 K σ) (kk : ∀ (r : Int32) (τ : St), K r τ → At X nL q lv (.int r :: rest) τ) : At X nL pc lv (.int (x2) :: .int (x1) :: .ref (X.kad 0) :: rest) σ := r_callV (n := 2) q hX (k0 := 0) (c_X6_moved x1 x2) tw_888 tw_889 tw_890 tw_328 tw_891 ⟨by decide +kernel, by decide +kernel, by decide +kernel⟩ hdc (by decide) (As := [.int (x1), .int (x2)]) rfl rfl (by decide) ⟨_, _, _, rfl, rfl, rfl⟩ hst hd hq rfl (K := qI K) hw (kI kk)
theorem k_L_104_X7_moved {X : Cx} {cc : ByteArray} {nL d pc : Nat} {lv : List (Nat × Value)} {rest : List Value} {σ : St} {K : Int32 → St → Prop} (q : Nat) (hX : CxB X RL cc nL d) (hdc : 8 + 1 ≤ d) (x1 : Int32) (x2 : Int32) (hst : (rest.map fun v => v.category).sum ≤ 8) (hd : decode cc pc = .ok (.invokevirtual 104, 3)) (hq : pc + 3 = q) (hw : wp_X7_moved x1 x2 K σ) (kk : ∀ (r : Int32) (τ : St), K r τ → At X nL q lv (.int r :: rest) τ) : At X nL pc lv (.int (x2) :: .int (x1) :: .ref (X.kad 75) :: rest) σ := r_callV (n := 2) q hX (k0 := 75) (c_X7_moved x1 x2) tw_892 tw_893 tw_894 tw_517 tw_895 ⟨by decide +kernel, by decide +kernel, by decide +kernel⟩ hdc (by decide) (As := [.int (x1), .int (x2)]) rfl rfl (by decide) ⟨_, _, _, rfl, rfl, rfl⟩ hst hd hq rfl (K := qI K) hw (kI kk)
theorem k_L_105_X6_mark {X : Cx} {cc : ByteArray} {nL d pc : Nat} {lv : List (Nat × Value)} {rest : List Value} {σ : St} {K : Int32 → St → Prop} (q : Nat) (hX : CxB X RL cc nL d) (hdc : 3 + 1 ≤ d) (x1 : Int32) (x2 : Int32) (hst : (rest.map fun v => v.category).sum ≤ 8) (hd : decode cc pc = .ok (.invokevirtual 105, 3)) (hq : pc + 3 = q) (hw : wp_X6_mark x1 x2 K σ) (kk : ∀ (r : Int32) (τ : St), K r τ → At X nL q lv (.int r :: rest) τ) : At X nL pc lv (.int (x2) :: .int (x1) :: .ref (X.kad 0) :: rest) σ := r_callV (n := 2) q hX (k0 := 0) (c_X6_mark x1 x2) tw_896 tw_897 tw_898 tw_328 tw_899 ⟨by decide +kernel, by decide +kernel, by decide +kernel⟩ hdc (by decide) (As := [.int (x1), .int (x2)]) rfl rfl (by decide) ⟨_, _, _, rfl, rfl, rfl⟩ hst hd hq rfl (K := qI K) hw (kI kk)
theorem k_L_108_X7_mark {X : Cx} {cc : ByteArray} {nL d pc : Nat} {lv : List (Nat × Value)} {rest : List Value} {σ : St} {K : Int32 → St → Prop} (q : Nat) (hX : CxB X RL cc nL d) (hdc : 3 + 1 ≤ d) (x1 : Int32) (x2 : Int32) (hst : (rest.map fun v => v.category).sum ≤ 8) (hd : decode cc pc = .ok (.invokevirtual 108, 3)) (hq : pc + 3 = q) (hw : wp_X7_mark x1 x2 K σ) (kk : ∀ (r : Int32) (τ : St), K r τ → At X nL q lv (.int r :: rest) τ) : At X nL pc lv (.int (x2) :: .int (x1) :: .ref (X.kad 75) :: rest) σ := r_callV (n := 2) q hX (k0 := 75) (c_X7_mark x1 x2) tw_900 tw_901 tw_902 tw_517 tw_903 ⟨by decide +kernel, by decide +kernel, by decide +kernel⟩ hdc (by decide) (As := [.int (x1), .int (x2)]) rfl rfl (by decide) ⟨_, _, _, rfl, rfl, rfl⟩ hst hd hq rfl (K := qI K) hw (kI kk)
theorem k_L_109_X6_guess {X : Cx} {cc : ByteArray} {nL d pc : Nat} {lv : List (Nat × Value)} {rest : List Value} {σ : St} {K : Int64 → St → Prop} (q : Nat) (hX : CxB X RL cc nL d) (hdc : 3 + 1 ≤ d) (x1 : Int32) (hst : (rest.map fun v => v.category).sum ≤ 8) (hd : decode cc pc = .ok (.invokevirtual 109, 3)) (hq : pc + 3 = q) (hw : wp_X6_guess x1 K σ) (kk : ∀ (r : Int64) (τ : St), K r τ → At X nL q lv (.long r :: rest) τ) : At X nL pc lv (.int (x1) :: .ref (X.kad 0) :: rest) σ := r_callV (n := 1) q hX (k0 := 0) (c_X6_guess x1) tw_904 tw_905 tw_906 tw_328 tw_907 ⟨by decide +kernel, by decide +kernel, by decide +kernel⟩ hdc (by decide) (As := [.int (x1)]) rfl rfl (by decide) ⟨_, _, _, rfl, rfl, rfl⟩ hst hd hq rfl (K := qJ K) hw (kJ kk)
theorem k_L_112_X7_guess {X : Cx} {cc : ByteArray} {nL d pc : Nat} {lv : List (Nat × Value)} {rest : List Value} {σ : St} {K : Int64 → St → Prop} (q : Nat) (hX : CxB X RL cc nL d) (hdc : 4 + 1 ≤ d) (x1 : Int32) (hst : (rest.map fun v => v.category).sum ≤ 8) (hd : decode cc pc = .ok (.invokevirtual 112, 3)) (hq : pc + 3 = q) (hw : wp_X7_guess x1 K σ) (kk : ∀ (r : Int64) (τ : St), K r τ → At X nL q lv (.long r :: rest) τ) : At X nL pc lv (.int (x1) :: .ref (X.kad 75) :: rest) σ := r_callV (n := 1) q hX (k0 := 75) (c_X7_guess x1) tw_908 tw_909 tw_910 tw_517 tw_911 ⟨by decide +kernel, by decide +kernel, by decide +kernel⟩ hdc (by decide) (As := [.int (x1)]) rfl rfl (by decide) ⟨_, _, _, rfl, rfl, rfl⟩ hst hd hq rfl (K := qJ K) hw (kJ kk)
theorem k_L_113_X6_rate {X : Cx} {cc : ByteArray} {nL d pc : Nat} {lv : List (Nat × Value)} {rest : List Value} {σ : St} {K : Int32 → St → Prop} (q : Nat) (hX : CxB X RL cc nL d) (hdc : 5 + 1 ≤ d) (x1 : Int32) (x2 : Int32) (hst : (rest.map fun v => v.category).sum ≤ 8) (hd : decode cc pc = .ok (.invokevirtual 113, 3)) (hq : pc + 3 = q) (hw : wp_X6_rate x1 x2 K σ) (kk : ∀ (r : Int32) (τ : St), K r τ → At X nL q lv (.int r :: rest) τ) : At X nL pc lv (.int (x2) :: .int (x1) :: .ref (X.kad 0) :: rest) σ := r_callV (n := 2) q hX (k0 := 0) (c_X6_rate x1 x2) tw_912 tw_913 tw_914 tw_328 tw_915 ⟨by decide +kernel, by decide +kernel, by decide +kernel⟩ hdc (by decide) (As := [.int (x1), .int (x2)]) rfl rfl (by decide) ⟨_, _, _, rfl, rfl, rfl⟩ hst hd hq rfl (K := qI K) hw (kI kk)
theorem k_L_116_X7_rate {X : Cx} {cc : ByteArray} {nL d pc : Nat} {lv : List (Nat × Value)} {rest : List Value} {σ : St} {K : Int32 → St → Prop} (q : Nat) (hX : CxB X RL cc nL d) (hdc : 3 + 1 ≤ d) (x1 : Int32) (x2 : Int32) (hst : (rest.map fun v => v.category).sum ≤ 8) (hd : decode cc pc = .ok (.invokevirtual 116, 3)) (hq : pc + 3 = q) (hw : wp_X7_rate x1 x2 K σ) (kk : ∀ (r : Int32) (τ : St), K r τ → At X nL q lv (.int r :: rest) τ) : At X nL pc lv (.int (x2) :: .int (x1) :: .ref (X.kad 75) :: rest) σ := r_callV (n := 2) q hX (k0 := 75) (c_X7_rate x1 x2) tw_916 tw_917 tw_918 tw_517 tw_919 ⟨by decide +kernel, by decide +kernel, by decide +kernel⟩ hdc (by decide) (As := [.int (x1), .int (x2)]) rfl rfl (by decide) ⟨_, _, _, rfl, rfl, rfl⟩ hst hd hq rfl (K := qI K) hw (kI kk)
theorem k_L_117_X6_keep {X : Cx} {cc : ByteArray} {nL d pc : Nat} {lv : List (Nat × Value)} {rest : List Value} {σ : St} {K : Int32 → St → Prop} (q : Nat) (hX : CxB X RL cc nL d) (hdc : 2 + 1 ≤ d) (x1 : Int32) (hst : (rest.map fun v => v.category).sum ≤ 8) (hd : decode cc pc = .ok (.invokevirtual 117, 3)) (hq : pc + 3 = q) (hw : wp_X6_keep x1 K σ) (kk : ∀ (r : Int32) (τ : St), K r τ → At X nL q lv (.int r :: rest) τ) : At X nL pc lv (.int (x1) :: .ref (X.kad 0) :: rest) σ := r_callV (n := 1) q hX (k0 := 0) (c_X6_keep x1) tw_920 tw_921 tw_922 tw_328 tw_923 ⟨by decide +kernel, by decide +kernel, by decide +kernel⟩ hdc (by decide) (As := [.int (x1)]) rfl rfl (by decide) ⟨_, _, _, rfl, rfl, rfl⟩ hst hd hq rfl (K := qI K) hw (kI kk)
theorem k_L_120_X7_keep {X : Cx} {cc : ByteArray} {nL d pc : Nat} {lv : List (Nat × Value)} {rest : List Value} {σ : St} {K : Int32 → St → Prop} (q : Nat) (hX : CxB X RL cc nL d) (hdc : 2 + 1 ≤ d) (x1 : Int32) (hst : (rest.map fun v => v.category).sum ≤ 8) (hd : decode cc pc = .ok (.invokevirtual 120, 3)) (hq : pc + 3 = q) (hw : wp_X7_keep x1 K σ) (kk : ∀ (r : Int32) (τ : St), K r τ → At X nL q lv (.int r :: rest) τ) : At X nL pc lv (.int (x1) :: .ref (X.kad 75) :: rest) σ := r_callV (n := 1) q hX (k0 := 75) (c_X7_keep x1) tw_924 tw_925 tw_926 tw_517 tw_927 ⟨by decide +kernel, by decide +kernel, by decide +kernel⟩ hdc (by decide) (As := [.int (x1)]) rfl rfl (by decide) ⟨_, _, _, rfl, rfl, rfl⟩ hst hd hq rfl (K := qI K) hw (kI kk)
theorem k_L_121_X6_back {X : Cx} {cc : ByteArray} {nL d pc : Nat} {lv : List (Nat × Value)} {rest : List Value} {σ : St} {K : Int32 → St → Prop} (q : Nat) (hX : CxB X RL cc nL d) (hdc : 2 + 1 ≤ d) (x1 : Int32) (hst : (rest.map fun v => v.category).sum ≤ 8) (hd : decode cc pc = .ok (.invokevirtual 121, 3)) (hq : pc + 3 = q) (hw : wp_X6_back x1 K σ) (kk : ∀ (r : Int32) (τ : St), K r τ → At X nL q lv (.int r :: rest) τ) : At X nL pc lv (.int (x1) :: .ref (X.kad 0) :: rest) σ := r_callV (n := 1) q hX (k0 := 0) (c_X6_back x1) tw_928 tw_929 tw_930 tw_328 tw_931 ⟨by decide +kernel, by decide +kernel, by decide +kernel⟩ hdc (by decide) (As := [.int (x1)]) rfl rfl (by decide) ⟨_, _, _, rfl, rfl, rfl⟩ hst hd hq rfl (K := qI K) hw (kI kk)
theorem k_L_124_X7_back {X : Cx} {cc : ByteArray} {nL d pc : Nat} {lv : List (Nat × Value)} {rest : List Value} {σ : St} {K : Int32 → St → Prop} (q : Nat) (hX : CxB X RL cc nL d) (hdc : 2 + 1 ≤ d) (x1 : Int32) (hst : (rest.map fun v => v.category).sum ≤ 8) (hd : decode cc pc = .ok (.invokevirtual 124, 3)) (hq : pc + 3 = q) (hw : wp_X7_back x1 K σ) (kk : ∀ (r : Int32) (τ : St), K r τ → At X nL q lv (.int r :: rest) τ) : At X nL pc lv (.int (x1) :: .ref (X.kad 75) :: rest) σ := r_callV (n := 1) q hX (k0 := 75) (c_X7_back x1) tw_932 tw_933 tw_934 tw_517 tw_935 ⟨by decide +kernel, by decide +kernel, by decide +kernel⟩ hdc (by decide) (As := [.int (x1)]) rfl rfl (by decide) ⟨_, _, _, rfl, rfl, rfl⟩ hst hd hq rfl (K := qI K) hw (kI kk)
theorem k_L_125_X6_count {X : Cx} {cc : ByteArray} {nL d pc : Nat} {lv : List (Nat × Value)} {rest : List Value} {σ : St} {K : Int32 → St → Prop} (q : Nat) (hX : CxB X RL cc nL d) (hdc : 3 + 1 ≤ d) (x1 : Int32) (hst : (rest.map fun v => v.category).sum ≤ 8) (hd : decode cc pc = .ok (.invokevirtual 125, 3)) (hq : pc + 3 = q) (hw : wp_X6_count x1 K σ) (kk : ∀ (r : Int32) (τ : St), K r τ → At X nL q lv (.int r :: rest) τ) : At X nL pc lv (.int (x1) :: .ref (X.kad 0) :: rest) σ := r_callV (n := 1) q hX (k0 := 0) (c_X6_count x1) tw_936 tw_937 tw_938 tw_328 tw_939 ⟨by decide +kernel, by decide +kernel, by decide +kernel⟩ hdc (by decide) (As := [.int (x1)]) rfl rfl (by decide) ⟨_, _, _, rfl, rfl, rfl⟩ hst hd hq rfl (K := qI K) hw (kI kk)
theorem k_L_128_X7_count {X : Cx} {cc : ByteArray} {nL d pc : Nat} {lv : List (Nat × Value)} {rest : List Value} {σ : St} {K : Int32 → St → Prop} (q : Nat) (hX : CxB X RL cc nL d) (hdc : 2 + 1 ≤ d) (x1 : Int32) (hst : (rest.map fun v => v.category).sum ≤ 8) (hd : decode cc pc = .ok (.invokevirtual 128, 3)) (hq : pc + 3 = q) (hw : wp_X7_count x1 K σ) (kk : ∀ (r : Int32) (τ : St), K r τ → At X nL q lv (.int r :: rest) τ) : At X nL pc lv (.int (x1) :: .ref (X.kad 75) :: rest) σ := r_callV (n := 1) q hX (k0 := 75) (c_X7_count x1) tw_940 tw_941 tw_942 tw_517 tw_943 ⟨by decide +kernel, by decide +kernel, by decide +kernel⟩ hdc (by decide) (As := [.int (x1)]) rfl rfl (by decide) ⟨_, _, _, rfl, rfl, rfl⟩ hst hd hq rfl (K := qI K) hw (kI kk)
theorem k_L_129_X6_trace {X : Cx} {cc : ByteArray} {nL d pc : Nat} {lv : List (Nat × Value)} {rest : List Value} {σ : St} {K : Int64 → St → Prop} (q : Nat) (hX : CxB X RL cc nL d) (hdc : 1 + 1 ≤ d) (hst : (rest.map fun v => v.category).sum ≤ 8) (hd : decode cc pc = .ok (.invokevirtual 129, 3)) (hq : pc + 3 = q) (hw : wp_X6_trace  K σ) (kk : ∀ (r : Int64) (τ : St), K r τ → At X nL q lv (.long r :: rest) τ) : At X nL pc lv (.ref (X.kad 0) :: rest) σ := r_callV (n := 0) q hX (k0 := 0) (c_X6_trace ) tw_944 tw_945 tw_946 tw_328 tw_947 ⟨by decide +kernel, by decide +kernel, by decide +kernel⟩ hdc (by decide) (As := []) rfl rfl (by decide) ⟨_, _, _, rfl, rfl, rfl⟩ hst hd hq rfl (K := qJ K) hw (kJ kk)
theorem k_L_133_X7_trace {X : Cx} {cc : ByteArray} {nL d pc : Nat} {lv : List (Nat × Value)} {rest : List Value} {σ : St} {K : Int64 → St → Prop} (q : Nat) (hX : CxB X RL cc nL d) (hdc : 1 + 1 ≤ d) (hst : (rest.map fun v => v.category).sum ≤ 8) (hd : decode cc pc = .ok (.invokevirtual 133, 3)) (hq : pc + 3 = q) (hw : wp_X7_trace  K σ) (kk : ∀ (r : Int64) (τ : St), K r τ → At X nL q lv (.long r :: rest) τ) : At X nL pc lv (.ref (X.kad 75) :: rest) σ := r_callV (n := 0) q hX (k0 := 75) (c_X7_trace ) tw_948 tw_949 tw_950 tw_517 tw_951 ⟨by decide +kernel, by decide +kernel, by decide +kernel⟩ hdc (by decide) (As := []) rfl rfl (by decide) ⟨_, _, _, rfl, rfl, rfl⟩ hst hd hq rfl (K := qJ K) hw (kJ kk)
set_option maxRecDepth 20000 in
set_option maxHeartbeats 8000000 in
theorem w_L_law_b18 {b L : Nat} {xs : Nat → Int32} {X : Cx} (hX : CxB X RL cL_law 4 200) (hR : CxL X b L xs) {K18 : Int32 → St → Prop} (hK18 : ∀ (x3 : Int32) (σ : St), K18 x3 σ → At X 4 18 [(0, .ref b), (1, .ref (X.kad 0)), (2, .ref (X.kad 75)), (3, .int (x3))] [] σ) (x3 : Int32) (σ : St) (hw : wp_L_law_b18 L xs lawQ K18 x3 σ) : At X 4 18 [(0, .ref b), (1, .ref (X.kad 0)), (2, .ref (X.kad 75)), (3, .int (x3))] [] σ := by
  unfold wp_L_law_b18 at hw
  refine r_iload_n 19 hX dL_law_18 rfl rfl 3 rfl ?_
  refine r_aload_n 20 hX dL_law_19 rfl rfl 0 rfl ?_
  refine r_slen 21 hX hR dL_law_20 rfl ?_
  refine r_iconst 22 hX dL_law_21 rfl 4 ic_4 ?_
  refine r_isub 23 hX dL_law_22 rfl ?_
  refine r_icmp_gt 1013 26 hX dL_law_23 (by decide) rfl hw (fun hw => ?_) (fun hw => ?_)
  · refine r_iconst 1014 hX dL_law_1013 rfl 1 ic_1 ?_
    exact r_lawret hX hR dL_law_1014 hw
  · refine r_aload_n 27 hX dL_law_26 rfl rfl 0 rfl ?_
    refine r_iload_n 28 hX dL_law_27 rfl rfl 3 rfl ?_
    refine r_sld 29 hX hR dL_law_28 rfl hw (fun hw => ?_)
    refine r_bipush 31 hX dL_law_29 rfl 31 bi_31 ?_
    refine r_iand 32 hX dL_law_31 rfl ?_
    -- switch
    refine r_case hw (fun hc hw => ?_) (fun hc0 hw => ?_)
    · refine r_tabIn 160 hX dL_law_32 (by rw [hc]; decide) (by rw [hc]; decide) (off := 128) (by rw [hc]; decide) (by decide) ?_
      refine r_aload_n 161 hX dL_law_160 rfl rfl 1 rfl ?_
      refine r_aload_n 162 hX dL_law_161 rfl rfl 0 rfl ?_
      refine r_iload_n 163 hX dL_law_162 rfl rfl 3 rfl ?_
      refine r_iconst 164 hX dL_law_163 rfl 1 ic_1 ?_
      refine r_iadd 165 hX dL_law_164 rfl ?_
      refine r_sld 166 hX hR dL_law_165 rfl hw (fun hw => ?_)
      refine r_i2l 167 hX dL_law_166 rfl ?_
      refine r_bipush 169 hX dL_law_167 rfl 32 bi_32 ?_
      refine r_lshl 170 hX dL_law_169 rfl ?_
      refine r_aload_n 171 hX dL_law_170 rfl rfl 0 rfl ?_
      refine r_iload_n 172 hX dL_law_171 rfl rfl 3 rfl ?_
      refine r_iconst 173 hX dL_law_172 rfl 2 ic_2 ?_
      refine r_iadd 174 hX dL_law_173 rfl ?_
      refine r_sld 175 hX hR dL_law_174 rfl hw (fun hw => ?_)
      refine r_i2l 176 hX dL_law_175 rfl ?_
      refine r_ldc2 179 hX 4294967295 tw_730 dL_law_176 rfl ?_
      refine r_land 180 hX dL_law_179 rfl ?_
      refine r_lor 181 hX dL_law_180 rfl ?_
      refine r_aload_n 182 hX dL_law_181 rfl rfl 0 rfl ?_
      refine r_iload_n 183 hX dL_law_182 rfl rfl 3 rfl ?_
      refine r_iconst 184 hX dL_law_183 rfl 3 ic_3 ?_
      refine r_iadd 185 hX dL_law_184 rfl ?_
      refine r_sld 186 hX hR dL_law_185 rfl hw (fun hw => ?_)
      refine k_L_15_X6_type 189 hX (by omega) ((((xs (x3 + 1).toNatClampNeg).toInt64) <<< ((32 : Int32).toInt64 &&& 63)) ||| (((xs (x3 + 2).toNatClampNeg).toInt64) &&& 4294967295)) (xs (x3 + 3).toNatClampNeg) (Nat.le_of_ble_eq_true rfl) dL_law_186 rfl hw (fun r186 σ186 hw => ?_)
      refine r_aload_n 190 hX dL_law_189 rfl rfl 2 rfl ?_
      refine r_aload_n 191 hX dL_law_190 rfl rfl 0 rfl ?_
      refine r_iload_n 192 hX dL_law_191 rfl rfl 3 rfl ?_
      refine r_iconst 193 hX dL_law_192 rfl 1 ic_1 ?_
      refine r_iadd 194 hX dL_law_193 rfl ?_
      refine r_sld 195 hX hR dL_law_194 rfl hw (fun hw => ?_)
      refine r_i2l 196 hX dL_law_195 rfl ?_
      refine r_bipush 198 hX dL_law_196 rfl 32 bi_32 ?_
      refine r_lshl 199 hX dL_law_198 rfl ?_
      refine r_aload_n 200 hX dL_law_199 rfl rfl 0 rfl ?_
      refine r_iload_n 201 hX dL_law_200 rfl rfl 3 rfl ?_
      refine r_iconst 202 hX dL_law_201 rfl 2 ic_2 ?_
      refine r_iadd 203 hX dL_law_202 rfl ?_
      refine r_sld 204 hX hR dL_law_203 rfl hw (fun hw => ?_)
      refine r_i2l 205 hX dL_law_204 rfl ?_
      refine r_ldc2 208 hX 4294967295 tw_730 dL_law_205 rfl ?_
      refine r_land 209 hX dL_law_208 rfl ?_
      refine r_lor 210 hX dL_law_209 rfl ?_
      refine r_aload_n 211 hX dL_law_210 rfl rfl 0 rfl ?_
      refine r_iload_n 212 hX dL_law_211 rfl rfl 3 rfl ?_
      refine r_iconst 213 hX dL_law_212 rfl 3 ic_3 ?_
      refine r_iadd 214 hX dL_law_213 rfl ?_
      refine r_sld 215 hX hR dL_law_214 rfl hw (fun hw => ?_)
      refine k_L_19_X7_type 218 hX (by omega) ((((xs (x3 + 1).toNatClampNeg).toInt64) <<< ((32 : Int32).toInt64 &&& 63)) ||| (((xs (x3 + 2).toNatClampNeg).toInt64) &&& 4294967295)) (xs (x3 + 3).toNatClampNeg) (Nat.le_of_ble_eq_true rfl) dL_law_215 rfl hw (fun r215 σ215 hw => ?_)
      refine r_icmp_eq 1007 221 hX dL_law_218 (by decide) rfl hw (fun hw => ?_) (fun hw => ?_)
      · refine r_iinc (lv' := [(3, .int (x3 + 4)), (0, .ref b), (1, .ref (X.kad 0)), (2, .ref (X.kad 75))]) 1010 hX dL_law_1007 rfl 3 rfl (x3 + 4) (ici_4 _) (by decide) rfl ?_
        refine r_goto 18 hX dL_law_1010 (by decide) ?_
        refine r_sub [1, 2, 3, 0] rfl ?_
        exact hK18 _ _ hw
      · refine r_iconst 222 hX dL_law_221 rfl 0 ic_0 ?_
        exact r_lawret hX hR dL_law_222 hw
    refine r_case hw (fun hc hw => ?_) (fun hc1 hw => ?_)
    · refine r_tabIn 223 hX dL_law_32 (by rw [hc]; decide) (by rw [hc]; decide) (off := 191) (by rw [hc]; decide) (by decide) ?_
      refine r_aload_n 224 hX dL_law_223 rfl rfl 1 rfl ?_
      refine k_L_20_X6_clear 227 hX (by omega)  (Nat.le_of_ble_eq_true rfl) dL_law_224 rfl hw (fun r224 σ224 hw => ?_)
      refine r_aload_n 228 hX dL_law_227 rfl rfl 2 rfl ?_
      refine k_L_24_X7_clear 231 hX (by omega)  (Nat.le_of_ble_eq_true rfl) dL_law_228 rfl hw (fun r228 σ228 hw => ?_)
      refine r_icmp_eq 1007 234 hX dL_law_231 (by decide) rfl hw (fun hw => ?_) (fun hw => ?_)
      · refine r_iinc (lv' := [(3, .int (x3 + 4)), (0, .ref b), (1, .ref (X.kad 0)), (2, .ref (X.kad 75))]) 1010 hX dL_law_1007 rfl 3 rfl (x3 + 4) (ici_4 _) (by decide) rfl ?_
        refine r_goto 18 hX dL_law_1010 (by decide) ?_
        refine r_sub [1, 2, 3, 0] rfl ?_
        exact hK18 _ _ hw
      · refine r_iconst 235 hX dL_law_234 rfl 0 ic_0 ?_
        exact r_lawret hX hR dL_law_235 hw
    refine r_case hw (fun hc hw => ?_) (fun hc2 hw => ?_)
    · refine r_tabIn 236 hX dL_law_32 (by rw [hc]; decide) (by rw [hc]; decide) (off := 204) (by rw [hc]; decide) (by decide) ?_
      refine r_aload_n 237 hX dL_law_236 rfl rfl 1 rfl ?_
      refine k_L_25_X6_wall 240 hX (by omega)  (Nat.le_of_ble_eq_true rfl) dL_law_237 rfl hw (fun r237 σ237 hw => ?_)
      refine r_aload_n 241 hX dL_law_240 rfl rfl 2 rfl ?_
      refine k_L_28_X7_wall 244 hX (by omega)  (Nat.le_of_ble_eq_true rfl) dL_law_241 rfl hw (fun r241 σ241 hw => ?_)
      refine r_icmp_eq 1007 247 hX dL_law_244 (by decide) rfl hw (fun hw => ?_) (fun hw => ?_)
      · refine r_iinc (lv' := [(3, .int (x3 + 4)), (0, .ref b), (1, .ref (X.kad 0)), (2, .ref (X.kad 75))]) 1010 hX dL_law_1007 rfl 3 rfl (x3 + 4) (ici_4 _) (by decide) rfl ?_
        refine r_goto 18 hX dL_law_1010 (by decide) ?_
        refine r_sub [1, 2, 3, 0] rfl ?_
        exact hK18 _ _ hw
      · refine r_iconst 248 hX dL_law_247 rfl 0 ic_0 ?_
        exact r_lawret hX hR dL_law_248 hw
    refine r_case hw (fun hc hw => ?_) (fun hc3 hw => ?_)
    · refine r_tabIn 249 hX dL_law_32 (by rw [hc]; decide) (by rw [hc]; decide) (off := 217) (by rw [hc]; decide) (by decide) ?_
      refine r_aload_n 250 hX dL_law_249 rfl rfl 1 rfl ?_
      refine r_aload_n 251 hX dL_law_250 rfl rfl 0 rfl ?_
      refine r_iload_n 252 hX dL_law_251 rfl rfl 3 rfl ?_
      refine r_iconst 253 hX dL_law_252 rfl 1 ic_1 ?_
      refine r_iadd 254 hX dL_law_253 rfl ?_
      refine r_sld 255 hX hR dL_law_254 rfl hw (fun hw => ?_)
      refine r_aload_n 256 hX dL_law_255 rfl rfl 0 rfl ?_
      refine r_iload_n 257 hX dL_law_256 rfl rfl 3 rfl ?_
      refine r_iconst 258 hX dL_law_257 rfl 2 ic_2 ?_
      refine r_iadd 259 hX dL_law_258 rfl ?_
      refine r_sld 260 hX hR dL_law_259 rfl hw (fun hw => ?_)
      refine k_L_29_X6_brick 263 hX (by omega) (xs (x3 + 1).toNatClampNeg) (xs (x3 + 2).toNatClampNeg) (Nat.le_of_ble_eq_true rfl) dL_law_260 rfl hw (fun r260 σ260 hw => ?_)
      refine r_aload_n 264 hX dL_law_263 rfl rfl 2 rfl ?_
      refine r_aload_n 265 hX dL_law_264 rfl rfl 0 rfl ?_
      refine r_iload_n 266 hX dL_law_265 rfl rfl 3 rfl ?_
      refine r_iconst 267 hX dL_law_266 rfl 1 ic_1 ?_
      refine r_iadd 268 hX dL_law_267 rfl ?_
      refine r_sld 269 hX hR dL_law_268 rfl hw (fun hw => ?_)
      refine r_aload_n 270 hX dL_law_269 rfl rfl 0 rfl ?_
      refine r_iload_n 271 hX dL_law_270 rfl rfl 3 rfl ?_
      refine r_iconst 272 hX dL_law_271 rfl 2 ic_2 ?_
      refine r_iadd 273 hX dL_law_272 rfl ?_
      refine r_sld 274 hX hR dL_law_273 rfl hw (fun hw => ?_)
      refine k_L_33_X7_brick 277 hX (by omega) (xs (x3 + 1).toNatClampNeg) (xs (x3 + 2).toNatClampNeg) (Nat.le_of_ble_eq_true rfl) dL_law_274 rfl hw (fun r274 σ274 hw => ?_)
      refine r_icmp_eq 1007 280 hX dL_law_277 (by decide) rfl hw (fun hw => ?_) (fun hw => ?_)
      · refine r_iinc (lv' := [(3, .int (x3 + 4)), (0, .ref b), (1, .ref (X.kad 0)), (2, .ref (X.kad 75))]) 1010 hX dL_law_1007 rfl 3 rfl (x3 + 4) (ici_4 _) (by decide) rfl ?_
        refine r_goto 18 hX dL_law_1010 (by decide) ?_
        refine r_sub [1, 2, 3, 0] rfl ?_
        exact hK18 _ _ hw
      · refine r_iconst 281 hX dL_law_280 rfl 0 ic_0 ?_
        exact r_lawret hX hR dL_law_281 hw
    refine r_case hw (fun hc hw => ?_) (fun hc4 hw => ?_)
    · refine r_tabIn 282 hX dL_law_32 (by rw [hc]; decide) (by rw [hc]; decide) (off := 250) (by rw [hc]; decide) (by decide) ?_
      refine r_aload_n 283 hX dL_law_282 rfl rfl 1 rfl ?_
      refine r_aload_n 284 hX dL_law_283 rfl rfl 0 rfl ?_
      refine r_iload_n 285 hX dL_law_284 rfl rfl 3 rfl ?_
      refine r_iconst 286 hX dL_law_285 rfl 1 ic_1 ?_
      refine r_iadd 287 hX dL_law_286 rfl ?_
      refine r_sld 288 hX hR dL_law_287 rfl hw (fun hw => ?_)
      refine r_aload_n 289 hX dL_law_288 rfl rfl 0 rfl ?_
      refine r_iload_n 290 hX dL_law_289 rfl rfl 3 rfl ?_
      refine r_iconst 291 hX dL_law_290 rfl 2 ic_2 ?_
      refine r_iadd 292 hX dL_law_291 rfl ?_
      refine r_sld 293 hX hR dL_law_292 rfl hw (fun hw => ?_)
      refine k_L_34_X6_hearth 296 hX (by omega) (xs (x3 + 1).toNatClampNeg) (xs (x3 + 2).toNatClampNeg) (Nat.le_of_ble_eq_true rfl) dL_law_293 rfl hw (fun r293 σ293 hw => ?_)
      refine r_aload_n 297 hX dL_law_296 rfl rfl 2 rfl ?_
      refine r_aload_n 298 hX dL_law_297 rfl rfl 0 rfl ?_
      refine r_iload_n 299 hX dL_law_298 rfl rfl 3 rfl ?_
      refine r_iconst 300 hX dL_law_299 rfl 1 ic_1 ?_
      refine r_iadd 301 hX dL_law_300 rfl ?_
      refine r_sld 302 hX hR dL_law_301 rfl hw (fun hw => ?_)
      refine r_aload_n 303 hX dL_law_302 rfl rfl 0 rfl ?_
      refine r_iload_n 304 hX dL_law_303 rfl rfl 3 rfl ?_
      refine r_iconst 305 hX dL_law_304 rfl 2 ic_2 ?_
      refine r_iadd 306 hX dL_law_305 rfl ?_
      refine r_sld 307 hX hR dL_law_306 rfl hw (fun hw => ?_)
      refine k_L_37_X7_hearth 310 hX (by omega) (xs (x3 + 1).toNatClampNeg) (xs (x3 + 2).toNatClampNeg) (Nat.le_of_ble_eq_true rfl) dL_law_307 rfl hw (fun r307 σ307 hw => ?_)
      refine r_icmp_eq 1007 313 hX dL_law_310 (by decide) rfl hw (fun hw => ?_) (fun hw => ?_)
      · refine r_iinc (lv' := [(3, .int (x3 + 4)), (0, .ref b), (1, .ref (X.kad 0)), (2, .ref (X.kad 75))]) 1010 hX dL_law_1007 rfl 3 rfl (x3 + 4) (ici_4 _) (by decide) rfl ?_
        refine r_goto 18 hX dL_law_1010 (by decide) ?_
        refine r_sub [1, 2, 3, 0] rfl ?_
        exact hK18 _ _ hw
      · refine r_iconst 314 hX dL_law_313 rfl 0 ic_0 ?_
        exact r_lawret hX hR dL_law_314 hw
    refine r_case hw (fun hc hw => ?_) (fun hc5 hw => ?_)
    · refine r_tabIn 315 hX dL_law_32 (by rw [hc]; decide) (by rw [hc]; decide) (off := 283) (by rw [hc]; decide) (by decide) ?_
      refine r_aload_n 316 hX dL_law_315 rfl rfl 1 rfl ?_
      refine r_aload_n 317 hX dL_law_316 rfl rfl 0 rfl ?_
      refine r_iload_n 318 hX dL_law_317 rfl rfl 3 rfl ?_
      refine r_iconst 319 hX dL_law_318 rfl 1 ic_1 ?_
      refine r_iadd 320 hX dL_law_319 rfl ?_
      refine r_sld 321 hX hR dL_law_320 rfl hw (fun hw => ?_)
      refine r_aload_n 322 hX dL_law_321 rfl rfl 0 rfl ?_
      refine r_iload_n 323 hX dL_law_322 rfl rfl 3 rfl ?_
      refine r_iconst 324 hX dL_law_323 rfl 2 ic_2 ?_
      refine r_iadd 325 hX dL_law_324 rfl ?_
      refine r_sld 326 hX hR dL_law_325 rfl hw (fun hw => ?_)
      refine k_L_38_X6_tune 329 hX (by omega) (xs (x3 + 1).toNatClampNeg) (xs (x3 + 2).toNatClampNeg) (Nat.le_of_ble_eq_true rfl) dL_law_326 rfl hw (fun r326 σ326 hw => ?_)
      refine r_aload_n 330 hX dL_law_329 rfl rfl 2 rfl ?_
      refine r_aload_n 331 hX dL_law_330 rfl rfl 0 rfl ?_
      refine r_iload_n 332 hX dL_law_331 rfl rfl 3 rfl ?_
      refine r_iconst 333 hX dL_law_332 rfl 1 ic_1 ?_
      refine r_iadd 334 hX dL_law_333 rfl ?_
      refine r_sld 335 hX hR dL_law_334 rfl hw (fun hw => ?_)
      refine r_aload_n 336 hX dL_law_335 rfl rfl 0 rfl ?_
      refine r_iload_n 337 hX dL_law_336 rfl rfl 3 rfl ?_
      refine r_iconst 338 hX dL_law_337 rfl 2 ic_2 ?_
      refine r_iadd 339 hX dL_law_338 rfl ?_
      refine r_sld 340 hX hR dL_law_339 rfl hw (fun hw => ?_)
      refine k_L_41_X7_tune 343 hX (by omega) (xs (x3 + 1).toNatClampNeg) (xs (x3 + 2).toNatClampNeg) (Nat.le_of_ble_eq_true rfl) dL_law_340 rfl hw (fun r340 σ340 hw => ?_)
      refine r_icmp_eq 1007 346 hX dL_law_343 (by decide) rfl hw (fun hw => ?_) (fun hw => ?_)
      · refine r_iinc (lv' := [(3, .int (x3 + 4)), (0, .ref b), (1, .ref (X.kad 0)), (2, .ref (X.kad 75))]) 1010 hX dL_law_1007 rfl 3 rfl (x3 + 4) (ici_4 _) (by decide) rfl ?_
        refine r_goto 18 hX dL_law_1010 (by decide) ?_
        refine r_sub [1, 2, 3, 0] rfl ?_
        exact hK18 _ _ hw
      · refine r_iconst 347 hX dL_law_346 rfl 0 ic_0 ?_
        exact r_lawret hX hR dL_law_347 hw
    refine r_case hw (fun hc hw => ?_) (fun hc6 hw => ?_)
    · refine r_tabIn 348 hX dL_law_32 (by rw [hc]; decide) (by rw [hc]; decide) (off := 316) (by rw [hc]; decide) (by decide) ?_
      refine r_aload_n 349 hX dL_law_348 rfl rfl 1 rfl ?_
      refine r_aload_n 350 hX dL_law_349 rfl rfl 0 rfl ?_
      refine r_iload_n 351 hX dL_law_350 rfl rfl 3 rfl ?_
      refine r_iconst 352 hX dL_law_351 rfl 1 ic_1 ?_
      refine r_iadd 353 hX dL_law_352 rfl ?_
      refine r_sld 354 hX hR dL_law_353 rfl hw (fun hw => ?_)
      refine r_aload_n 355 hX dL_law_354 rfl rfl 0 rfl ?_
      refine r_iload_n 356 hX dL_law_355 rfl rfl 3 rfl ?_
      refine r_iconst 357 hX dL_law_356 rfl 2 ic_2 ?_
      refine r_iadd 358 hX dL_law_357 rfl ?_
      refine r_sld 359 hX hR dL_law_358 rfl hw (fun hw => ?_)
      refine r_aload_n 360 hX dL_law_359 rfl rfl 0 rfl ?_
      refine r_iload_n 361 hX dL_law_360 rfl rfl 3 rfl ?_
      refine r_iconst 362 hX dL_law_361 rfl 3 ic_3 ?_
      refine r_iadd 363 hX dL_law_362 rfl ?_
      refine r_sld 364 hX hR dL_law_363 rfl hw (fun hw => ?_)
      refine k_L_42_X6_wind 367 hX (by omega) (xs (x3 + 1).toNatClampNeg) (xs (x3 + 2).toNatClampNeg) (xs (x3 + 3).toNatClampNeg) (Nat.le_of_ble_eq_true rfl) dL_law_364 rfl hw (fun r364 σ364 hw => ?_)
      refine r_aload_n 368 hX dL_law_367 rfl rfl 2 rfl ?_
      refine r_aload_n 369 hX dL_law_368 rfl rfl 0 rfl ?_
      refine r_iload_n 370 hX dL_law_369 rfl rfl 3 rfl ?_
      refine r_iconst 371 hX dL_law_370 rfl 1 ic_1 ?_
      refine r_iadd 372 hX dL_law_371 rfl ?_
      refine r_sld 373 hX hR dL_law_372 rfl hw (fun hw => ?_)
      refine r_aload_n 374 hX dL_law_373 rfl rfl 0 rfl ?_
      refine r_iload_n 375 hX dL_law_374 rfl rfl 3 rfl ?_
      refine r_iconst 376 hX dL_law_375 rfl 2 ic_2 ?_
      refine r_iadd 377 hX dL_law_376 rfl ?_
      refine r_sld 378 hX hR dL_law_377 rfl hw (fun hw => ?_)
      refine r_aload_n 379 hX dL_law_378 rfl rfl 0 rfl ?_
      refine r_iload_n 380 hX dL_law_379 rfl rfl 3 rfl ?_
      refine r_iconst 381 hX dL_law_380 rfl 3 ic_3 ?_
      refine r_iadd 382 hX dL_law_381 rfl ?_
      refine r_sld 383 hX hR dL_law_382 rfl hw (fun hw => ?_)
      refine k_L_46_X7_wind 386 hX (by omega) (xs (x3 + 1).toNatClampNeg) (xs (x3 + 2).toNatClampNeg) (xs (x3 + 3).toNatClampNeg) (Nat.le_of_ble_eq_true rfl) dL_law_383 rfl hw (fun r383 σ383 hw => ?_)
      refine r_icmp_eq 1007 389 hX dL_law_386 (by decide) rfl hw (fun hw => ?_) (fun hw => ?_)
      · refine r_iinc (lv' := [(3, .int (x3 + 4)), (0, .ref b), (1, .ref (X.kad 0)), (2, .ref (X.kad 75))]) 1010 hX dL_law_1007 rfl 3 rfl (x3 + 4) (ici_4 _) (by decide) rfl ?_
        refine r_goto 18 hX dL_law_1010 (by decide) ?_
        refine r_sub [1, 2, 3, 0] rfl ?_
        exact hK18 _ _ hw
      · refine r_iconst 390 hX dL_law_389 rfl 0 ic_0 ?_
        exact r_lawret hX hR dL_law_390 hw
    refine r_case hw (fun hc hw => ?_) (fun hc7 hw => ?_)
    · refine r_tabIn 391 hX dL_law_32 (by rw [hc]; decide) (by rw [hc]; decide) (off := 359) (by rw [hc]; decide) (by decide) ?_
      refine r_aload_n 392 hX dL_law_391 rfl rfl 1 rfl ?_
      refine r_aload_n 393 hX dL_law_392 rfl rfl 0 rfl ?_
      refine r_iload_n 394 hX dL_law_393 rfl rfl 3 rfl ?_
      refine r_iconst 395 hX dL_law_394 rfl 1 ic_1 ?_
      refine r_iadd 396 hX dL_law_395 rfl ?_
      refine r_sld 397 hX hR dL_law_396 rfl hw (fun hw => ?_)
      refine k_L_47_X6_many 400 hX (by omega) (xs (x3 + 1).toNatClampNeg) (Nat.le_of_ble_eq_true rfl) dL_law_397 rfl hw (fun r397 σ397 hw => ?_)
      refine r_aload_n 401 hX dL_law_400 rfl rfl 2 rfl ?_
      refine r_aload_n 402 hX dL_law_401 rfl rfl 0 rfl ?_
      refine r_iload_n 403 hX dL_law_402 rfl rfl 3 rfl ?_
      refine r_iconst 404 hX dL_law_403 rfl 1 ic_1 ?_
      refine r_iadd 405 hX dL_law_404 rfl ?_
      refine r_sld 406 hX hR dL_law_405 rfl hw (fun hw => ?_)
      refine k_L_51_X7_many 409 hX (by omega) (xs (x3 + 1).toNatClampNeg) (Nat.le_of_ble_eq_true rfl) dL_law_406 rfl hw (fun r406 σ406 hw => ?_)
      refine r_lcmp 410 hX dL_law_409 rfl ?_
      refine r_if_eq 1007 413 hX dL_law_410 (by decide) rfl hw (fun hw => ?_) (fun hw => ?_)
      · refine r_iinc (lv' := [(3, .int (x3 + 4)), (0, .ref b), (1, .ref (X.kad 0)), (2, .ref (X.kad 75))]) 1010 hX dL_law_1007 rfl 3 rfl (x3 + 4) (ici_4 _) (by decide) rfl ?_
        refine r_goto 18 hX dL_law_1010 (by decide) ?_
        refine r_sub [1, 2, 3, 0] rfl ?_
        exact hK18 _ _ hw
      · refine r_iconst 414 hX dL_law_413 rfl 0 ic_0 ?_
        exact r_lawret hX hR dL_law_414 hw
    refine r_case hw (fun hc hw => ?_) (fun hc8 hw => ?_)
    · refine r_tabIn 415 hX dL_law_32 (by rw [hc]; decide) (by rw [hc]; decide) (off := 383) (by rw [hc]; decide) (by decide) ?_
      refine r_aload_n 416 hX dL_law_415 rfl rfl 1 rfl ?_
      refine r_aload_n 417 hX dL_law_416 rfl rfl 0 rfl ?_
      refine r_iload_n 418 hX dL_law_417 rfl rfl 3 rfl ?_
      refine r_iconst 419 hX dL_law_418 rfl 1 ic_1 ?_
      refine r_iadd 420 hX dL_law_419 rfl ?_
      refine r_sld 421 hX hR dL_law_420 rfl hw (fun hw => ?_)
      refine r_aload_n 422 hX dL_law_421 rfl rfl 0 rfl ?_
      refine r_iload_n 423 hX dL_law_422 rfl rfl 3 rfl ?_
      refine r_iconst 424 hX dL_law_423 rfl 2 ic_2 ?_
      refine r_iadd 425 hX dL_law_424 rfl ?_
      refine r_sld 426 hX hR dL_law_425 rfl hw (fun hw => ?_)
      refine k_L_52_X6_one 429 hX (by omega) (xs (x3 + 1).toNatClampNeg) (xs (x3 + 2).toNatClampNeg) (Nat.le_of_ble_eq_true rfl) dL_law_426 rfl hw (fun r426 σ426 hw => ?_)
      refine r_aload_n 430 hX dL_law_429 rfl rfl 2 rfl ?_
      refine r_aload_n 431 hX dL_law_430 rfl rfl 0 rfl ?_
      refine r_iload_n 432 hX dL_law_431 rfl rfl 3 rfl ?_
      refine r_iconst 433 hX dL_law_432 rfl 1 ic_1 ?_
      refine r_iadd 434 hX dL_law_433 rfl ?_
      refine r_sld 435 hX hR dL_law_434 rfl hw (fun hw => ?_)
      refine r_aload_n 436 hX dL_law_435 rfl rfl 0 rfl ?_
      refine r_iload_n 437 hX dL_law_436 rfl rfl 3 rfl ?_
      refine r_iconst 438 hX dL_law_437 rfl 2 ic_2 ?_
      refine r_iadd 439 hX dL_law_438 rfl ?_
      refine r_sld 440 hX hR dL_law_439 rfl hw (fun hw => ?_)
      refine k_L_55_X7_one 443 hX (by omega) (xs (x3 + 1).toNatClampNeg) (xs (x3 + 2).toNatClampNeg) (Nat.le_of_ble_eq_true rfl) dL_law_440 rfl hw (fun r440 σ440 hw => ?_)
      refine r_icmp_eq 1007 446 hX dL_law_443 (by decide) rfl hw (fun hw => ?_) (fun hw => ?_)
      · refine r_iinc (lv' := [(3, .int (x3 + 4)), (0, .ref b), (1, .ref (X.kad 0)), (2, .ref (X.kad 75))]) 1010 hX dL_law_1007 rfl 3 rfl (x3 + 4) (ici_4 _) (by decide) rfl ?_
        refine r_goto 18 hX dL_law_1010 (by decide) ?_
        refine r_sub [1, 2, 3, 0] rfl ?_
        exact hK18 _ _ hw
      · refine r_iconst 447 hX dL_law_446 rfl 0 ic_0 ?_
        exact r_lawret hX hR dL_law_447 hw
    refine r_case hw (fun hc hw => ?_) (fun hc9 hw => ?_)
    · refine r_tabIn 448 hX dL_law_32 (by rw [hc]; decide) (by rw [hc]; decide) (off := 416) (by rw [hc]; decide) (by decide) ?_
      refine r_aload_n 449 hX dL_law_448 rfl rfl 1 rfl ?_
      refine r_aload_n 450 hX dL_law_449 rfl rfl 0 rfl ?_
      refine r_iload_n 451 hX dL_law_450 rfl rfl 3 rfl ?_
      refine r_iconst 452 hX dL_law_451 rfl 1 ic_1 ?_
      refine r_iadd 453 hX dL_law_452 rfl ?_
      refine r_sld 454 hX hR dL_law_453 rfl hw (fun hw => ?_)
      refine r_aload_n 455 hX dL_law_454 rfl rfl 0 rfl ?_
      refine r_iload_n 456 hX dL_law_455 rfl rfl 3 rfl ?_
      refine r_iconst 457 hX dL_law_456 rfl 2 ic_2 ?_
      refine r_iadd 458 hX dL_law_457 rfl ?_
      refine r_sld 459 hX hR dL_law_458 rfl hw (fun hw => ?_)
      refine k_L_56_X6_together 462 hX (by omega) (xs (x3 + 1).toNatClampNeg) (xs (x3 + 2).toNatClampNeg) (Nat.le_of_ble_eq_true rfl) dL_law_459 rfl hw (fun r459 σ459 hw => ?_)
      refine r_aload_n 463 hX dL_law_462 rfl rfl 2 rfl ?_
      refine r_aload_n 464 hX dL_law_463 rfl rfl 0 rfl ?_
      refine r_iload_n 465 hX dL_law_464 rfl rfl 3 rfl ?_
      refine r_iconst 466 hX dL_law_465 rfl 1 ic_1 ?_
      refine r_iadd 467 hX dL_law_466 rfl ?_
      refine r_sld 468 hX hR dL_law_467 rfl hw (fun hw => ?_)
      refine r_aload_n 469 hX dL_law_468 rfl rfl 0 rfl ?_
      refine r_iload_n 470 hX dL_law_469 rfl rfl 3 rfl ?_
      refine r_iconst 471 hX dL_law_470 rfl 2 ic_2 ?_
      refine r_iadd 472 hX dL_law_471 rfl ?_
      refine r_sld 473 hX hR dL_law_472 rfl hw (fun hw => ?_)
      refine k_L_59_X7_together 476 hX (by omega) (xs (x3 + 1).toNatClampNeg) (xs (x3 + 2).toNatClampNeg) (Nat.le_of_ble_eq_true rfl) dL_law_473 rfl hw (fun r473 σ473 hw => ?_)
      refine r_icmp_eq 1007 479 hX dL_law_476 (by decide) rfl hw (fun hw => ?_) (fun hw => ?_)
      · refine r_iinc (lv' := [(3, .int (x3 + 4)), (0, .ref b), (1, .ref (X.kad 0)), (2, .ref (X.kad 75))]) 1010 hX dL_law_1007 rfl 3 rfl (x3 + 4) (ici_4 _) (by decide) rfl ?_
        refine r_goto 18 hX dL_law_1010 (by decide) ?_
        refine r_sub [1, 2, 3, 0] rfl ?_
        exact hK18 _ _ hw
      · refine r_iconst 480 hX dL_law_479 rfl 0 ic_0 ?_
        exact r_lawret hX hR dL_law_480 hw
    refine r_case hw (fun hc hw => ?_) (fun hc10 hw => ?_)
    · refine r_tabIn 481 hX dL_law_32 (by rw [hc]; decide) (by rw [hc]; decide) (off := 449) (by rw [hc]; decide) (by decide) ?_
      refine r_aload_n 482 hX dL_law_481 rfl rfl 1 rfl ?_
      refine r_aload_n 483 hX dL_law_482 rfl rfl 0 rfl ?_
      refine r_iload_n 484 hX dL_law_483 rfl rfl 3 rfl ?_
      refine r_iconst 485 hX dL_law_484 rfl 1 ic_1 ?_
      refine r_iadd 486 hX dL_law_485 rfl ?_
      refine r_sld 487 hX hR dL_law_486 rfl hw (fun hw => ?_)
      refine k_L_60_X6_share 490 hX (by omega) (xs (x3 + 1).toNatClampNeg) (Nat.le_of_ble_eq_true rfl) dL_law_487 rfl hw (fun r487 σ487 hw => ?_)
      refine r_aload_n 491 hX dL_law_490 rfl rfl 2 rfl ?_
      refine r_aload_n 492 hX dL_law_491 rfl rfl 0 rfl ?_
      refine r_iload_n 493 hX dL_law_492 rfl rfl 3 rfl ?_
      refine r_iconst 494 hX dL_law_493 rfl 1 ic_1 ?_
      refine r_iadd 495 hX dL_law_494 rfl ?_
      refine r_sld 496 hX hR dL_law_495 rfl hw (fun hw => ?_)
      refine k_L_64_X7_share 499 hX (by omega) (xs (x3 + 1).toNatClampNeg) (Nat.le_of_ble_eq_true rfl) dL_law_496 rfl hw (fun r496 σ496 hw => ?_)
      refine r_icmp_eq 1007 502 hX dL_law_499 (by decide) rfl hw (fun hw => ?_) (fun hw => ?_)
      · refine r_iinc (lv' := [(3, .int (x3 + 4)), (0, .ref b), (1, .ref (X.kad 0)), (2, .ref (X.kad 75))]) 1010 hX dL_law_1007 rfl 3 rfl (x3 + 4) (ici_4 _) (by decide) rfl ?_
        refine r_goto 18 hX dL_law_1010 (by decide) ?_
        refine r_sub [1, 2, 3, 0] rfl ?_
        exact hK18 _ _ hw
      · refine r_iconst 503 hX dL_law_502 rfl 0 ic_0 ?_
        exact r_lawret hX hR dL_law_503 hw
    refine r_case hw (fun hc hw => ?_) (fun hc11 hw => ?_)
    · refine r_tabIn 504 hX dL_law_32 (by rw [hc]; decide) (by rw [hc]; decide) (off := 472) (by rw [hc]; decide) (by decide) ?_
      refine r_aload_n 505 hX dL_law_504 rfl rfl 1 rfl ?_
      refine r_aload_n 506 hX dL_law_505 rfl rfl 0 rfl ?_
      refine r_iload_n 507 hX dL_law_506 rfl rfl 3 rfl ?_
      refine r_iconst 508 hX dL_law_507 rfl 1 ic_1 ?_
      refine r_iadd 509 hX dL_law_508 rfl ?_
      refine r_sld 510 hX hR dL_law_509 rfl hw (fun hw => ?_)
      refine r_aload_n 511 hX dL_law_510 rfl rfl 0 rfl ?_
      refine r_iload_n 512 hX dL_law_511 rfl rfl 3 rfl ?_
      refine r_iconst 513 hX dL_law_512 rfl 2 ic_2 ?_
      refine r_iadd 514 hX dL_law_513 rfl ?_
      refine r_sld 515 hX hR dL_law_514 rfl hw (fun hw => ?_)
      refine r_aload_n 516 hX dL_law_515 rfl rfl 0 rfl ?_
      refine r_iload_n 517 hX dL_law_516 rfl rfl 3 rfl ?_
      refine r_iconst 518 hX dL_law_517 rfl 3 ic_3 ?_
      refine r_iadd 519 hX dL_law_518 rfl ?_
      refine r_sld 520 hX hR dL_law_519 rfl hw (fun hw => ?_)
      refine k_L_65_X6_more 523 hX (by omega) (xs (x3 + 1).toNatClampNeg) (xs (x3 + 2).toNatClampNeg) (xs (x3 + 3).toNatClampNeg) (Nat.le_of_ble_eq_true rfl) dL_law_520 rfl hw (fun r520 σ520 hw => ?_)
      refine r_aload_n 524 hX dL_law_523 rfl rfl 2 rfl ?_
      refine r_aload_n 525 hX dL_law_524 rfl rfl 0 rfl ?_
      refine r_iload_n 526 hX dL_law_525 rfl rfl 3 rfl ?_
      refine r_iconst 527 hX dL_law_526 rfl 1 ic_1 ?_
      refine r_iadd 528 hX dL_law_527 rfl ?_
      refine r_sld 529 hX hR dL_law_528 rfl hw (fun hw => ?_)
      refine r_aload_n 530 hX dL_law_529 rfl rfl 0 rfl ?_
      refine r_iload_n 531 hX dL_law_530 rfl rfl 3 rfl ?_
      refine r_iconst 532 hX dL_law_531 rfl 2 ic_2 ?_
      refine r_iadd 533 hX dL_law_532 rfl ?_
      refine r_sld 534 hX hR dL_law_533 rfl hw (fun hw => ?_)
      refine r_aload_n 535 hX dL_law_534 rfl rfl 0 rfl ?_
      refine r_iload_n 536 hX dL_law_535 rfl rfl 3 rfl ?_
      refine r_iconst 537 hX dL_law_536 rfl 3 ic_3 ?_
      refine r_iadd 538 hX dL_law_537 rfl ?_
      refine r_sld 539 hX hR dL_law_538 rfl hw (fun hw => ?_)
      refine k_L_68_X7_more 542 hX (by omega) (xs (x3 + 1).toNatClampNeg) (xs (x3 + 2).toNatClampNeg) (xs (x3 + 3).toNatClampNeg) (Nat.le_of_ble_eq_true rfl) dL_law_539 rfl hw (fun r539 σ539 hw => ?_)
      refine r_icmp_eq 1007 545 hX dL_law_542 (by decide) rfl hw (fun hw => ?_) (fun hw => ?_)
      · refine r_iinc (lv' := [(3, .int (x3 + 4)), (0, .ref b), (1, .ref (X.kad 0)), (2, .ref (X.kad 75))]) 1010 hX dL_law_1007 rfl 3 rfl (x3 + 4) (ici_4 _) (by decide) rfl ?_
        refine r_goto 18 hX dL_law_1010 (by decide) ?_
        refine r_sub [1, 2, 3, 0] rfl ?_
        exact hK18 _ _ hw
      · refine r_iconst 546 hX dL_law_545 rfl 0 ic_0 ?_
        exact r_lawret hX hR dL_law_546 hw
    refine r_case hw (fun hc hw => ?_) (fun hc12 hw => ?_)
    · refine r_tabIn 547 hX dL_law_32 (by rw [hc]; decide) (by rw [hc]; decide) (off := 515) (by rw [hc]; decide) (by decide) ?_
      refine r_aload_n 548 hX dL_law_547 rfl rfl 1 rfl ?_
      refine r_aload_n 549 hX dL_law_548 rfl rfl 0 rfl ?_
      refine r_iload_n 550 hX dL_law_549 rfl rfl 3 rfl ?_
      refine r_iconst 551 hX dL_law_550 rfl 1 ic_1 ?_
      refine r_iadd 552 hX dL_law_551 rfl ?_
      refine r_sld 553 hX hR dL_law_552 rfl hw (fun hw => ?_)
      refine k_L_69_X6_take 556 hX (by omega) (xs (x3 + 1).toNatClampNeg) (Nat.le_of_ble_eq_true rfl) dL_law_553 rfl hw (fun r553 σ553 hw => ?_)
      refine r_aload_n 557 hX dL_law_556 rfl rfl 2 rfl ?_
      refine r_aload_n 558 hX dL_law_557 rfl rfl 0 rfl ?_
      refine r_iload_n 559 hX dL_law_558 rfl rfl 3 rfl ?_
      refine r_iconst 560 hX dL_law_559 rfl 1 ic_1 ?_
      refine r_iadd 561 hX dL_law_560 rfl ?_
      refine r_sld 562 hX hR dL_law_561 rfl hw (fun hw => ?_)
      refine k_L_72_X7_take 565 hX (by omega) (xs (x3 + 1).toNatClampNeg) (Nat.le_of_ble_eq_true rfl) dL_law_562 rfl hw (fun r562 σ562 hw => ?_)
      refine r_icmp_eq 1007 568 hX dL_law_565 (by decide) rfl hw (fun hw => ?_) (fun hw => ?_)
      · refine r_iinc (lv' := [(3, .int (x3 + 4)), (0, .ref b), (1, .ref (X.kad 0)), (2, .ref (X.kad 75))]) 1010 hX dL_law_1007 rfl 3 rfl (x3 + 4) (ici_4 _) (by decide) rfl ?_
        refine r_goto 18 hX dL_law_1010 (by decide) ?_
        refine r_sub [1, 2, 3, 0] rfl ?_
        exact hK18 _ _ hw
      · refine r_iconst 569 hX dL_law_568 rfl 0 ic_0 ?_
        exact r_lawret hX hR dL_law_569 hw
    refine r_case hw (fun hc hw => ?_) (fun hc13 hw => ?_)
    · refine r_tabIn 570 hX dL_law_32 (by rw [hc]; decide) (by rw [hc]; decide) (off := 538) (by rw [hc]; decide) (by decide) ?_
      refine r_aload_n 571 hX dL_law_570 rfl rfl 1 rfl ?_
      refine r_aload_n 572 hX dL_law_571 rfl rfl 0 rfl ?_
      refine r_iload_n 573 hX dL_law_572 rfl rfl 3 rfl ?_
      refine r_iconst 574 hX dL_law_573 rfl 1 ic_1 ?_
      refine r_iadd 575 hX dL_law_574 rfl ?_
      refine r_sld 576 hX hR dL_law_575 rfl hw (fun hw => ?_)
      refine r_aload_n 577 hX dL_law_576 rfl rfl 0 rfl ?_
      refine r_iload_n 578 hX dL_law_577 rfl rfl 3 rfl ?_
      refine r_iconst 579 hX dL_law_578 rfl 2 ic_2 ?_
      refine r_iadd 580 hX dL_law_579 rfl ?_
      refine r_sld 581 hX hR dL_law_580 rfl hw (fun hw => ?_)
      refine k_L_73_X6_way 584 hX (by omega) (xs (x3 + 1).toNatClampNeg) (xs (x3 + 2).toNatClampNeg) (Nat.le_of_ble_eq_true rfl) dL_law_581 rfl hw (fun r581 σ581 hw => ?_)
      refine r_aload_n 585 hX dL_law_584 rfl rfl 2 rfl ?_
      refine r_aload_n 586 hX dL_law_585 rfl rfl 0 rfl ?_
      refine r_iload_n 587 hX dL_law_586 rfl rfl 3 rfl ?_
      refine r_iconst 588 hX dL_law_587 rfl 1 ic_1 ?_
      refine r_iadd 589 hX dL_law_588 rfl ?_
      refine r_sld 590 hX hR dL_law_589 rfl hw (fun hw => ?_)
      refine r_aload_n 591 hX dL_law_590 rfl rfl 0 rfl ?_
      refine r_iload_n 592 hX dL_law_591 rfl rfl 3 rfl ?_
      refine r_iconst 593 hX dL_law_592 rfl 2 ic_2 ?_
      refine r_iadd 594 hX dL_law_593 rfl ?_
      refine r_sld 595 hX hR dL_law_594 rfl hw (fun hw => ?_)
      refine k_L_76_X7_way 598 hX (by omega) (xs (x3 + 1).toNatClampNeg) (xs (x3 + 2).toNatClampNeg) (Nat.le_of_ble_eq_true rfl) dL_law_595 rfl hw (fun r595 σ595 hw => ?_)
      refine r_icmp_eq 1007 601 hX dL_law_598 (by decide) rfl hw (fun hw => ?_) (fun hw => ?_)
      · refine r_iinc (lv' := [(3, .int (x3 + 4)), (0, .ref b), (1, .ref (X.kad 0)), (2, .ref (X.kad 75))]) 1010 hX dL_law_1007 rfl 3 rfl (x3 + 4) (ici_4 _) (by decide) rfl ?_
        refine r_goto 18 hX dL_law_1010 (by decide) ?_
        refine r_sub [1, 2, 3, 0] rfl ?_
        exact hK18 _ _ hw
      · refine r_iconst 602 hX dL_law_601 rfl 0 ic_0 ?_
        exact r_lawret hX hR dL_law_602 hw
    refine r_case hw (fun hc hw => ?_) (fun hc14 hw => ?_)
    · refine r_tabIn 603 hX dL_law_32 (by rw [hc]; decide) (by rw [hc]; decide) (off := 571) (by rw [hc]; decide) (by decide) ?_
      refine r_aload_n 604 hX dL_law_603 rfl rfl 1 rfl ?_
      refine r_aload_n 605 hX dL_law_604 rfl rfl 0 rfl ?_
      refine r_iload_n 606 hX dL_law_605 rfl rfl 3 rfl ?_
      refine r_iconst 607 hX dL_law_606 rfl 1 ic_1 ?_
      refine r_iadd 608 hX dL_law_607 rfl ?_
      refine r_sld 609 hX hR dL_law_608 rfl hw (fun hw => ?_)
      refine r_aload_n 610 hX dL_law_609 rfl rfl 0 rfl ?_
      refine r_iload_n 611 hX dL_law_610 rfl rfl 3 rfl ?_
      refine r_iconst 612 hX dL_law_611 rfl 2 ic_2 ?_
      refine r_iadd 613 hX dL_law_612 rfl ?_
      refine r_sld 614 hX hR dL_law_613 rfl hw (fun hw => ?_)
      refine r_aload_n 615 hX dL_law_614 rfl rfl 0 rfl ?_
      refine r_iload_n 616 hX dL_law_615 rfl rfl 3 rfl ?_
      refine r_iconst 617 hX dL_law_616 rfl 3 ic_3 ?_
      refine r_iadd 618 hX dL_law_617 rfl ?_
      refine r_sld 619 hX hR dL_law_618 rfl hw (fun hw => ?_)
      refine k_L_77_X6_turn 622 hX (by omega) (xs (x3 + 1).toNatClampNeg) (xs (x3 + 2).toNatClampNeg) (xs (x3 + 3).toNatClampNeg) (Nat.le_of_ble_eq_true rfl) dL_law_619 rfl hw (fun r619 σ619 hw => ?_)
      refine r_aload_n 623 hX dL_law_622 rfl rfl 2 rfl ?_
      refine r_aload_n 624 hX dL_law_623 rfl rfl 0 rfl ?_
      refine r_iload_n 625 hX dL_law_624 rfl rfl 3 rfl ?_
      refine r_iconst 626 hX dL_law_625 rfl 1 ic_1 ?_
      refine r_iadd 627 hX dL_law_626 rfl ?_
      refine r_sld 628 hX hR dL_law_627 rfl hw (fun hw => ?_)
      refine r_aload_n 629 hX dL_law_628 rfl rfl 0 rfl ?_
      refine r_iload_n 630 hX dL_law_629 rfl rfl 3 rfl ?_
      refine r_iconst 631 hX dL_law_630 rfl 2 ic_2 ?_
      refine r_iadd 632 hX dL_law_631 rfl ?_
      refine r_sld 633 hX hR dL_law_632 rfl hw (fun hw => ?_)
      refine r_aload_n 634 hX dL_law_633 rfl rfl 0 rfl ?_
      refine r_iload_n 635 hX dL_law_634 rfl rfl 3 rfl ?_
      refine r_iconst 636 hX dL_law_635 rfl 3 ic_3 ?_
      refine r_iadd 637 hX dL_law_636 rfl ?_
      refine r_sld 638 hX hR dL_law_637 rfl hw (fun hw => ?_)
      refine k_L_80_X7_turn 641 hX (by omega) (xs (x3 + 1).toNatClampNeg) (xs (x3 + 2).toNatClampNeg) (xs (x3 + 3).toNatClampNeg) (Nat.le_of_ble_eq_true rfl) dL_law_638 rfl hw (fun r638 σ638 hw => ?_)
      refine r_icmp_eq 1007 644 hX dL_law_641 (by decide) rfl hw (fun hw => ?_) (fun hw => ?_)
      · refine r_iinc (lv' := [(3, .int (x3 + 4)), (0, .ref b), (1, .ref (X.kad 0)), (2, .ref (X.kad 75))]) 1010 hX dL_law_1007 rfl 3 rfl (x3 + 4) (ici_4 _) (by decide) rfl ?_
        refine r_goto 18 hX dL_law_1010 (by decide) ?_
        refine r_sub [1, 2, 3, 0] rfl ?_
        exact hK18 _ _ hw
      · refine r_iconst 645 hX dL_law_644 rfl 0 ic_0 ?_
        exact r_lawret hX hR dL_law_645 hw
    refine r_case hw (fun hc hw => ?_) (fun hc15 hw => ?_)
    · refine r_tabIn 646 hX dL_law_32 (by rw [hc]; decide) (by rw [hc]; decide) (off := 614) (by rw [hc]; decide) (by decide) ?_
      refine r_aload_n 647 hX dL_law_646 rfl rfl 1 rfl ?_
      refine r_aload_n 648 hX dL_law_647 rfl rfl 0 rfl ?_
      refine r_iload_n 649 hX dL_law_648 rfl rfl 3 rfl ?_
      refine r_iconst 650 hX dL_law_649 rfl 1 ic_1 ?_
      refine r_iadd 651 hX dL_law_650 rfl ?_
      refine r_sld 652 hX hR dL_law_651 rfl hw (fun hw => ?_)
      refine k_L_81_X6_judge 655 hX (by omega) (xs (x3 + 1).toNatClampNeg) (Nat.le_of_ble_eq_true rfl) dL_law_652 rfl hw (fun r652 σ652 hw => ?_)
      refine r_aload_n 656 hX dL_law_655 rfl rfl 2 rfl ?_
      refine r_aload_n 657 hX dL_law_656 rfl rfl 0 rfl ?_
      refine r_iload_n 658 hX dL_law_657 rfl rfl 3 rfl ?_
      refine r_iconst 659 hX dL_law_658 rfl 1 ic_1 ?_
      refine r_iadd 660 hX dL_law_659 rfl ?_
      refine r_sld 661 hX hR dL_law_660 rfl hw (fun hw => ?_)
      refine k_L_84_X7_judge 664 hX (by omega) (xs (x3 + 1).toNatClampNeg) (Nat.le_of_ble_eq_true rfl) dL_law_661 rfl hw (fun r661 σ661 hw => ?_)
      refine r_icmp_eq 1007 667 hX dL_law_664 (by decide) rfl hw (fun hw => ?_) (fun hw => ?_)
      · refine r_iinc (lv' := [(3, .int (x3 + 4)), (0, .ref b), (1, .ref (X.kad 0)), (2, .ref (X.kad 75))]) 1010 hX dL_law_1007 rfl 3 rfl (x3 + 4) (ici_4 _) (by decide) rfl ?_
        refine r_goto 18 hX dL_law_1010 (by decide) ?_
        refine r_sub [1, 2, 3, 0] rfl ?_
        exact hK18 _ _ hw
      · refine r_iconst 668 hX dL_law_667 rfl 0 ic_0 ?_
        exact r_lawret hX hR dL_law_668 hw
    refine r_case hw (fun hc hw => ?_) (fun hc16 hw => ?_)
    · refine r_tabIn 669 hX dL_law_32 (by rw [hc]; decide) (by rw [hc]; decide) (off := 637) (by rw [hc]; decide) (by decide) ?_
      refine r_aload_n 670 hX dL_law_669 rfl rfl 1 rfl ?_
      refine r_aload_n 671 hX dL_law_670 rfl rfl 0 rfl ?_
      refine r_iload_n 672 hX dL_law_671 rfl rfl 3 rfl ?_
      refine r_iconst 673 hX dL_law_672 rfl 1 ic_1 ?_
      refine r_iadd 674 hX dL_law_673 rfl ?_
      refine r_sld 675 hX hR dL_law_674 rfl hw (fun hw => ?_)
      refine r_aload_n 676 hX dL_law_675 rfl rfl 0 rfl ?_
      refine r_iload_n 677 hX dL_law_676 rfl rfl 3 rfl ?_
      refine r_iconst 678 hX dL_law_677 rfl 2 ic_2 ?_
      refine r_iadd 679 hX dL_law_678 rfl ?_
      refine r_sld 680 hX hR dL_law_679 rfl hw (fun hw => ?_)
      refine k_L_85_X6_plan 683 hX (by omega) (xs (x3 + 1).toNatClampNeg) (xs (x3 + 2).toNatClampNeg) (Nat.le_of_ble_eq_true rfl) dL_law_680 rfl hw (fun r680 σ680 hw => ?_)
      refine r_aload_n 684 hX dL_law_683 rfl rfl 2 rfl ?_
      refine r_aload_n 685 hX dL_law_684 rfl rfl 0 rfl ?_
      refine r_iload_n 686 hX dL_law_685 rfl rfl 3 rfl ?_
      refine r_iconst 687 hX dL_law_686 rfl 1 ic_1 ?_
      refine r_iadd 688 hX dL_law_687 rfl ?_
      refine r_sld 689 hX hR dL_law_688 rfl hw (fun hw => ?_)
      refine r_aload_n 690 hX dL_law_689 rfl rfl 0 rfl ?_
      refine r_iload_n 691 hX dL_law_690 rfl rfl 3 rfl ?_
      refine r_iconst 692 hX dL_law_691 rfl 2 ic_2 ?_
      refine r_iadd 693 hX dL_law_692 rfl ?_
      refine r_sld 694 hX hR dL_law_693 rfl hw (fun hw => ?_)
      refine k_L_88_X7_plan 697 hX (by omega) (xs (x3 + 1).toNatClampNeg) (xs (x3 + 2).toNatClampNeg) (Nat.le_of_ble_eq_true rfl) dL_law_694 rfl hw (fun r694 σ694 hw => ?_)
      refine r_icmp_eq 1007 700 hX dL_law_697 (by decide) rfl hw (fun hw => ?_) (fun hw => ?_)
      · refine r_iinc (lv' := [(3, .int (x3 + 4)), (0, .ref b), (1, .ref (X.kad 0)), (2, .ref (X.kad 75))]) 1010 hX dL_law_1007 rfl 3 rfl (x3 + 4) (ici_4 _) (by decide) rfl ?_
        refine r_goto 18 hX dL_law_1010 (by decide) ?_
        refine r_sub [1, 2, 3, 0] rfl ?_
        exact hK18 _ _ hw
      · refine r_iconst 701 hX dL_law_700 rfl 0 ic_0 ?_
        exact r_lawret hX hR dL_law_701 hw
    refine r_case hw (fun hc hw => ?_) (fun hc17 hw => ?_)
    · refine r_tabIn 702 hX dL_law_32 (by rw [hc]; decide) (by rw [hc]; decide) (off := 670) (by rw [hc]; decide) (by decide) ?_
      refine r_aload_n 703 hX dL_law_702 rfl rfl 1 rfl ?_
      refine r_aload_n 704 hX dL_law_703 rfl rfl 0 rfl ?_
      refine r_iload_n 705 hX dL_law_704 rfl rfl 3 rfl ?_
      refine r_iconst 706 hX dL_law_705 rfl 1 ic_1 ?_
      refine r_iadd 707 hX dL_law_706 rfl ?_
      refine r_sld 708 hX hR dL_law_707 rfl hw (fun hw => ?_)
      refine r_aload_n 709 hX dL_law_708 rfl rfl 0 rfl ?_
      refine r_iload_n 710 hX dL_law_709 rfl rfl 3 rfl ?_
      refine r_iconst 711 hX dL_law_710 rfl 2 ic_2 ?_
      refine r_iadd 712 hX dL_law_711 rfl ?_
      refine r_sld 713 hX hR dL_law_712 rfl hw (fun hw => ?_)
      refine k_L_89_X6_draw 716 hX (by omega) (xs (x3 + 1).toNatClampNeg) (xs (x3 + 2).toNatClampNeg) (Nat.le_of_ble_eq_true rfl) dL_law_713 rfl hw (fun r713 σ713 hw => ?_)
      refine r_aload_n 717 hX dL_law_716 rfl rfl 2 rfl ?_
      refine r_aload_n 718 hX dL_law_717 rfl rfl 0 rfl ?_
      refine r_iload_n 719 hX dL_law_718 rfl rfl 3 rfl ?_
      refine r_iconst 720 hX dL_law_719 rfl 1 ic_1 ?_
      refine r_iadd 721 hX dL_law_720 rfl ?_
      refine r_sld 722 hX hR dL_law_721 rfl hw (fun hw => ?_)
      refine r_aload_n 723 hX dL_law_722 rfl rfl 0 rfl ?_
      refine r_iload_n 724 hX dL_law_723 rfl rfl 3 rfl ?_
      refine r_iconst 725 hX dL_law_724 rfl 2 ic_2 ?_
      refine r_iadd 726 hX dL_law_725 rfl ?_
      refine r_sld 727 hX hR dL_law_726 rfl hw (fun hw => ?_)
      refine k_L_92_X7_draw 730 hX (by omega) (xs (x3 + 1).toNatClampNeg) (xs (x3 + 2).toNatClampNeg) (Nat.le_of_ble_eq_true rfl) dL_law_727 rfl hw (fun r727 σ727 hw => ?_)
      refine r_icmp_eq 1007 733 hX dL_law_730 (by decide) rfl hw (fun hw => ?_) (fun hw => ?_)
      · refine r_iinc (lv' := [(3, .int (x3 + 4)), (0, .ref b), (1, .ref (X.kad 0)), (2, .ref (X.kad 75))]) 1010 hX dL_law_1007 rfl 3 rfl (x3 + 4) (ici_4 _) (by decide) rfl ?_
        refine r_goto 18 hX dL_law_1010 (by decide) ?_
        refine r_sub [1, 2, 3, 0] rfl ?_
        exact hK18 _ _ hw
      · refine r_iconst 734 hX dL_law_733 rfl 0 ic_0 ?_
        exact r_lawret hX hR dL_law_734 hw
    refine r_case hw (fun hc hw => ?_) (fun hc18 hw => ?_)
    · refine r_tabIn 735 hX dL_law_32 (by rw [hc]; decide) (by rw [hc]; decide) (off := 703) (by rw [hc]; decide) (by decide) ?_
      refine r_aload_n 736 hX dL_law_735 rfl rfl 1 rfl ?_
      refine r_aload_n 737 hX dL_law_736 rfl rfl 0 rfl ?_
      refine r_iload_n 738 hX dL_law_737 rfl rfl 3 rfl ?_
      refine r_iconst 739 hX dL_law_738 rfl 1 ic_1 ?_
      refine r_iadd 740 hX dL_law_739 rfl ?_
      refine r_sld 741 hX hR dL_law_740 rfl hw (fun hw => ?_)
      refine r_aload_n 742 hX dL_law_741 rfl rfl 0 rfl ?_
      refine r_iload_n 743 hX dL_law_742 rfl rfl 3 rfl ?_
      refine r_iconst 744 hX dL_law_743 rfl 2 ic_2 ?_
      refine r_iadd 745 hX dL_law_744 rfl ?_
      refine r_sld 746 hX hR dL_law_745 rfl hw (fun hw => ?_)
      refine r_aload_n 747 hX dL_law_746 rfl rfl 0 rfl ?_
      refine r_iload_n 748 hX dL_law_747 rfl rfl 3 rfl ?_
      refine r_iconst 749 hX dL_law_748 rfl 3 ic_3 ?_
      refine r_iadd 750 hX dL_law_749 rfl ?_
      refine r_sld 751 hX hR dL_law_750 rfl hw (fun hw => ?_)
      refine k_L_93_X6_smokes 754 hX (by omega) (xs (x3 + 1).toNatClampNeg) (xs (x3 + 2).toNatClampNeg) (xs (x3 + 3).toNatClampNeg) (Nat.le_of_ble_eq_true rfl) dL_law_751 rfl hw (fun r751 σ751 hw => ?_)
      refine r_aload_n 755 hX dL_law_754 rfl rfl 2 rfl ?_
      refine r_aload_n 756 hX dL_law_755 rfl rfl 0 rfl ?_
      refine r_iload_n 757 hX dL_law_756 rfl rfl 3 rfl ?_
      refine r_iconst 758 hX dL_law_757 rfl 1 ic_1 ?_
      refine r_iadd 759 hX dL_law_758 rfl ?_
      refine r_sld 760 hX hR dL_law_759 rfl hw (fun hw => ?_)
      refine r_aload_n 761 hX dL_law_760 rfl rfl 0 rfl ?_
      refine r_iload_n 762 hX dL_law_761 rfl rfl 3 rfl ?_
      refine r_iconst 763 hX dL_law_762 rfl 2 ic_2 ?_
      refine r_iadd 764 hX dL_law_763 rfl ?_
      refine r_sld 765 hX hR dL_law_764 rfl hw (fun hw => ?_)
      refine r_aload_n 766 hX dL_law_765 rfl rfl 0 rfl ?_
      refine r_iload_n 767 hX dL_law_766 rfl rfl 3 rfl ?_
      refine r_iconst 768 hX dL_law_767 rfl 3 ic_3 ?_
      refine r_iadd 769 hX dL_law_768 rfl ?_
      refine r_sld 770 hX hR dL_law_769 rfl hw (fun hw => ?_)
      refine k_L_96_X7_smokes 773 hX (by omega) (xs (x3 + 1).toNatClampNeg) (xs (x3 + 2).toNatClampNeg) (xs (x3 + 3).toNatClampNeg) (Nat.le_of_ble_eq_true rfl) dL_law_770 rfl hw (fun r770 σ770 hw => ?_)
      refine r_icmp_eq 1007 776 hX dL_law_773 (by decide) rfl hw (fun hw => ?_) (fun hw => ?_)
      · refine r_iinc (lv' := [(3, .int (x3 + 4)), (0, .ref b), (1, .ref (X.kad 0)), (2, .ref (X.kad 75))]) 1010 hX dL_law_1007 rfl 3 rfl (x3 + 4) (ici_4 _) (by decide) rfl ?_
        refine r_goto 18 hX dL_law_1010 (by decide) ?_
        refine r_sub [1, 2, 3, 0] rfl ?_
        exact hK18 _ _ hw
      · refine r_iconst 777 hX dL_law_776 rfl 0 ic_0 ?_
        exact r_lawret hX hR dL_law_777 hw
    refine r_case hw (fun hc hw => ?_) (fun hc19 hw => ?_)
    · refine r_tabIn 778 hX dL_law_32 (by rw [hc]; decide) (by rw [hc]; decide) (off := 746) (by rw [hc]; decide) (by decide) ?_
      refine r_aload_n 779 hX dL_law_778 rfl rfl 1 rfl ?_
      refine r_aload_n 780 hX dL_law_779 rfl rfl 0 rfl ?_
      refine r_iload_n 781 hX dL_law_780 rfl rfl 3 rfl ?_
      refine r_iconst 782 hX dL_law_781 rfl 1 ic_1 ?_
      refine r_iadd 783 hX dL_law_782 rfl ?_
      refine r_sld 784 hX hR dL_law_783 rfl hw (fun hw => ?_)
      refine k_L_97_X6_mend 787 hX (by omega) (xs (x3 + 1).toNatClampNeg) (Nat.le_of_ble_eq_true rfl) dL_law_784 rfl hw (fun r784 σ784 hw => ?_)
      refine r_aload_n 788 hX dL_law_787 rfl rfl 2 rfl ?_
      refine r_aload_n 789 hX dL_law_788 rfl rfl 0 rfl ?_
      refine r_iload_n 790 hX dL_law_789 rfl rfl 3 rfl ?_
      refine r_iconst 791 hX dL_law_790 rfl 1 ic_1 ?_
      refine r_iadd 792 hX dL_law_791 rfl ?_
      refine r_sld 793 hX hR dL_law_792 rfl hw (fun hw => ?_)
      refine k_L_100_X7_mend 796 hX (by omega) (xs (x3 + 1).toNatClampNeg) (Nat.le_of_ble_eq_true rfl) dL_law_793 rfl hw (fun r793 σ793 hw => ?_)
      refine r_icmp_eq 1007 799 hX dL_law_796 (by decide) rfl hw (fun hw => ?_) (fun hw => ?_)
      · refine r_iinc (lv' := [(3, .int (x3 + 4)), (0, .ref b), (1, .ref (X.kad 0)), (2, .ref (X.kad 75))]) 1010 hX dL_law_1007 rfl 3 rfl (x3 + 4) (ici_4 _) (by decide) rfl ?_
        refine r_goto 18 hX dL_law_1010 (by decide) ?_
        refine r_sub [1, 2, 3, 0] rfl ?_
        exact hK18 _ _ hw
      · refine r_iconst 800 hX dL_law_799 rfl 0 ic_0 ?_
        exact r_lawret hX hR dL_law_800 hw
    refine r_case hw (fun hc hw => ?_) (fun hc20 hw => ?_)
    · refine r_tabIn 801 hX dL_law_32 (by rw [hc]; decide) (by rw [hc]; decide) (off := 769) (by rw [hc]; decide) (by decide) ?_
      refine r_aload_n 802 hX dL_law_801 rfl rfl 1 rfl ?_
      refine r_aload_n 803 hX dL_law_802 rfl rfl 0 rfl ?_
      refine r_iload_n 804 hX dL_law_803 rfl rfl 3 rfl ?_
      refine r_iconst 805 hX dL_law_804 rfl 1 ic_1 ?_
      refine r_iadd 806 hX dL_law_805 rfl ?_
      refine r_sld 807 hX hR dL_law_806 rfl hw (fun hw => ?_)
      refine r_aload_n 808 hX dL_law_807 rfl rfl 0 rfl ?_
      refine r_iload_n 809 hX dL_law_808 rfl rfl 3 rfl ?_
      refine r_iconst 810 hX dL_law_809 rfl 2 ic_2 ?_
      refine r_iadd 811 hX dL_law_810 rfl ?_
      refine r_sld 812 hX hR dL_law_811 rfl hw (fun hw => ?_)
      refine k_L_101_X6_moved 815 hX (by omega) (xs (x3 + 1).toNatClampNeg) (xs (x3 + 2).toNatClampNeg) (Nat.le_of_ble_eq_true rfl) dL_law_812 rfl hw (fun r812 σ812 hw => ?_)
      refine r_aload_n 816 hX dL_law_815 rfl rfl 2 rfl ?_
      refine r_aload_n 817 hX dL_law_816 rfl rfl 0 rfl ?_
      refine r_iload_n 818 hX dL_law_817 rfl rfl 3 rfl ?_
      refine r_iconst 819 hX dL_law_818 rfl 1 ic_1 ?_
      refine r_iadd 820 hX dL_law_819 rfl ?_
      refine r_sld 821 hX hR dL_law_820 rfl hw (fun hw => ?_)
      refine r_aload_n 822 hX dL_law_821 rfl rfl 0 rfl ?_
      refine r_iload_n 823 hX dL_law_822 rfl rfl 3 rfl ?_
      refine r_iconst 824 hX dL_law_823 rfl 2 ic_2 ?_
      refine r_iadd 825 hX dL_law_824 rfl ?_
      refine r_sld 826 hX hR dL_law_825 rfl hw (fun hw => ?_)
      refine k_L_104_X7_moved 829 hX (by omega) (xs (x3 + 1).toNatClampNeg) (xs (x3 + 2).toNatClampNeg) (Nat.le_of_ble_eq_true rfl) dL_law_826 rfl hw (fun r826 σ826 hw => ?_)
      refine r_icmp_eq 1007 832 hX dL_law_829 (by decide) rfl hw (fun hw => ?_) (fun hw => ?_)
      · refine r_iinc (lv' := [(3, .int (x3 + 4)), (0, .ref b), (1, .ref (X.kad 0)), (2, .ref (X.kad 75))]) 1010 hX dL_law_1007 rfl 3 rfl (x3 + 4) (ici_4 _) (by decide) rfl ?_
        refine r_goto 18 hX dL_law_1010 (by decide) ?_
        refine r_sub [1, 2, 3, 0] rfl ?_
        exact hK18 _ _ hw
      · refine r_iconst 833 hX dL_law_832 rfl 0 ic_0 ?_
        exact r_lawret hX hR dL_law_833 hw
    refine r_case hw (fun hc hw => ?_) (fun hc21 hw => ?_)
    · refine r_tabIn 834 hX dL_law_32 (by rw [hc]; decide) (by rw [hc]; decide) (off := 802) (by rw [hc]; decide) (by decide) ?_
      refine r_aload_n 835 hX dL_law_834 rfl rfl 1 rfl ?_
      refine r_aload_n 836 hX dL_law_835 rfl rfl 0 rfl ?_
      refine r_iload_n 837 hX dL_law_836 rfl rfl 3 rfl ?_
      refine r_iconst 838 hX dL_law_837 rfl 1 ic_1 ?_
      refine r_iadd 839 hX dL_law_838 rfl ?_
      refine r_sld 840 hX hR dL_law_839 rfl hw (fun hw => ?_)
      refine r_aload_n 841 hX dL_law_840 rfl rfl 0 rfl ?_
      refine r_iload_n 842 hX dL_law_841 rfl rfl 3 rfl ?_
      refine r_iconst 843 hX dL_law_842 rfl 2 ic_2 ?_
      refine r_iadd 844 hX dL_law_843 rfl ?_
      refine r_sld 845 hX hR dL_law_844 rfl hw (fun hw => ?_)
      refine k_L_105_X6_mark 848 hX (by omega) (xs (x3 + 1).toNatClampNeg) (xs (x3 + 2).toNatClampNeg) (Nat.le_of_ble_eq_true rfl) dL_law_845 rfl hw (fun r845 σ845 hw => ?_)
      refine r_aload_n 849 hX dL_law_848 rfl rfl 2 rfl ?_
      refine r_aload_n 850 hX dL_law_849 rfl rfl 0 rfl ?_
      refine r_iload_n 851 hX dL_law_850 rfl rfl 3 rfl ?_
      refine r_iconst 852 hX dL_law_851 rfl 1 ic_1 ?_
      refine r_iadd 853 hX dL_law_852 rfl ?_
      refine r_sld 854 hX hR dL_law_853 rfl hw (fun hw => ?_)
      refine r_aload_n 855 hX dL_law_854 rfl rfl 0 rfl ?_
      refine r_iload_n 856 hX dL_law_855 rfl rfl 3 rfl ?_
      refine r_iconst 857 hX dL_law_856 rfl 2 ic_2 ?_
      refine r_iadd 858 hX dL_law_857 rfl ?_
      refine r_sld 859 hX hR dL_law_858 rfl hw (fun hw => ?_)
      refine k_L_108_X7_mark 862 hX (by omega) (xs (x3 + 1).toNatClampNeg) (xs (x3 + 2).toNatClampNeg) (Nat.le_of_ble_eq_true rfl) dL_law_859 rfl hw (fun r859 σ859 hw => ?_)
      refine r_icmp_eq 1007 865 hX dL_law_862 (by decide) rfl hw (fun hw => ?_) (fun hw => ?_)
      · refine r_iinc (lv' := [(3, .int (x3 + 4)), (0, .ref b), (1, .ref (X.kad 0)), (2, .ref (X.kad 75))]) 1010 hX dL_law_1007 rfl 3 rfl (x3 + 4) (ici_4 _) (by decide) rfl ?_
        refine r_goto 18 hX dL_law_1010 (by decide) ?_
        refine r_sub [1, 2, 3, 0] rfl ?_
        exact hK18 _ _ hw
      · refine r_iconst 866 hX dL_law_865 rfl 0 ic_0 ?_
        exact r_lawret hX hR dL_law_866 hw
    refine r_case hw (fun hc hw => ?_) (fun hc22 hw => ?_)
    · refine r_tabIn 867 hX dL_law_32 (by rw [hc]; decide) (by rw [hc]; decide) (off := 835) (by rw [hc]; decide) (by decide) ?_
      refine r_aload_n 868 hX dL_law_867 rfl rfl 1 rfl ?_
      refine r_aload_n 869 hX dL_law_868 rfl rfl 0 rfl ?_
      refine r_iload_n 870 hX dL_law_869 rfl rfl 3 rfl ?_
      refine r_iconst 871 hX dL_law_870 rfl 1 ic_1 ?_
      refine r_iadd 872 hX dL_law_871 rfl ?_
      refine r_sld 873 hX hR dL_law_872 rfl hw (fun hw => ?_)
      refine k_L_109_X6_guess 876 hX (by omega) (xs (x3 + 1).toNatClampNeg) (Nat.le_of_ble_eq_true rfl) dL_law_873 rfl hw (fun r873 σ873 hw => ?_)
      refine r_aload_n 877 hX dL_law_876 rfl rfl 2 rfl ?_
      refine r_aload_n 878 hX dL_law_877 rfl rfl 0 rfl ?_
      refine r_iload_n 879 hX dL_law_878 rfl rfl 3 rfl ?_
      refine r_iconst 880 hX dL_law_879 rfl 1 ic_1 ?_
      refine r_iadd 881 hX dL_law_880 rfl ?_
      refine r_sld 882 hX hR dL_law_881 rfl hw (fun hw => ?_)
      refine k_L_112_X7_guess 885 hX (by omega) (xs (x3 + 1).toNatClampNeg) (Nat.le_of_ble_eq_true rfl) dL_law_882 rfl hw (fun r882 σ882 hw => ?_)
      refine r_lcmp 886 hX dL_law_885 rfl ?_
      refine r_if_eq 1007 889 hX dL_law_886 (by decide) rfl hw (fun hw => ?_) (fun hw => ?_)
      · refine r_iinc (lv' := [(3, .int (x3 + 4)), (0, .ref b), (1, .ref (X.kad 0)), (2, .ref (X.kad 75))]) 1010 hX dL_law_1007 rfl 3 rfl (x3 + 4) (ici_4 _) (by decide) rfl ?_
        refine r_goto 18 hX dL_law_1010 (by decide) ?_
        refine r_sub [1, 2, 3, 0] rfl ?_
        exact hK18 _ _ hw
      · refine r_iconst 890 hX dL_law_889 rfl 0 ic_0 ?_
        exact r_lawret hX hR dL_law_890 hw
    refine r_case hw (fun hc hw => ?_) (fun hc23 hw => ?_)
    · refine r_tabIn 891 hX dL_law_32 (by rw [hc]; decide) (by rw [hc]; decide) (off := 859) (by rw [hc]; decide) (by decide) ?_
      refine r_aload_n 892 hX dL_law_891 rfl rfl 1 rfl ?_
      refine r_aload_n 893 hX dL_law_892 rfl rfl 0 rfl ?_
      refine r_iload_n 894 hX dL_law_893 rfl rfl 3 rfl ?_
      refine r_iconst 895 hX dL_law_894 rfl 1 ic_1 ?_
      refine r_iadd 896 hX dL_law_895 rfl ?_
      refine r_sld 897 hX hR dL_law_896 rfl hw (fun hw => ?_)
      refine r_aload_n 898 hX dL_law_897 rfl rfl 0 rfl ?_
      refine r_iload_n 899 hX dL_law_898 rfl rfl 3 rfl ?_
      refine r_iconst 900 hX dL_law_899 rfl 2 ic_2 ?_
      refine r_iadd 901 hX dL_law_900 rfl ?_
      refine r_sld 902 hX hR dL_law_901 rfl hw (fun hw => ?_)
      refine k_L_113_X6_rate 905 hX (by omega) (xs (x3 + 1).toNatClampNeg) (xs (x3 + 2).toNatClampNeg) (Nat.le_of_ble_eq_true rfl) dL_law_902 rfl hw (fun r902 σ902 hw => ?_)
      refine r_aload_n 906 hX dL_law_905 rfl rfl 2 rfl ?_
      refine r_aload_n 907 hX dL_law_906 rfl rfl 0 rfl ?_
      refine r_iload_n 908 hX dL_law_907 rfl rfl 3 rfl ?_
      refine r_iconst 909 hX dL_law_908 rfl 1 ic_1 ?_
      refine r_iadd 910 hX dL_law_909 rfl ?_
      refine r_sld 911 hX hR dL_law_910 rfl hw (fun hw => ?_)
      refine r_aload_n 912 hX dL_law_911 rfl rfl 0 rfl ?_
      refine r_iload_n 913 hX dL_law_912 rfl rfl 3 rfl ?_
      refine r_iconst 914 hX dL_law_913 rfl 2 ic_2 ?_
      refine r_iadd 915 hX dL_law_914 rfl ?_
      refine r_sld 916 hX hR dL_law_915 rfl hw (fun hw => ?_)
      refine k_L_116_X7_rate 919 hX (by omega) (xs (x3 + 1).toNatClampNeg) (xs (x3 + 2).toNatClampNeg) (Nat.le_of_ble_eq_true rfl) dL_law_916 rfl hw (fun r916 σ916 hw => ?_)
      refine r_icmp_eq 1007 922 hX dL_law_919 (by decide) rfl hw (fun hw => ?_) (fun hw => ?_)
      · refine r_iinc (lv' := [(3, .int (x3 + 4)), (0, .ref b), (1, .ref (X.kad 0)), (2, .ref (X.kad 75))]) 1010 hX dL_law_1007 rfl 3 rfl (x3 + 4) (ici_4 _) (by decide) rfl ?_
        refine r_goto 18 hX dL_law_1010 (by decide) ?_
        refine r_sub [1, 2, 3, 0] rfl ?_
        exact hK18 _ _ hw
      · refine r_iconst 923 hX dL_law_922 rfl 0 ic_0 ?_
        exact r_lawret hX hR dL_law_923 hw
    refine r_case hw (fun hc hw => ?_) (fun hc24 hw => ?_)
    · refine r_tabIn 924 hX dL_law_32 (by rw [hc]; decide) (by rw [hc]; decide) (off := 892) (by rw [hc]; decide) (by decide) ?_
      refine r_aload_n 925 hX dL_law_924 rfl rfl 1 rfl ?_
      refine r_aload_n 926 hX dL_law_925 rfl rfl 0 rfl ?_
      refine r_iload_n 927 hX dL_law_926 rfl rfl 3 rfl ?_
      refine r_iconst 928 hX dL_law_927 rfl 1 ic_1 ?_
      refine r_iadd 929 hX dL_law_928 rfl ?_
      refine r_sld 930 hX hR dL_law_929 rfl hw (fun hw => ?_)
      refine k_L_117_X6_keep 933 hX (by omega) (xs (x3 + 1).toNatClampNeg) (Nat.le_of_ble_eq_true rfl) dL_law_930 rfl hw (fun r930 σ930 hw => ?_)
      refine r_aload_n 934 hX dL_law_933 rfl rfl 2 rfl ?_
      refine r_aload_n 935 hX dL_law_934 rfl rfl 0 rfl ?_
      refine r_iload_n 936 hX dL_law_935 rfl rfl 3 rfl ?_
      refine r_iconst 937 hX dL_law_936 rfl 1 ic_1 ?_
      refine r_iadd 938 hX dL_law_937 rfl ?_
      refine r_sld 939 hX hR dL_law_938 rfl hw (fun hw => ?_)
      refine k_L_120_X7_keep 942 hX (by omega) (xs (x3 + 1).toNatClampNeg) (Nat.le_of_ble_eq_true rfl) dL_law_939 rfl hw (fun r939 σ939 hw => ?_)
      refine r_icmp_eq 1007 945 hX dL_law_942 (by decide) rfl hw (fun hw => ?_) (fun hw => ?_)
      · refine r_iinc (lv' := [(3, .int (x3 + 4)), (0, .ref b), (1, .ref (X.kad 0)), (2, .ref (X.kad 75))]) 1010 hX dL_law_1007 rfl 3 rfl (x3 + 4) (ici_4 _) (by decide) rfl ?_
        refine r_goto 18 hX dL_law_1010 (by decide) ?_
        refine r_sub [1, 2, 3, 0] rfl ?_
        exact hK18 _ _ hw
      · refine r_iconst 946 hX dL_law_945 rfl 0 ic_0 ?_
        exact r_lawret hX hR dL_law_946 hw
    refine r_case hw (fun hc hw => ?_) (fun hc25 hw => ?_)
    · refine r_tabIn 947 hX dL_law_32 (by rw [hc]; decide) (by rw [hc]; decide) (off := 915) (by rw [hc]; decide) (by decide) ?_
      refine r_aload_n 948 hX dL_law_947 rfl rfl 1 rfl ?_
      refine r_aload_n 949 hX dL_law_948 rfl rfl 0 rfl ?_
      refine r_iload_n 950 hX dL_law_949 rfl rfl 3 rfl ?_
      refine r_iconst 951 hX dL_law_950 rfl 1 ic_1 ?_
      refine r_iadd 952 hX dL_law_951 rfl ?_
      refine r_sld 953 hX hR dL_law_952 rfl hw (fun hw => ?_)
      refine k_L_121_X6_back 956 hX (by omega) (xs (x3 + 1).toNatClampNeg) (Nat.le_of_ble_eq_true rfl) dL_law_953 rfl hw (fun r953 σ953 hw => ?_)
      refine r_aload_n 957 hX dL_law_956 rfl rfl 2 rfl ?_
      refine r_aload_n 958 hX dL_law_957 rfl rfl 0 rfl ?_
      refine r_iload_n 959 hX dL_law_958 rfl rfl 3 rfl ?_
      refine r_iconst 960 hX dL_law_959 rfl 1 ic_1 ?_
      refine r_iadd 961 hX dL_law_960 rfl ?_
      refine r_sld 962 hX hR dL_law_961 rfl hw (fun hw => ?_)
      refine k_L_124_X7_back 965 hX (by omega) (xs (x3 + 1).toNatClampNeg) (Nat.le_of_ble_eq_true rfl) dL_law_962 rfl hw (fun r962 σ962 hw => ?_)
      refine r_icmp_eq 1007 968 hX dL_law_965 (by decide) rfl hw (fun hw => ?_) (fun hw => ?_)
      · refine r_iinc (lv' := [(3, .int (x3 + 4)), (0, .ref b), (1, .ref (X.kad 0)), (2, .ref (X.kad 75))]) 1010 hX dL_law_1007 rfl 3 rfl (x3 + 4) (ici_4 _) (by decide) rfl ?_
        refine r_goto 18 hX dL_law_1010 (by decide) ?_
        refine r_sub [1, 2, 3, 0] rfl ?_
        exact hK18 _ _ hw
      · refine r_iconst 969 hX dL_law_968 rfl 0 ic_0 ?_
        exact r_lawret hX hR dL_law_969 hw
    refine r_case hw (fun hc hw => ?_) (fun hc26 hw => ?_)
    · refine r_tabIn 970 hX dL_law_32 (by rw [hc]; decide) (by rw [hc]; decide) (off := 938) (by rw [hc]; decide) (by decide) ?_
      refine r_aload_n 971 hX dL_law_970 rfl rfl 1 rfl ?_
      refine r_aload_n 972 hX dL_law_971 rfl rfl 0 rfl ?_
      refine r_iload_n 973 hX dL_law_972 rfl rfl 3 rfl ?_
      refine r_iconst 974 hX dL_law_973 rfl 1 ic_1 ?_
      refine r_iadd 975 hX dL_law_974 rfl ?_
      refine r_sld 976 hX hR dL_law_975 rfl hw (fun hw => ?_)
      refine k_L_125_X6_count 979 hX (by omega) (xs (x3 + 1).toNatClampNeg) (Nat.le_of_ble_eq_true rfl) dL_law_976 rfl hw (fun r976 σ976 hw => ?_)
      refine r_aload_n 980 hX dL_law_979 rfl rfl 2 rfl ?_
      refine r_aload_n 981 hX dL_law_980 rfl rfl 0 rfl ?_
      refine r_iload_n 982 hX dL_law_981 rfl rfl 3 rfl ?_
      refine r_iconst 983 hX dL_law_982 rfl 1 ic_1 ?_
      refine r_iadd 984 hX dL_law_983 rfl ?_
      refine r_sld 985 hX hR dL_law_984 rfl hw (fun hw => ?_)
      refine k_L_128_X7_count 988 hX (by omega) (xs (x3 + 1).toNatClampNeg) (Nat.le_of_ble_eq_true rfl) dL_law_985 rfl hw (fun r985 σ985 hw => ?_)
      refine r_icmp_eq 1007 991 hX dL_law_988 (by decide) rfl hw (fun hw => ?_) (fun hw => ?_)
      · refine r_iinc (lv' := [(3, .int (x3 + 4)), (0, .ref b), (1, .ref (X.kad 0)), (2, .ref (X.kad 75))]) 1010 hX dL_law_1007 rfl 3 rfl (x3 + 4) (ici_4 _) (by decide) rfl ?_
        refine r_goto 18 hX dL_law_1010 (by decide) ?_
        refine r_sub [1, 2, 3, 0] rfl ?_
        exact hK18 _ _ hw
      · refine r_iconst 992 hX dL_law_991 rfl 0 ic_0 ?_
        exact r_lawret hX hR dL_law_992 hw
    refine r_case hw (fun hc hw => ?_) (fun hc27 hw => ?_)
    · refine r_tabIn 993 hX dL_law_32 (by rw [hc]; decide) (by rw [hc]; decide) (off := 961) (by rw [hc]; decide) (by decide) ?_
      refine r_aload_n 994 hX dL_law_993 rfl rfl 1 rfl ?_
      refine k_L_129_X6_trace 997 hX (by omega)  (Nat.le_of_ble_eq_true rfl) dL_law_994 rfl hw (fun r994 σ994 hw => ?_)
      refine r_aload_n 998 hX dL_law_997 rfl rfl 2 rfl ?_
      refine k_L_133_X7_trace 1001 hX (by omega)  (Nat.le_of_ble_eq_true rfl) dL_law_998 rfl hw (fun r998 σ998 hw => ?_)
      refine r_lcmp 1002 hX dL_law_1001 rfl ?_
      refine r_if_eq 1007 1005 hX dL_law_1002 (by decide) rfl hw (fun hw => ?_) (fun hw => ?_)
      · refine r_iinc (lv' := [(3, .int (x3 + 4)), (0, .ref b), (1, .ref (X.kad 0)), (2, .ref (X.kad 75))]) 1010 hX dL_law_1007 rfl 3 rfl (x3 + 4) (ici_4 _) (by decide) rfl ?_
        refine r_goto 18 hX dL_law_1010 (by decide) ?_
        refine r_sub [1, 2, 3, 0] rfl ?_
        exact hK18 _ _ hw
      · refine r_iconst 1006 hX dL_law_1005 rfl 0 ic_0 ?_
        exact r_lawret hX hR dL_law_1006 hw
    refine r_tabOut 1007 hX dL_law_32 (sw_out0_27 hc0 hc1 hc2 hc3 hc4 hc5 hc6 hc7 hc8 hc9 hc10 hc11 hc12 hc13 hc14 hc15 hc16 hc17 hc18 hc19 hc20 hc21 hc22 hc23 hc24 hc25 hc26 hc27) (by decide) ?_
    refine r_iinc (lv' := [(3, .int (x3 + 4)), (0, .ref b), (1, .ref (X.kad 0)), (2, .ref (X.kad 75))]) 1010 hX dL_law_1007 rfl 3 rfl (x3 + 4) (ici_4 _) (by decide) rfl ?_
    refine r_goto 18 hX dL_law_1010 (by decide) ?_
    refine r_sub [1, 2, 3, 0] rfl ?_
    exact hK18 _ _ hw
set_option maxRecDepth 20000 in
set_option maxHeartbeats 8000000 in
theorem w_L_law_l18 {b L : Nat} {xs : Nat → Int32} {X : Cx} (hX : CxB X RL cL_law 4 200) (hR : CxL X b L xs) (n : Nat) : ∀ (x3 : Int32) (σ : St), wp_L_law_l18 L xs lawQ  n x3 σ → At X 4 18 [(0, .ref b), (1, .ref (X.kad 0)), (2, .ref (X.kad 75)), (3, .int (x3))] [] σ := by
  induction n with
  | zero => intro x3 σ h; exact h.elim
  | succ n ih => intro x3 σ h; exact w_L_law_b18  hX hR ih x3 σ h
