/-! the words that hold: those of the tables that a callee keeps -/
def TB : List Cond := lw_tbl.filter goodWord
theorem tb_mem {w : Cond} (h : w ∈ lw_tbl) (hg : goodWord w = true) : w ∈ TB := List.mem_filter.mpr ⟨h, hg⟩
theorem tb_sel (i : Nat) {w : Cond} (h : (k2_sels lw_privs)[i]? = some w) (hg : goodWord w = true) : w ∈ TB := tb_mem (List.mem_append_left _ (List.mem_of_getElem? h)) hg
theorem tb1 (i : Nat) {w : Cond} (h : tables_1_1[i]? = some w) (hg : goodWord w = true) : w ∈ TB := tb_mem (List.mem_append_right _ (List.mem_append_left _ (List.mem_of_getElem? h))) hg
theorem tb2 (i : Nat) {w : Cond} (h : tables_1_2[i]? = some w) (hg : goodWord w = true) : w ∈ TB := tb_mem (List.mem_append_right _ (List.mem_append_right _ (List.mem_append_left _ (List.mem_of_getElem? h)))) hg
theorem tb3 (i : Nat) {w : Cond} (h : tables_1_3[i]? = some w) (hg : goodWord w = true) : w ∈ TB := tb_mem (List.mem_append_right _ (List.mem_append_right _ (List.mem_append_right _ (List.mem_append_left _ (List.mem_of_getElem? h))))) hg
theorem tb4 (i : Nat) {w : Cond} (h : tables_1_4[i]? = some w) (hg : goodWord w = true) : w ∈ TB := tb_mem (List.mem_append_right _ (List.mem_append_right _ (List.mem_append_right _ (List.mem_append_right _ (List.mem_append_left _ (List.mem_of_getElem? h)))))) hg
theorem tb5 (i : Nat) {w : Cond} (h : tables_1_5[i]? = some w) (hg : goodWord w = true) : w ∈ TB := tb_mem (List.mem_append_right _ (List.mem_append_right _ (List.mem_append_right _ (List.mem_append_right _ (List.mem_append_right _ (List.mem_append_left _ (List.mem_of_getElem? h))))))) hg
theorem tb6 (i : Nat) {w : Cond} (h : tables_1_6[i]? = some w) (hg : goodWord w = true) : w ∈ TB := tb_mem (List.mem_append_right _ (List.mem_append_right _ (List.mem_append_right _ (List.mem_append_right _ (List.mem_append_right _ (List.mem_append_right _ (List.mem_of_getElem? h))))))) hg
theorem tb_good {w : Cond} (h : w ∈ TB) : (w.onTables && w.keeps) = true ∨ ∃ ty, w = .arrayClass ty := good_of_word (List.mem_filter.mp h).2
theorem tb_in {ws : List Cond} (h : ∀ w ∈ ws, w ∈ TB) : GoodIn TB ws := fun w hw => ⟨h w hw, tb_good (h w hw)⟩
theorem tb_tbl {w : Cond} (h : w ∈ TB) : w ∈ lw_tbl := (List.mem_filter.mp h).1
/-! the world: one object of the class and one of the reference, each cell by its number; St: what the cells hold -/
abbrev St : Type := (Nat → Nat → Int32) × (Nat → Nat → Int64)
abbrev RV : Type := Option (Int32 ⊕ (Int64 ⊕ Nat))
def rvv (ad : Nat → Nat) : RV → Option Value
  | none => none
  | some (.inl x) => some (.int x)
  | some (.inr (.inl x)) => some (.long x)
  | some (.inr (.inr k)) => some (.ref (ad k))
def wSl : List (Nat × Nat) := [(6, 0), (8, 300), (1, 0), (8, 0), (4, 0), (9, 16), (9, 3), (9, 3), (9, 3), (4, 0), (9, 16), (9, 3), (9, 3), (9, 3), (9, 6), (12, 4), (9, 10), (9, 10), (9, 10), (9, 10), (2, 0), (12, 3), (9, 16), (9, 16), (9, 16), (9, 6), (9, 6), (0, 0), (2, 0), (12, 3), (9, 16), (9, 16), (9, 16), (9, 6), (9, 6), (2, 0), (12, 3), (9, 16), (9, 16), (9, 16), (9, 6), (9, 6), (11, 2), (5, 0), (9, 16), (10, 10), (10, 10), (9, 640), (9, 16), (3, 0), (12, 17), (9, 1000), (9, 1000), (9, 1000), (9, 1000), (9, 1000), (9, 1000), (9, 1000), (9, 1000), (9, 1000), (9, 1000), (9, 1000), (9, 1000), (9, 1000), (9, 1000), (9, 1000), (9, 1000), (9, 1000), (9, 3), (9, 16), (12, 3), (9, 16), (9, 16), (9, 16), (9, 300), (7, 0), (8, 300), (9, 2), (9, 2), (9, 2), (9, 6), (9, 6), (9, 6), (9, 32), (9, 2), (9, 6), (9, 40), (10, 10), (10, 10), (9, 640), (9, 3), (9, 3), (9, 3), (9, 16000), (9, 3), (9, 144), (9, 3), (9, 18), (9, 18), (11, 2), (9, 300), (9, 300)]
def wS (k : Nat) : Nat × Nat := wSl.getD k (99, 0)
def wE (cy : Nat → ClassId) (ad : Nat → Nat) (σ : St) (k : Nat) : va_E := match wS k with
  | (0, _) => .inr (0, [.int (σ.1 k 0), .int (σ.1 k 1), .int (σ.1 k 2)])
  | (1, _) => .inr (1, [.ref (ad (if σ.1 k 0 = 1 then 1 else 3)), .int (σ.1 k 1), .int (σ.1 k 2), .ref (ad (k + 98)), .ref (ad (k + 99)), .ref (ad (k + 72)), .int (σ.1 k 6), .int (σ.1 k 7), .int (σ.1 k 8)])
  | (2, _) => .inr (2, [.ref (ad (k + 1)), .ref (ad (k + 5)), .ref (ad (k + 6)), .int (σ.1 k 3)])
  | (3, _) => .inr (3, [.ref (ad (k + 1)), .ref (ad (k + 20)), .ref (ad (k + 21)), .ref (ad (k + 19)), .int (σ.1 k 4), .int (σ.1 k 5), .int (σ.1 k 6)])
  | (4, _) => .inr (4, [.int (σ.1 k 0), .int (σ.1 k 1), .int (σ.1 k 2), .int (σ.1 k 3), .ref (ad (k + 1)), .ref (ad (k + 2)), .ref (ad (k + 3)), .ref (ad (k + 4))])
  | (5, _) => .inr (5, [.ref (ad (k + 1)), .ref (ad (k + 2)), .ref (ad (k + 3)), .ref (ad (k + 4)), .int (σ.1 k 4), .int (σ.1 k 5), .int (σ.1 k 6), .int (σ.1 k 7), .ref (ad (k + 5)), .int (σ.1 k 9), .int (σ.1 k 10)])
  | (6, _) => .inr (6, [.ref (ad (k + 1)), .int (σ.1 k 1), .ref (ad (k + 2)), .ref (ad (k + 4)), .ref (ad (k + 9)), .ref (ad (k + 14)), .ref (ad (k + 15)), .ref (ad (k + 20)), .ref (ad (k + 27)), .ref (ad (k + 28)), .ref (ad (k + 35)), .ref (ad (k + 42)), .ref (ad (k + 43)), .ref (ad (k + 49)), .long (σ.2 k 14)])
  | (7, _) => .inr (7, [.long (σ.2 k 0), .ref (ad (k + 1)), .int (σ.1 k 2), .ref (ad (k + 2)), .ref (ad (k + 3)), .ref (ad (k + 4)), .ref (ad (k + 5)), .ref (ad (k + 6)), .ref (ad (k + 7)), .ref (ad (k + 8)), .ref (ad (k + 9)), .ref (ad (k + 10)), .ref (ad (k + 11)), .int (σ.1 k 13), .int (σ.1 k 14), .int (σ.1 k 15), .int (σ.1 k 16), .int (σ.1 k 17), .ref (ad (k + 12)), .ref (ad (k + 13)), .ref (ad (k + 14)), .int (σ.1 k 21), .ref (ad (k + 15)), .ref (ad (k + 16)), .ref (ad (k + 17)), .int (σ.1 k 25), .int (σ.1 k 26), .ref (ad (k + 18)), .ref (ad (k + 19)), .int (σ.1 k 29), .ref (ad (k + 20)), .ref (ad (k + 21)), .ref (ad (k + 22)), .ref (ad (k + 23)), .ref (ad (k + 24))])
  | (8, n) => .inl (cy 0, n, .inl (σ.1 k))
  | (9, n) => .inl (cy 1, n, .inl (σ.1 k))
  | (10, n) => .inl (cy 2, n, .inr (.inl (σ.2 k)))
  | (11, n) => .inl (cy 3, n, .inl (σ.1 k))
  | (12, n) => .inl (cy 4, n, .inr (.inr (.inr (.inr (fun j => if j < n then some (ad (k + 1 + j)) else none)))))
  | _ => .inr (99, [])
def wW (cy : Nat → ClassId) (ad : Nat → Nat) (σ : St) : va_W := (List.range 102).map (fun k => (ad k, wE cy ad σ k))
def wT (cy : Nat → ClassId) : List (ClassId × FieldType) := [(cy 0, .byte), (cy 1, .int), (cy 2, .long), (cy 3, .boolean), (cy 4, .array .int)]
def wInj (ad : Nat → Nat) : Prop := ∀ i j : Nat, i < 102 → j < 102 → ad i = ad j → i = j
theorem wW_get {cy : Nat → ClassId} {ad : Nat → Nat} {σ : St} {k : Nat} (h : k < 102) : (wW cy ad σ)[k]? = some (ad k, wE cy ad σ k) := by
  unfold wW
  rw [List.getElem?_map, List.getElem?_range h]
  rfl
theorem wW_lt {cy : Nat → ClassId} {ad : Nat → Nat} {σ : St} {k : Nat} {q : Nat × va_E} (h : (wW cy ad σ)[k]? = some q) : k < 102 ∧ q = (ad k, wE cy ad σ k) := by
  have hk : k < 102 := by
    have h1 := (List.getElem?_eq_some_iff.mp h).1
    unfold wW at h1
    rw [List.length_map, List.length_range] at h1
    exact h1
  rw [wW_get hk] at h
  exact ⟨hk, (Option.some.inj h).symm⟩
theorem wS_lt {k n t : Nat} (h : wS k = (t, n)) (ht : t ≠ 99) : k < 102 := by
  by_cases hk : k < 102
  · exact hk
  · exfalso
    have hl : wSl.length = 102 := by decide
    have : wS k = (99, 0) := by
      unfold wS
      rw [List.getD_eq_getElem?_getD, List.getElem?_eq_none (by omega)]
      rfl
    rw [this] at h
    exact ht (congrArg Prod.fst h).symm
def sR (σ : St) (k : Nat) (f : Nat → Int32) : St := (fun a => if a = k then f else σ.1 a, σ.2)
def sL (σ : St) (k : Nat) (f : Nat → Int64) : St := (σ.1, fun a => if a = k then f else σ.2 a)
def sI (σ : St) (k i : Nat) (v : Int32) : St := sR σ k (upd (σ.1 k) i v)
def sJ (σ : St) (k i : Nat) (v : Int64) : St := sL σ k (vp_updL (σ.2 k) i v)
theorem wE_ext {cy : Nat → ClassId} {ad : Nat → Nat} {σ τ : St} {k : Nat} (h1 : σ.1 k = τ.1 k) (h2 : σ.2 k = τ.2 k) : wE cy ad σ k = wE cy ad τ k := by
  unfold wE
  rw [h1, h2]
theorem wW_set {cy : Nat → ClassId} {ad : Nat → Nat} {σ τ : St} {k : Nat} {e : va_E} (he : wE cy ad τ k = e) (ho : ∀ a, a ≠ k → σ.1 a = τ.1 a ∧ σ.2 a = τ.2 a) : (wW cy ad σ).set k (ad k, e) = wW cy ad τ := by
  apply List.ext_getElem?
  intro j
  by_cases hj : j < 102
  · by_cases hjk : j = k
    · subst hjk
      rw [List.getElem?_set_self (by unfold wW; rw [List.length_map, List.length_range]; exact hj), wW_get hj, he]
    · rw [List.getElem?_set_ne (Ne.symm hjk), wW_get hj, wW_get hj, wE_ext (ho j hjk).1 (ho j hjk).2]
  · rw [List.getElem?_eq_none (by rw [List.length_set]; unfold wW; rw [List.length_map, List.length_range]; omega), List.getElem?_eq_none (by unfold wW; rw [List.length_map, List.length_range]; omega)]
theorem wW_setR {cy : Nat → ClassId} {ad : Nat → Nat} {σ : St} {k : Nat} {f : Nat → Int32} {e : va_E} (he : wE cy ad (sR σ k f) k = e) : (wW cy ad σ).set k (ad k, e) = wW cy ad (sR σ k f) :=
  wW_set he (fun a h => ⟨by simp [sR, h], rfl⟩)
theorem wW_setL {cy : Nat → ClassId} {ad : Nat → Nat} {σ : St} {k : Nat} {f : Nat → Int64} {e : va_E} (he : wE cy ad (sL σ k f) k = e) : (wW cy ad σ).set k (ad k, e) = wW cy ad (sL σ k f) :=
  wW_set he (fun a h => ⟨rfl, by simp [sL, h]⟩)
theorem wW_D {cy : Nat → ClassId} {ad : Nat → Nat} {A : Nat → Prop} (hi : wInj ad) (hA : ∀ k, k < 102 → A (ad k)) (σ : St) : va_D A (wW cy ad σ) := by
  refine ⟨fun i j p q hi' hj h => ?_, fun k q hk => ?_⟩
  · obtain ⟨h1, rfl⟩ := wW_lt hi'
    obtain ⟨h2, rfl⟩ := wW_lt hj
    exact hi i j h1 h2 h
  · obtain ⟨h1, rfl⟩ := wW_lt hk
    exact hA k h1
def uA (ad : Nat → Nat) (sz : Nat) : Nat → Prop := fun q => (∃ k, k < 102 ∧ q = ad k) ∨ sz ≤ q
/-! what stands fast: the tables of the class, the String constants (numbers from 102 on) -/
def tab_LEAST_TUNES (j : Nat) : Int32 := [0, 0, 0, 1, 0, 0].getD j 0
def tab_MOST_TUNES (j : Nat) : Int32 := [3, 20, 20, 20, 9, 99].getD j 0
def strL : List Nat := [4, 4, 4, 6]
def strB : List (List Int32) := [[115, 105, 122, 101], [98, 101, 97, 109], [99, 111, 108, 100], [104, 101, 97, 114, 116, 104]]
def uC (ad : Nat → Nat) (A : Nat → Prop) (U : State) (H : Heap) : Prop :=
  (va_Z "FlueStack" "LEAST_TUNES" "[I" (.ref (ad 110)) A U H ∧ va_T .int (ad 110) 6 (fun j => .int (tab_LEAST_TUNES j)) A U H ∧ va_Z "FlueStack" "MOST_TUNES" "[I" (.ref (ad 111)) A U H ∧ va_T .int (ad 111) 6 (fun j => .int (tab_MOST_TUNES j)) A U H) ∧
  (va_Z "java/lang/String" "COMPACT_STRINGS" "Z" (.int 1) A U H ∧ va_Zq "jdk/internal/util/Preconditions" "SIOOBE_FORMATTER" "Ljava/util/function/BiFunction;" A U H ∧ vk_S 4 strL strB (fun i => ad (102 + i)) (fun i => ad (106 + i)) A U H) ∧
  (vk_R "FlueStack$Reader" 128 "size" (ad 102) U ∧ vk_R "FlueStack$Reader" 134 "beam" (ad 103) U ∧ vk_R "FlueStack$Reader" 136 "cold" (ad 104) U ∧ vk_R "FlueStack$Reader" 137 "hearth" (ad 105) U)
theorem uC.to {ad : Nat → Nat} {A B : Nat → Prop} {u U : State} {H H1 : Heap} (h : uC ad A u H) (hW : u.WarmedH U.vm) (hAB : ∀ q, B q → A q) (hq : ∀ a : Nat, a < H.size → ¬ A a → H1[a]? = H[a]?) : uC ad B U H1 := by
  obtain ⟨⟨a1, a2, a3, a4⟩, ⟨b1, b2, b3⟩, c1, c2, c3, c4⟩ := h
  exact ⟨⟨((a1.kept hq).narrow hAB).moved hW.alike, ((a2.kept hq).narrow hAB).moved hW.alike, ((a3.kept hq).narrow hAB).moved hW.alike, ((a4.kept hq).narrow hAB).moved hW.alike⟩, ⟨((b1.kept hq).narrow hAB).moved hW.alike, va_Zq.moved hW.alike (va_Zq.narrow (va_Zq.kept b2 hq) hAB), ((b3.kept hq).narrow hAB).moved hW.alike⟩, c1.warm hW, c2.warm hW, c3.warm hW, c4.warm hW⟩
theorem uC.calling {ad : Nat → Nat} {A : Nat → Prop} {U : State} {H : Heap} {g : JFrame} {mk : MethodId} {a : Array Value} (h : uC ad A U H) : uC ad A (U.calling g mk a) H := by
  obtain ⟨⟨a1, a2, a3, a4⟩, ⟨b1, b2, b3⟩, c1, c2, c3, c4⟩ := h
  have hv : U.vm.Alike (U.calling g mk a).vm := Vm.Alike.refl U.vm
  exact ⟨⟨a1.moved hv, a2.moved hv, a3.moved hv, a4.moved hv⟩, ⟨b1.moved hv, va_Zq.moved hv b2, b3.moved hv⟩, c1.same rfl, c2.same rfl, c3.same rfl, c4.same rfl⟩
/-- what stays through a walk -/
abbrev Cx : Type := Program × Launch × Env × Room × State × MethodId × (Array Value) × (List Frame) × Method × Code × Nat × Nat × va_G × (Nat → ClassId) × (Nat → Nat) × (Nat → Prop) × (State → Prop)
abbrev Cx.kp (X : Cx) : Program := X.1
abbrev Cx.kl (X : Cx) : Launch := X.2.1
abbrev Cx.ke (X : Cx) : Env := X.2.2.1
abbrev Cx.kR (X : Cx) : Room := X.2.2.2.1
abbrev Cx.ks (X : Cx) : State := X.2.2.2.2.1
abbrev Cx.km (X : Cx) : MethodId := X.2.2.2.2.2.1
abbrev Cx.kargs (X : Cx) : (Array Value) := X.2.2.2.2.2.2.1
abbrev Cx.kbelow (X : Cx) : (List Frame) := X.2.2.2.2.2.2.2.1
abbrev Cx.kmeth (X : Cx) : Method := X.2.2.2.2.2.2.2.2.1
abbrev Cx.kc (X : Cx) : Code := X.2.2.2.2.2.2.2.2.2.1
abbrev Cx.kcells (X : Cx) : Nat := X.2.2.2.2.2.2.2.2.2.2.1
abbrev Cx.kslots (X : Cx) : Nat := X.2.2.2.2.2.2.2.2.2.2.2.1
abbrev Cx.kD (X : Cx) : va_G := X.2.2.2.2.2.2.2.2.2.2.2.2.1
abbrev Cx.kcy (X : Cx) : (Nat → ClassId) := X.2.2.2.2.2.2.2.2.2.2.2.2.2.1
abbrev Cx.kad (X : Cx) : (Nat → Nat) := X.2.2.2.2.2.2.2.2.2.2.2.2.2.2.1
abbrev Cx.kA (X : Cx) : (Nat → Prop) := X.2.2.2.2.2.2.2.2.2.2.2.2.2.2.2.1
abbrev Cx.kQf (X : Cx) : (State → Prop) := X.2.2.2.2.2.2.2.2.2.2.2.2.2.2.2.2
def At (X : Cx) (nL pc : Nat) (lv : List (Nat × Value)) (st : List Value) (σ : St) : Prop :=
  ∀ (H : Heap) (locs : List Loc) (ls : Array Slot), va_P X.kD vwCl (wW X.kcy X.kad σ) H → va_S X.kA X.ks.heap H locs → lv_has ls nL lv →
    W X.kp X.kl X.ke X.kR X.ks X.km X.kargs X.kbelow X.kmeth X.kc H locs X.kcells X.kslots X.kQf (F0 X.km pc ls st)
def CxB (X : Cx) (own : String) (cc : ByteArray) (nL d : Nat) : Prop :=
  X.kp.tables.exec = Jvm.exec ∧ X.kc.code = cc ∧ X.kc.maxLocals = nL ∧ X.ks.vm.findClass own = some X.km.cls ∧ (∀ w ∈ TB, w.before X.kargs X.ks = true) ∧ va_K X.kD vwCl (wT X.kcy) X.ks ∧ wInj X.kad ∧ (∀ k, k < 102 → X.kA (X.kad k)) ∧ (∀ q, X.ks.heap.size ≤ q → X.kA q) ∧ 1 ≤ d ∧ d ≤ X.kR.frames ∧ 40 * d ≤ X.kR.locals ∧ X.kcells ≤ X.kR.cells ∧ X.kslots ≤ X.kR.slots ∧ uC X.kad X.kA X.ks X.ks.heap
theorem CxB.hx {X : Cx} {own : String} {cc : ByteArray} {nL d : Nat} (h : CxB X own cc nL d) : X.kp.tables.exec = Jvm.exec := h.1
theorem CxB.hb {X : Cx} {own : String} {cc : ByteArray} {nL d : Nat} (h : CxB X own cc nL d) : X.kc.code = cc := h.2.1
theorem CxB.hml {X : Cx} {own : String} {cc : ByteArray} {nL d : Nat} (h : CxB X own cc nL d) : X.kc.maxLocals = nL := h.2.2.1
theorem CxB.hown {X : Cx} {own : String} {cc : ByteArray} {nL d : Nat} (h : CxB X own cc nL d) : X.ks.vm.findClass own = some X.km.cls := h.2.2.2.1
theorem CxB.hts {X : Cx} {own : String} {cc : ByteArray} {nL d : Nat} (h : CxB X own cc nL d) : ∀ w ∈ TB, w.before X.kargs X.ks = true := h.2.2.2.2.1
theorem CxB.hK {X : Cx} {own : String} {cc : ByteArray} {nL d : Nat} (h : CxB X own cc nL d) : va_K X.kD vwCl (wT X.kcy) X.ks := h.2.2.2.2.2.1
theorem CxB.hinj {X : Cx} {own : String} {cc : ByteArray} {nL d : Nat} (h : CxB X own cc nL d) : wInj X.kad := h.2.2.2.2.2.2.1
theorem CxB.hAw {X : Cx} {own : String} {cc : ByteArray} {nL d : Nat} (h : CxB X own cc nL d) : ∀ k, k < 102 → X.kA (X.kad k) := h.2.2.2.2.2.2.2.1
theorem CxB.hAz {X : Cx} {own : String} {cc : ByteArray} {nL d : Nat} (h : CxB X own cc nL d) : ∀ q, X.ks.heap.size ≤ q → X.kA q := h.2.2.2.2.2.2.2.2.1
theorem CxB.hd1 {X : Cx} {own : String} {cc : ByteArray} {nL d : Nat} (h : CxB X own cc nL d) : 1 ≤ d := h.2.2.2.2.2.2.2.2.2.1
theorem CxB.hfr {X : Cx} {own : String} {cc : ByteArray} {nL d : Nat} (h : CxB X own cc nL d) : d ≤ X.kR.frames := h.2.2.2.2.2.2.2.2.2.2.1
theorem CxB.hlo {X : Cx} {own : String} {cc : ByteArray} {nL d : Nat} (h : CxB X own cc nL d) : 40 * d ≤ X.kR.locals := h.2.2.2.2.2.2.2.2.2.2.2.1
theorem CxB.hce {X : Cx} {own : String} {cc : ByteArray} {nL d : Nat} (h : CxB X own cc nL d) : X.kcells ≤ X.kR.cells := h.2.2.2.2.2.2.2.2.2.2.2.2.1
theorem CxB.hsl {X : Cx} {own : String} {cc : ByteArray} {nL d : Nat} (h : CxB X own cc nL d) : X.kslots ≤ X.kR.slots := h.2.2.2.2.2.2.2.2.2.2.2.2.2.1
theorem CxB.huc {X : Cx} {own : String} {cc : ByteArray} {nL d : Nat} (h : CxB X own cc nL d) : uC X.kad X.kA X.ks X.ks.heap := h.2.2.2.2.2.2.2.2.2.2.2.2.2.2
theorem CxB.hD {X : Cx} {own : String} {cc : ByteArray} {nL d : Nat} (h : CxB X own cc nL d) (σ : St) : va_D X.kA (wW X.kcy X.kad σ) := wW_D h.hinj h.hAw σ
section RW
variable {X : Cx} {own : String} {cc : ByteArray} {nL d pc : Nat} {lv : List (Nat × Value)} {st : List Value} {σ : St}
theorem r_iconst (q : Nat) (hX : CxB X own cc nL d) {n : Int} (hd : decode cc pc = .ok (.iconst n, 1)) (hq : pc + 1 = q) (v : Int32) (hv : Int32.ofInt n = v) (kk : At X nL q lv (.int v :: st) σ) : At X nL pc lv (st) σ := by
  subst hq
  intro H locs ls hP hS hl
  exact lv_iconst hX.hx hX.hb hd hv (kk H locs ls hP hS hl)
theorem r_bipush (q : Nat) (hX : CxB X own cc nL d) {n : Int} (hd : decode cc pc = .ok (.bipush n, 2)) (hq : pc + 2 = q) (v : Int32) (hv : (Int8.ofInt n).toInt32 = v) (kk : At X nL q lv (.int v :: st) σ) : At X nL pc lv (st) σ := by
  subst hq
  intro H locs ls hP hS hl
  exact lv_bipush hX.hx hX.hb hd hv (kk H locs ls hP hS hl)
theorem r_sipush (q : Nat) (hX : CxB X own cc nL d) {n : Int} (hd : decode cc pc = .ok (.sipush n, 3)) (hq : pc + 3 = q) (v : Int32) (hv : (Int16.ofInt n).toInt32 = v) (kk : At X nL q lv (.int v :: st) σ) : At X nL pc lv (st) σ := by
  subst hq
  intro H locs ls hP hS hl
  exact lv_sipush hX.hx hX.hb hd hv (kk H locs ls hP hS hl)
theorem r_lconst (q : Nat) (hX : CxB X own cc nL d) {n : Fin 2} (hd : decode cc pc = .ok (.lconst n, 1)) (hq : pc + 1 = q) (v : Int64) (hv : Int64.ofNat (n : Nat) = v) (kk : At X nL q lv (.long v :: st) σ) : At X nL pc lv (st) σ := by
  subst hq
  intro H locs ls hP hS hl
  exact lv_lconst hX.hx hX.hb hd hv (kk H locs ls hP hS hl)
theorem r_iload_n (q : Nat) (hX : CxB X own cc nL d) {k : Fin 4} {i : Nat} {x : Int32} (hd : decode cc pc = .ok (.iload_n k, 1)) (hq : pc + 1 = q) (hi : (k : Nat) = i) (j : Nat) (hl0 : lv[j]? = some (i, .int x)) (kk : At X nL q lv (.int x :: st) σ) : At X nL pc lv (st) σ := by
  subst hq
  intro H locs ls hP hS hl
  exact lv_iload_n hX.hx hX.hb hd hi (lv_at hl j hl0) (kk H locs ls hP hS hl)
theorem r_iload (q : Nat) (hX : CxB X own cc nL d) {i : Nat} {x : Int32} (hd : decode cc pc = .ok (.iload i, 2)) (hq : pc + 2 = q) (j : Nat) (hl0 : lv[j]? = some (i, .int x)) (kk : At X nL q lv (.int x :: st) σ) : At X nL pc lv (st) σ := by
  subst hq
  intro H locs ls hP hS hl
  exact lv_iload hX.hx hX.hb hd (lv_at hl j hl0) (kk H locs ls hP hS hl)
theorem r_lload_n (q : Nat) (hX : CxB X own cc nL d) {k : Fin 4} {i : Nat} {x : Int64} (hd : decode cc pc = .ok (.lload_n k, 1)) (hq : pc + 1 = q) (hi : (k : Nat) = i) (j : Nat) (hl0 : lv[j]? = some (i, .long x)) (kk : At X nL q lv (.long x :: st) σ) : At X nL pc lv (st) σ := by
  subst hq
  intro H locs ls hP hS hl
  exact lv_lload_n hX.hx hX.hb hd hi (lv_at hl j hl0) (kk H locs ls hP hS hl)
theorem r_lload (q : Nat) (hX : CxB X own cc nL d) {i : Nat} {x : Int64} (hd : decode cc pc = .ok (.lload i, 2)) (hq : pc + 2 = q) (j : Nat) (hl0 : lv[j]? = some (i, .long x)) (kk : At X nL q lv (.long x :: st) σ) : At X nL pc lv (st) σ := by
  subst hq
  intro H locs ls hP hS hl
  exact lv_lload hX.hx hX.hb hd (lv_at hl j hl0) (kk H locs ls hP hS hl)
theorem r_aload_n (q : Nat) (hX : CxB X own cc nL d) {k : Fin 4} {i : Nat} {x : Nat} (hd : decode cc pc = .ok (.aload_n k, 1)) (hq : pc + 1 = q) (hi : (k : Nat) = i) (j : Nat) (hl0 : lv[j]? = some (i, .ref x)) (kk : At X nL q lv (.ref x :: st) σ) : At X nL pc lv (st) σ := by
  subst hq
  intro H locs ls hP hS hl
  exact lv_aload_n hX.hx hX.hb hd hi (lv_at hl j hl0) (kk H locs ls hP hS hl)
theorem r_aload (q : Nat) (hX : CxB X own cc nL d) {i : Nat} {x : Nat} (hd : decode cc pc = .ok (.aload i, 2)) (hq : pc + 2 = q) (j : Nat) (hl0 : lv[j]? = some (i, .ref x)) (kk : At X nL q lv (.ref x :: st) σ) : At X nL pc lv (st) σ := by
  subst hq
  intro H locs ls hP hS hl
  exact lv_aload hX.hx hX.hb hd (lv_at hl j hl0) (kk H locs ls hP hS hl)
theorem r_istore_n (q : Nat) (hX : CxB X own cc nL d) {k : Fin 4} {i : Nat} {x : Int32} (hd : decode cc pc = .ok (.istore_n k, 1)) (hq : pc + 1 = q) {lv' : List (Nat × Value)} (hi : (k : Nat) = i) (hn : i < nL) (hl0 : (i, Value.int x) :: lv.filter (fun q => !(q.1 == i) && !(q.1 + 1 == i && q.2.category == 2)) = lv') (kk : At X nL q lv' st σ) : At X nL pc lv (.int x :: st) σ := by
  subst hq
  intro H locs ls hP hS hl
  exact lv_istore_n hX.hx hX.hb hd hi hl hn hl0 (fun ls hl => kk H locs ls hP hS hl)
theorem r_istore (q : Nat) (hX : CxB X own cc nL d) {i : Nat} {x : Int32} (hd : decode cc pc = .ok (.istore i, 2)) (hq : pc + 2 = q) {lv' : List (Nat × Value)} (hn : i < nL) (hl0 : (i, Value.int x) :: lv.filter (fun q => !(q.1 == i) && !(q.1 + 1 == i && q.2.category == 2)) = lv') (kk : At X nL q lv' st σ) : At X nL pc lv (.int x :: st) σ := by
  subst hq
  intro H locs ls hP hS hl
  exact lv_istore hX.hx hX.hb hd hl hn hl0 (fun ls hl => kk H locs ls hP hS hl)
theorem r_astore_n (q : Nat) (hX : CxB X own cc nL d) {k : Fin 4} {i : Nat} {x : Nat} (hd : decode cc pc = .ok (.astore_n k, 1)) (hq : pc + 1 = q) {lv' : List (Nat × Value)} (hi : (k : Nat) = i) (hn : i < nL) (hl0 : (i, Value.ref x) :: lv.filter (fun q => !(q.1 == i) && !(q.1 + 1 == i && q.2.category == 2)) = lv') (kk : At X nL q lv' st σ) : At X nL pc lv (.ref x :: st) σ := by
  subst hq
  intro H locs ls hP hS hl
  exact lv_astore_n hX.hx hX.hb hd hi hl hn hl0 (fun ls hl => kk H locs ls hP hS hl)
theorem r_astore (q : Nat) (hX : CxB X own cc nL d) {i : Nat} {x : Nat} (hd : decode cc pc = .ok (.astore i, 2)) (hq : pc + 2 = q) {lv' : List (Nat × Value)} (hn : i < nL) (hl0 : (i, Value.ref x) :: lv.filter (fun q => !(q.1 == i) && !(q.1 + 1 == i && q.2.category == 2)) = lv') (kk : At X nL q lv' st σ) : At X nL pc lv (.ref x :: st) σ := by
  subst hq
  intro H locs ls hP hS hl
  exact lv_astore hX.hx hX.hb hd hl hn hl0 (fun ls hl => kk H locs ls hP hS hl)
theorem r_lstore_n (q : Nat) (hX : CxB X own cc nL d) {k : Fin 4} {i : Nat} {x : Int64} (hd : decode cc pc = .ok (.lstore_n k, 1)) (hq : pc + 1 = q) {lv' : List (Nat × Value)} (hi : (k : Nat) = i) (hn : i + 1 < nL) (hl0 : (i, Value.long x) :: lv.filter (fun q => !(q.1 == i) && (!(q.1 == i + 1) && !(q.1 + 1 == i && q.2.category == 2))) = lv') (kk : At X nL q lv' st σ) : At X nL pc lv (.long x :: st) σ := by
  subst hq
  intro H locs ls hP hS hl
  exact lv_lstore_n hX.hx hX.hb hd hi hl hn hl0 (fun ls hl => kk H locs ls hP hS hl)
theorem r_lstore (q : Nat) (hX : CxB X own cc nL d) {i : Nat} {x : Int64} (hd : decode cc pc = .ok (.lstore i, 2)) (hq : pc + 2 = q) {lv' : List (Nat × Value)} (hn : i + 1 < nL) (hl0 : (i, Value.long x) :: lv.filter (fun q => !(q.1 == i) && (!(q.1 == i + 1) && !(q.1 + 1 == i && q.2.category == 2))) = lv') (kk : At X nL q lv' st σ) : At X nL pc lv (.long x :: st) σ := by
  subst hq
  intro H locs ls hP hS hl
  exact lv_lstore hX.hx hX.hb hd hl hn hl0 (fun ls hl => kk H locs ls hP hS hl)
theorem r_iinc (q : Nat) (hX : CxB X own cc nL d) {i : Nat} {n : Int} {x : Int32} (hd : decode cc pc = .ok (.iinc i n, 3)) (hq : pc + 3 = q) {lv' : List (Nat × Value)} (k : Nat) (hk : lv[k]? = some (i, .int x)) (v : Int32) (hv : x + Int32.ofInt n = v) (hn : i < nL) (hl0 : (i, Value.int v) :: lv.filter (fun q => !(q.1 == i) && !(q.1 + 1 == i && q.2.category == 2)) = lv') (kk : At X nL q lv' st σ) : At X nL pc lv (st) σ := by
  subst hq
  intro H locs ls hP hS hl
  exact lv_iinc hX.hx hX.hb hd hl hk hv hn hl0 (fun ls hl => kk H locs ls hP hS hl)
theorem r_iadd (q : Nat) (hX : CxB X own cc nL d) {x y : Int32} (hd : decode cc pc = .ok (.iadd, 1)) (hq : pc + 1 = q) (kk : At X nL q lv (.int (x + y) :: st) σ) : At X nL pc lv (.int y :: .int x :: st) σ := by
  subst hq
  intro H locs ls hP hS hl
  exact lv_iadd hX.hx hX.hb hd (kk H locs ls hP hS hl)
theorem r_isub (q : Nat) (hX : CxB X own cc nL d) {x y : Int32} (hd : decode cc pc = .ok (.isub, 1)) (hq : pc + 1 = q) (kk : At X nL q lv (.int (x - y) :: st) σ) : At X nL pc lv (.int y :: .int x :: st) σ := by
  subst hq
  intro H locs ls hP hS hl
  exact lv_isub hX.hx hX.hb hd (kk H locs ls hP hS hl)
theorem r_imul (q : Nat) (hX : CxB X own cc nL d) {x y : Int32} (hd : decode cc pc = .ok (.imul, 1)) (hq : pc + 1 = q) (kk : At X nL q lv (.int (x * y) :: st) σ) : At X nL pc lv (.int y :: .int x :: st) σ := by
  subst hq
  intro H locs ls hP hS hl
  exact lv_imul hX.hx hX.hb hd (kk H locs ls hP hS hl)
theorem r_iand (q : Nat) (hX : CxB X own cc nL d) {x y : Int32} (hd : decode cc pc = .ok (.iand, 1)) (hq : pc + 1 = q) (kk : At X nL q lv (.int (x &&& y) :: st) σ) : At X nL pc lv (.int y :: .int x :: st) σ := by
  subst hq
  intro H locs ls hP hS hl
  exact lv_iand hX.hx hX.hb hd (kk H locs ls hP hS hl)
theorem r_ior (q : Nat) (hX : CxB X own cc nL d) {x y : Int32} (hd : decode cc pc = .ok (.ior, 1)) (hq : pc + 1 = q) (kk : At X nL q lv (.int (x ||| y) :: st) σ) : At X nL pc lv (.int y :: .int x :: st) σ := by
  subst hq
  intro H locs ls hP hS hl
  exact lv_ior hX.hx hX.hb hd (kk H locs ls hP hS hl)
theorem r_ixor (q : Nat) (hX : CxB X own cc nL d) {x y : Int32} (hd : decode cc pc = .ok (.ixor, 1)) (hq : pc + 1 = q) (kk : At X nL q lv (.int (x ^^^ y) :: st) σ) : At X nL pc lv (.int y :: .int x :: st) σ := by
  subst hq
  intro H locs ls hP hS hl
  exact lv_ixor hX.hx hX.hb hd (kk H locs ls hP hS hl)
theorem r_ladd (q : Nat) (hX : CxB X own cc nL d) {x y : Int64} (hd : decode cc pc = .ok (.ladd, 1)) (hq : pc + 1 = q) (kk : At X nL q lv (.long (x + y) :: st) σ) : At X nL pc lv (.long y :: .long x :: st) σ := by
  subst hq
  intro H locs ls hP hS hl
  exact lv_ladd hX.hx hX.hb hd (kk H locs ls hP hS hl)
theorem r_lsub (q : Nat) (hX : CxB X own cc nL d) {x y : Int64} (hd : decode cc pc = .ok (.lsub, 1)) (hq : pc + 1 = q) (kk : At X nL q lv (.long (x - y) :: st) σ) : At X nL pc lv (.long y :: .long x :: st) σ := by
  subst hq
  intro H locs ls hP hS hl
  exact lv_lsub hX.hx hX.hb hd (kk H locs ls hP hS hl)
theorem r_land (q : Nat) (hX : CxB X own cc nL d) {x y : Int64} (hd : decode cc pc = .ok (.land, 1)) (hq : pc + 1 = q) (kk : At X nL q lv (.long (x &&& y) :: st) σ) : At X nL pc lv (.long y :: .long x :: st) σ := by
  subst hq
  intro H locs ls hP hS hl
  exact lv_land hX.hx hX.hb hd (kk H locs ls hP hS hl)
theorem r_lor (q : Nat) (hX : CxB X own cc nL d) {x y : Int64} (hd : decode cc pc = .ok (.lor, 1)) (hq : pc + 1 = q) (kk : At X nL q lv (.long (x ||| y) :: st) σ) : At X nL pc lv (.long y :: .long x :: st) σ := by
  subst hq
  intro H locs ls hP hS hl
  exact lv_lor hX.hx hX.hb hd (kk H locs ls hP hS hl)
theorem r_ineg (q : Nat) (hX : CxB X own cc nL d) {x : Int32} (hd : decode cc pc = .ok (.ineg, 1)) (hq : pc + 1 = q) (kk : At X nL q lv (.int (-x) :: st) σ) : At X nL pc lv (.int x :: st) σ := by
  subst hq
  intro H locs ls hP hS hl
  exact lv_ineg hX.hx hX.hb hd (kk H locs ls hP hS hl)
theorem r_ishl (q : Nat) (hX : CxB X own cc nL d) {x y : Int32} (hd : decode cc pc = .ok (.ishl, 1)) (hq : pc + 1 = q) (kk : At X nL q lv (.int (x <<< (y &&& 31)) :: st) σ) : At X nL pc lv (.int y :: .int x :: st) σ := by
  subst hq
  intro H locs ls hP hS hl
  exact lv_ishl hX.hx hX.hb hd (kk H locs ls hP hS hl)
theorem r_ishr (q : Nat) (hX : CxB X own cc nL d) {x y : Int32} (hd : decode cc pc = .ok (.ishr, 1)) (hq : pc + 1 = q) (kk : At X nL q lv (.int (x >>> (y &&& 31)) :: st) σ) : At X nL pc lv (.int y :: .int x :: st) σ := by
  subst hq
  intro H locs ls hP hS hl
  exact lv_ishr hX.hx hX.hb hd (kk H locs ls hP hS hl)
theorem r_iushr (q : Nat) (hX : CxB X own cc nL d) {x y : Int32} (hd : decode cc pc = .ok (.iushr, 1)) (hq : pc + 1 = q) (kk : At X nL q lv (.int ((x.toUInt32 >>> (y.toUInt32 &&& Int32.toUInt32 31)).toInt32) :: st) σ) : At X nL pc lv (.int y :: .int x :: st) σ := by
  subst hq
  intro H locs ls hP hS hl
  exact lv_iushr hX.hx hX.hb hd rfl (kk H locs ls hP hS hl)
theorem r_lushr (q : Nat) (hX : CxB X own cc nL d) {x : Int64} {y : Int32} (hd : decode cc pc = .ok (.lushr, 1)) (hq : pc + 1 = q) (kk : At X nL q lv (.long ((x.toUInt64 >>> (y.toInt64.toUInt64 &&& Int64.toUInt64 63)).toInt64) :: st) σ) : At X nL pc lv (.int y :: .long x :: st) σ := by
  subst hq
  intro H locs ls hP hS hl
  exact lv_lushr hX.hx hX.hb hd rfl (kk H locs ls hP hS hl)
theorem r_lshl (q : Nat) (hX : CxB X own cc nL d) {x : Int64} {y : Int32} (hd : decode cc pc = .ok (.lshl, 1)) (hq : pc + 1 = q) (kk : At X nL q lv (.long (x <<< (y.toInt64 &&& 63)) :: st) σ) : At X nL pc lv (.int y :: .long x :: st) σ := by
  subst hq
  intro H locs ls hP hS hl
  exact lv_lshl hX.hx hX.hb hd rfl (kk H locs ls hP hS hl)
theorem r_lshr (q : Nat) (hX : CxB X own cc nL d) {x : Int64} {y : Int32} (hd : decode cc pc = .ok (.lshr, 1)) (hq : pc + 1 = q) (kk : At X nL q lv (.long (x >>> (y.toInt64 &&& 63)) :: st) σ) : At X nL pc lv (.int y :: .long x :: st) σ := by
  subst hq
  intro H locs ls hP hS hl
  exact lv_lshr hX.hx hX.hb hd rfl (kk H locs ls hP hS hl)
theorem r_i2l (q : Nat) (hX : CxB X own cc nL d) {x : Int32} (hd : decode cc pc = .ok (.i2l, 1)) (hq : pc + 1 = q) (kk : At X nL q lv (.long x.toInt64 :: st) σ) : At X nL pc lv (.int x :: st) σ := by
  subst hq
  intro H locs ls hP hS hl
  exact lv_i2l hX.hx hX.hb hd rfl (kk H locs ls hP hS hl)
theorem r_l2i (q : Nat) (hX : CxB X own cc nL d) {x : Int64} (hd : decode cc pc = .ok (.l2i, 1)) (hq : pc + 1 = q) (kk : At X nL q lv (.int x.toInt32 :: st) σ) : At X nL pc lv (.long x :: st) σ := by
  subst hq
  intro H locs ls hP hS hl
  exact lv_l2i hX.hx hX.hb hd rfl (kk H locs ls hP hS hl)
theorem r_i2b (q : Nat) (hX : CxB X own cc nL d) {x : Int32} (hd : decode cc pc = .ok (.i2b, 1)) (hq : pc + 1 = q) (kk : At X nL q lv (.int x.toInt8.toInt32 :: st) σ) : At X nL pc lv (.int x :: st) σ := by
  subst hq
  intro H locs ls hP hS hl
  exact lv_i2b hX.hx hX.hb hd rfl (kk H locs ls hP hS hl)
theorem r_lcmp (q : Nat) (hX : CxB X own cc nL d) {x y : Int64} (hd : decode cc pc = .ok (.lcmp, 1)) (hq : pc + 1 = q) (kk : At X nL q lv (.int (lg_cmp x y) :: st) σ) : At X nL pc lv (.long y :: .long x :: st) σ := by
  subst hq
  exact fun H locs ls hP hS hl => W.lcmp hX.hx hX.hb hd (kk H locs ls hP hS hl)
theorem r_dup (q : Nat) (hX : CxB X own cc nL d) {v : Value} (hd : decode cc pc = .ok (.dup, 1)) (hq : pc + 1 = q) (hc : v.category = 1) (kk : At X nL q lv (v :: v :: st) σ) : At X nL pc lv (v :: st) σ := by
  subst hq
  intro H locs ls hP hS hl
  exact lv_dup hX.hx hX.hb hd hc (kk H locs ls hP hS hl)
theorem r_dup2 (q : Nat) (hX : CxB X own cc nL d) {v u : Value} (hd : decode cc pc = .ok (.dup2, 1)) (hq : pc + 1 = q) (hc : v.category = 1) (hc2 : u.category = 1) (kk : At X nL q lv (v :: u :: v :: u :: st) σ) : At X nL pc lv (v :: u :: st) σ := by
  subst hq
  intro H locs ls hP hS hl
  exact lv_dup2_11 hX.hx hX.hb hd hc hc2 (kk H locs ls hP hS hl)
theorem r_pop (q : Nat) (hX : CxB X own cc nL d) {v : Value} (hd : decode cc pc = .ok (.pop, 1)) (hq : pc + 1 = q) (hc : v.category = 1) (kk : At X nL q lv (st) σ) : At X nL pc lv (v :: st) σ := by
  subst hq
  intro H locs ls hP hS hl
  exact lv_pop hX.hx hX.hb hd hc (kk H locs ls hP hS hl)
theorem r_idiv (q : Nat) (hX : CxB X own cc nL d) {x y : Int32} {B : Prop} (hd : decode cc pc = .ok (.idiv, 1)) (hq : pc + 1 = q) (hw : (¬ y = 0) ∧ B) (kk : B → At X nL q lv (.int (x / y) :: st) σ) : At X nL pc lv (.int y :: .int x :: st) σ := by
  subst hq
  intro H locs ls hP hS hl
  exact lv_idiv hX.hx hX.hb hd hw.1 (kk hw.2 H locs ls hP hS hl)
theorem r_irem (q : Nat) (hX : CxB X own cc nL d) {x y : Int32} {B : Prop} (hd : decode cc pc = .ok (.irem, 1)) (hq : pc + 1 = q) (hw : (¬ y = 0) ∧ B) (kk : B → At X nL q lv (.int (x - x / y * y) :: st) σ) : At X nL pc lv (.int y :: .int x :: st) σ := by
  subst hq
  intro H locs ls hP hS hl
  exact lv_irem hX.hx hX.hb hd hw.1 (kk hw.2 H locs ls hP hS hl)
theorem r_if_eq (t q : Nat) (hX : CxB X own cc nL d) {x : Int32} {off : Int} {P Q : Prop} (hd : decode cc pc = .ok (.ifCond .eq off, 3)) (ht : (pc : Int) + off = (t : Int)) (hq : pc + 3 = q) (hw : (x = 0 → P) ∧ (¬ x = 0 → Q)) (kt : P → At X nL t lv st σ) (kf : Q → At X nL q lv st σ) : At X nL pc lv (.int x :: st) σ := by
  subst hq
  exact fun H locs ls hP hS hl => lv_if_eq hX.hx hX.hb hd ht (fun h => kt (hw.1 h) H locs ls hP hS hl) (fun h => kf (hw.2 h) H locs ls hP hS hl)
theorem r_icmp_eq (t q : Nat) (hX : CxB X own cc nL d) {x y : Int32} {off : Int} {P Q : Prop} (hd : decode cc pc = .ok (.if_icmp .eq off, 3)) (ht : (pc : Int) + off = (t : Int)) (hq : pc + 3 = q) (hw : (x = y → P) ∧ (¬ x = y → Q)) (kt : P → At X nL t lv st σ) (kf : Q → At X nL q lv st σ) : At X nL pc lv (.int y :: .int x :: st) σ := by
  subst hq
  exact fun H locs ls hP hS hl => lv_icmp_eq hX.hx hX.hb hd ht (fun h => kt (hw.1 h) H locs ls hP hS hl) (fun h => kf (hw.2 h) H locs ls hP hS hl)
theorem r_if_ne (t q : Nat) (hX : CxB X own cc nL d) {x : Int32} {off : Int} {P Q : Prop} (hd : decode cc pc = .ok (.ifCond .ne off, 3)) (ht : (pc : Int) + off = (t : Int)) (hq : pc + 3 = q) (hw : (x = 0 → Q) ∧ (¬ x = 0 → P)) (kt : P → At X nL t lv st σ) (kf : Q → At X nL q lv st σ) : At X nL pc lv (.int x :: st) σ := by
  subst hq
  exact fun H locs ls hP hS hl => lv_if_ne hX.hx hX.hb hd ht (fun h => kt (hw.2 h) H locs ls hP hS hl) (fun h => kf (hw.1 h) H locs ls hP hS hl)
theorem r_icmp_ne (t q : Nat) (hX : CxB X own cc nL d) {x y : Int32} {off : Int} {P Q : Prop} (hd : decode cc pc = .ok (.if_icmp .ne off, 3)) (ht : (pc : Int) + off = (t : Int)) (hq : pc + 3 = q) (hw : (x = y → Q) ∧ (¬ x = y → P)) (kt : P → At X nL t lv st σ) (kf : Q → At X nL q lv st σ) : At X nL pc lv (.int y :: .int x :: st) σ := by
  subst hq
  exact fun H locs ls hP hS hl => lv_icmp_ne hX.hx hX.hb hd ht (fun h => kt (hw.2 h) H locs ls hP hS hl) (fun h => kf (hw.1 h) H locs ls hP hS hl)
theorem r_if_lt (t q : Nat) (hX : CxB X own cc nL d) {x : Int32} {off : Int} {P Q : Prop} (hd : decode cc pc = .ok (.ifCond .lt off, 3)) (ht : (pc : Int) + off = (t : Int)) (hq : pc + 3 = q) (hw : (x < 0 → P) ∧ (¬ x < 0 → Q)) (kt : P → At X nL t lv st σ) (kf : Q → At X nL q lv st σ) : At X nL pc lv (.int x :: st) σ := by
  subst hq
  exact fun H locs ls hP hS hl => lv_if_lt hX.hx hX.hb hd ht (fun h => kt (hw.1 h) H locs ls hP hS hl) (fun h => kf (hw.2 h) H locs ls hP hS hl)
theorem r_icmp_lt (t q : Nat) (hX : CxB X own cc nL d) {x y : Int32} {off : Int} {P Q : Prop} (hd : decode cc pc = .ok (.if_icmp .lt off, 3)) (ht : (pc : Int) + off = (t : Int)) (hq : pc + 3 = q) (hw : (x < y → P) ∧ (¬ x < y → Q)) (kt : P → At X nL t lv st σ) (kf : Q → At X nL q lv st σ) : At X nL pc lv (.int y :: .int x :: st) σ := by
  subst hq
  exact fun H locs ls hP hS hl => lv_icmp_lt hX.hx hX.hb hd ht (fun h => kt (hw.1 h) H locs ls hP hS hl) (fun h => kf (hw.2 h) H locs ls hP hS hl)
theorem r_if_ge (t q : Nat) (hX : CxB X own cc nL d) {x : Int32} {off : Int} {P Q : Prop} (hd : decode cc pc = .ok (.ifCond .ge off, 3)) (ht : (pc : Int) + off = (t : Int)) (hq : pc + 3 = q) (hw : (0 ≤ x → P) ∧ (¬ 0 ≤ x → Q)) (kt : P → At X nL t lv st σ) (kf : Q → At X nL q lv st σ) : At X nL pc lv (.int x :: st) σ := by
  subst hq
  exact fun H locs ls hP hS hl => lv_if_ge hX.hx hX.hb hd ht (fun h => kt (hw.1 h) H locs ls hP hS hl) (fun h => kf (hw.2 h) H locs ls hP hS hl)
theorem r_icmp_ge (t q : Nat) (hX : CxB X own cc nL d) {x y : Int32} {off : Int} {P Q : Prop} (hd : decode cc pc = .ok (.if_icmp .ge off, 3)) (ht : (pc : Int) + off = (t : Int)) (hq : pc + 3 = q) (hw : (y ≤ x → P) ∧ (¬ y ≤ x → Q)) (kt : P → At X nL t lv st σ) (kf : Q → At X nL q lv st σ) : At X nL pc lv (.int y :: .int x :: st) σ := by
  subst hq
  exact fun H locs ls hP hS hl => lv_icmp_ge hX.hx hX.hb hd ht (fun h => kt (hw.1 h) H locs ls hP hS hl) (fun h => kf (hw.2 h) H locs ls hP hS hl)
theorem r_if_gt (t q : Nat) (hX : CxB X own cc nL d) {x : Int32} {off : Int} {P Q : Prop} (hd : decode cc pc = .ok (.ifCond .gt off, 3)) (ht : (pc : Int) + off = (t : Int)) (hq : pc + 3 = q) (hw : (0 < x → P) ∧ (¬ 0 < x → Q)) (kt : P → At X nL t lv st σ) (kf : Q → At X nL q lv st σ) : At X nL pc lv (.int x :: st) σ := by
  subst hq
  exact fun H locs ls hP hS hl => lv_if_gt hX.hx hX.hb hd ht (fun h => kt (hw.1 h) H locs ls hP hS hl) (fun h => kf (hw.2 h) H locs ls hP hS hl)
theorem r_icmp_gt (t q : Nat) (hX : CxB X own cc nL d) {x y : Int32} {off : Int} {P Q : Prop} (hd : decode cc pc = .ok (.if_icmp .gt off, 3)) (ht : (pc : Int) + off = (t : Int)) (hq : pc + 3 = q) (hw : (y < x → P) ∧ (¬ y < x → Q)) (kt : P → At X nL t lv st σ) (kf : Q → At X nL q lv st σ) : At X nL pc lv (.int y :: .int x :: st) σ := by
  subst hq
  exact fun H locs ls hP hS hl => lv_icmp_gt hX.hx hX.hb hd ht (fun h => kt (hw.1 h) H locs ls hP hS hl) (fun h => kf (hw.2 h) H locs ls hP hS hl)
theorem r_if_le (t q : Nat) (hX : CxB X own cc nL d) {x : Int32} {off : Int} {P Q : Prop} (hd : decode cc pc = .ok (.ifCond .le off, 3)) (ht : (pc : Int) + off = (t : Int)) (hq : pc + 3 = q) (hw : (x ≤ 0 → P) ∧ (¬ x ≤ 0 → Q)) (kt : P → At X nL t lv st σ) (kf : Q → At X nL q lv st σ) : At X nL pc lv (.int x :: st) σ := by
  subst hq
  exact fun H locs ls hP hS hl => lv_if_le hX.hx hX.hb hd ht (fun h => kt (hw.1 h) H locs ls hP hS hl) (fun h => kf (hw.2 h) H locs ls hP hS hl)
theorem r_icmp_le (t q : Nat) (hX : CxB X own cc nL d) {x y : Int32} {off : Int} {P Q : Prop} (hd : decode cc pc = .ok (.if_icmp .le off, 3)) (ht : (pc : Int) + off = (t : Int)) (hq : pc + 3 = q) (hw : (x ≤ y → P) ∧ (¬ x ≤ y → Q)) (kt : P → At X nL t lv st σ) (kf : Q → At X nL q lv st σ) : At X nL pc lv (.int y :: .int x :: st) σ := by
  subst hq
  exact fun H locs ls hP hS hl => lv_icmp_le hX.hx hX.hb hd ht (fun h => kt (hw.1 h) H locs ls hP hS hl) (fun h => kf (hw.2 h) H locs ls hP hS hl)
theorem r_goto (q : Nat) (hX : CxB X own cc nL d) {off : Int} (hd : decode cc pc = .ok (.goto off, 3)) (ht : (pc : Int) + off = (q : Int)) (kk : At X nL q lv st σ) : At X nL pc lv st σ := fun H locs ls hP hS hl => lv_goto hX.hx hX.hb hd ht (kk H locs ls hP hS hl)
theorem r_sub (ks : List Nat) {lv' : List (Nat × Value)} (h : lv_pick lv ks = lv') (kk : At X nL pc lv' st σ) : At X nL pc lv st σ := fun H locs ls hP hS hl => kk H locs ls hP hS (lv_sub hl ks h)
theorem r_ldc (q : Nat) (hX : CxB X own cc nL d) {index : Nat} (v : Int32) (hm : Jvm.Cond.constant own index v ∈ TB) (hd : decode cc pc = .ok (.ldc index, 2)) (hq : pc + 2 = q) (kk : At X nL q lv (.int v :: st) σ) : At X nL pc lv st σ := by
  subst hq
  exact fun H locs ls hP hS hl => lv_ldc hX.hx hX.hb hX.hown (hX.hts _ hm) hd (kk H locs ls hP hS hl)
theorem r_ldcw (q : Nat) (hX : CxB X own cc nL d) {index : Nat} (v : Int32) (hm : Jvm.Cond.constant own index v ∈ TB) (hd : decode cc pc = .ok (.ldc_w index, 3)) (hq : pc + 3 = q) (kk : At X nL q lv (.int v :: st) σ) : At X nL pc lv st σ := by
  subst hq
  intro H locs ls hP hS hl T hT Xs
  obtain ⟨t, a1, b1⟩ := kk H locs ls hP hS hl T hT Xs
  exact ⟨t, va_ldcwI Xs hX.hx hX.hown (hX.hts _ hm) (g := F0 X.km pc ls st) rfl (by rw [hX.hb]; exact hd) t a1, b1⟩
theorem r_ldc2 (q : Nat) (hX : CxB X own cc nL d) {index : Nat} (v : Int64) (hm : Jvm.Cond.constantLong own index v ∈ TB) (hd : decode cc pc = .ok (.ldc2_w index, 3)) (hq : pc + 3 = q) (kk : At X nL q lv (.long v :: st) σ) : At X nL pc lv st σ := by
  subst hq
  exact fun H locs ls hP hS hl => lv_ldc2 hX.hx hX.hb hX.hown (hX.hts _ hm) hd (kk H locs ls hP hS hl)
theorem wE_a {cy : Nat → ClassId} {ad : Nat → Nat} {σ : St} {k n : Nat} :
    (wS k = (8, n) → wE cy ad σ k = .inl (cy 0, n, .inl (σ.1 k))) ∧ (wS k = (9, n) → wE cy ad σ k = .inl (cy 1, n, .inl (σ.1 k))) ∧ (wS k = (10, n) → wE cy ad σ k = .inl (cy 2, n, .inr (.inl (σ.2 k)))) ∧ (wS k = (11, n) → wE cy ad σ k = .inl (cy 3, n, .inl (σ.1 k))) ∧ (wS k = (12, n) → wE cy ad σ k = .inl (cy 4, n, .inr (.inr (.inr (.inr (fun j => if j < n then some (ad (k + 1 + j)) else none)))))) := by
  refine ⟨?_, ?_, ?_, ?_, ?_⟩ <;> (intro h; simp only [wE, h])
theorem sR_self (σ : St) (k : Nat) (f : Nat → Int32) : (sR σ k f).1 k = f := by simp [sR]
theorem sL_self (σ : St) (k : Nat) (f : Nat → Int64) : (sL σ k f).2 k = f := by simp [sL]
theorem r_bald (q : Nat) (hX : CxB X own cc nL d) {k n : Nat} (hs : wS k = (8, n)) {i : Int32} {B : Prop} (hd : decode cc pc = .ok (.baload, 1)) (hq : pc + 1 = q) (hw : vp_in i n ∧ B) (kk : B → At X nL q lv (.int (σ.1 k i.toNatClampNeg) :: st) σ) : At X nL pc lv (.int i :: .ref (X.kad k) :: st) σ := by
  subst hq
  exact fun H locs ls hP hS hl => va_bald hX.hx hX.hb hX.hK hP k 0 (by rw [wW_get (wS_lt hs (by decide)), wE_a.1 hs]) rfl hw.1 hd (kk hw.2 H locs ls hP hS hl)
theorem r_zald (q : Nat) (hX : CxB X own cc nL d) {k n : Nat} (hs : wS k = (11, n)) {i : Int32} {B : Prop} (hd : decode cc pc = .ok (.baload, 1)) (hq : pc + 1 = q) (hw : vp_in i n ∧ B) (kk : B → At X nL q lv (.int (σ.1 k i.toNatClampNeg) :: st) σ) : At X nL pc lv (.int i :: .ref (X.kad k) :: st) σ := by
  subst hq
  exact fun H locs ls hP hS hl => va_zald hX.hx hX.hb hX.hK hP k 3 (by rw [wW_get (wS_lt hs (by decide)), wE_a.2.2.2.1 hs]) rfl hw.1 hd (kk hw.2 H locs ls hP hS hl)
theorem r_iald (q : Nat) (hX : CxB X own cc nL d) {k n : Nat} (hs : wS k = (9, n)) {i : Int32} {B : Prop} (hd : decode cc pc = .ok (.iaload, 1)) (hq : pc + 1 = q) (hw : vp_in i n ∧ B) (kk : B → At X nL q lv (.int (σ.1 k i.toNatClampNeg) :: st) σ) : At X nL pc lv (.int i :: .ref (X.kad k) :: st) σ := by
  subst hq
  exact fun H locs ls hP hS hl => va_iald hX.hx hX.hb hX.hK hP k 1 (by rw [wW_get (wS_lt hs (by decide)), wE_a.2.1 hs]) rfl hw.1 hd (kk hw.2 H locs ls hP hS hl)
theorem r_lald (q : Nat) (hX : CxB X own cc nL d) {k n : Nat} (hs : wS k = (10, n)) {i : Int32} {B : Prop} (hd : decode cc pc = .ok (.laload, 1)) (hq : pc + 1 = q) (hw : vp_in i n ∧ B) (kk : B → At X nL q lv (.long (σ.2 k i.toNatClampNeg) :: st) σ) : At X nL pc lv (.int i :: .ref (X.kad k) :: st) σ := by
  subst hq
  exact fun H locs ls hP hS hl => va_lald hX.hx hX.hb hX.hK hP k 2 (by rw [wW_get (wS_lt hs (by decide)), wE_a.2.2.1 hs]) rfl hw.1 hd (kk hw.2 H locs ls hP hS hl)
theorem r_aald (q : Nat) (hX : CxB X own cc nL d) {k n : Nat} (hs : wS k = (12, n)) {i : Int32} {B : Prop} (hd : decode cc pc = .ok (.aaload, 1)) (hq : pc + 1 = q) (hw : vp_in i n ∧ B) (kk : vp_in i n → B → At X nL q lv (.ref (X.kad (k + 1 + i.toNatClampNeg)) :: st) σ) : At X nL pc lv (.int i :: .ref (X.kad k) :: st) σ := by
  subst hq
  intro H locs ls hP hS hl
  have hlt : i.toNatClampNeg < n := Nat.not_le.mp fun q => hw.1 (Or.inr q)
  have hc := hP k _ (by rw [wW_get (wS_lt hs (by decide)), wE_a.2.2.2.2 hs])
  refine W.aald (v := .ref (X.kad (k + 1 + i.toNatClampNeg))) (ty := .array .int) hX.hx hX.hb hc ((hX.hK.2 4 _ rfl).1 n (fun j => va_rf (if j < n then some (X.kad (k + 1 + j)) else none))) rfl (fun q => by cases q) (by show ¬ (i < 0 ∨ (arrV _ _ _).slots.size ≤ _); rw [arrV_size]; exact hw.1) ?_ rfl rfl hd (kk hw.1 hw.2 H locs ls hP hS hl)
  show (arrV _ _ _).slots[_]? = _
  rw [arrV_read _ _ hlt]
  show some (va_rf (if i.toNatClampNeg < n then some (X.kad (k + 1 + i.toNatClampNeg)) else none)) = _
  rw [if_pos hlt]
  rfl
theorem r_alen (q : Nat) (hX : CxB X own cc nL d) {k t n : Nat} (hs : wS k = (t, n)) (ht : t = 8 ∨ t = 9 ∨ t = 10) (hd : decode cc pc = .ok (.arraylength, 1)) (hq : pc + 1 = q) (kk : At X nL q lv (.int (Int32.ofNat n) :: st) σ) : At X nL pc lv (.ref (X.kad k) :: st) σ := by
  subst hq
  intro H locs ls hP hS hl
  have hk : k < 102 := wS_lt hs (by omega)
  rcases ht with rfl | rfl | rfl
  · exact va_alen hX.hx hX.hb hX.hK hP k 0 (by rw [wW_get hk, wE_a.1 hs]) rfl rfl hd (kk H locs ls hP hS hl)
  · exact va_alen hX.hx hX.hb hX.hK hP k 1 (by rw [wW_get hk, wE_a.2.1 hs]) rfl rfl hd (kk H locs ls hP hS hl)
  · exact va_alen hX.hx hX.hb hX.hK hP k 2 (by rw [wW_get hk, wE_a.2.2.1 hs]) rfl rfl hd (kk H locs ls hP hS hl)
theorem r_bast (q : Nat) (hX : CxB X own cc nL d) {k n : Nat} (hs : wS k = (8, n)) {i : Int32} {x : Int32} {B : Prop} (hd : decode cc pc = .ok (.bastore, 1)) (hq : pc + 1 = q) (hw : vp_in i n ∧ B) (kk : B → At X nL q lv st (sI σ k i.toNatClampNeg (vp_nar .byte x))) : At X nL pc lv (.int x :: .int i :: .ref (X.kad k) :: st) σ := by
  subst hq
  intro H locs ls hP hS hl
  refine va_bast hX.hx hX.hb hX.hK hP (hX.hD σ) hS k 0 (by rw [wW_get (wS_lt hs (by decide)), wE_a.1 hs]) rfl hw.1 hd (fun H1 locs1 hP1 _ hS1 => ?_)
  rw [wW_setR (by rw [wE_a.1 hs, sR_self])] at hP1
  exact kk hw.2 H1 locs1 ls hP1 hS1 hl
theorem r_zast (q : Nat) (hX : CxB X own cc nL d) {k n : Nat} (hs : wS k = (11, n)) {i : Int32} {x : Int32} {B : Prop} (hd : decode cc pc = .ok (.bastore, 1)) (hq : pc + 1 = q) (hw : vp_in i n ∧ B) (kk : B → At X nL q lv st (sI σ k i.toNatClampNeg (vp_nar .boolean x))) : At X nL pc lv (.int x :: .int i :: .ref (X.kad k) :: st) σ := by
  subst hq
  intro H locs ls hP hS hl
  refine va_zast hX.hx hX.hb hX.hK hP (hX.hD σ) hS k 3 (by rw [wW_get (wS_lt hs (by decide)), wE_a.2.2.2.1 hs]) rfl hw.1 hd (fun H1 locs1 hP1 _ hS1 => ?_)
  rw [wW_setR (by rw [wE_a.2.2.2.1 hs, sR_self])] at hP1
  exact kk hw.2 H1 locs1 ls hP1 hS1 hl
theorem r_iast (q : Nat) (hX : CxB X own cc nL d) {k n : Nat} (hs : wS k = (9, n)) {i : Int32} {x : Int32} {B : Prop} (hd : decode cc pc = .ok (.iastore, 1)) (hq : pc + 1 = q) (hw : vp_in i n ∧ B) (kk : B → At X nL q lv st (sI σ k i.toNatClampNeg x)) : At X nL pc lv (.int x :: .int i :: .ref (X.kad k) :: st) σ := by
  subst hq
  intro H locs ls hP hS hl
  refine va_iast hX.hx hX.hb hX.hK hP (hX.hD σ) hS k 1 (by rw [wW_get (wS_lt hs (by decide)), wE_a.2.1 hs]) rfl hw.1 hd (fun H1 locs1 hP1 _ hS1 => ?_)
  rw [wW_setR (by rw [wE_a.2.1 hs, sR_self])] at hP1
  exact kk hw.2 H1 locs1 ls hP1 hS1 hl
theorem r_last (q : Nat) (hX : CxB X own cc nL d) {k n : Nat} (hs : wS k = (10, n)) {i : Int32} {x : Int64} {B : Prop} (hd : decode cc pc = .ok (.lastore, 1)) (hq : pc + 1 = q) (hw : vp_in i n ∧ B) (kk : B → At X nL q lv st (sJ σ k i.toNatClampNeg x)) : At X nL pc lv (.long x :: .int i :: .ref (X.kad k) :: st) σ := by
  subst hq
  intro H locs ls hP hS hl
  refine va_last hX.hx hX.hb hX.hK hP (hX.hD σ) hS k 2 (by rw [wW_get (wS_lt hs (by decide)), wE_a.2.2.1 hs]) rfl hw.1 hd (fun H1 locs1 hP1 _ hS1 => ?_)
  rw [wW_setL (by rw [wE_a.2.2.1 hs, sL_self])] at hP1
  exact kk hw.2 H1 locs1 ls hP1 hS1 hl
theorem r_get (q : Nat) (hX : CxB X own cc nL d) {ref C : String} {T : u_T} {N ci index k0 : Nat} {fs : List Value} (h0 : k0 < 102) (he : wE X.kcy X.kad σ k0 = .inr (ci, fs)) (hc : vwCl[ci]? = some (C, T, N)) (hin : ∀ w ∈ u_ws C T N, w ∈ TB) (k : Nat) (hk : k < N) (hm : Cond.fieldLink own index ref (T k).2.1 (T k).2.2.1 ∈ TB) (hr : (T k).1 = ref) {v : Value} (hv : fs[k]? = some v) (hd : decode cc pc = .ok (.getfield index, 3)) (hq : pc + 3 = q) (kk : At X nL q lv (v :: st) σ) : At X nL pc lv (.ref (X.kad k0) :: st) σ := by
  subst hq
  exact fun H locs ls hP hS hl => va_get hX.hx hX.hb hX.hts hin hX.hown hX.hK hP k0 (by rw [wW_get h0, he]) hc k hk (hX.hts _ hm) (fun x h => by rw [← hr]; exact h) hv hd (kk H locs ls hP hS hl)
theorem r_put {τ : St} (q : Nat) (hX : CxB X own cc nL d) {ref C : String} {T : u_T} {N ci index k0 : Nat} {fs : List Value} (h0 : k0 < 102) (he : wE X.kcy X.kad σ k0 = .inr (ci, fs)) (hc : vwCl[ci]? = some (C, T, N)) (hin : ∀ w ∈ u_ws C T N, w ∈ TB) (ty0 : Nat → FieldType) (hty : ∀ k, k < N → parseFieldDescriptor (T k).2.2.1 = some (ty0 k)) (hnm : ∀ a, a < N → ∀ b, b < N → a ≠ b → (T a).2.1 ≠ (T b).2.1) (k : Nat) (hk : k < N) (hm : Cond.fieldLink own index ref (T k).2.1 (T k).2.2.1 ∈ TB) (hr : (T k).1 = ref) (hfin : (T k).2.2.2 = false) {ty : FieldType} {v : Value} (hdd : parseFieldDescriptor (T k).2.2.1 = some ty) (hn : narrow ty v = v) (hfit : fits ty v = true) (hl0 : k < fs.length) (hset : (wW X.kcy X.kad σ).set k0 (X.kad k0, .inr (ci, fs.set k v)) = wW X.kcy X.kad τ) (hd : decode cc pc = .ok (.putfield index, 3)) (hq : pc + 3 = q) (kk : At X nL q lv st τ) : At X nL pc lv (v :: .ref (X.kad k0) :: st) σ := by
  subst hq
  intro H locs ls hP hS hl
  refine va_put hX.hx hX.hb hX.hts hin ty0 hty hnm hX.hown hX.hK hP (hX.hD σ) hS k0 (by rw [wW_get h0, he]) hc k hk (hX.hts _ hm) (fun x h => by rw [← hr]; exact h) hfin hdd hn hfit hl0 hd (fun H1 locs1 hP1 _ hS1 => ?_)
  rw [hset] at hP1
  exact kk H1 locs1 ls hP1 hS1 hl
theorem cat_le (h : 40 * d ≤ X.kR.locals) (h1 : 1 ≤ d) {n : Nat} (hn : n ≤ 27) : n + 13 ≤ X.kR.locals := by omega
theorem r_mmax (q : Nat) (hX : CxB X own cc nL d) {index : Nat} {x y : Int32} (h1 : Cond.methodLink own index Lib.Math.max.name ∈ TB) (h2 : Cond.static Lib.Math.max.name ∈ TB) (h3 : Cond.initialized "java/lang/Math" ∈ TB) (h4 : Cond.code Lib.Math.max.name Lib.Math.max.code 2 (some .int) ∈ TB) (hr : (st.map fun v => v.category).sum ≤ 27) (hd : decode cc pc = .ok (.invokestatic index, 3)) (hq : pc + 3 = q) (kk : At X nL q lv (.int (if x < y then y else x) :: st) σ) : At X nL pc lv (.int y :: .int x :: st) σ := by
  subst hq
  exact fun H locs ls hP hS hl => va_mmax hX.hx hX.hb (hX.hml.trans hl.1.symm) hX.hown (hX.hts _ h1) (hX.hts _ h2) (hX.hts _ h3) (hX.hts _ h4) (Nat.le_trans hX.hd1 hX.hfr) (cat_le hX.hlo hX.hd1 hr) hX.hce hX.hsl hd (kk H locs ls hP hS hl)
theorem r_mmin (q : Nat) (hX : CxB X own cc nL d) {index : Nat} {x y : Int32} (h1 : Cond.methodLink own index Lib.Math.min.name ∈ TB) (h2 : Cond.static Lib.Math.min.name ∈ TB) (h3 : Cond.initialized "java/lang/Math" ∈ TB) (h4 : Cond.code Lib.Math.min.name Lib.Math.min.code 2 (some .int) ∈ TB) (hr : (st.map fun v => v.category).sum ≤ 27) (hd : decode cc pc = .ok (.invokestatic index, 3)) (hq : pc + 3 = q) (kk : At X nL q lv (.int (if y < x then y else x) :: st) σ) : At X nL pc lv (.int y :: .int x :: st) σ := by
  subst hq
  exact fun H locs ls hP hS hl => va_mmin hX.hx hX.hb (hX.hml.trans hl.1.symm) hX.hown (hX.hts _ h1) (hX.hts _ h2) (hX.hts _ h3) (hX.hts _ h4) (Nat.le_trans hX.hd1 hX.hfr) (cat_le hX.hlo hX.hd1 hr) hX.hce hX.hsl hd (kk H locs ls hP hS hl)
theorem r_mabs (q : Nat) (hX : CxB X own cc nL d) {index : Nat} {x : Int32} (h1 : Cond.methodLink own index Lib.Math.abs.name ∈ TB) (h2 : Cond.static Lib.Math.abs.name ∈ TB) (h3 : Cond.initialized "java/lang/Math" ∈ TB) (h4 : Cond.code Lib.Math.abs.name Lib.Math.abs.code 1 (some .int) ∈ TB) (hr : (st.map fun v => v.category).sum ≤ 27) (hd : decode cc pc = .ok (.invokestatic index, 3)) (hq : pc + 3 = q) (kk : At X nL q lv (.int (if 0 ≤ x then x else 0 - x) :: st) σ) : At X nL pc lv (.int x :: st) σ := by
  subst hq
  exact fun H locs ls hP hS hl => va_mabs hX.hx hX.hb (hX.hml.trans hl.1.symm) hX.hown (hX.hts _ h1) (hX.hts _ h2) (hX.hts _ h3) (hX.hts _ h4) (Nat.le_trans hX.hd1 hX.hfr) (cat_le hX.hlo hX.hd1 hr) hX.hce hX.hsl hd (kk H locs ls hP hS hl)
theorem r_copyi (q : Nat) (hX : CxB X own cc nL d) {index a b n0 n1 : Nat} (hsa : wS a = (9, n0)) (hsb : wS b = (9, n1)) (h1 : Cond.methodLink own index arraycopyName ∈ TB) (h2 : Cond.native arraycopyName ∈ TB) (h3 : Cond.static arraycopyName ∈ TB) (h4 : Cond.initialized "java/lang/System" ∈ TB) (hr : (st.map fun v => v.category).sum = 0) (hN : nativeFrameWords "java/lang/System" "arraycopy" 5 + 11 ≤ 40) {sp dp n : Int32} {B : Prop} (hd : decode cc pc = .ok (.invokestatic index, 3)) (hq : pc + 3 = q) (hw : (¬ sp < 0 ∧ ¬ dp < 0 ∧ ¬ n < 0 ∧ sp.toNatClampNeg + n.toNatClampNeg ≤ n0 ∧ dp.toNatClampNeg + n.toNatClampNeg ≤ n1) ∧ B) (kk : B → At X nL q lv st (sR σ b (va_cpy (σ.1 a) (σ.1 b) sp.toNatClampNeg dp.toNatClampNeg n.toNatClampNeg))) : At X nL pc lv (.int n :: .int dp :: .ref (X.kad b) :: .int sp :: .ref (X.kad a) :: st) σ := by
  subst hq
  intro H locs ls hP hS hl
  obtain ⟨⟨g1, g2, g3, g4, g5⟩, hB⟩ := hw
  refine va_copyi hX.hx hX.hb (hX.hml.trans hl.1.symm) hX.hown (hX.hts _ h1) (hX.hts _ h2) (hX.hts _ h3) (hX.hts _ h4) hX.hK hP (hX.hD σ) hS a b 1 1 (by rw [wW_get (wS_lt hsa (by decide)), wE_a.2.1 hsa]) (by rw [wW_get (wS_lt hsb (by decide)), wE_a.2.1 hsb]) rfl rfl rfl g1 g2 g3 g4 g5 (fun i _ => rfl) (Nat.le_trans hX.hd1 hX.hfr) (by rw [hr]; have := hX.hlo; have := hX.hd1; omega) hd (fun H1 locs1 hP1 _ hS1 => ?_)
  rw [wW_setR (by rw [wE_a.2.1 hsb, sR_self])] at hP1
  exact kk hB H1 locs1 ls hP1 hS1 hl
theorem r_copyl (q : Nat) (hX : CxB X own cc nL d) {index a b n0 n1 : Nat} (hsa : wS a = (10, n0)) (hsb : wS b = (10, n1)) (h1 : Cond.methodLink own index arraycopyName ∈ TB) (h2 : Cond.native arraycopyName ∈ TB) (h3 : Cond.static arraycopyName ∈ TB) (h4 : Cond.initialized "java/lang/System" ∈ TB) (hr : (st.map fun v => v.category).sum = 0) (hN : nativeFrameWords "java/lang/System" "arraycopy" 5 + 11 ≤ 40) {sp dp n : Int32} {B : Prop} (hd : decode cc pc = .ok (.invokestatic index, 3)) (hq : pc + 3 = q) (hw : (¬ sp < 0 ∧ ¬ dp < 0 ∧ ¬ n < 0 ∧ sp.toNatClampNeg + n.toNatClampNeg ≤ n0 ∧ dp.toNatClampNeg + n.toNatClampNeg ≤ n1) ∧ B) (kk : B → At X nL q lv st (sL σ b (va_cpy (σ.2 a) (σ.2 b) sp.toNatClampNeg dp.toNatClampNeg n.toNatClampNeg))) : At X nL pc lv (.int n :: .int dp :: .ref (X.kad b) :: .int sp :: .ref (X.kad a) :: st) σ := by
  subst hq
  intro H locs ls hP hS hl
  obtain ⟨⟨g1, g2, g3, g4, g5⟩, hB⟩ := hw
  refine va_copyl hX.hx hX.hb (hX.hml.trans hl.1.symm) hX.hown (hX.hts _ h1) (hX.hts _ h2) (hX.hts _ h3) (hX.hts _ h4) hX.hK hP (hX.hD σ) hS a b 2 2 (by rw [wW_get (wS_lt hsa (by decide)), wE_a.2.2.1 hsa]) (by rw [wW_get (wS_lt hsb (by decide)), wE_a.2.2.1 hsb]) rfl rfl rfl g1 g2 g3 g4 g5 (fun i _ => rfl) (Nat.le_trans hX.hd1 hX.hfr) (by rw [hr]; have := hX.hlo; have := hX.hd1; omega) hd (fun H1 locs1 hP1 _ hS1 => ?_)
  rw [wW_setL (by rw [wE_a.2.2.1 hsb, sL_self])] at hP1
  exact kk hB H1 locs1 ls hP1 hS1 hl
end RW
theorem CxB.ucTo {X : Cx} {own : String} {cc : ByteArray} {nL d : Nat} (h : CxB X own cc nL d) {H : Heap} {locs : List Loc} {U : State} (hS : va_S X.kA X.ks.heap H locs) (hW : X.ks.WarmedH U.vm) : uC X.kad (uA X.kad H.size) U H :=
  h.huc.to hW (fun q hq => by
    rcases hq with ⟨k, hk, rfl⟩ | hq
    · exact h.hAw k hk
    · exact h.hAz q (Nat.le_trans hS.1 hq)) (fun a h1 h2 => hS.2.1 a h1 h2)
/-! a method's end, its contract, its call -/
def uB (D : va_G) (cy : Nat → ClassId) (ad : Nat → Nat) (σ : St) (t : State) : Prop := va_P D vwCl (wW cy ad σ) t.heap ∧ va_K D vwCl (wT cy) t
def uQ (Q : RV → St → Prop) (D : va_G) (cy : Nat → ClassId) (ad : Nat → Nat) (A : Nat → Prop) : Array Value → State → Outcome → State → Prop := fun _ st oc t => (∃ (r : RV) (u : St), oc = .returned (rvv ad r) ∧ Q r u ∧ uB D cy ad u t) ∧ va_F A st t
def CxR (X : Cx) (ret : Option FieldType) (Q : RV → St → Prop) : Prop := X.kQf = MQ X.kbelow (uQ Q X.kD X.kcy X.kad X.kA) X.kargs X.ks X.kcells X.kslots X.kA ∧ X.kmeth.sig.returnType = ret ∧ X.kmeth.locks = false
section RT
variable {X : Cx} {own : String} {cc : ByteArray} {nL d pc : Nat} {lv : List (Nat × Value)} {σ : St} {Q : RV → St → Prop}
theorem r_iret (hX : CxB X own cc nL d) (hR : CxR X (some .int) Q) {v : Int32} (hd : decode cc pc = .ok (.ireturn, 1)) (hw : Q (some (.inl v)) σ) : At X nL pc lv [.int v] σ := by
  intro H locs ls hP hS hl
  rw [hR.1]
  exact W.iret hX.hx hX.hb hR.2.1 (fun t ht hW => ⟨⟨some (.inl v), σ, rfl, hw, by rw [ht]; exact hP, va_K.moved hW.alike hX.hK⟩, hS.F ht⟩) (fun q hq => hS.2.2 q hq) hd hR.2.2
theorem r_zret (hX : CxB X own cc nL d) (hR : CxR X (some .boolean) Q) {v : Int32} (hn : narrow .boolean (.int v) = .int v) (hd : decode cc pc = .ok (.ireturn, 1)) (hw : Q (some (.inl v)) σ) : At X nL pc lv [.int v] σ := by
  intro H locs ls hP hS hl
  rw [hR.1]
  exact W.zret hX.hx hX.hb hR.2.1 hn (fun t ht hW => ⟨⟨some (.inl v), σ, rfl, hw, by rw [ht]; exact hP, va_K.moved hW.alike hX.hK⟩, hS.F ht⟩) (fun q hq => hS.2.2 q hq) hd hR.2.2
theorem r_lret (hX : CxB X own cc nL d) (hR : CxR X (some .long) Q) {v : Int64} (hd : decode cc pc = .ok (.lreturn, 1)) (hw : Q (some (.inr (.inl v))) σ) : At X nL pc lv [.long v] σ := by
  intro H locs ls hP hS hl
  rw [hR.1]
  exact W.lret hX.hx hX.hb hR.2.1 (fun t ht hW => ⟨⟨some (.inr (.inl v)), σ, rfl, hw, by rw [ht]; exact hP, va_K.moved hW.alike hX.hK⟩, hS.F ht⟩) (fun q hq => hS.2.2 q hq) hd hR.2.2
theorem r_vret (hX : CxB X own cc nL d) (hR : CxR X (none) Q)  (hd : decode cc pc = .ok (.return_, 1)) (hw : Q (none) σ) : At X nL pc lv [] σ := by
  intro H locs ls hP hS hl
  rw [hR.1]
  exact W.vret hX.hx hX.hb hR.2.1 (fun t ht hW => ⟨⟨none, σ, rfl, hw, by rw [ht]; exact hP, va_K.moved hW.alike hX.hK⟩, hS.F ht⟩) (fun q hq => hS.2.2 q hq) hd hR.2.2
theorem r_aret (hX : CxB X own cc nL d) {C : String} (hR : CxR X (some (.object C)) Q) {k : Nat} (hd : decode cc pc = .ok (.areturn, 1)) (hw : Q (some (.inr (.inr k))) σ) : At X nL pc lv [.ref (X.kad k)] σ := by
  intro H locs ls hP hS hl
  rw [hR.1]
  exact W.aret hX.hx hX.hb hR.2.1 (Or.inl ⟨C, rfl⟩) (Or.inr ⟨_, rfl⟩) (fun t ht hW => ⟨⟨some (.inr (.inr k)), σ, rfl, hw, by rw [ht]; exact hP, va_K.moved hW.alike hX.hK⟩, hS.F ht⟩) (fun q hq => hS.2.2 q hq) hd hR.2.2
end RT
def rmD (d : Nat) : Room := { frames := d, cells := 0, slots := 0, locals := 40 * d }
def Con (y : MethodName) (cc : ByteArray) (maxL : Nat) (ret : Option FieldType) (d : Nat) (mk : (Nat → Nat) → List Value) (Wp : (RV → St → Prop) → St → Prop) : Prop := ∀ (l : Launch) (D : va_G) (cy : Nat → ClassId) (ad : Nat → Nat), wInj ad → ∀ (σ : St) (sz : Nat) (Q : RV → St → Prop), Wp Q σ → Met l y (.code y cc maxL ret :: TB) (rmD d) (va_Pc (mk ad) (fun U => U.heap.size = sz ∧ uB D cy ad σ U ∧ uC ad (uA ad sz) U U.heap)) (uQ Q D cy ad (uA ad sz)) 0 0 (uA ad sz)
theorem con_intro {y : MethodName} {cc : ByteArray} {maxL : Nat} {ret : Option FieldType} {d : Nat} {mk : (Nat → Nat) → List Value} {Wp : (RV → St → Prop) → St → Prop} (hy : plainName y.cls = true) (hlen : ∀ ad, (lg_sl (mk ad)).length ≤ maxL) (hd1 : 1 ≤ d)
    (h : ∀ (X : Cx) (Q : RV → St → Prop) (σ : St), CxB X y.cls cc maxL d → CxR X ret Q → Wp Q σ → At X maxL 0 (lv_args 0 (mk X.kad)) [] σ) : Con y cc maxL ret d mk Wp := by
  intro l D cy ad hi σ sz Q hw
  refine Met.ofW (cc := cc) (maxL := maxL) (ret := ret) hy rfl ?_
  intro p e s m args below meth c s₁ B hml hv
  obtain ⟨rfl, hsz, ⟨hP, hK⟩, hU⟩ := hv
  subst hsz
  have hts := atoms_spec (ws := .code y cc maxL ret :: TB) B.pre
  have hX : CxB (p, l, e, rmD d, s, m, (mk ad).toArray, below, meth, c, 0, 0, D, cy, ad, uA ad s.heap.size, MQ below (uQ Q D cy ad (uA ad s.heap.size)) (mk ad).toArray s 0 0 (uA ad s.heap.size)) y.cls cc maxL d := ⟨B.exec, B.bytes, hml, findClass_of_methodNamed B.named, fun w h => hts w (List.mem_cons_of_mem _ h), hK, hi, fun k hk => Or.inl ⟨k, hk, rfl⟩, fun q h => Or.inr h, hd1, Nat.le_refl _, Nat.le_refl _, Nat.le_refl _, Nat.le_refl _, hU⟩
  have hR : CxR (p, l, e, rmD d, s, m, (mk ad).toArray, below, meth, c, 0, 0, D, cy, ad, uA ad s.heap.size, MQ below (uQ Q D cy ad (uA ad s.heap.size)) (mk ad).toArray s 0 0 (uA ad s.heap.size)) ret Q := ⟨rfl, B.returns, B.notSynchronized⟩
  have h9 := h _ Q σ hX hR hw s.heap [] _ hP va_S.rf (lv_entry (mk ad) (hlen ad))
  rw [lg_entry_eq]
  exact h9
section CL
variable {X : Cx} {own : String} {cc : ByteArray} {nL d pc : Nat} {lv : List (Nat × Value)} {σ : St}
theorem r_go (q : Nat) (hX : CxB X own cc nL d) {y : MethodName} {bytes : ByteArray} {maxL dc : Nat} {ret : Option FieldType} {mk : (Nat → Nat) → List Value} {Wp : (RV → St → Prop) → St → Prop} {rest stack : List Value} {K : RV → St → Prop} {H : Heap} {locs : List Loc} {ls : Array Slot} (hq : pc + 3 = q) (hP : va_P X.kD vwCl (wW X.kcy X.kad σ) H) (hS : va_S X.kA X.ks.heap H locs) (hl : lv_has ls nL lv)
    (hr : va_Run X.kp X.kl X.ke X.kR X.ks X.km X.kargs X.kbelow X.kmeth X.kc H locs X.kcells X.kslots 0 0 (F0 X.km pc ls stack) rest (uQ K X.kD X.kcy X.kad (uA X.kad H.size) (mk X.kad).toArray) (uA X.kad H.size))
    (kk : ∀ (r : RV) (τ : St), K r τ → At X nL q lv ((rvv X.kad r).toList ++ rest) τ) : W X.kp X.kl X.ke X.kR X.ks X.km X.kargs X.kbelow X.kmeth X.kc H locs X.kcells X.kslots X.kQf (F0 X.km pc ls stack) := by
  subst hq
  intro T hT Xs
  obtain ⟨v, st₀, t, T', L, h0, X', hL, e1, e2, ⟨⟨r, u, hv, hp, hb⟩, hz, hk⟩, st⟩ := hr T hT Xs
  have hv' : v = rvv X.kad r := by injection hv
  subst hv'
  rw [h0] at hz hk
  have hA : ∀ q, uA X.kad H.size q → X.kA q := fun q h => by
    rcases h with ⟨k, hk, rfl⟩ | h
    · exact hX.hAw k hk
    · exact hX.hAz q (Nat.le_trans hS.1 h)
  have hS' : va_S X.kA X.ks.heap T'.heap (locs ++ L) := ⟨Nat.le_trans hS.1 (by rw [e1]; exact hz), fun q h1 h2 => by rw [e1, hk q (Nat.lt_of_lt_of_le h1 hS.1) (fun z => h2 (hA q z))]; exact hS.2.1 q h1 h2, fun q hq => by
      rcases List.mem_append.mp hq with h | h
      · exact hS.2.2 q h
      · exact hA _ (hL q h)⟩
  have hP' : va_P X.kD vwCl (wW X.kcy X.kad u) T'.heap := by rw [e1]; exact hb.1
  obtain ⟨t2, a1, b1⟩ := kk r u hp T'.heap (locs ++ L) ls hP' hS' hl T' rfl X'
  exact ⟨t2, st t2 a1, b1⟩
theorem fb_blind {D : va_G} {cy : Nat → ClassId} {ad : Nat → Nat} {σ : St} {av : List Value} {sz : Nat} : FrameBlind (va_Pc av (fun U => U.heap.size = sz ∧ uB D cy ad σ U ∧ uC ad (uA ad sz) U U.heap)) := fun a U g mk q => by
  obtain ⟨q0, q1, ⟨qP, qK⟩, qU⟩ := q
  exact ⟨q0, q1, ⟨qP, va_K.moved (u := U) (U := U.calling g mk a) (Vm.Alike.refl U.vm) qK⟩, qU.calling⟩
theorem r_callV (q : Nat) (hX : CxB X own cc nL d) {y : MethodName} {bytes : ByteArray} {maxL dc idx k0 n : Nat} {ret : Option FieldType} {mk : (Nat → Nat) → List Value} {Wp : (RV → St → Prop) → St → Prop} {As rest stack : List Value} {K : RV → St → Prop} (hC : Con y bytes maxL ret dc mk Wp)
    (h1 : Cond.methodLink own idx y ∈ TB) (h2 : Cond.instanceMethod y ∈ TB) (h3 : Cond.selects y.cls y y ∈ TB) (h4 : Cond.initialized y.cls ∈ TB) (h5 : Cond.code y bytes maxL ret ∈ TB) (hp : y.cls ≠ "java/lang/invoke/MethodHandle" ∧ y.cls ≠ "java/lang/invoke/VarHandle" ∧ (parseMethodDescriptor y.desc).map (fun d => d.parameters.length) = some n)
    (hdc : dc + 1 ≤ d) (hmx : maxL ≤ 21) (hlen : As.length = n) (hmk : mk X.kad = .ref (X.kad k0) :: As) (hk0 : k0 < 102) (hrec : ∃ ci fs c, wE X.kcy X.kad σ k0 = .inr (ci, fs) ∧ vwCl[ci]? = some c ∧ c.1 = y.cls) (hst : (rest.map fun v => v.category).sum ≤ 8) (hd : decode cc pc = .ok (.invokevirtual idx, 3)) (hq : pc + 3 = q) (hstk : stack = As.reverse ++ .ref (X.kad k0) :: rest)
    (hw : Wp K σ) (kk : ∀ (r : RV) (τ : St), K r τ → At X nL q lv ((rvv X.kad r).toList ++ rest) τ) : At X nL pc lv stack σ := by
  intro H locs ls hP hS hl
  have hM := hC X.kl X.kD X.kcy X.kad hX.hinj σ H.size K hw
  obtain ⟨ci, fs, c9, he, hc9, hcn⟩ := hrec
  have hrv : ∃ cell : Cell, H[X.kad k0]? = some cell ∧ cell.vm.isStatics = false ∧ X.ks.vm.findClass y.cls = some cell.cls := by
    rw [← hcn]
    exact va_recv hX.hK hP (q0 := k0) hc9 (by rw [wW_get hk0, he])
  have hr := va_runV (cells := X.kcells) (slots := X.kslots) (locs := locs) (l := X.kl) (e := X.ke) (below := X.kbelow) (meth := X.kmeth) (nL := nL) (As := As) (rest := rest) (g := F0 X.km pc ls stack) ⟨hX.hx, hX.hb, hX.hml, hX.hown, hX.hts⟩ hM (cwV n hX.hts (tb_in (fun w hw => by
      rcases List.mem_append.mp hw with h | h
      · rcases List.mem_cons.mp h with rfl | h
        · exact h1
        rcases List.mem_cons.mp h with rfl | h
        · exact h2
        rcases List.mem_cons.mp h with rfl | h
        · exact h3
        rcases List.mem_cons.mp h with rfl | h
        · exact h4
        cases h
      · rcases List.mem_cons.mp h with rfl | h
        · exact h5
        · exact h)) rfl rfl rfl ⟨rfl, hp⟩ ⟨Nat.le_trans hdc hX.hfr, by have h8 := hX.hlo; show 8 + (maxL + 11) + 40 * dc ≤ _; omega⟩)
    ⟨fb_blind, hrv, fun U hU hW => ⟨by rw [hmk], by rw [hU], ⟨by rw [hU]; exact hP, va_K.moved hW.alike hX.hK⟩, by rw [hU]; exact hX.ucTo hS hW⟩⟩ rfl hlen hl.1 hstk (lv_room (m := X.km) (pc := pc) (ls := ls) hst) hd ⟨hX.hce, hX.hsl⟩
  rw [← hmk] at hr
  exact r_go (y := y) (bytes := bytes) (maxL := maxL) (dc := dc) (ret := ret) (Wp := Wp) q hX hq hP hS hl hr kk
theorem r_callK (q : Nat) (hX : CxB X own cc nL d) {y : MethodName} {bytes : ByteArray} {maxL dc idx a0 n : Nat} {ret : Option FieldType} {mk : (Nat → Nat) → List Value} {Wp : (RV → St → Prop) → St → Prop} {As rest stack : List Value} {K : RV → St → Prop} (hC : Con y bytes maxL ret dc mk Wp)
    (h1 : Cond.methodLink own idx y ∈ TB) (h2 : Cond.instanceMethod y ∈ TB) (h3 : Cond.selects y.cls y y ∈ TB) (h4 : Cond.initialized y.cls ∈ TB) (h5 : Cond.code y bytes maxL ret ∈ TB) (hp : y.cls ≠ "java/lang/invoke/MethodHandle" ∧ y.cls ≠ "java/lang/invoke/VarHandle" ∧ (parseMethodDescriptor y.desc).map (fun d => d.parameters.length) = some n)
    (hdc : dc + 1 ≤ d) (hmx : maxL ≤ 21) (hlen : As.length = n) (hmk : mk X.kad = .ref a0 :: As) (hrec : ∀ (H : Heap) (locs : List Loc), va_S X.kA X.ks.heap H locs → ∃ cell : Cell, H[a0]? = some cell ∧ cell.vm.isStatics = false ∧ X.ks.vm.findClass y.cls = some cell.cls) (hst : (rest.map fun v => v.category).sum ≤ 8) (hd : decode cc pc = .ok (.invokevirtual idx, 3)) (hq : pc + 3 = q) (hstk : stack = As.reverse ++ .ref a0 :: rest)
    (hw : Wp K σ) (kk : ∀ (r : RV) (τ : St), K r τ → At X nL q lv ((rvv X.kad r).toList ++ rest) τ) : At X nL pc lv stack σ := by
  intro H locs ls hP hS hl
  have hM := hC X.kl X.kD X.kcy X.kad hX.hinj σ H.size K hw
  have hrv := hrec H locs hS
  have hr := va_runV (cells := X.kcells) (slots := X.kslots) (locs := locs) (l := X.kl) (e := X.ke) (below := X.kbelow) (meth := X.kmeth) (nL := nL) (As := As) (rest := rest) (g := F0 X.km pc ls stack) ⟨hX.hx, hX.hb, hX.hml, hX.hown, hX.hts⟩ hM (cwV n hX.hts (tb_in (fun w hw => by
      rcases List.mem_append.mp hw with h | h
      · rcases List.mem_cons.mp h with rfl | h
        · exact h1
        rcases List.mem_cons.mp h with rfl | h
        · exact h2
        rcases List.mem_cons.mp h with rfl | h
        · exact h3
        rcases List.mem_cons.mp h with rfl | h
        · exact h4
        cases h
      · rcases List.mem_cons.mp h with rfl | h
        · exact h5
        · exact h)) rfl rfl rfl ⟨rfl, hp⟩ ⟨Nat.le_trans hdc hX.hfr, by have h8 := hX.hlo; show 8 + (maxL + 11) + 40 * dc ≤ _; omega⟩)
    ⟨fb_blind, hrv, fun U hU hW => ⟨by rw [hmk], by rw [hU], ⟨by rw [hU]; exact hP, va_K.moved hW.alike hX.hK⟩, by rw [hU]; exact hX.ucTo hS hW⟩⟩ rfl hlen hl.1 hstk (lv_room (m := X.km) (pc := pc) (ls := ls) hst) hd ⟨hX.hce, hX.hsl⟩
  rw [← hmk] at hr
  exact r_go (y := y) (bytes := bytes) (maxL := maxL) (dc := dc) (ret := ret) (Wp := Wp) q hX hq hP hS hl hr kk
theorem r_callS (q : Nat) (hX : CxB X own cc nL d) {y : MethodName} {bytes : ByteArray} {maxL dc idx n : Nat} {ret : Option FieldType} {mk : (Nat → Nat) → List Value} {Wp : (RV → St → Prop) → St → Prop} {As rest stack : List Value} {K : RV → St → Prop} (hC : Con y bytes maxL ret dc mk Wp)
    (h1 : Cond.methodLink own idx y ∈ TB) (h2 : Cond.static y ∈ TB) (h4 : Cond.initialized y.cls ∈ TB) (h5 : Cond.code y bytes maxL ret ∈ TB) (hp : y.cls ≠ "java/lang/invoke/MethodHandle" ∧ y.cls ≠ "java/lang/invoke/VarHandle" ∧ (parseMethodDescriptor y.desc).map (fun d => d.parameters.length) = some n)
    (hdc : dc + 1 ≤ d) (hmx : maxL ≤ 21) (hlen : As.length = n) (hmk : mk X.kad = As) (hst : (rest.map fun v => v.category).sum ≤ 8) (hd : decode cc pc = .ok (.invokestatic idx, 3)) (hq : pc + 3 = q) (hstk : stack = As.reverse ++ rest)
    (hw : Wp K σ) (kk : ∀ (r : RV) (τ : St), K r τ → At X nL q lv ((rvv X.kad r).toList ++ rest) τ) : At X nL pc lv stack σ := by
  intro H locs ls hP hS hl
  have hM := hC X.kl X.kD X.kcy X.kad hX.hinj σ H.size K hw
  have hr := va_runS (cells := X.kcells) (slots := X.kslots) (locs := locs) (l := X.kl) (e := X.ke) (below := X.kbelow) (meth := X.kmeth) (nL := nL) (As := As) (rest := rest) (g := F0 X.km pc ls stack) ⟨hX.hx, hX.hb, hX.hml, hX.hown, hX.hts⟩ hM (va_cwS n hX.hts (tb_in (fun w hw => by
      rcases List.mem_append.mp hw with h | h
      · rcases List.mem_cons.mp h with rfl | h
        · exact h1
        rcases List.mem_cons.mp h with rfl | h
        · exact h2
        rcases List.mem_cons.mp h with rfl | h
        · exact h4
        cases h
      · rcases List.mem_cons.mp h with rfl | h
        · exact h5
        · exact h)) rfl rfl rfl hp ⟨Nat.le_trans hdc hX.hfr, by have h8 := hX.hlo; show 8 + (maxL + 11) + 40 * dc ≤ _; omega⟩)
    ⟨fb_blind, fun U hU hW => ⟨by rw [hmk], by rw [hU], ⟨by rw [hU]; exact hP, va_K.moved hW.alike hX.hK⟩, by rw [hU]; exact hX.ucTo hS hW⟩⟩ rfl hlen hl.1 hstk (lv_room (m := X.km) (pc := pc) (ls := ls) hst) hd ⟨hX.hce, hX.hsl⟩
  rw [← hmk] at hr
  exact r_go (y := y) (bytes := bytes) (maxL := maxL) (dc := dc) (ret := ret) (Wp := Wp) q hX hq hP hS hl hr kk
end CL
def qI (K : Int32 → St → Prop) : RV → St → Prop := fun v σ => match v with
  | some (.inl x) => K x σ
  | _ => False
def qJ (K : Int64 → St → Prop) : RV → St → Prop := fun v σ => match v with
  | some (.inr (.inl x)) => K x σ
  | _ => False
def qR (K : Nat → St → Prop) : RV → St → Prop := fun v σ => match v with
  | some (.inr (.inr x)) => K x σ
  | _ => False
def qV (K : St → Prop) : RV → St → Prop := fun v σ => match v with
  | none => K σ
  | _ => False
theorem kI {X : Cx} {nL q : Nat} {lv : List (Nat × Value)} {rest : List Value} {K : Int32 → St → Prop} (kk : ∀ (r : Int32) (τ : St), K r τ → At X nL q lv (.int r :: rest) τ) : ∀ (r : RV) (τ : St), qI K r τ → At X nL q lv ((rvv X.kad r).toList ++ rest) τ := fun r τ h => match r, h with
  | some (.inl x), h => kk x τ h
theorem kJ {X : Cx} {nL q : Nat} {lv : List (Nat × Value)} {rest : List Value} {K : Int64 → St → Prop} (kk : ∀ (r : Int64) (τ : St), K r τ → At X nL q lv (.long r :: rest) τ) : ∀ (r : RV) (τ : St), qJ K r τ → At X nL q lv ((rvv X.kad r).toList ++ rest) τ := fun r τ h => match r, h with
  | some (.inr (.inl x)), h => kk x τ h
theorem kR {X : Cx} {nL q : Nat} {lv : List (Nat × Value)} {rest : List Value} {K : Nat → St → Prop} (kk : ∀ (r : Nat) (τ : St), K r τ → At X nL q lv (.ref (X.kad r) :: rest) τ) : ∀ (r : RV) (τ : St), qR K r τ → At X nL q lv ((rvv X.kad r).toList ++ rest) τ := fun r τ h => match r, h with
  | some (.inr (.inr x)), h => kk x τ h
theorem kV {X : Cx} {nL q : Nat} {lv : List (Nat × Value)} {rest : List Value} {K : St → Prop} (kk : ∀ (τ : St), K τ → At X nL q lv rest τ) : ∀ (r : RV) (τ : St), qV K r τ → At X nL q lv ((rvv X.kad r).toList ++ rest) τ := fun r τ h => match r, h with
  | none, h => kk τ h
abbrev aI (Q : RV → St → Prop) : Int32 → St → Prop := fun r σ => Q (some (.inl r)) σ
abbrev aJ (Q : RV → St → Prop) : Int64 → St → Prop := fun r σ => Q (some (.inr (.inl r))) σ
abbrev aR (Q : RV → St → Prop) : Nat → St → Prop := fun r σ => Q (some (.inr (.inr r))) σ
abbrev aV (Q : RV → St → Prop) : St → Prop := fun σ => Q none σ
section RX
variable {X : Cx} {own : String} {cc : ByteArray} {nL d pc : Nat} {lv : List (Nat × Value)} {st : List Value} {σ : St}
theorem r_topi {x : Int32} {B : Int32 → Prop} (hw : ∀ y, y = x → B y) (kk : ∀ y, B y → At X nL pc lv (.int y :: st) σ) : At X nL pc lv (.int x :: st) σ := kk x (hw x rfl)
theorem r_case {x k : Int32} {P Q G : Prop} (hw : (x = k → P) ∧ (¬ x = k → Q)) (kt : x = k → P → G) (kf : ¬ x = k → Q → G) : G := by
  by_cases h : x = k
  · exact kt h (hw.1 h)
  · exact kf h (hw.2 h)
theorem r_tabIn (q : Nat) (hX : CxB X own cc nL d) {dflt lo hi : Int} {offs : Array Int} {len : Nat} {x : Int32} {off : Int} (hd : decode cc pc = .ok (.tableswitch dflt lo hi offs, len)) (h1 : ¬ x.toInt < lo) (h2 : ¬ hi < x.toInt) (ho : offs[(x.toInt - lo).toNat]? = some off) (ht : (pc : Int) + off = (q : Int)) (kk : At X nL q lv st σ) : At X nL pc lv (.int x :: st) σ := fun H locs ls hP hS hl => lv_tableIn hX.hx hX.hb hd h1 h2 ho ht (kk H locs ls hP hS hl)
theorem r_tabOut (q : Nat) (hX : CxB X own cc nL d) {dflt lo hi : Int} {offs : Array Int} {len : Nat} {x : Int32} (hd : decode cc pc = .ok (.tableswitch dflt lo hi offs, len)) (h : x.toInt < lo ∨ hi < x.toInt) (ht : (pc : Int) + dflt = (q : Int)) (kk : At X nL q lv st σ) : At X nL pc lv (.int x :: st) σ := fun H locs ls hP hS hl => lv_tableOut hX.hx hX.hb hd h ht (kk H locs ls hP hS hl)
theorem nar01 {v : Int32} (h : v = 0 ∨ v = 1) : narrow .boolean (.int v) = .int v := by
  rcases h with rfl | rfl <;> rfl
theorem r_nret {Q : RV → St → Prop} (hX : CxB X own cc nL d) {ty : FieldType} (hR : CxR X (some ty) Q) {v : Int32} (hn : narrow ty (.int v) = .int v) (hd : decode cc pc = .ok (.ireturn, 1)) (hw : Q (some (.inl v)) σ) : At X nL pc lv [.int v] σ := by
  intro H locs ls hP hS hl
  rw [hR.1]
  exact W.zret hX.hx hX.hb hR.2.1 hn (fun t ht hW => ⟨⟨some (.inl v), σ, rfl, hw, by rw [ht]; exact hP, va_K.moved hW.alike hX.hK⟩, hS.F ht⟩) (fun q hq => hS.2.2 q hq) hd hR.2.2
theorem r_i2c (q : Nat) (hX : CxB X own cc nL d) {x : Int32} (hd : decode cc pc = .ok (.i2c, 1)) (hq : pc + 1 = q) (kk : At X nL q lv (.int (x.toUInt32 % 65536).toInt32 :: st) σ) : At X nL pc lv (.int x :: st) σ := by
  subst hq
  exact fun H locs ls hP hS hl => lv_i2c hX.hx hX.hb hd rfl (kk H locs ls hP hS hl)
theorem r_sget (q : Nat) (hX : CxB X own cc nL d) {n dd ref : String} {v : Value} {index : Nat} (hZ : va_Z ref n dd v X.kA X.ks X.ks.heap) (hm : Cond.fieldLink own index ref n dd ∈ TB) (hd : decode cc pc = .ok (.getstatic index, 3)) (hq : pc + 3 = q) (kk : At X nL q lv (v :: st) σ) : At X nL pc lv st σ := by
  subst hq
  exact fun H locs ls hP hS hl => va_gets hX.hx hX.hb hZ hS hX.hown (hX.hts _ hm) (fun _ h => h) hd (kk H locs ls hP hS hl)
theorem r_kget (q : Nat) (hX : CxB X own cc nL d) {n dd ref : String} {v : Value} {index a : Nat} (hE : va_OF ref n dd v a X.kA X.ks X.ks.heap) (hm : Cond.fieldLink own index ref n dd ∈ TB) (hd : decode cc pc = .ok (.getfield index, 3)) (hq : pc + 3 = q) (kk : At X nL q lv (v :: st) σ) : At X nL pc lv (.ref a :: st) σ := by
  subst hq
  exact fun H locs ls hP hS hl => vk_getf hX.hx hX.hb hE hS hX.hown (hX.hts _ hm) (fun _ h => h) hd (kk H locs ls hP hS hl)
theorem r_klen (q : Nat) (hX : CxB X own cc nL d) {ty : FieldType} {t N : Nat} {f : Nat → Value} (hT : va_T ty t N f X.kA X.ks X.ks.heap) (hd : decode cc pc = .ok (.arraylength, 1)) (hq : pc + 1 = q) (kk : At X nL q lv (.int (Int32.ofNat N) :: st) σ) : At X nL pc lv (.ref t :: st) σ := by
  subst hq
  exact fun H locs ls hP hS hl => va_tlen hX.hx hX.hb hT hS rfl hd (kk H locs ls hP hS hl)
theorem r_kbald (q : Nat) (hX : CxB X own cc nL d) {t N : Nat} {f : Nat → Value} {i : Int32} (hT : va_T .byte t N f X.kA X.ks X.ks.heap) (hin : vp_in i N) (hd : decode cc pc = .ok (.baload, 1)) (hq : pc + 1 = q) (kk : At X nL q lv (f i.toNatClampNeg :: st) σ) : At X nL pc lv (.int i :: .ref t :: st) σ := by
  subst hq
  exact fun H locs ls hP hS hl => va_tb hX.hx hX.hb hT hS hin rfl hd (kk H locs ls hP hS hl)
theorem r_kiald (q : Nat) (hX : CxB X own cc nL d) {t N : Nat} {f : Nat → Value} {i : Int32} {B : Prop} (hT : va_T .int t N f X.kA X.ks X.ks.heap) (hd : decode cc pc = .ok (.iaload, 1)) (hq : pc + 1 = q) (hw : vp_in i N ∧ B) (kk : B → At X nL q lv (f i.toNatClampNeg :: st) σ) : At X nL pc lv (.int i :: .ref t :: st) σ := by
  subst hq
  exact fun H locs ls hP hS hl => va_ti hX.hx hX.hb hT hS hw.1 rfl hd (kk hw.2 H locs ls hP hS hl)
theorem r_kstr (q : Nat) (hX : CxB X own cc nL d) {tx : String} {index a : Nat} (hZ : vk_R own index tx a X.ks) (hd : decode cc pc = .ok (.ldc index, 2)) (hq : pc + 2 = q) (kk : At X nL q lv (.ref a :: st) σ) : At X nL pc lv st σ := by
  subst hq
  exact fun H locs ls hP hS hl => va_ldcS hX.hx hX.hb hX.hown hZ hd (kk H locs ls hP hS hl)
theorem r_any (v : Value) (hX : CxB X own cc nL d) {k : Fin 4} {i q : Nat} (hv : v = .null ∨ ∃ a, v = .ref a) (hd : decode cc pc = .ok (.aload_n k, 1)) (hq : pc + 1 = q) (hi : (k : Nat) = i) (j : Nat) (hl0 : lv[j]? = some (i, v)) (kk : At X nL q lv (v :: st) σ) : At X nL pc lv st σ := by
  subst hq
  rcases hv with rfl | ⟨a, rfl⟩
  · exact fun H locs ls hP hS hl => lv_aload_nN hX.hx hX.hb hd hi (lv_at hl j hl0) (kk H locs ls hP hS hl)
  · exact fun H locs ls hP hS hl => lv_aload_n hX.hx hX.hb hd hi (lv_at hl j hl0) (kk H locs ls hP hS hl)
theorem nfw : nativeFrameWords "java/lang/System" "arraycopy" 5 + 11 ≤ 40 := by decide
theorem neT {x k : Int32} {a : Int} (h : ¬ x = k) (hk : k.toInt = a) : ¬ x.toInt = a := fun q => h (Int32.toInt_inj.mp (by rw [hk]; exact q))
end RX
