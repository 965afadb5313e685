section SA
variable {X : Cx} {own : String} {cc : ByteArray} {nL d mc ms pc : Nat} {lv : List (Nat × Value)} {st : List Value} {ws : va_W} {cells slots : Nat}
theorem v_astore_n (q : Nat) (hX : CxV X own cc nL d mc ms) {k : Fin 4} {i x : Nat} (hd : decode cc pc = .ok (.astore_n k, 1)) (hq : pc + 1 = q) {lv' : List (Nat × Value)} (hi : (k : Nat) = i) (hn : i < nL) (hl0 : (i, Value.ref x) :: lv.filter (fun q => !(q.1 == i) && !(q.1 + 1 == i && q.2.category == 2)) = lv') (kk : AtV X nL q lv' st ws cells slots) : AtV X nL pc lv (.ref x :: st) ws cells slots := by
  subst hq
  exact fun H locs ls hP hD hS hl => lv_astore_n hX.1 hX.2.1 hd hi hl hn hl0 (fun ls hl => kk H locs ls hP hD hS hl)
theorem v_istore_n (q : Nat) (hX : CxV X own cc nL d mc ms) {k : Fin 4} {i : Nat} {x : Int32} (hd : decode cc pc = .ok (.istore_n k, 1)) (hq : pc + 1 = q) {lv' : List (Nat × Value)} (hi : (k : Nat) = i) (hn : i < nL) (hl0 : (i, Value.int x) :: lv.filter (fun q => !(q.1 == i) && !(q.1 + 1 == i && q.2.category == 2)) = lv') (kk : AtV X nL q lv' st ws cells slots) : AtV X nL pc lv (.int x :: st) ws cells slots := by
  subst hq
  exact fun H locs ls hP hD hS hl => lv_istore_n hX.1 hX.2.1 hd hi hl hn hl0 (fun ls hl => kk H locs ls hP hD hS hl)
end SA
theorem k_arr {s : State} {args : Array Value} {ty : FieldType} (h : (Cond.arrayClass ty).before args s = true) (hno : ∀ C, ty ≠ .object C) : ∃ cA, ArrOfT s cA ty ∧ va_RA s cA ty := by
  unfold Cond.before Cond.holds at h
  simp only [Cond.value, beq_iff_eq] at h
  cases hf : s.vm.findClass ("[" ++ ty.toString) with
  | none => simp [hf] at h
  | some cA =>
    rw [hf] at h
    cases hk : s.vm.classes[cA]? with
    | none => simp [hk] at h
    | some k =>
      simp only [Option.bind_some, hk, Option.map_some, Option.some.injEq] at h
      cases hkind : k.kind with
      | array comp t =>
        rw [hkind] at h
        simp only [decide_eq_true_eq] at h
        subst h
        refine ⟨cA, fun n z => ⟨fun q hq => ?_, k, hk, comp, hkind⟩, ?_⟩
        · cases t <;> first | (exact absurd rfl (hno _)) | cases hq
        · cases t <;> first | (exact absurd rfl (hno _)) | exact hf
      | _ => rw [hkind] at h; simp at h
theorem k_arr2 {s : State} (h : va_AOA s) : ∃ cA, ArrOfT s cA (.array .int) ∧ va_RA s cA (.array .int) := by
  obtain ⟨comp, c, k, h1, h2, h3, h4, h5⟩ := aoa_spec h
  exact ⟨c, fun n z => ⟨fun q hq => (by cases hq), k, h3, comp, h4⟩, h5⟩
theorem wa_of {D : va_G} {H : Heap} {a b : Nat} {e e' : va_E} (h : a = b) (hP : va_at D vwCl (b, e) H) (he : e' = e) : va_at D vwCl (a, e') H := by rw [h, he]; exact hP
def pm (k : Nat) : Nat := [0, 1, 2, 3, 7, 8, 9, 10, 11, 12, 13, 14, 15, 16, 17, 18, 19, 20, 21, 22, 23, 24, 25, 26, 27, 28, 29, 30, 31, 32, 33, 34, 35, 36, 37, 38, 39, 40, 41, 42, 43, 44, 45, 46, 47, 48, 49, 50, 51, 52, 53, 54, 55, 56, 57, 58, 59, 60, 61, 62, 63, 64, 65, 66, 67, 68, 69, 70, 76, 71, 72, 73, 74, 75, 6, 77, 78, 79, 80, 81, 82, 83, 84, 85, 86, 87, 88, 89, 90, 91, 92, 93, 94, 95, 96, 97, 98, 99, 100, 101, 4, 5].getD k 0
theorem pm_inj : ∀ i, i < 102 → ∀ j, j < 102 → pm i = pm j → i = j := by decide +kernel
def alL (a0 a8 : Nat) (u4 u12 : Nat → Nat) (cs : List Nat) : List Nat := [a0, (u4 0), (u4 1), (u4 2), (u4 6), (u4 7), (u4 8), (u4 9), (u4 10), (u4 11), (u4 12), (u4 13), (u4 14), (u4 15), (u4 16), (u4 17), (u4 18), (u4 19), (u4 20), (u4 21), (u4 22), (u4 23), (u4 24), (u4 25), (u4 26), (u4 27), (u4 28), (u4 29), (u4 30), (u4 31), (u4 32), (u4 33), (u4 34), (u4 35), (u4 36), (u4 37), (u4 38), (u4 39), (u4 40), (u4 41), (u4 42), (u4 43), (u4 44), (u4 45), (u4 46), (u4 47), (u4 48), (u4 49), (u4 50), (u4 51), (u4 52), (u4 53), (u4 54), (u4 55), (u4 56), (u4 57), (u4 58), (u4 59), (u4 60), (u4 61), (u4 62), (u4 63), (u4 64), (u4 65), (u4 66), (u4 67), (u4 68), (u4 69), (u4 75), (u4 70), (u4 71), (u4 72), (u4 73), (u4 74), (u4 5), a8, (u12 0), (u12 1), (u12 2), (u12 3), (u12 4), (u12 5), (u12 6), (u12 7), (u12 8), (u12 9), (u12 10), (u12 11), (u12 12), (u12 13), (u12 14), (u12 15), (u12 16), (u12 17), (u12 18), (u12 19), (u12 20), (u12 21), (u12 22), (u12 23), (u4 3), (u4 4)] ++ cs
def adF (a0 a8 : Nat) (u4 u12 : Nat → Nat) (cs : List Nat) : Nat → Nat := fun k => (alL a0 a8 u4 u12 cs).getD k 0
set_option maxRecDepth 100000 in
set_option maxHeartbeats 8000000 in
theorem world_at {D : va_G} {cy : Nat → ClassId} {H : Heap} {A : Nat → Prop} {a0 a8 : Nat} {u4 u12 : Nat → Nat} (cs : List Nat) (hP : va_P D vwCl [(a0, .inr (6, [.ref (u4 0), .int 0, .ref (u4 1), .ref (u4 6), .ref (u4 11), .ref (u4 16), .ref (u4 17), .ref (u4 22), .ref (u4 29), .ref (u4 30), .ref (u4 37), .ref (u4 44), .ref (u4 45), .ref (u4 51), .long 0])), ((u4 0), .inl (cy 0, 300, .inl (fun _ => 0))), ((u4 1), .inr (1, [.ref (u4 2), .int 0, .int 0, .ref (u4 3), .ref (u4 4), .ref (u4 5), .int 0, .int 0, .int 0])), ((u4 2), .inl (cy 0, 0, .inl (fun _ => 0))), ((u4 3), .inl (cy 1, 300, .inl (fun _ => 0))), ((u4 4), .inl (cy 1, 300, .inl (fun _ => 0))), ((u4 5), .inl (cy 1, 300, .inl (fun _ => 0))), ((u4 6), .inr (4, [.int 10, .int 10, .int 0, .int 0, .ref (u4 7), .ref (u4 8), .ref (u4 9), .ref (u4 10)])), ((u4 7), .inl (cy 1, 16, .inl (fun _ => 0))), ((u4 8), .inl (cy 1, 3, .inl (fun _ => 0))), ((u4 9), .inl (cy 1, 3, .inl (fun _ => 0))), ((u4 10), .inl (cy 1, 3, .inl (fun _ => 0))), ((u4 11), .inr (4, [.int 10, .int 10, .int 0, .int 0, .ref (u4 12), .ref (u4 13), .ref (u4 14), .ref (u4 15)])), ((u4 12), .inl (cy 1, 16, .inl (fun _ => 0))), ((u4 13), .inl (cy 1, 3, .inl (fun _ => 0))), ((u4 14), .inl (cy 1, 3, .inl (fun _ => 0))), ((u4 15), .inl (cy 1, 3, .inl (fun _ => 0))), ((u4 16), .inl (cy 1, 6, .inl (upd (upd (upd (upd (upd (upd (fun _ => 0) 0 1) 1 3) 2 1) 3 5) 4 1) 5 10))), ((u4 17), .inl (cy 4, 4, .inr (.inr (.inr (.inr (fun i => [(u4 18), (u4 19), (u4 20), (u4 21)][i]?)))))), ((u4 18), .inl (cy 1, 10, .inl (fun _ => 0))), ((u4 19), .inl (cy 1, 10, .inl (fun _ => 0))), ((u4 20), .inl (cy 1, 10, .inl (fun _ => 0))), ((u4 21), .inl (cy 1, 10, .inl (fun _ => 0))), ((u4 22), .inr (2, [.ref (u4 23), .ref (u4 27), .ref (u4 28), .int 0])), ((u4 23), .inl (cy 4, 3, .inr (.inr (.inr (.inr (fun i => [(u4 24), (u4 25), (u4 26)][i]?)))))), ((u4 24), .inl (cy 1, 16, .inl (fun _ => 0))), ((u4 25), .inl (cy 1, 16, .inl (fun _ => 0))), ((u4 26), .inl (cy 1, 16, .inl (fun _ => 0))), ((u4 27), .inl (cy 1, 6, .inl (fun _ => 0))), ((u4 28), .inl (cy 1, 6, .inl (fun _ => 0))), ((u4 29), .inr (0, [.int 0, .int 0, .int 0])), ((u4 30), .inr (2, [.ref (u4 31), .ref (u4 35), .ref (u4 36), .int 0])), ((u4 31), .inl (cy 4, 3, .inr (.inr (.inr (.inr (fun i => [(u4 32), (u4 33), (u4 34)][i]?)))))), ((u4 32), .inl (cy 1, 16, .inl (fun _ => 0))), ((u4 33), .inl (cy 1, 16, .inl (fun _ => 0))), ((u4 34), .inl (cy 1, 16, .inl (fun _ => 0))), ((u4 35), .inl (cy 1, 6, .inl (fun _ => 0))), ((u4 36), .inl (cy 1, 6, .inl (fun _ => 0))), ((u4 37), .inr (2, [.ref (u4 38), .ref (u4 42), .ref (u4 43), .int 0])), ((u4 38), .inl (cy 4, 3, .inr (.inr (.inr (.inr (fun i => [(u4 39), (u4 40), (u4 41)][i]?)))))), ((u4 39), .inl (cy 1, 16, .inl (fun _ => 0))), ((u4 40), .inl (cy 1, 16, .inl (fun _ => 0))), ((u4 41), .inl (cy 1, 16, .inl (fun _ => 0))), ((u4 42), .inl (cy 1, 6, .inl (fun _ => 0))), ((u4 43), .inl (cy 1, 6, .inl (fun _ => 0))), ((u4 44), .inl (cy 3, 2, .inl (fun _ => 0))), ((u4 45), .inr (5, [.ref (u4 46), .ref (u4 47), .ref (u4 48), .ref (u4 49), .int 0, .int 0, .int 0, .int 0, .ref (u4 50), .int 0, .int 0])), ((u4 46), .inl (cy 1, 16, .inl (fun _ => 0))), ((u4 47), .inl (cy 2, 10, .inr (.inl (fun _ => 0)))), ((u4 48), .inl (cy 2, 10, .inr (.inl (fun _ => 0)))), ((u4 49), .inl (cy 1, 640, .inl (fun _ => 0))), ((u4 50), .inl (cy 1, 16, .inl (fun _ => 0))), ((u4 51), .inr (3, [.ref (u4 52), .ref (u4 70), .ref (u4 71), .ref (u4 75), .int 0, .int 0, .int 0])), ((u4 52), .inl (cy 4, 17, .inr (.inr (.inr (.inr (fun i => [(u4 53), (u4 54), (u4 55), (u4 56), (u4 57), (u4 58), (u4 59), (u4 60), (u4 61), (u4 62), (u4 63), (u4 64), (u4 65), (u4 66), (u4 67), (u4 68), (u4 69)][i]?)))))), ((u4 53), .inl (cy 1, 1000, .inl (fun _ => 0))), ((u4 54), .inl (cy 1, 1000, .inl (fun _ => 0))), ((u4 55), .inl (cy 1, 1000, .inl (fun _ => 0))), ((u4 56), .inl (cy 1, 1000, .inl (fun _ => 0))), ((u4 57), .inl (cy 1, 1000, .inl (fun _ => 0))), ((u4 58), .inl (cy 1, 1000, .inl (fun _ => 0))), ((u4 59), .inl (cy 1, 1000, .inl (fun _ => 0))), ((u4 60), .inl (cy 1, 1000, .inl (fun _ => 0))), ((u4 61), .inl (cy 1, 1000, .inl (fun _ => 0))), ((u4 62), .inl (cy 1, 1000, .inl (fun _ => 0))), ((u4 63), .inl (cy 1, 1000, .inl (fun _ => 0))), ((u4 64), .inl (cy 1, 1000, .inl (fun _ => 0))), ((u4 65), .inl (cy 1, 1000, .inl (fun _ => 0))), ((u4 66), .inl (cy 1, 1000, .inl (fun _ => 0))), ((u4 67), .inl (cy 1, 1000, .inl (fun _ => 0))), ((u4 68), .inl (cy 1, 1000, .inl (fun _ => 0))), ((u4 69), .inl (cy 1, 1000, .inl (fun _ => 0))), ((u4 70), .inl (cy 1, 16, .inl (fun _ => 0))), ((u4 71), .inl (cy 4, 3, .inr (.inr (.inr (.inr (fun i => [(u4 72), (u4 73), (u4 74)][i]?)))))), ((u4 72), .inl (cy 1, 16, .inl (fun _ => 0))), ((u4 73), .inl (cy 1, 16, .inl (fun _ => 0))), ((u4 74), .inl (cy 1, 16, .inl (fun _ => 0))), ((u4 75), .inl (cy 1, 3, .inl (fun _ => 0))), (a8, .inr (7, [.long 0, .ref (u12 0), .int 0, .ref (u12 1), .ref (u12 2), .ref (u12 3), .ref (u12 4), .ref (u12 5), .ref (u12 6), .ref (u12 7), .ref (u12 8), .ref (u12 9), .ref (u12 10), .int 0, .int 0, .int 0, .int 0, .int 0, .ref (u12 11), .ref (u12 12), .ref (u12 13), .int 0, .ref (u12 14), .ref (u12 15), .ref (u12 16), .int 0, .int 0, .ref (u12 17), .ref (u12 18), .int 0, .ref (u12 19), .ref (u12 20), .ref (u12 21), .ref (u12 22), .ref (u12 23)])), ((u12 0), .inl (cy 0, 300, .inl (fun _ => 0))), ((u12 1), .inl (cy 1, 2, .inl (upd (fun _ => 0) 0 10))), ((u12 2), .inl (cy 1, 2, .inl (upd (fun _ => 0) 0 10))), ((u12 3), .inl (cy 1, 2, .inl (fun _ => 0))), ((u12 4), .inl (cy 1, 6, .inl (fun _ => 0))), ((u12 5), .inl (cy 1, 6, .inl (fun _ => 0))), ((u12 6), .inl (cy 1, 6, .inl (fun _ => 0))), ((u12 7), .inl (cy 1, 32, .inl (fun _ => 0))), ((u12 8), .inl (cy 1, 2, .inl (fun _ => 0))), ((u12 9), .inl (cy 1, 6, .inl (upd (upd (upd (upd (upd (upd (fun _ => 0) 0 1) 1 3) 2 1) 3 5) 4 1) 5 10))), ((u12 10), .inl (cy 1, 40, .inl (fun _ => 0))), ((u12 11), .inl (cy 2, 10, .inr (.inl (fun _ => 0)))), ((u12 12), .inl (cy 2, 10, .inr (.inl (fun _ => 0)))), ((u12 13), .inl (cy 1, 640, .inl (fun _ => 0))), ((u12 14), .inl (cy 1, 3, .inl (fun _ => 0))), ((u12 15), .inl (cy 1, 3, .inl (fun _ => 0))), ((u12 16), .inl (cy 1, 3, .inl (fun _ => 0))), ((u12 17), .inl (cy 1, 16000, .inl (fun _ => 0))), ((u12 18), .inl (cy 1, 3, .inl (upd (upd (upd (fun _ => 0) 0 1) 1 10) 2 100))), ((u12 19), .inl (cy 1, 144, .inl (fun _ => 0))), ((u12 20), .inl (cy 1, 3, .inl (fun _ => 0))), ((u12 21), .inl (cy 1, 18, .inl (fun _ => 0))), ((u12 22), .inl (cy 1, 18, .inl (fun _ => 0))), ((u12 23), .inl (cy 3, 2, .inl (fun _ => 0)))] H) (hD : va_D A [(a0, .inr (6, [.ref (u4 0), .int 0, .ref (u4 1), .ref (u4 6), .ref (u4 11), .ref (u4 16), .ref (u4 17), .ref (u4 22), .ref (u4 29), .ref (u4 30), .ref (u4 37), .ref (u4 44), .ref (u4 45), .ref (u4 51), .long 0])), ((u4 0), .inl (cy 0, 300, .inl (fun _ => 0))), ((u4 1), .inr (1, [.ref (u4 2), .int 0, .int 0, .ref (u4 3), .ref (u4 4), .ref (u4 5), .int 0, .int 0, .int 0])), ((u4 2), .inl (cy 0, 0, .inl (fun _ => 0))), ((u4 3), .inl (cy 1, 300, .inl (fun _ => 0))), ((u4 4), .inl (cy 1, 300, .inl (fun _ => 0))), ((u4 5), .inl (cy 1, 300, .inl (fun _ => 0))), ((u4 6), .inr (4, [.int 10, .int 10, .int 0, .int 0, .ref (u4 7), .ref (u4 8), .ref (u4 9), .ref (u4 10)])), ((u4 7), .inl (cy 1, 16, .inl (fun _ => 0))), ((u4 8), .inl (cy 1, 3, .inl (fun _ => 0))), ((u4 9), .inl (cy 1, 3, .inl (fun _ => 0))), ((u4 10), .inl (cy 1, 3, .inl (fun _ => 0))), ((u4 11), .inr (4, [.int 10, .int 10, .int 0, .int 0, .ref (u4 12), .ref (u4 13), .ref (u4 14), .ref (u4 15)])), ((u4 12), .inl (cy 1, 16, .inl (fun _ => 0))), ((u4 13), .inl (cy 1, 3, .inl (fun _ => 0))), ((u4 14), .inl (cy 1, 3, .inl (fun _ => 0))), ((u4 15), .inl (cy 1, 3, .inl (fun _ => 0))), ((u4 16), .inl (cy 1, 6, .inl (upd (upd (upd (upd (upd (upd (fun _ => 0) 0 1) 1 3) 2 1) 3 5) 4 1) 5 10))), ((u4 17), .inl (cy 4, 4, .inr (.inr (.inr (.inr (fun i => [(u4 18), (u4 19), (u4 20), (u4 21)][i]?)))))), ((u4 18), .inl (cy 1, 10, .inl (fun _ => 0))), ((u4 19), .inl (cy 1, 10, .inl (fun _ => 0))), ((u4 20), .inl (cy 1, 10, .inl (fun _ => 0))), ((u4 21), .inl (cy 1, 10, .inl (fun _ => 0))), ((u4 22), .inr (2, [.ref (u4 23), .ref (u4 27), .ref (u4 28), .int 0])), ((u4 23), .inl (cy 4, 3, .inr (.inr (.inr (.inr (fun i => [(u4 24), (u4 25), (u4 26)][i]?)))))), ((u4 24), .inl (cy 1, 16, .inl (fun _ => 0))), ((u4 25), .inl (cy 1, 16, .inl (fun _ => 0))), ((u4 26), .inl (cy 1, 16, .inl (fun _ => 0))), ((u4 27), .inl (cy 1, 6, .inl (fun _ => 0))), ((u4 28), .inl (cy 1, 6, .inl (fun _ => 0))), ((u4 29), .inr (0, [.int 0, .int 0, .int 0])), ((u4 30), .inr (2, [.ref (u4 31), .ref (u4 35), .ref (u4 36), .int 0])), ((u4 31), .inl (cy 4, 3, .inr (.inr (.inr (.inr (fun i => [(u4 32), (u4 33), (u4 34)][i]?)))))), ((u4 32), .inl (cy 1, 16, .inl (fun _ => 0))), ((u4 33), .inl (cy 1, 16, .inl (fun _ => 0))), ((u4 34), .inl (cy 1, 16, .inl (fun _ => 0))), ((u4 35), .inl (cy 1, 6, .inl (fun _ => 0))), ((u4 36), .inl (cy 1, 6, .inl (fun _ => 0))), ((u4 37), .inr (2, [.ref (u4 38), .ref (u4 42), .ref (u4 43), .int 0])), ((u4 38), .inl (cy 4, 3, .inr (.inr (.inr (.inr (fun i => [(u4 39), (u4 40), (u4 41)][i]?)))))), ((u4 39), .inl (cy 1, 16, .inl (fun _ => 0))), ((u4 40), .inl (cy 1, 16, .inl (fun _ => 0))), ((u4 41), .inl (cy 1, 16, .inl (fun _ => 0))), ((u4 42), .inl (cy 1, 6, .inl (fun _ => 0))), ((u4 43), .inl (cy 1, 6, .inl (fun _ => 0))), ((u4 44), .inl (cy 3, 2, .inl (fun _ => 0))), ((u4 45), .inr (5, [.ref (u4 46), .ref (u4 47), .ref (u4 48), .ref (u4 49), .int 0, .int 0, .int 0, .int 0, .ref (u4 50), .int 0, .int 0])), ((u4 46), .inl (cy 1, 16, .inl (fun _ => 0))), ((u4 47), .inl (cy 2, 10, .inr (.inl (fun _ => 0)))), ((u4 48), .inl (cy 2, 10, .inr (.inl (fun _ => 0)))), ((u4 49), .inl (cy 1, 640, .inl (fun _ => 0))), ((u4 50), .inl (cy 1, 16, .inl (fun _ => 0))), ((u4 51), .inr (3, [.ref (u4 52), .ref (u4 70), .ref (u4 71), .ref (u4 75), .int 0, .int 0, .int 0])), ((u4 52), .inl (cy 4, 17, .inr (.inr (.inr (.inr (fun i => [(u4 53), (u4 54), (u4 55), (u4 56), (u4 57), (u4 58), (u4 59), (u4 60), (u4 61), (u4 62), (u4 63), (u4 64), (u4 65), (u4 66), (u4 67), (u4 68), (u4 69)][i]?)))))), ((u4 53), .inl (cy 1, 1000, .inl (fun _ => 0))), ((u4 54), .inl (cy 1, 1000, .inl (fun _ => 0))), ((u4 55), .inl (cy 1, 1000, .inl (fun _ => 0))), ((u4 56), .inl (cy 1, 1000, .inl (fun _ => 0))), ((u4 57), .inl (cy 1, 1000, .inl (fun _ => 0))), ((u4 58), .inl (cy 1, 1000, .inl (fun _ => 0))), ((u4 59), .inl (cy 1, 1000, .inl (fun _ => 0))), ((u4 60), .inl (cy 1, 1000, .inl (fun _ => 0))), ((u4 61), .inl (cy 1, 1000, .inl (fun _ => 0))), ((u4 62), .inl (cy 1, 1000, .inl (fun _ => 0))), ((u4 63), .inl (cy 1, 1000, .inl (fun _ => 0))), ((u4 64), .inl (cy 1, 1000, .inl (fun _ => 0))), ((u4 65), .inl (cy 1, 1000, .inl (fun _ => 0))), ((u4 66), .inl (cy 1, 1000, .inl (fun _ => 0))), ((u4 67), .inl (cy 1, 1000, .inl (fun _ => 0))), ((u4 68), .inl (cy 1, 1000, .inl (fun _ => 0))), ((u4 69), .inl (cy 1, 1000, .inl (fun _ => 0))), ((u4 70), .inl (cy 1, 16, .inl (fun _ => 0))), ((u4 71), .inl (cy 4, 3, .inr (.inr (.inr (.inr (fun i => [(u4 72), (u4 73), (u4 74)][i]?)))))), ((u4 72), .inl (cy 1, 16, .inl (fun _ => 0))), ((u4 73), .inl (cy 1, 16, .inl (fun _ => 0))), ((u4 74), .inl (cy 1, 16, .inl (fun _ => 0))), ((u4 75), .inl (cy 1, 3, .inl (fun _ => 0))), (a8, .inr (7, [.long 0, .ref (u12 0), .int 0, .ref (u12 1), .ref (u12 2), .ref (u12 3), .ref (u12 4), .ref (u12 5), .ref (u12 6), .ref (u12 7), .ref (u12 8), .ref (u12 9), .ref (u12 10), .int 0, .int 0, .int 0, .int 0, .int 0, .ref (u12 11), .ref (u12 12), .ref (u12 13), .int 0, .ref (u12 14), .ref (u12 15), .ref (u12 16), .int 0, .int 0, .ref (u12 17), .ref (u12 18), .int 0, .ref (u12 19), .ref (u12 20), .ref (u12 21), .ref (u12 22), .ref (u12 23)])), ((u12 0), .inl (cy 0, 300, .inl (fun _ => 0))), ((u12 1), .inl (cy 1, 2, .inl (upd (fun _ => 0) 0 10))), ((u12 2), .inl (cy 1, 2, .inl (upd (fun _ => 0) 0 10))), ((u12 3), .inl (cy 1, 2, .inl (fun _ => 0))), ((u12 4), .inl (cy 1, 6, .inl (fun _ => 0))), ((u12 5), .inl (cy 1, 6, .inl (fun _ => 0))), ((u12 6), .inl (cy 1, 6, .inl (fun _ => 0))), ((u12 7), .inl (cy 1, 32, .inl (fun _ => 0))), ((u12 8), .inl (cy 1, 2, .inl (fun _ => 0))), ((u12 9), .inl (cy 1, 6, .inl (upd (upd (upd (upd (upd (upd (fun _ => 0) 0 1) 1 3) 2 1) 3 5) 4 1) 5 10))), ((u12 10), .inl (cy 1, 40, .inl (fun _ => 0))), ((u12 11), .inl (cy 2, 10, .inr (.inl (fun _ => 0)))), ((u12 12), .inl (cy 2, 10, .inr (.inl (fun _ => 0)))), ((u12 13), .inl (cy 1, 640, .inl (fun _ => 0))), ((u12 14), .inl (cy 1, 3, .inl (fun _ => 0))), ((u12 15), .inl (cy 1, 3, .inl (fun _ => 0))), ((u12 16), .inl (cy 1, 3, .inl (fun _ => 0))), ((u12 17), .inl (cy 1, 16000, .inl (fun _ => 0))), ((u12 18), .inl (cy 1, 3, .inl (upd (upd (upd (fun _ => 0) 0 1) 1 10) 2 100))), ((u12 19), .inl (cy 1, 144, .inl (fun _ => 0))), ((u12 20), .inl (cy 1, 3, .inl (fun _ => 0))), ((u12 21), .inl (cy 1, 18, .inl (fun _ => 0))), ((u12 22), .inl (cy 1, 18, .inl (fun _ => 0))), ((u12 23), .inl (cy 3, 2, .inl (fun _ => 0)))]) : va_P D vwCl (wW cy (adF a0 a8 u4 u12 cs) σ0) H ∧ wInj (adF a0 a8 u4 u12 cs) ∧ ∀ k, k < 102 → A ((adF a0 a8 u4 u12 cs) k) := by

  have e15 : (fun i => [(u4 18), (u4 19), (u4 20), (u4 21)][i]?) = (fun j => if j < 4 then some (adF a0 a8 u4 u12 cs (15 + 1 + j)) else none) := by
    funext i
    match i with
    | 0 => exact rfl
    | 1 => exact rfl
    | 2 => exact rfl
    | 3 => exact rfl
    | n + 4 => exact (if_neg (by omega)).symm
  have e21 : (fun i => [(u4 24), (u4 25), (u4 26)][i]?) = (fun j => if j < 3 then some (adF a0 a8 u4 u12 cs (21 + 1 + j)) else none) := by
    funext i
    match i with
    | 0 => exact rfl
    | 1 => exact rfl
    | 2 => exact rfl
    | n + 3 => exact (if_neg (by omega)).symm
  have e29 : (fun i => [(u4 32), (u4 33), (u4 34)][i]?) = (fun j => if j < 3 then some (adF a0 a8 u4 u12 cs (29 + 1 + j)) else none) := by
    funext i
    match i with
    | 0 => exact rfl
    | 1 => exact rfl
    | 2 => exact rfl
    | n + 3 => exact (if_neg (by omega)).symm
  have e36 : (fun i => [(u4 39), (u4 40), (u4 41)][i]?) = (fun j => if j < 3 then some (adF a0 a8 u4 u12 cs (36 + 1 + j)) else none) := by
    funext i
    match i with
    | 0 => exact rfl
    | 1 => exact rfl
    | 2 => exact rfl
    | n + 3 => exact (if_neg (by omega)).symm
  have e50 : (fun i => [(u4 53), (u4 54), (u4 55), (u4 56), (u4 57), (u4 58), (u4 59), (u4 60), (u4 61), (u4 62), (u4 63), (u4 64), (u4 65), (u4 66), (u4 67), (u4 68), (u4 69)][i]?) = (fun j => if j < 17 then some (adF a0 a8 u4 u12 cs (50 + 1 + j)) else none) := by
    funext i
    match i with
    | 0 => exact rfl
    | 1 => exact rfl
    | 2 => exact rfl
    | 3 => exact rfl
    | 4 => exact rfl
    | 5 => exact rfl
    | 6 => exact rfl
    | 7 => exact rfl
    | 8 => exact rfl
    | 9 => exact rfl
    | 10 => exact rfl
    | 11 => exact rfl
    | 12 => exact rfl
    | 13 => exact rfl
    | 14 => exact rfl
    | 15 => exact rfl
    | 16 => exact rfl
    | n + 17 => exact (if_neg (by omega)).symm
  have e70 : (fun i => [(u4 72), (u4 73), (u4 74)][i]?) = (fun j => if j < 3 then some (adF a0 a8 u4 u12 cs (70 + 1 + j)) else none) := by
    funext i
    match i with
    | 0 => exact rfl
    | 1 => exact rfl
    | 2 => exact rfl
    | n + 3 => exact (if_neg (by omega)).symm
  have hpm : ∀ k, k < 102 → ∃ e, ([(a0, .inr (6, [.ref (u4 0), .int 0, .ref (u4 1), .ref (u4 6), .ref (u4 11), .ref (u4 16), .ref (u4 17), .ref (u4 22), .ref (u4 29), .ref (u4 30), .ref (u4 37), .ref (u4 44), .ref (u4 45), .ref (u4 51), .long 0])), ((u4 0), .inl (cy 0, 300, .inl (fun _ => 0))), ((u4 1), .inr (1, [.ref (u4 2), .int 0, .int 0, .ref (u4 3), .ref (u4 4), .ref (u4 5), .int 0, .int 0, .int 0])), ((u4 2), .inl (cy 0, 0, .inl (fun _ => 0))), ((u4 3), .inl (cy 1, 300, .inl (fun _ => 0))), ((u4 4), .inl (cy 1, 300, .inl (fun _ => 0))), ((u4 5), .inl (cy 1, 300, .inl (fun _ => 0))), ((u4 6), .inr (4, [.int 10, .int 10, .int 0, .int 0, .ref (u4 7), .ref (u4 8), .ref (u4 9), .ref (u4 10)])), ((u4 7), .inl (cy 1, 16, .inl (fun _ => 0))), ((u4 8), .inl (cy 1, 3, .inl (fun _ => 0))), ((u4 9), .inl (cy 1, 3, .inl (fun _ => 0))), ((u4 10), .inl (cy 1, 3, .inl (fun _ => 0))), ((u4 11), .inr (4, [.int 10, .int 10, .int 0, .int 0, .ref (u4 12), .ref (u4 13), .ref (u4 14), .ref (u4 15)])), ((u4 12), .inl (cy 1, 16, .inl (fun _ => 0))), ((u4 13), .inl (cy 1, 3, .inl (fun _ => 0))), ((u4 14), .inl (cy 1, 3, .inl (fun _ => 0))), ((u4 15), .inl (cy 1, 3, .inl (fun _ => 0))), ((u4 16), .inl (cy 1, 6, .inl (upd (upd (upd (upd (upd (upd (fun _ => 0) 0 1) 1 3) 2 1) 3 5) 4 1) 5 10))), ((u4 17), .inl (cy 4, 4, .inr (.inr (.inr (.inr (fun i => [(u4 18), (u4 19), (u4 20), (u4 21)][i]?)))))), ((u4 18), .inl (cy 1, 10, .inl (fun _ => 0))), ((u4 19), .inl (cy 1, 10, .inl (fun _ => 0))), ((u4 20), .inl (cy 1, 10, .inl (fun _ => 0))), ((u4 21), .inl (cy 1, 10, .inl (fun _ => 0))), ((u4 22), .inr (2, [.ref (u4 23), .ref (u4 27), .ref (u4 28), .int 0])), ((u4 23), .inl (cy 4, 3, .inr (.inr (.inr (.inr (fun i => [(u4 24), (u4 25), (u4 26)][i]?)))))), ((u4 24), .inl (cy 1, 16, .inl (fun _ => 0))), ((u4 25), .inl (cy 1, 16, .inl (fun _ => 0))), ((u4 26), .inl (cy 1, 16, .inl (fun _ => 0))), ((u4 27), .inl (cy 1, 6, .inl (fun _ => 0))), ((u4 28), .inl (cy 1, 6, .inl (fun _ => 0))), ((u4 29), .inr (0, [.int 0, .int 0, .int 0])), ((u4 30), .inr (2, [.ref (u4 31), .ref (u4 35), .ref (u4 36), .int 0])), ((u4 31), .inl (cy 4, 3, .inr (.inr (.inr (.inr (fun i => [(u4 32), (u4 33), (u4 34)][i]?)))))), ((u4 32), .inl (cy 1, 16, .inl (fun _ => 0))), ((u4 33), .inl (cy 1, 16, .inl (fun _ => 0))), ((u4 34), .inl (cy 1, 16, .inl (fun _ => 0))), ((u4 35), .inl (cy 1, 6, .inl (fun _ => 0))), ((u4 36), .inl (cy 1, 6, .inl (fun _ => 0))), ((u4 37), .inr (2, [.ref (u4 38), .ref (u4 42), .ref (u4 43), .int 0])), ((u4 38), .inl (cy 4, 3, .inr (.inr (.inr (.inr (fun i => [(u4 39), (u4 40), (u4 41)][i]?)))))), ((u4 39), .inl (cy 1, 16, .inl (fun _ => 0))), ((u4 40), .inl (cy 1, 16, .inl (fun _ => 0))), ((u4 41), .inl (cy 1, 16, .inl (fun _ => 0))), ((u4 42), .inl (cy 1, 6, .inl (fun _ => 0))), ((u4 43), .inl (cy 1, 6, .inl (fun _ => 0))), ((u4 44), .inl (cy 3, 2, .inl (fun _ => 0))), ((u4 45), .inr (5, [.ref (u4 46), .ref (u4 47), .ref (u4 48), .ref (u4 49), .int 0, .int 0, .int 0, .int 0, .ref (u4 50), .int 0, .int 0])), ((u4 46), .inl (cy 1, 16, .inl (fun _ => 0))), ((u4 47), .inl (cy 2, 10, .inr (.inl (fun _ => 0)))), ((u4 48), .inl (cy 2, 10, .inr (.inl (fun _ => 0)))), ((u4 49), .inl (cy 1, 640, .inl (fun _ => 0))), ((u4 50), .inl (cy 1, 16, .inl (fun _ => 0))), ((u4 51), .inr (3, [.ref (u4 52), .ref (u4 70), .ref (u4 71), .ref (u4 75), .int 0, .int 0, .int 0])), ((u4 52), .inl (cy 4, 17, .inr (.inr (.inr (.inr (fun i => [(u4 53), (u4 54), (u4 55), (u4 56), (u4 57), (u4 58), (u4 59), (u4 60), (u4 61), (u4 62), (u4 63), (u4 64), (u4 65), (u4 66), (u4 67), (u4 68), (u4 69)][i]?)))))), ((u4 53), .inl (cy 1, 1000, .inl (fun _ => 0))), ((u4 54), .inl (cy 1, 1000, .inl (fun _ => 0))), ((u4 55), .inl (cy 1, 1000, .inl (fun _ => 0))), ((u4 56), .inl (cy 1, 1000, .inl (fun _ => 0))), ((u4 57), .inl (cy 1, 1000, .inl (fun _ => 0))), ((u4 58), .inl (cy 1, 1000, .inl (fun _ => 0))), ((u4 59), .inl (cy 1, 1000, .inl (fun _ => 0))), ((u4 60), .inl (cy 1, 1000, .inl (fun _ => 0))), ((u4 61), .inl (cy 1, 1000, .inl (fun _ => 0))), ((u4 62), .inl (cy 1, 1000, .inl (fun _ => 0))), ((u4 63), .inl (cy 1, 1000, .inl (fun _ => 0))), ((u4 64), .inl (cy 1, 1000, .inl (fun _ => 0))), ((u4 65), .inl (cy 1, 1000, .inl (fun _ => 0))), ((u4 66), .inl (cy 1, 1000, .inl (fun _ => 0))), ((u4 67), .inl (cy 1, 1000, .inl (fun _ => 0))), ((u4 68), .inl (cy 1, 1000, .inl (fun _ => 0))), ((u4 69), .inl (cy 1, 1000, .inl (fun _ => 0))), ((u4 70), .inl (cy 1, 16, .inl (fun _ => 0))), ((u4 71), .inl (cy 4, 3, .inr (.inr (.inr (.inr (fun i => [(u4 72), (u4 73), (u4 74)][i]?)))))), ((u4 72), .inl (cy 1, 16, .inl (fun _ => 0))), ((u4 73), .inl (cy 1, 16, .inl (fun _ => 0))), ((u4 74), .inl (cy 1, 16, .inl (fun _ => 0))), ((u4 75), .inl (cy 1, 3, .inl (fun _ => 0))), (a8, .inr (7, [.long 0, .ref (u12 0), .int 0, .ref (u12 1), .ref (u12 2), .ref (u12 3), .ref (u12 4), .ref (u12 5), .ref (u12 6), .ref (u12 7), .ref (u12 8), .ref (u12 9), .ref (u12 10), .int 0, .int 0, .int 0, .int 0, .int 0, .ref (u12 11), .ref (u12 12), .ref (u12 13), .int 0, .ref (u12 14), .ref (u12 15), .ref (u12 16), .int 0, .int 0, .ref (u12 17), .ref (u12 18), .int 0, .ref (u12 19), .ref (u12 20), .ref (u12 21), .ref (u12 22), .ref (u12 23)])), ((u12 0), .inl (cy 0, 300, .inl (fun _ => 0))), ((u12 1), .inl (cy 1, 2, .inl (upd (fun _ => 0) 0 10))), ((u12 2), .inl (cy 1, 2, .inl (upd (fun _ => 0) 0 10))), ((u12 3), .inl (cy 1, 2, .inl (fun _ => 0))), ((u12 4), .inl (cy 1, 6, .inl (fun _ => 0))), ((u12 5), .inl (cy 1, 6, .inl (fun _ => 0))), ((u12 6), .inl (cy 1, 6, .inl (fun _ => 0))), ((u12 7), .inl (cy 1, 32, .inl (fun _ => 0))), ((u12 8), .inl (cy 1, 2, .inl (fun _ => 0))), ((u12 9), .inl (cy 1, 6, .inl (upd (upd (upd (upd (upd (upd (fun _ => 0) 0 1) 1 3) 2 1) 3 5) 4 1) 5 10))), ((u12 10), .inl (cy 1, 40, .inl (fun _ => 0))), ((u12 11), .inl (cy 2, 10, .inr (.inl (fun _ => 0)))), ((u12 12), .inl (cy 2, 10, .inr (.inl (fun _ => 0)))), ((u12 13), .inl (cy 1, 640, .inl (fun _ => 0))), ((u12 14), .inl (cy 1, 3, .inl (fun _ => 0))), ((u12 15), .inl (cy 1, 3, .inl (fun _ => 0))), ((u12 16), .inl (cy 1, 3, .inl (fun _ => 0))), ((u12 17), .inl (cy 1, 16000, .inl (fun _ => 0))), ((u12 18), .inl (cy 1, 3, .inl (upd (upd (upd (fun _ => 0) 0 1) 1 10) 2 100))), ((u12 19), .inl (cy 1, 144, .inl (fun _ => 0))), ((u12 20), .inl (cy 1, 3, .inl (fun _ => 0))), ((u12 21), .inl (cy 1, 18, .inl (fun _ => 0))), ((u12 22), .inl (cy 1, 18, .inl (fun _ => 0))), ((u12 23), .inl (cy 3, 2, .inl (fun _ => 0)))] : va_W)[pm k]? = some (adF a0 a8 u4 u12 cs k, e) := by
    intro k hk
    match k, hk with
    | 0, _ => exact ⟨_, rfl⟩
    | 1, _ => exact ⟨_, rfl⟩
    | 2, _ => exact ⟨_, rfl⟩
    | 3, _ => exact ⟨_, rfl⟩
    | 4, _ => exact ⟨_, rfl⟩
    | 5, _ => exact ⟨_, rfl⟩
    | 6, _ => exact ⟨_, rfl⟩
    | 7, _ => exact ⟨_, rfl⟩
    | 8, _ => exact ⟨_, rfl⟩
    | 9, _ => exact ⟨_, rfl⟩
    | 10, _ => exact ⟨_, rfl⟩
    | 11, _ => exact ⟨_, rfl⟩
    | 12, _ => exact ⟨_, rfl⟩
    | 13, _ => exact ⟨_, rfl⟩
    | 14, _ => exact ⟨_, rfl⟩
    | 15, _ => exact ⟨_, rfl⟩
    | 16, _ => exact ⟨_, rfl⟩
    | 17, _ => exact ⟨_, rfl⟩
    | 18, _ => exact ⟨_, rfl⟩
    | 19, _ => exact ⟨_, rfl⟩
    | 20, _ => exact ⟨_, rfl⟩
    | 21, _ => exact ⟨_, rfl⟩
    | 22, _ => exact ⟨_, rfl⟩
    | 23, _ => exact ⟨_, rfl⟩
    | 24, _ => exact ⟨_, rfl⟩
    | 25, _ => exact ⟨_, rfl⟩
    | 26, _ => exact ⟨_, rfl⟩
    | 27, _ => exact ⟨_, rfl⟩
    | 28, _ => exact ⟨_, rfl⟩
    | 29, _ => exact ⟨_, rfl⟩
    | 30, _ => exact ⟨_, rfl⟩
    | 31, _ => exact ⟨_, rfl⟩
    | 32, _ => exact ⟨_, rfl⟩
    | 33, _ => exact ⟨_, rfl⟩
    | 34, _ => exact ⟨_, rfl⟩
    | 35, _ => exact ⟨_, rfl⟩
    | 36, _ => exact ⟨_, rfl⟩
    | 37, _ => exact ⟨_, rfl⟩
    | 38, _ => exact ⟨_, rfl⟩
    | 39, _ => exact ⟨_, rfl⟩
    | 40, _ => exact ⟨_, rfl⟩
    | 41, _ => exact ⟨_, rfl⟩
    | 42, _ => exact ⟨_, rfl⟩
    | 43, _ => exact ⟨_, rfl⟩
    | 44, _ => exact ⟨_, rfl⟩
    | 45, _ => exact ⟨_, rfl⟩
    | 46, _ => exact ⟨_, rfl⟩
    | 47, _ => exact ⟨_, rfl⟩
    | 48, _ => exact ⟨_, rfl⟩
    | 49, _ => exact ⟨_, rfl⟩
    | 50, _ => exact ⟨_, rfl⟩
    | 51, _ => exact ⟨_, rfl⟩
    | 52, _ => exact ⟨_, rfl⟩
    | 53, _ => exact ⟨_, rfl⟩
    | 54, _ => exact ⟨_, rfl⟩
    | 55, _ => exact ⟨_, rfl⟩
    | 56, _ => exact ⟨_, rfl⟩
    | 57, _ => exact ⟨_, rfl⟩
    | 58, _ => exact ⟨_, rfl⟩
    | 59, _ => exact ⟨_, rfl⟩
    | 60, _ => exact ⟨_, rfl⟩
    | 61, _ => exact ⟨_, rfl⟩
    | 62, _ => exact ⟨_, rfl⟩
    | 63, _ => exact ⟨_, rfl⟩
    | 64, _ => exact ⟨_, rfl⟩
    | 65, _ => exact ⟨_, rfl⟩
    | 66, _ => exact ⟨_, rfl⟩
    | 67, _ => exact ⟨_, rfl⟩
    | 68, _ => exact ⟨_, rfl⟩
    | 69, _ => exact ⟨_, rfl⟩
    | 70, _ => exact ⟨_, rfl⟩
    | 71, _ => exact ⟨_, rfl⟩
    | 72, _ => exact ⟨_, rfl⟩
    | 73, _ => exact ⟨_, rfl⟩
    | 74, _ => exact ⟨_, rfl⟩
    | 75, _ => exact ⟨_, rfl⟩
    | 76, _ => exact ⟨_, rfl⟩
    | 77, _ => exact ⟨_, rfl⟩
    | 78, _ => exact ⟨_, rfl⟩
    | 79, _ => exact ⟨_, rfl⟩
    | 80, _ => exact ⟨_, rfl⟩
    | 81, _ => exact ⟨_, rfl⟩
    | 82, _ => exact ⟨_, rfl⟩
    | 83, _ => exact ⟨_, rfl⟩
    | 84, _ => exact ⟨_, rfl⟩
    | 85, _ => exact ⟨_, rfl⟩
    | 86, _ => exact ⟨_, rfl⟩
    | 87, _ => exact ⟨_, rfl⟩
    | 88, _ => exact ⟨_, rfl⟩
    | 89, _ => exact ⟨_, rfl⟩
    | 90, _ => exact ⟨_, rfl⟩
    | 91, _ => exact ⟨_, rfl⟩
    | 92, _ => exact ⟨_, rfl⟩
    | 93, _ => exact ⟨_, rfl⟩
    | 94, _ => exact ⟨_, rfl⟩
    | 95, _ => exact ⟨_, rfl⟩
    | 96, _ => exact ⟨_, rfl⟩
    | 97, _ => exact ⟨_, rfl⟩
    | 98, _ => exact ⟨_, rfl⟩
    | 99, _ => exact ⟨_, rfl⟩
    | 100, _ => exact ⟨_, rfl⟩
    | 101, _ => exact ⟨_, rfl⟩
    | j + 102, h => exact absurd h (by omega)
  refine ⟨fun k q hk => ?_, fun i j hi hj h => ?_, fun k hk => ?_⟩
  · obtain ⟨hlt, rfl⟩ := wW_lt hk
    clear hk
    match k, hlt with
    | 0, _ => exact hP 0 _ rfl
    | 1, _ => exact hP 1 _ rfl
    | 2, _ => exact hP 2 _ rfl
    | 3, _ => exact hP 3 _ rfl
    | 4, _ => exact hP 7 _ rfl
    | 5, _ => exact hP 8 _ rfl
    | 6, _ => exact hP 9 _ rfl
    | 7, _ => exact hP 10 _ rfl
    | 8, _ => exact hP 11 _ rfl
    | 9, _ => exact hP 12 _ rfl
    | 10, _ => exact hP 13 _ rfl
    | 11, _ => exact hP 14 _ rfl
    | 12, _ => exact hP 15 _ rfl
    | 13, _ => exact hP 16 _ rfl
    | 14, _ => exact hP 17 _ rfl
    | 15, _ =>
      have h : va_at D vwCl ((u4 17), .inl (cy 4, 4, .inr (.inr (.inr (.inr (fun i => [(u4 18), (u4 19), (u4 20), (u4 21)][i]?)))))) H := hP 18 _ rfl
      rw [e15] at h
      exact h
    | 16, _ => exact hP 19 _ rfl
    | 17, _ => exact hP 20 _ rfl
    | 18, _ => exact hP 21 _ rfl
    | 19, _ => exact hP 22 _ rfl
    | 20, _ => exact hP 23 _ rfl
    | 21, _ =>
      have h : va_at D vwCl ((u4 23), .inl (cy 4, 3, .inr (.inr (.inr (.inr (fun i => [(u4 24), (u4 25), (u4 26)][i]?)))))) H := hP 24 _ rfl
      rw [e21] at h
      exact h
    | 22, _ => exact hP 25 _ rfl
    | 23, _ => exact hP 26 _ rfl
    | 24, _ => exact hP 27 _ rfl
    | 25, _ => exact hP 28 _ rfl
    | 26, _ => exact hP 29 _ rfl
    | 27, _ => exact hP 30 _ rfl
    | 28, _ => exact hP 31 _ rfl
    | 29, _ =>
      have h : va_at D vwCl ((u4 31), .inl (cy 4, 3, .inr (.inr (.inr (.inr (fun i => [(u4 32), (u4 33), (u4 34)][i]?)))))) H := hP 32 _ rfl
      rw [e29] at h
      exact h
    | 30, _ => exact hP 33 _ rfl
    | 31, _ => exact hP 34 _ rfl
    | 32, _ => exact hP 35 _ rfl
    | 33, _ => exact hP 36 _ rfl
    | 34, _ => exact hP 37 _ rfl
    | 35, _ => exact hP 38 _ rfl
    | 36, _ =>
      have h : va_at D vwCl ((u4 38), .inl (cy 4, 3, .inr (.inr (.inr (.inr (fun i => [(u4 39), (u4 40), (u4 41)][i]?)))))) H := hP 39 _ rfl
      rw [e36] at h
      exact h
    | 37, _ => exact hP 40 _ rfl
    | 38, _ => exact hP 41 _ rfl
    | 39, _ => exact hP 42 _ rfl
    | 40, _ => exact hP 43 _ rfl
    | 41, _ => exact hP 44 _ rfl
    | 42, _ => exact hP 45 _ rfl
    | 43, _ => exact hP 46 _ rfl
    | 44, _ => exact hP 47 _ rfl
    | 45, _ => exact hP 48 _ rfl
    | 46, _ => exact hP 49 _ rfl
    | 47, _ => exact hP 50 _ rfl
    | 48, _ => exact hP 51 _ rfl
    | 49, _ => exact hP 52 _ rfl
    | 50, _ =>
      have h : va_at D vwCl ((u4 52), .inl (cy 4, 17, .inr (.inr (.inr (.inr (fun i => [(u4 53), (u4 54), (u4 55), (u4 56), (u4 57), (u4 58), (u4 59), (u4 60), (u4 61), (u4 62), (u4 63), (u4 64), (u4 65), (u4 66), (u4 67), (u4 68), (u4 69)][i]?)))))) H := hP 53 _ rfl
      rw [e50] at h
      exact h
    | 51, _ => exact hP 54 _ rfl
    | 52, _ => exact hP 55 _ rfl
    | 53, _ => exact hP 56 _ rfl
    | 54, _ => exact hP 57 _ rfl
    | 55, _ => exact hP 58 _ rfl
    | 56, _ => exact hP 59 _ rfl
    | 57, _ => exact hP 60 _ rfl
    | 58, _ => exact hP 61 _ rfl
    | 59, _ => exact hP 62 _ rfl
    | 60, _ => exact hP 63 _ rfl
    | 61, _ => exact hP 64 _ rfl
    | 62, _ => exact hP 65 _ rfl
    | 63, _ => exact hP 66 _ rfl
    | 64, _ => exact hP 67 _ rfl
    | 65, _ => exact hP 68 _ rfl
    | 66, _ => exact hP 69 _ rfl
    | 67, _ => exact hP 70 _ rfl
    | 68, _ => exact hP 76 _ rfl
    | 69, _ => exact hP 71 _ rfl
    | 70, _ =>
      have h : va_at D vwCl ((u4 71), .inl (cy 4, 3, .inr (.inr (.inr (.inr (fun i => [(u4 72), (u4 73), (u4 74)][i]?)))))) H := hP 72 _ rfl
      rw [e70] at h
      exact h
    | 71, _ => exact hP 73 _ rfl
    | 72, _ => exact hP 74 _ rfl
    | 73, _ => exact hP 75 _ rfl
    | 74, _ => exact hP 6 _ rfl
    | 75, _ => exact hP 77 _ rfl
    | 76, _ => exact hP 78 _ rfl
    | 77, _ => exact hP 79 _ rfl
    | 78, _ => exact hP 80 _ rfl
    | 79, _ => exact hP 81 _ rfl
    | 80, _ => exact hP 82 _ rfl
    | 81, _ => exact hP 83 _ rfl
    | 82, _ => exact hP 84 _ rfl
    | 83, _ => exact hP 85 _ rfl
    | 84, _ => exact hP 86 _ rfl
    | 85, _ => exact hP 87 _ rfl
    | 86, _ => exact hP 88 _ rfl
    | 87, _ => exact hP 89 _ rfl
    | 88, _ => exact hP 90 _ rfl
    | 89, _ => exact hP 91 _ rfl
    | 90, _ => exact hP 92 _ rfl
    | 91, _ => exact hP 93 _ rfl
    | 92, _ => exact hP 94 _ rfl
    | 93, _ => exact hP 95 _ rfl
    | 94, _ => exact hP 96 _ rfl
    | 95, _ => exact hP 97 _ rfl
    | 96, _ => exact hP 98 _ rfl
    | 97, _ => exact hP 99 _ rfl
    | 98, _ => exact hP 100 _ rfl
    | 99, _ => exact hP 101 _ rfl
    | 100, _ => exact hP 4 _ rfl
    | 101, _ => exact hP 5 _ rfl
    | j + 102, h => exact absurd h (by omega)
  · obtain ⟨e1, h1⟩ := hpm i hi
    obtain ⟨e2, h2⟩ := hpm j hj
    exact pm_inj i hi j hj (hD.1 _ _ _ _ h1 h2 h)
  · obtain ⟨e1, h1⟩ := hpm k hk
    exact hD.2 _ _ h1
