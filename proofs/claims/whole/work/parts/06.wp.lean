def ini (k : Nat) : Nat → Int32 := match k with
  | 4 => (fun j => if j < 2 then 10 else 0)
  | 9 => (fun j => if j < 2 then 10 else 0)
  | 14 => upd (upd (upd (upd (upd (upd (fun _ => 0) 0 1) 1 3) 2 1) 3 5) 4 1) 5 10
  | 77 => upd (fun _ => 0) 0 10
  | 78 => upd (fun _ => 0) 0 10
  | 85 => upd (upd (upd (upd (upd (upd (fun _ => 0) 0 1) 1 3) 2 1) 3 5) 4 1) 5 10
  | 94 => upd (upd (upd (fun _ => 0) 0 1) 1 10) 2 100
  | _ => fun _ => 0
def σ0 : St := (ini, fun _ _ => 0)

/-! what each method asks: by program (wip/whole/main.py) -/
def wp_fillI (a n : Nat) (v : Int32) (Q : St → Prop) (σ : St) : Prop := Q (sR σ a (fun j => if j < n then v else σ.1 a j))
def wp_fillJ (a n : Nat) (v : Int64) (Q : St → Prop) (σ : St) : Prop := Q (sL σ a (fun j => if j < n then v else σ.2 a j))
def lawQ : Int32 → St → Prop := fun r _ => r = 1
def strC (t j : Nat) : Int32 := (strB.getD t []).getD j 0
def wp_J6_bitCount_0f7a4 (x0 : Int32) (Q : Int32 → St → Prop) (σ : St) : Prop :=
  (∀ v9 : Int32, v9 = x0 - (((x0.toUInt32 >>> ((1 : Int32).toUInt32 &&& Int32.toUInt32 31)).toInt32) &&& 1431655765) → (∀ v23 : Int32, v23 = (v9 &&& 858993459) + (((v9.toUInt32 >>> ((2 : Int32).toUInt32 &&& Int32.toUInt32 31)).toInt32) &&& 858993459) → (∀ v33 : Int32, v33 = (v23 + ((v23.toUInt32 >>> ((4 : Int32).toUInt32 &&& Int32.toUInt32 31)).toInt32)) &&& 252645135 → (∀ v40 : Int32, v40 = v33 + ((v33.toUInt32 >>> ((8 : Int32).toUInt32 &&& Int32.toUInt32 31)).toInt32) → (∀ v47 : Int32, v47 = v40 + ((v40.toUInt32 >>> ((16 : Int32).toUInt32 &&& Int32.toUInt32 31)).toInt32) → Q (v47 &&& 63) σ)))))
def wp_X4_hasCourse (x1 : Int32) (Q : Int32 → St → Prop) (σ : St) : Prop :=
  
    ((x1 < 0 → Q (0 : Int32) σ) ∧ (¬ x1 < 0 → 
    (((σ.1 4 1) ≤ x1 → Q (0 : Int32) σ) ∧ (¬ (σ.1 4 1) ≤ x1 → Q (1 : Int32) σ))))
def wp_X4_hasColumn (x1 : Int32) (Q : Int32 → St → Prop) (σ : St) : Prop :=
  
    ((x1 < 0 → Q (0 : Int32) σ) ∧ (¬ x1 < 0 → 
    (((σ.1 4 0) ≤ x1 → Q (0 : Int32) σ) ∧ (¬ (σ.1 4 0) ≤ x1 → Q (1 : Int32) σ))))
def wp_X4_hasBrick (x1 : Int32) (x2 : Int32) (Q : Int32 → St → Prop) (σ : St) : Prop :=
  (wp_X4_hasCourse x1 (fun r2 σ2 =>
    
    ((r2 = 0 → Q (0 : Int32) σ2) ∧ (¬ r2 = 0 → (wp_X4_hasColumn x2 (fun r10 σ10 =>
    
    ((r10 = 0 → Q (0 : Int32) σ10) ∧ (¬ r10 = 0 → Q (1 : Int32) σ10))) σ2)))) σ)
def wp_X4_hasHearth (x1 : Int32) (Q : Int32 → St → Prop) (σ : St) : Prop :=
  
    ((x1 < 0 → Q (0 : Int32) σ) ∧ (¬ x1 < 0 → 
    (((σ.1 4 3) ≤ x1 → Q (0 : Int32) σ) ∧ (¬ (σ.1 4 3) ≤ x1 → Q (1 : Int32) σ))))
def wp_X4_isFree (x1 : Int32) (x2 : Int32) (Q : Int32 → St → Prop) (σ : St) : Prop :=
  (wp_X4_hasBrick x1 x2 (fun r3 σ3 =>
    
    ((r3 = 0 → Q (0 : Int32) σ3) ∧ (¬ r3 = 0 → (vp_in x1 16 ∧ 
    (((((σ3.1 5 x1.toNatClampNeg) >>> (x2 &&& 31)) &&& 1) = 0 → Q (1 : Int32) σ3) ∧ (¬ (((σ3.1 5 x1.toNatClampNeg) >>> (x2 &&& 31)) &&& 1) = 0 → Q (0 : Int32) σ3)))))) σ)
def wp_X4_isCold (x1 : Int32) (Q : Int32 → St → Prop) (σ : St) : Prop :=
  (wp_X4_hasColumn x1 (fun r2 σ2 =>
    
    ((r2 = 0 → Q (0 : Int32) σ2) ∧ (¬ r2 = 0 → 
    (((((σ2.1 4 2) >>> (x1 &&& 31)) &&& 1) = 0 → Q (0 : Int32) σ2) ∧ (¬ (((σ2.1 4 2) >>> (x1 &&& 31)) &&& 1) = 0 → Q (1 : Int32) σ2))))) σ)
def wp_X4_reaches (x1 : Int32) (x2 : Int64) (Q : Int32 → St → Prop) (σ : St) : Prop :=
  (vp_in x1 3 ∧ 
    (((lg_cmp x2 ((σ.1 6 x1.toNatClampNeg).toInt64)) < 0 → Q (0 : Int32) σ) ∧ (¬ (lg_cmp x2 ((σ.1 6 x1.toNatClampNeg).toInt64)) < 0 → 
    ((0 ≤ (lg_cmp x2 ((σ.1 4 1).toInt64)) → Q (0 : Int32) σ) ∧ (¬ 0 ≤ (lg_cmp x2 ((σ.1 4 1).toInt64)) → Q (1 : Int32) σ)))))
def wp_X4_above (x1 : Int32) (Q : Int32 → St → Prop) (σ : St) : Prop :=
  (vp_in x1 3 ∧ Q (((σ.1 4 1) - 1) - (σ.1 6 x1.toNatClampNeg)) σ)
def wp_X4_freeColumns (x1 : Int32) (Q : Int32 → St → Prop) (σ : St) : Prop :=
  (vp_in x1 16 ∧ Q ((((1 : Int32) <<< ((σ.1 4 0) &&& 31)) - 1) &&& ((σ.1 5 x1.toNatClampNeg) ^^^ (-1))) σ)
def wp_X4_barredBricks_b4 (Q : Int32 → St → Prop) (K4 : Int32 → Int32 → St → Prop) (x1 : Int32) (x2 : Int32) (σ : St) : Prop :=
  
    (((σ.1 4 1) ≤ x2 → Q x1 σ) ∧ (¬ (σ.1 4 1) ≤ x2 → (wp_X4_freeColumns x2 (fun r19 σ19 =>
    (wp_J6_bitCount_0f7a4 r19 (fun r22 σ22 =>
    K4 (x1 + ((σ.1 4 0) - r22)) (x2 + 1) (σ22)) σ19)) σ)))
def wp_X4_barredBricks_l4 (Q : Int32 → St → Prop) : Nat → Int32 → Int32 → St → Prop
  | 0, _, _, _ => False
  | n + 1, x1, x2, σ => wp_X4_barredBricks_b4 Q (wp_X4_barredBricks_l4 Q  n) x1 x2 σ
def wp_X4_barredBricks (Q : Int32 → St → Prop) (σ : St) : Prop :=
  (∃ n : Nat, wp_X4_barredBricks_l4 Q n (0) (0) (σ))
def wp_X4_reset (Q : St → Prop) (σ : St) : Prop :=
  (wp_fillI 10 16 (0 : Int32) (fun σ27 => Q σ27) (sI (sI (sI (sI σ 9 0 (10 : Int32)) 9 1 (10 : Int32)) 9 2 (0 : Int32)) 9 3 (0 : Int32)))
def wp_X4_copyFrom (Q : St → Prop) (σ : St) : Prop :=
  ((¬ (0 : Int32) < 0 ∧ ¬ (0 : Int32) < 0 ∧ ¬ (16 : Int32) < 0 ∧ (0 : Int32).toNatClampNeg + (16 : Int32).toNatClampNeg ≤ 16 ∧ (0 : Int32).toNatClampNeg + (16 : Int32).toNatClampNeg ≤ 16) ∧ ((¬ (0 : Int32) < 0 ∧ ¬ (0 : Int32) < 0 ∧ ¬ (3 : Int32) < 0 ∧ (0 : Int32).toNatClampNeg + (3 : Int32).toNatClampNeg ≤ 3 ∧ (0 : Int32).toNatClampNeg + (3 : Int32).toNatClampNeg ≤ 3) ∧ ((¬ (0 : Int32) < 0 ∧ ¬ (0 : Int32) < 0 ∧ ¬ (3 : Int32) < 0 ∧ (0 : Int32).toNatClampNeg + (3 : Int32).toNatClampNeg ≤ 3 ∧ (0 : Int32).toNatClampNeg + (3 : Int32).toNatClampNeg ≤ 3) ∧ ((¬ (0 : Int32) < 0 ∧ ¬ (0 : Int32) < 0 ∧ ¬ (3 : Int32) < 0 ∧ (0 : Int32).toNatClampNeg + (3 : Int32).toNatClampNeg ≤ 3 ∧ (0 : Int32).toNatClampNeg + (3 : Int32).toNatClampNeg ≤ 3) ∧ Q (sR (sR (sR (sR (sI (sI (sI (sI σ 4 0 (σ.1 9 0)) 4 1 ((sI σ 4 0 (σ.1 9 0)).1 9 1)) 4 2 ((sI (sI σ 4 0 (σ.1 9 0)) 4 1 ((sI σ 4 0 (σ.1 9 0)).1 9 1)).1 9 2)) 4 3 ((sI (sI (sI σ 4 0 (σ.1 9 0)) 4 1 ((sI σ 4 0 (σ.1 9 0)).1 9 1)) 4 2 ((sI (sI σ 4 0 (σ.1 9 0)) 4 1 ((sI σ 4 0 (σ.1 9 0)).1 9 1)).1 9 2)).1 9 3)) 5 (va_cpy ((sI (sI (sI (sI σ 4 0 (σ.1 9 0)) 4 1 ((sI σ 4 0 (σ.1 9 0)).1 9 1)) 4 2 ((sI (sI σ 4 0 (σ.1 9 0)) 4 1 ((sI σ 4 0 (σ.1 9 0)).1 9 1)).1 9 2)) 4 3 ((sI (sI (sI σ 4 0 (σ.1 9 0)) 4 1 ((sI σ 4 0 (σ.1 9 0)).1 9 1)) 4 2 ((sI (sI σ 4 0 (σ.1 9 0)) 4 1 ((sI σ 4 0 (σ.1 9 0)).1 9 1)).1 9 2)).1 9 3)).1 10) ((sI (sI (sI (sI σ 4 0 (σ.1 9 0)) 4 1 ((sI σ 4 0 (σ.1 9 0)).1 9 1)) 4 2 ((sI (sI σ 4 0 (σ.1 9 0)) 4 1 ((sI σ 4 0 (σ.1 9 0)).1 9 1)).1 9 2)) 4 3 ((sI (sI (sI σ 4 0 (σ.1 9 0)) 4 1 ((sI σ 4 0 (σ.1 9 0)).1 9 1)) 4 2 ((sI (sI σ 4 0 (σ.1 9 0)) 4 1 ((sI σ 4 0 (σ.1 9 0)).1 9 1)).1 9 2)).1 9 3)).1 5) (0 : Int32).toNatClampNeg (0 : Int32).toNatClampNeg (16 : Int32).toNatClampNeg)) 6 (va_cpy ((sR (sI (sI (sI (sI σ 4 0 (σ.1 9 0)) 4 1 ((sI σ 4 0 (σ.1 9 0)).1 9 1)) 4 2 ((sI (sI σ 4 0 (σ.1 9 0)) 4 1 ((sI σ 4 0 (σ.1 9 0)).1 9 1)).1 9 2)) 4 3 ((sI (sI (sI σ 4 0 (σ.1 9 0)) 4 1 ((sI σ 4 0 (σ.1 9 0)).1 9 1)) 4 2 ((sI (sI σ 4 0 (σ.1 9 0)) 4 1 ((sI σ 4 0 (σ.1 9 0)).1 9 1)).1 9 2)).1 9 3)) 5 (va_cpy ((sI (sI (sI (sI σ 4 0 (σ.1 9 0)) 4 1 ((sI σ 4 0 (σ.1 9 0)).1 9 1)) 4 2 ((sI (sI σ 4 0 (σ.1 9 0)) 4 1 ((sI σ 4 0 (σ.1 9 0)).1 9 1)).1 9 2)) 4 3 ((sI (sI (sI σ 4 0 (σ.1 9 0)) 4 1 ((sI σ 4 0 (σ.1 9 0)).1 9 1)) 4 2 ((sI (sI σ 4 0 (σ.1 9 0)) 4 1 ((sI σ 4 0 (σ.1 9 0)).1 9 1)).1 9 2)).1 9 3)).1 10) ((sI (sI (sI (sI σ 4 0 (σ.1 9 0)) 4 1 ((sI σ 4 0 (σ.1 9 0)).1 9 1)) 4 2 ((sI (sI σ 4 0 (σ.1 9 0)) 4 1 ((sI σ 4 0 (σ.1 9 0)).1 9 1)).1 9 2)) 4 3 ((sI (sI (sI σ 4 0 (σ.1 9 0)) 4 1 ((sI σ 4 0 (σ.1 9 0)).1 9 1)) 4 2 ((sI (sI σ 4 0 (σ.1 9 0)) 4 1 ((sI σ 4 0 (σ.1 9 0)).1 9 1)).1 9 2)).1 9 3)).1 5) (0 : Int32).toNatClampNeg (0 : Int32).toNatClampNeg (16 : Int32).toNatClampNeg)).1 11) ((sR (sI (sI (sI (sI σ 4 0 (σ.1 9 0)) 4 1 ((sI σ 4 0 (σ.1 9 0)).1 9 1)) 4 2 ((sI (sI σ 4 0 (σ.1 9 0)) 4 1 ((sI σ 4 0 (σ.1 9 0)).1 9 1)).1 9 2)) 4 3 ((sI (sI (sI σ 4 0 (σ.1 9 0)) 4 1 ((sI σ 4 0 (σ.1 9 0)).1 9 1)) 4 2 ((sI (sI σ 4 0 (σ.1 9 0)) 4 1 ((sI σ 4 0 (σ.1 9 0)).1 9 1)).1 9 2)).1 9 3)) 5 (va_cpy ((sI (sI (sI (sI σ 4 0 (σ.1 9 0)) 4 1 ((sI σ 4 0 (σ.1 9 0)).1 9 1)) 4 2 ((sI (sI σ 4 0 (σ.1 9 0)) 4 1 ((sI σ 4 0 (σ.1 9 0)).1 9 1)).1 9 2)) 4 3 ((sI (sI (sI σ 4 0 (σ.1 9 0)) 4 1 ((sI σ 4 0 (σ.1 9 0)).1 9 1)) 4 2 ((sI (sI σ 4 0 (σ.1 9 0)) 4 1 ((sI σ 4 0 (σ.1 9 0)).1 9 1)).1 9 2)).1 9 3)).1 10) ((sI (sI (sI (sI σ 4 0 (σ.1 9 0)) 4 1 ((sI σ 4 0 (σ.1 9 0)).1 9 1)) 4 2 ((sI (sI σ 4 0 (σ.1 9 0)) 4 1 ((sI σ 4 0 (σ.1 9 0)).1 9 1)).1 9 2)) 4 3 ((sI (sI (sI σ 4 0 (σ.1 9 0)) 4 1 ((sI σ 4 0 (σ.1 9 0)).1 9 1)) 4 2 ((sI (sI σ 4 0 (σ.1 9 0)) 4 1 ((sI σ 4 0 (σ.1 9 0)).1 9 1)).1 9 2)).1 9 3)).1 5) (0 : Int32).toNatClampNeg (0 : Int32).toNatClampNeg (16 : Int32).toNatClampNeg)).1 6) (0 : Int32).toNatClampNeg (0 : Int32).toNatClampNeg (3 : Int32).toNatClampNeg)) 7 (va_cpy ((sR (sR (sI (sI (sI (sI σ 4 0 (σ.1 9 0)) 4 1 ((sI σ 4 0 (σ.1 9 0)).1 9 1)) 4 2 ((sI (sI σ 4 0 (σ.1 9 0)) 4 1 ((sI σ 4 0 (σ.1 9 0)).1 9 1)).1 9 2)) 4 3 ((sI (sI (sI σ 4 0 (σ.1 9 0)) 4 1 ((sI σ 4 0 (σ.1 9 0)).1 9 1)) 4 2 ((sI (sI σ 4 0 (σ.1 9 0)) 4 1 ((sI σ 4 0 (σ.1 9 0)).1 9 1)).1 9 2)).1 9 3)) 5 (va_cpy ((sI (sI (sI (sI σ 4 0 (σ.1 9 0)) 4 1 ((sI σ 4 0 (σ.1 9 0)).1 9 1)) 4 2 ((sI (sI σ 4 0 (σ.1 9 0)) 4 1 ((sI σ 4 0 (σ.1 9 0)).1 9 1)).1 9 2)) 4 3 ((sI (sI (sI σ 4 0 (σ.1 9 0)) 4 1 ((sI σ 4 0 (σ.1 9 0)).1 9 1)) 4 2 ((sI (sI σ 4 0 (σ.1 9 0)) 4 1 ((sI σ 4 0 (σ.1 9 0)).1 9 1)).1 9 2)).1 9 3)).1 10) ((sI (sI (sI (sI σ 4 0 (σ.1 9 0)) 4 1 ((sI σ 4 0 (σ.1 9 0)).1 9 1)) 4 2 ((sI (sI σ 4 0 (σ.1 9 0)) 4 1 ((sI σ 4 0 (σ.1 9 0)).1 9 1)).1 9 2)) 4 3 ((sI (sI (sI σ 4 0 (σ.1 9 0)) 4 1 ((sI σ 4 0 (σ.1 9 0)).1 9 1)) 4 2 ((sI (sI σ 4 0 (σ.1 9 0)) 4 1 ((sI σ 4 0 (σ.1 9 0)).1 9 1)).1 9 2)).1 9 3)).1 5) (0 : Int32).toNatClampNeg (0 : Int32).toNatClampNeg (16 : Int32).toNatClampNeg)) 6 (va_cpy ((sR (sI (sI (sI (sI σ 4 0 (σ.1 9 0)) 4 1 ((sI σ 4 0 (σ.1 9 0)).1 9 1)) 4 2 ((sI (sI σ 4 0 (σ.1 9 0)) 4 1 ((sI σ 4 0 (σ.1 9 0)).1 9 1)).1 9 2)) 4 3 ((sI (sI (sI σ 4 0 (σ.1 9 0)) 4 1 ((sI σ 4 0 (σ.1 9 0)).1 9 1)) 4 2 ((sI (sI σ 4 0 (σ.1 9 0)) 4 1 ((sI σ 4 0 (σ.1 9 0)).1 9 1)).1 9 2)).1 9 3)) 5 (va_cpy ((sI (sI (sI (sI σ 4 0 (σ.1 9 0)) 4 1 ((sI σ 4 0 (σ.1 9 0)).1 9 1)) 4 2 ((sI (sI σ 4 0 (σ.1 9 0)) 4 1 ((sI σ 4 0 (σ.1 9 0)).1 9 1)).1 9 2)) 4 3 ((sI (sI (sI σ 4 0 (σ.1 9 0)) 4 1 ((sI σ 4 0 (σ.1 9 0)).1 9 1)) 4 2 ((sI (sI σ 4 0 (σ.1 9 0)) 4 1 ((sI σ 4 0 (σ.1 9 0)).1 9 1)).1 9 2)).1 9 3)).1 10) ((sI (sI (sI (sI σ 4 0 (σ.1 9 0)) 4 1 ((sI σ 4 0 (σ.1 9 0)).1 9 1)) 4 2 ((sI (sI σ 4 0 (σ.1 9 0)) 4 1 ((sI σ 4 0 (σ.1 9 0)).1 9 1)).1 9 2)) 4 3 ((sI (sI (sI σ 4 0 (σ.1 9 0)) 4 1 ((sI σ 4 0 (σ.1 9 0)).1 9 1)) 4 2 ((sI (sI σ 4 0 (σ.1 9 0)) 4 1 ((sI σ 4 0 (σ.1 9 0)).1 9 1)).1 9 2)).1 9 3)).1 5) (0 : Int32).toNatClampNeg (0 : Int32).toNatClampNeg (16 : Int32).toNatClampNeg)).1 11) ((sR (sI (sI (sI (sI σ 4 0 (σ.1 9 0)) 4 1 ((sI σ 4 0 (σ.1 9 0)).1 9 1)) 4 2 ((sI (sI σ 4 0 (σ.1 9 0)) 4 1 ((sI σ 4 0 (σ.1 9 0)).1 9 1)).1 9 2)) 4 3 ((sI (sI (sI σ 4 0 (σ.1 9 0)) 4 1 ((sI σ 4 0 (σ.1 9 0)).1 9 1)) 4 2 ((sI (sI σ 4 0 (σ.1 9 0)) 4 1 ((sI σ 4 0 (σ.1 9 0)).1 9 1)).1 9 2)).1 9 3)) 5 (va_cpy ((sI (sI (sI (sI σ 4 0 (σ.1 9 0)) 4 1 ((sI σ 4 0 (σ.1 9 0)).1 9 1)) 4 2 ((sI (sI σ 4 0 (σ.1 9 0)) 4 1 ((sI σ 4 0 (σ.1 9 0)).1 9 1)).1 9 2)) 4 3 ((sI (sI (sI σ 4 0 (σ.1 9 0)) 4 1 ((sI σ 4 0 (σ.1 9 0)).1 9 1)) 4 2 ((sI (sI σ 4 0 (σ.1 9 0)) 4 1 ((sI σ 4 0 (σ.1 9 0)).1 9 1)).1 9 2)).1 9 3)).1 10) ((sI (sI (sI (sI σ 4 0 (σ.1 9 0)) 4 1 ((sI σ 4 0 (σ.1 9 0)).1 9 1)) 4 2 ((sI (sI σ 4 0 (σ.1 9 0)) 4 1 ((sI σ 4 0 (σ.1 9 0)).1 9 1)).1 9 2)) 4 3 ((sI (sI (sI σ 4 0 (σ.1 9 0)) 4 1 ((sI σ 4 0 (σ.1 9 0)).1 9 1)) 4 2 ((sI (sI σ 4 0 (σ.1 9 0)) 4 1 ((sI σ 4 0 (σ.1 9 0)).1 9 1)).1 9 2)).1 9 3)).1 5) (0 : Int32).toNatClampNeg (0 : Int32).toNatClampNeg (16 : Int32).toNatClampNeg)).1 6) (0 : Int32).toNatClampNeg (0 : Int32).toNatClampNeg (3 : Int32).toNatClampNeg)).1 12) ((sR (sR (sI (sI (sI (sI σ 4 0 (σ.1 9 0)) 4 1 ((sI σ 4 0 (σ.1 9 0)).1 9 1)) 4 2 ((sI (sI σ 4 0 (σ.1 9 0)) 4 1 ((sI σ 4 0 (σ.1 9 0)).1 9 1)).1 9 2)) 4 3 ((sI (sI (sI σ 4 0 (σ.1 9 0)) 4 1 ((sI σ 4 0 (σ.1 9 0)).1 9 1)) 4 2 ((sI (sI σ 4 0 (σ.1 9 0)) 4 1 ((sI σ 4 0 (σ.1 9 0)).1 9 1)).1 9 2)).1 9 3)) 5 (va_cpy ((sI (sI (sI (sI σ 4 0 (σ.1 9 0)) 4 1 ((sI σ 4 0 (σ.1 9 0)).1 9 1)) 4 2 ((sI (sI σ 4 0 (σ.1 9 0)) 4 1 ((sI σ 4 0 (σ.1 9 0)).1 9 1)).1 9 2)) 4 3 ((sI (sI (sI σ 4 0 (σ.1 9 0)) 4 1 ((sI σ 4 0 (σ.1 9 0)).1 9 1)) 4 2 ((sI (sI σ 4 0 (σ.1 9 0)) 4 1 ((sI σ 4 0 (σ.1 9 0)).1 9 1)).1 9 2)).1 9 3)).1 10) ((sI (sI (sI (sI σ 4 0 (σ.1 9 0)) 4 1 ((sI σ 4 0 (σ.1 9 0)).1 9 1)) 4 2 ((sI (sI σ 4 0 (σ.1 9 0)) 4 1 ((sI σ 4 0 (σ.1 9 0)).1 9 1)).1 9 2)) 4 3 ((sI (sI (sI σ 4 0 (σ.1 9 0)) 4 1 ((sI σ 4 0 (σ.1 9 0)).1 9 1)) 4 2 ((sI (sI σ 4 0 (σ.1 9 0)) 4 1 ((sI σ 4 0 (σ.1 9 0)).1 9 1)).1 9 2)).1 9 3)).1 5) (0 : Int32).toNatClampNeg (0 : Int32).toNatClampNeg (16 : Int32).toNatClampNeg)) 6 (va_cpy ((sR (sI (sI (sI (sI σ 4 0 (σ.1 9 0)) 4 1 ((sI σ 4 0 (σ.1 9 0)).1 9 1)) 4 2 ((sI (sI σ 4 0 (σ.1 9 0)) 4 1 ((sI σ 4 0 (σ.1 9 0)).1 9 1)).1 9 2)) 4 3 ((sI (sI (sI σ 4 0 (σ.1 9 0)) 4 1 ((sI σ 4 0 (σ.1 9 0)).1 9 1)) 4 2 ((sI (sI σ 4 0 (σ.1 9 0)) 4 1 ((sI σ 4 0 (σ.1 9 0)).1 9 1)).1 9 2)).1 9 3)) 5 (va_cpy ((sI (sI (sI (sI σ 4 0 (σ.1 9 0)) 4 1 ((sI σ 4 0 (σ.1 9 0)).1 9 1)) 4 2 ((sI (sI σ 4 0 (σ.1 9 0)) 4 1 ((sI σ 4 0 (σ.1 9 0)).1 9 1)).1 9 2)) 4 3 ((sI (sI (sI σ 4 0 (σ.1 9 0)) 4 1 ((sI σ 4 0 (σ.1 9 0)).1 9 1)) 4 2 ((sI (sI σ 4 0 (σ.1 9 0)) 4 1 ((sI σ 4 0 (σ.1 9 0)).1 9 1)).1 9 2)).1 9 3)).1 10) ((sI (sI (sI (sI σ 4 0 (σ.1 9 0)) 4 1 ((sI σ 4 0 (σ.1 9 0)).1 9 1)) 4 2 ((sI (sI σ 4 0 (σ.1 9 0)) 4 1 ((sI σ 4 0 (σ.1 9 0)).1 9 1)).1 9 2)) 4 3 ((sI (sI (sI σ 4 0 (σ.1 9 0)) 4 1 ((sI σ 4 0 (σ.1 9 0)).1 9 1)) 4 2 ((sI (sI σ 4 0 (σ.1 9 0)) 4 1 ((sI σ 4 0 (σ.1 9 0)).1 9 1)).1 9 2)).1 9 3)).1 5) (0 : Int32).toNatClampNeg (0 : Int32).toNatClampNeg (16 : Int32).toNatClampNeg)).1 11) ((sR (sI (sI (sI (sI σ 4 0 (σ.1 9 0)) 4 1 ((sI σ 4 0 (σ.1 9 0)).1 9 1)) 4 2 ((sI (sI σ 4 0 (σ.1 9 0)) 4 1 ((sI σ 4 0 (σ.1 9 0)).1 9 1)).1 9 2)) 4 3 ((sI (sI (sI σ 4 0 (σ.1 9 0)) 4 1 ((sI σ 4 0 (σ.1 9 0)).1 9 1)) 4 2 ((sI (sI σ 4 0 (σ.1 9 0)) 4 1 ((sI σ 4 0 (σ.1 9 0)).1 9 1)).1 9 2)).1 9 3)) 5 (va_cpy ((sI (sI (sI (sI σ 4 0 (σ.1 9 0)) 4 1 ((sI σ 4 0 (σ.1 9 0)).1 9 1)) 4 2 ((sI (sI σ 4 0 (σ.1 9 0)) 4 1 ((sI σ 4 0 (σ.1 9 0)).1 9 1)).1 9 2)) 4 3 ((sI (sI (sI σ 4 0 (σ.1 9 0)) 4 1 ((sI σ 4 0 (σ.1 9 0)).1 9 1)) 4 2 ((sI (sI σ 4 0 (σ.1 9 0)) 4 1 ((sI σ 4 0 (σ.1 9 0)).1 9 1)).1 9 2)).1 9 3)).1 10) ((sI (sI (sI (sI σ 4 0 (σ.1 9 0)) 4 1 ((sI σ 4 0 (σ.1 9 0)).1 9 1)) 4 2 ((sI (sI σ 4 0 (σ.1 9 0)) 4 1 ((sI σ 4 0 (σ.1 9 0)).1 9 1)).1 9 2)) 4 3 ((sI (sI (sI σ 4 0 (σ.1 9 0)) 4 1 ((sI σ 4 0 (σ.1 9 0)).1 9 1)) 4 2 ((sI (sI σ 4 0 (σ.1 9 0)) 4 1 ((sI σ 4 0 (σ.1 9 0)).1 9 1)).1 9 2)).1 9 3)).1 5) (0 : Int32).toNatClampNeg (0 : Int32).toNatClampNeg (16 : Int32).toNatClampNeg)).1 6) (0 : Int32).toNatClampNeg (0 : Int32).toNatClampNeg (3 : Int32).toNatClampNeg)).1 7) (0 : Int32).toNatClampNeg (0 : Int32).toNatClampNeg (3 : Int32).toNatClampNeg)) 8 (va_cpy ((sR (sR (sR (sI (sI (sI (sI σ 4 0 (σ.1 9 0)) 4 1 ((sI σ 4 0 (σ.1 9 0)).1 9 1)) 4 2 ((sI (sI σ 4 0 (σ.1 9 0)) 4 1 ((sI σ 4 0 (σ.1 9 0)).1 9 1)).1 9 2)) 4 3 ((sI (sI (sI σ 4 0 (σ.1 9 0)) 4 1 ((sI σ 4 0 (σ.1 9 0)).1 9 1)) 4 2 ((sI (sI σ 4 0 (σ.1 9 0)) 4 1 ((sI σ 4 0 (σ.1 9 0)).1 9 1)).1 9 2)).1 9 3)) 5 (va_cpy ((sI (sI (sI (sI σ 4 0 (σ.1 9 0)) 4 1 ((sI σ 4 0 (σ.1 9 0)).1 9 1)) 4 2 ((sI (sI σ 4 0 (σ.1 9 0)) 4 1 ((sI σ 4 0 (σ.1 9 0)).1 9 1)).1 9 2)) 4 3 ((sI (sI (sI σ 4 0 (σ.1 9 0)) 4 1 ((sI σ 4 0 (σ.1 9 0)).1 9 1)) 4 2 ((sI (sI σ 4 0 (σ.1 9 0)) 4 1 ((sI σ 4 0 (σ.1 9 0)).1 9 1)).1 9 2)).1 9 3)).1 10) ((sI (sI (sI (sI σ 4 0 (σ.1 9 0)) 4 1 ((sI σ 4 0 (σ.1 9 0)).1 9 1)) 4 2 ((sI (sI σ 4 0 (σ.1 9 0)) 4 1 ((sI σ 4 0 (σ.1 9 0)).1 9 1)).1 9 2)) 4 3 ((sI (sI (sI σ 4 0 (σ.1 9 0)) 4 1 ((sI σ 4 0 (σ.1 9 0)).1 9 1)) 4 2 ((sI (sI σ 4 0 (σ.1 9 0)) 4 1 ((sI σ 4 0 (σ.1 9 0)).1 9 1)).1 9 2)).1 9 3)).1 5) (0 : Int32).toNatClampNeg (0 : Int32).toNatClampNeg (16 : Int32).toNatClampNeg)) 6 (va_cpy ((sR (sI (sI (sI (sI σ 4 0 (σ.1 9 0)) 4 1 ((sI σ 4 0 (σ.1 9 0)).1 9 1)) 4 2 ((sI (sI σ 4 0 (σ.1 9 0)) 4 1 ((sI σ 4 0 (σ.1 9 0)).1 9 1)).1 9 2)) 4 3 ((sI (sI (sI σ 4 0 (σ.1 9 0)) 4 1 ((sI σ 4 0 (σ.1 9 0)).1 9 1)) 4 2 ((sI (sI σ 4 0 (σ.1 9 0)) 4 1 ((sI σ 4 0 (σ.1 9 0)).1 9 1)).1 9 2)).1 9 3)) 5 (va_cpy ((sI (sI (sI (sI σ 4 0 (σ.1 9 0)) 4 1 ((sI σ 4 0 (σ.1 9 0)).1 9 1)) 4 2 ((sI (sI σ 4 0 (σ.1 9 0)) 4 1 ((sI σ 4 0 (σ.1 9 0)).1 9 1)).1 9 2)) 4 3 ((sI (sI (sI σ 4 0 (σ.1 9 0)) 4 1 ((sI σ 4 0 (σ.1 9 0)).1 9 1)) 4 2 ((sI (sI σ 4 0 (σ.1 9 0)) 4 1 ((sI σ 4 0 (σ.1 9 0)).1 9 1)).1 9 2)).1 9 3)).1 10) ((sI (sI (sI (sI σ 4 0 (σ.1 9 0)) 4 1 ((sI σ 4 0 (σ.1 9 0)).1 9 1)) 4 2 ((sI (sI σ 4 0 (σ.1 9 0)) 4 1 ((sI σ 4 0 (σ.1 9 0)).1 9 1)).1 9 2)) 4 3 ((sI (sI (sI σ 4 0 (σ.1 9 0)) 4 1 ((sI σ 4 0 (σ.1 9 0)).1 9 1)) 4 2 ((sI (sI σ 4 0 (σ.1 9 0)) 4 1 ((sI σ 4 0 (σ.1 9 0)).1 9 1)).1 9 2)).1 9 3)).1 5) (0 : Int32).toNatClampNeg (0 : Int32).toNatClampNeg (16 : Int32).toNatClampNeg)).1 11) ((sR (sI (sI (sI (sI σ 4 0 (σ.1 9 0)) 4 1 ((sI σ 4 0 (σ.1 9 0)).1 9 1)) 4 2 ((sI (sI σ 4 0 (σ.1 9 0)) 4 1 ((sI σ 4 0 (σ.1 9 0)).1 9 1)).1 9 2)) 4 3 ((sI (sI (sI σ 4 0 (σ.1 9 0)) 4 1 ((sI σ 4 0 (σ.1 9 0)).1 9 1)) 4 2 ((sI (sI σ 4 0 (σ.1 9 0)) 4 1 ((sI σ 4 0 (σ.1 9 0)).1 9 1)).1 9 2)).1 9 3)) 5 (va_cpy ((sI (sI (sI (sI σ 4 0 (σ.1 9 0)) 4 1 ((sI σ 4 0 (σ.1 9 0)).1 9 1)) 4 2 ((sI (sI σ 4 0 (σ.1 9 0)) 4 1 ((sI σ 4 0 (σ.1 9 0)).1 9 1)).1 9 2)) 4 3 ((sI (sI (sI σ 4 0 (σ.1 9 0)) 4 1 ((sI σ 4 0 (σ.1 9 0)).1 9 1)) 4 2 ((sI (sI σ 4 0 (σ.1 9 0)) 4 1 ((sI σ 4 0 (σ.1 9 0)).1 9 1)).1 9 2)).1 9 3)).1 10) ((sI (sI (sI (sI σ 4 0 (σ.1 9 0)) 4 1 ((sI σ 4 0 (σ.1 9 0)).1 9 1)) 4 2 ((sI (sI σ 4 0 (σ.1 9 0)) 4 1 ((sI σ 4 0 (σ.1 9 0)).1 9 1)).1 9 2)) 4 3 ((sI (sI (sI σ 4 0 (σ.1 9 0)) 4 1 ((sI σ 4 0 (σ.1 9 0)).1 9 1)) 4 2 ((sI (sI σ 4 0 (σ.1 9 0)) 4 1 ((sI σ 4 0 (σ.1 9 0)).1 9 1)).1 9 2)).1 9 3)).1 5) (0 : Int32).toNatClampNeg (0 : Int32).toNatClampNeg (16 : Int32).toNatClampNeg)).1 6) (0 : Int32).toNatClampNeg (0 : Int32).toNatClampNeg (3 : Int32).toNatClampNeg)) 7 (va_cpy ((sR (sR (sI (sI (sI (sI σ 4 0 (σ.1 9 0)) 4 1 ((sI σ 4 0 (σ.1 9 0)).1 9 1)) 4 2 ((sI (sI σ 4 0 (σ.1 9 0)) 4 1 ((sI σ 4 0 (σ.1 9 0)).1 9 1)).1 9 2)) 4 3 ((sI (sI (sI σ 4 0 (σ.1 9 0)) 4 1 ((sI σ 4 0 (σ.1 9 0)).1 9 1)) 4 2 ((sI (sI σ 4 0 (σ.1 9 0)) 4 1 ((sI σ 4 0 (σ.1 9 0)).1 9 1)).1 9 2)).1 9 3)) 5 (va_cpy ((sI (sI (sI (sI σ 4 0 (σ.1 9 0)) 4 1 ((sI σ 4 0 (σ.1 9 0)).1 9 1)) 4 2 ((sI (sI σ 4 0 (σ.1 9 0)) 4 1 ((sI σ 4 0 (σ.1 9 0)).1 9 1)).1 9 2)) 4 3 ((sI (sI (sI σ 4 0 (σ.1 9 0)) 4 1 ((sI σ 4 0 (σ.1 9 0)).1 9 1)) 4 2 ((sI (sI σ 4 0 (σ.1 9 0)) 4 1 ((sI σ 4 0 (σ.1 9 0)).1 9 1)).1 9 2)).1 9 3)).1 10) ((sI (sI (sI (sI σ 4 0 (σ.1 9 0)) 4 1 ((sI σ 4 0 (σ.1 9 0)).1 9 1)) 4 2 ((sI (sI σ 4 0 (σ.1 9 0)) 4 1 ((sI σ 4 0 (σ.1 9 0)).1 9 1)).1 9 2)) 4 3 ((sI (sI (sI σ 4 0 (σ.1 9 0)) 4 1 ((sI σ 4 0 (σ.1 9 0)).1 9 1)) 4 2 ((sI (sI σ 4 0 (σ.1 9 0)) 4 1 ((sI σ 4 0 (σ.1 9 0)).1 9 1)).1 9 2)).1 9 3)).1 5) (0 : Int32).toNatClampNeg (0 : Int32).toNatClampNeg (16 : Int32).toNatClampNeg)) 6 (va_cpy ((sR (sI (sI (sI (sI σ 4 0 (σ.1 9 0)) 4 1 ((sI σ 4 0 (σ.1 9 0)).1 9 1)) 4 2 ((sI (sI σ 4 0 (σ.1 9 0)) 4 1 ((sI σ 4 0 (σ.1 9 0)).1 9 1)).1 9 2)) 4 3 ((sI (sI (sI σ 4 0 (σ.1 9 0)) 4 1 ((sI σ 4 0 (σ.1 9 0)).1 9 1)) 4 2 ((sI (sI σ 4 0 (σ.1 9 0)) 4 1 ((sI σ 4 0 (σ.1 9 0)).1 9 1)).1 9 2)).1 9 3)) 5 (va_cpy ((sI (sI (sI (sI σ 4 0 (σ.1 9 0)) 4 1 ((sI σ 4 0 (σ.1 9 0)).1 9 1)) 4 2 ((sI (sI σ 4 0 (σ.1 9 0)) 4 1 ((sI σ 4 0 (σ.1 9 0)).1 9 1)).1 9 2)) 4 3 ((sI (sI (sI σ 4 0 (σ.1 9 0)) 4 1 ((sI σ 4 0 (σ.1 9 0)).1 9 1)) 4 2 ((sI (sI σ 4 0 (σ.1 9 0)) 4 1 ((sI σ 4 0 (σ.1 9 0)).1 9 1)).1 9 2)).1 9 3)).1 10) ((sI (sI (sI (sI σ 4 0 (σ.1 9 0)) 4 1 ((sI σ 4 0 (σ.1 9 0)).1 9 1)) 4 2 ((sI (sI σ 4 0 (σ.1 9 0)) 4 1 ((sI σ 4 0 (σ.1 9 0)).1 9 1)).1 9 2)) 4 3 ((sI (sI (sI σ 4 0 (σ.1 9 0)) 4 1 ((sI σ 4 0 (σ.1 9 0)).1 9 1)) 4 2 ((sI (sI σ 4 0 (σ.1 9 0)) 4 1 ((sI σ 4 0 (σ.1 9 0)).1 9 1)).1 9 2)).1 9 3)).1 5) (0 : Int32).toNatClampNeg (0 : Int32).toNatClampNeg (16 : Int32).toNatClampNeg)).1 11) ((sR (sI (sI (sI (sI σ 4 0 (σ.1 9 0)) 4 1 ((sI σ 4 0 (σ.1 9 0)).1 9 1)) 4 2 ((sI (sI σ 4 0 (σ.1 9 0)) 4 1 ((sI σ 4 0 (σ.1 9 0)).1 9 1)).1 9 2)) 4 3 ((sI (sI (sI σ 4 0 (σ.1 9 0)) 4 1 ((sI σ 4 0 (σ.1 9 0)).1 9 1)) 4 2 ((sI (sI σ 4 0 (σ.1 9 0)) 4 1 ((sI σ 4 0 (σ.1 9 0)).1 9 1)).1 9 2)).1 9 3)) 5 (va_cpy ((sI (sI (sI (sI σ 4 0 (σ.1 9 0)) 4 1 ((sI σ 4 0 (σ.1 9 0)).1 9 1)) 4 2 ((sI (sI σ 4 0 (σ.1 9 0)) 4 1 ((sI σ 4 0 (σ.1 9 0)).1 9 1)).1 9 2)) 4 3 ((sI (sI (sI σ 4 0 (σ.1 9 0)) 4 1 ((sI σ 4 0 (σ.1 9 0)).1 9 1)) 4 2 ((sI (sI σ 4 0 (σ.1 9 0)) 4 1 ((sI σ 4 0 (σ.1 9 0)).1 9 1)).1 9 2)).1 9 3)).1 10) ((sI (sI (sI (sI σ 4 0 (σ.1 9 0)) 4 1 ((sI σ 4 0 (σ.1 9 0)).1 9 1)) 4 2 ((sI (sI σ 4 0 (σ.1 9 0)) 4 1 ((sI σ 4 0 (σ.1 9 0)).1 9 1)).1 9 2)) 4 3 ((sI (sI (sI σ 4 0 (σ.1 9 0)) 4 1 ((sI σ 4 0 (σ.1 9 0)).1 9 1)) 4 2 ((sI (sI σ 4 0 (σ.1 9 0)) 4 1 ((sI σ 4 0 (σ.1 9 0)).1 9 1)).1 9 2)).1 9 3)).1 5) (0 : Int32).toNatClampNeg (0 : Int32).toNatClampNeg (16 : Int32).toNatClampNeg)).1 6) (0 : Int32).toNatClampNeg (0 : Int32).toNatClampNeg (3 : Int32).toNatClampNeg)).1 12) ((sR (sR (sI (sI (sI (sI σ 4 0 (σ.1 9 0)) 4 1 ((sI σ 4 0 (σ.1 9 0)).1 9 1)) 4 2 ((sI (sI σ 4 0 (σ.1 9 0)) 4 1 ((sI σ 4 0 (σ.1 9 0)).1 9 1)).1 9 2)) 4 3 ((sI (sI (sI σ 4 0 (σ.1 9 0)) 4 1 ((sI σ 4 0 (σ.1 9 0)).1 9 1)) 4 2 ((sI (sI σ 4 0 (σ.1 9 0)) 4 1 ((sI σ 4 0 (σ.1 9 0)).1 9 1)).1 9 2)).1 9 3)) 5 (va_cpy ((sI (sI (sI (sI σ 4 0 (σ.1 9 0)) 4 1 ((sI σ 4 0 (σ.1 9 0)).1 9 1)) 4 2 ((sI (sI σ 4 0 (σ.1 9 0)) 4 1 ((sI σ 4 0 (σ.1 9 0)).1 9 1)).1 9 2)) 4 3 ((sI (sI (sI σ 4 0 (σ.1 9 0)) 4 1 ((sI σ 4 0 (σ.1 9 0)).1 9 1)) 4 2 ((sI (sI σ 4 0 (σ.1 9 0)) 4 1 ((sI σ 4 0 (σ.1 9 0)).1 9 1)).1 9 2)).1 9 3)).1 10) ((sI (sI (sI (sI σ 4 0 (σ.1 9 0)) 4 1 ((sI σ 4 0 (σ.1 9 0)).1 9 1)) 4 2 ((sI (sI σ 4 0 (σ.1 9 0)) 4 1 ((sI σ 4 0 (σ.1 9 0)).1 9 1)).1 9 2)) 4 3 ((sI (sI (sI σ 4 0 (σ.1 9 0)) 4 1 ((sI σ 4 0 (σ.1 9 0)).1 9 1)) 4 2 ((sI (sI σ 4 0 (σ.1 9 0)) 4 1 ((sI σ 4 0 (σ.1 9 0)).1 9 1)).1 9 2)).1 9 3)).1 5) (0 : Int32).toNatClampNeg (0 : Int32).toNatClampNeg (16 : Int32).toNatClampNeg)) 6 (va_cpy ((sR (sI (sI (sI (sI σ 4 0 (σ.1 9 0)) 4 1 ((sI σ 4 0 (σ.1 9 0)).1 9 1)) 4 2 ((sI (sI σ 4 0 (σ.1 9 0)) 4 1 ((sI σ 4 0 (σ.1 9 0)).1 9 1)).1 9 2)) 4 3 ((sI (sI (sI σ 4 0 (σ.1 9 0)) 4 1 ((sI σ 4 0 (σ.1 9 0)).1 9 1)) 4 2 ((sI (sI σ 4 0 (σ.1 9 0)) 4 1 ((sI σ 4 0 (σ.1 9 0)).1 9 1)).1 9 2)).1 9 3)) 5 (va_cpy ((sI (sI (sI (sI σ 4 0 (σ.1 9 0)) 4 1 ((sI σ 4 0 (σ.1 9 0)).1 9 1)) 4 2 ((sI (sI σ 4 0 (σ.1 9 0)) 4 1 ((sI σ 4 0 (σ.1 9 0)).1 9 1)).1 9 2)) 4 3 ((sI (sI (sI σ 4 0 (σ.1 9 0)) 4 1 ((sI σ 4 0 (σ.1 9 0)).1 9 1)) 4 2 ((sI (sI σ 4 0 (σ.1 9 0)) 4 1 ((sI σ 4 0 (σ.1 9 0)).1 9 1)).1 9 2)).1 9 3)).1 10) ((sI (sI (sI (sI σ 4 0 (σ.1 9 0)) 4 1 ((sI σ 4 0 (σ.1 9 0)).1 9 1)) 4 2 ((sI (sI σ 4 0 (σ.1 9 0)) 4 1 ((sI σ 4 0 (σ.1 9 0)).1 9 1)).1 9 2)) 4 3 ((sI (sI (sI σ 4 0 (σ.1 9 0)) 4 1 ((sI σ 4 0 (σ.1 9 0)).1 9 1)) 4 2 ((sI (sI σ 4 0 (σ.1 9 0)) 4 1 ((sI σ 4 0 (σ.1 9 0)).1 9 1)).1 9 2)).1 9 3)).1 5) (0 : Int32).toNatClampNeg (0 : Int32).toNatClampNeg (16 : Int32).toNatClampNeg)).1 11) ((sR (sI (sI (sI (sI σ 4 0 (σ.1 9 0)) 4 1 ((sI σ 4 0 (σ.1 9 0)).1 9 1)) 4 2 ((sI (sI σ 4 0 (σ.1 9 0)) 4 1 ((sI σ 4 0 (σ.1 9 0)).1 9 1)).1 9 2)) 4 3 ((sI (sI (sI σ 4 0 (σ.1 9 0)) 4 1 ((sI σ 4 0 (σ.1 9 0)).1 9 1)) 4 2 ((sI (sI σ 4 0 (σ.1 9 0)) 4 1 ((sI σ 4 0 (σ.1 9 0)).1 9 1)).1 9 2)).1 9 3)) 5 (va_cpy ((sI (sI (sI (sI σ 4 0 (σ.1 9 0)) 4 1 ((sI σ 4 0 (σ.1 9 0)).1 9 1)) 4 2 ((sI (sI σ 4 0 (σ.1 9 0)) 4 1 ((sI σ 4 0 (σ.1 9 0)).1 9 1)).1 9 2)) 4 3 ((sI (sI (sI σ 4 0 (σ.1 9 0)) 4 1 ((sI σ 4 0 (σ.1 9 0)).1 9 1)) 4 2 ((sI (sI σ 4 0 (σ.1 9 0)) 4 1 ((sI σ 4 0 (σ.1 9 0)).1 9 1)).1 9 2)).1 9 3)).1 10) ((sI (sI (sI (sI σ 4 0 (σ.1 9 0)) 4 1 ((sI σ 4 0 (σ.1 9 0)).1 9 1)) 4 2 ((sI (sI σ 4 0 (σ.1 9 0)) 4 1 ((sI σ 4 0 (σ.1 9 0)).1 9 1)).1 9 2)) 4 3 ((sI (sI (sI σ 4 0 (σ.1 9 0)) 4 1 ((sI σ 4 0 (σ.1 9 0)).1 9 1)) 4 2 ((sI (sI σ 4 0 (σ.1 9 0)) 4 1 ((sI σ 4 0 (σ.1 9 0)).1 9 1)).1 9 2)).1 9 3)).1 5) (0 : Int32).toNatClampNeg (0 : Int32).toNatClampNeg (16 : Int32).toNatClampNeg)).1 6) (0 : Int32).toNatClampNeg (0 : Int32).toNatClampNeg (3 : Int32).toNatClampNeg)).1 7) (0 : Int32).toNatClampNeg (0 : Int32).toNatClampNeg (3 : Int32).toNatClampNeg)).1 13) ((sR (sR (sR (sI (sI (sI (sI σ 4 0 (σ.1 9 0)) 4 1 ((sI σ 4 0 (σ.1 9 0)).1 9 1)) 4 2 ((sI (sI σ 4 0 (σ.1 9 0)) 4 1 ((sI σ 4 0 (σ.1 9 0)).1 9 1)).1 9 2)) 4 3 ((sI (sI (sI σ 4 0 (σ.1 9 0)) 4 1 ((sI σ 4 0 (σ.1 9 0)).1 9 1)) 4 2 ((sI (sI σ 4 0 (σ.1 9 0)) 4 1 ((sI σ 4 0 (σ.1 9 0)).1 9 1)).1 9 2)).1 9 3)) 5 (va_cpy ((sI (sI (sI (sI σ 4 0 (σ.1 9 0)) 4 1 ((sI σ 4 0 (σ.1 9 0)).1 9 1)) 4 2 ((sI (sI σ 4 0 (σ.1 9 0)) 4 1 ((sI σ 4 0 (σ.1 9 0)).1 9 1)).1 9 2)) 4 3 ((sI (sI (sI σ 4 0 (σ.1 9 0)) 4 1 ((sI σ 4 0 (σ.1 9 0)).1 9 1)) 4 2 ((sI (sI σ 4 0 (σ.1 9 0)) 4 1 ((sI σ 4 0 (σ.1 9 0)).1 9 1)).1 9 2)).1 9 3)).1 10) ((sI (sI (sI (sI σ 4 0 (σ.1 9 0)) 4 1 ((sI σ 4 0 (σ.1 9 0)).1 9 1)) 4 2 ((sI (sI σ 4 0 (σ.1 9 0)) 4 1 ((sI σ 4 0 (σ.1 9 0)).1 9 1)).1 9 2)) 4 3 ((sI (sI (sI σ 4 0 (σ.1 9 0)) 4 1 ((sI σ 4 0 (σ.1 9 0)).1 9 1)) 4 2 ((sI (sI σ 4 0 (σ.1 9 0)) 4 1 ((sI σ 4 0 (σ.1 9 0)).1 9 1)).1 9 2)).1 9 3)).1 5) (0 : Int32).toNatClampNeg (0 : Int32).toNatClampNeg (16 : Int32).toNatClampNeg)) 6 (va_cpy ((sR (sI (sI (sI (sI σ 4 0 (σ.1 9 0)) 4 1 ((sI σ 4 0 (σ.1 9 0)).1 9 1)) 4 2 ((sI (sI σ 4 0 (σ.1 9 0)) 4 1 ((sI σ 4 0 (σ.1 9 0)).1 9 1)).1 9 2)) 4 3 ((sI (sI (sI σ 4 0 (σ.1 9 0)) 4 1 ((sI σ 4 0 (σ.1 9 0)).1 9 1)) 4 2 ((sI (sI σ 4 0 (σ.1 9 0)) 4 1 ((sI σ 4 0 (σ.1 9 0)).1 9 1)).1 9 2)).1 9 3)) 5 (va_cpy ((sI (sI (sI (sI σ 4 0 (σ.1 9 0)) 4 1 ((sI σ 4 0 (σ.1 9 0)).1 9 1)) 4 2 ((sI (sI σ 4 0 (σ.1 9 0)) 4 1 ((sI σ 4 0 (σ.1 9 0)).1 9 1)).1 9 2)) 4 3 ((sI (sI (sI σ 4 0 (σ.1 9 0)) 4 1 ((sI σ 4 0 (σ.1 9 0)).1 9 1)) 4 2 ((sI (sI σ 4 0 (σ.1 9 0)) 4 1 ((sI σ 4 0 (σ.1 9 0)).1 9 1)).1 9 2)).1 9 3)).1 10) ((sI (sI (sI (sI σ 4 0 (σ.1 9 0)) 4 1 ((sI σ 4 0 (σ.1 9 0)).1 9 1)) 4 2 ((sI (sI σ 4 0 (σ.1 9 0)) 4 1 ((sI σ 4 0 (σ.1 9 0)).1 9 1)).1 9 2)) 4 3 ((sI (sI (sI σ 4 0 (σ.1 9 0)) 4 1 ((sI σ 4 0 (σ.1 9 0)).1 9 1)) 4 2 ((sI (sI σ 4 0 (σ.1 9 0)) 4 1 ((sI σ 4 0 (σ.1 9 0)).1 9 1)).1 9 2)).1 9 3)).1 5) (0 : Int32).toNatClampNeg (0 : Int32).toNatClampNeg (16 : Int32).toNatClampNeg)).1 11) ((sR (sI (sI (sI (sI σ 4 0 (σ.1 9 0)) 4 1 ((sI σ 4 0 (σ.1 9 0)).1 9 1)) 4 2 ((sI (sI σ 4 0 (σ.1 9 0)) 4 1 ((sI σ 4 0 (σ.1 9 0)).1 9 1)).1 9 2)) 4 3 ((sI (sI (sI σ 4 0 (σ.1 9 0)) 4 1 ((sI σ 4 0 (σ.1 9 0)).1 9 1)) 4 2 ((sI (sI σ 4 0 (σ.1 9 0)) 4 1 ((sI σ 4 0 (σ.1 9 0)).1 9 1)).1 9 2)).1 9 3)) 5 (va_cpy ((sI (sI (sI (sI σ 4 0 (σ.1 9 0)) 4 1 ((sI σ 4 0 (σ.1 9 0)).1 9 1)) 4 2 ((sI (sI σ 4 0 (σ.1 9 0)) 4 1 ((sI σ 4 0 (σ.1 9 0)).1 9 1)).1 9 2)) 4 3 ((sI (sI (sI σ 4 0 (σ.1 9 0)) 4 1 ((sI σ 4 0 (σ.1 9 0)).1 9 1)) 4 2 ((sI (sI σ 4 0 (σ.1 9 0)) 4 1 ((sI σ 4 0 (σ.1 9 0)).1 9 1)).1 9 2)).1 9 3)).1 10) ((sI (sI (sI (sI σ 4 0 (σ.1 9 0)) 4 1 ((sI σ 4 0 (σ.1 9 0)).1 9 1)) 4 2 ((sI (sI σ 4 0 (σ.1 9 0)) 4 1 ((sI σ 4 0 (σ.1 9 0)).1 9 1)).1 9 2)) 4 3 ((sI (sI (sI σ 4 0 (σ.1 9 0)) 4 1 ((sI σ 4 0 (σ.1 9 0)).1 9 1)) 4 2 ((sI (sI σ 4 0 (σ.1 9 0)) 4 1 ((sI σ 4 0 (σ.1 9 0)).1 9 1)).1 9 2)).1 9 3)).1 5) (0 : Int32).toNatClampNeg (0 : Int32).toNatClampNeg (16 : Int32).toNatClampNeg)).1 6) (0 : Int32).toNatClampNeg (0 : Int32).toNatClampNeg (3 : Int32).toNatClampNeg)) 7 (va_cpy ((sR (sR (sI (sI (sI (sI σ 4 0 (σ.1 9 0)) 4 1 ((sI σ 4 0 (σ.1 9 0)).1 9 1)) 4 2 ((sI (sI σ 4 0 (σ.1 9 0)) 4 1 ((sI σ 4 0 (σ.1 9 0)).1 9 1)).1 9 2)) 4 3 ((sI (sI (sI σ 4 0 (σ.1 9 0)) 4 1 ((sI σ 4 0 (σ.1 9 0)).1 9 1)) 4 2 ((sI (sI σ 4 0 (σ.1 9 0)) 4 1 ((sI σ 4 0 (σ.1 9 0)).1 9 1)).1 9 2)).1 9 3)) 5 (va_cpy ((sI (sI (sI (sI σ 4 0 (σ.1 9 0)) 4 1 ((sI σ 4 0 (σ.1 9 0)).1 9 1)) 4 2 ((sI (sI σ 4 0 (σ.1 9 0)) 4 1 ((sI σ 4 0 (σ.1 9 0)).1 9 1)).1 9 2)) 4 3 ((sI (sI (sI σ 4 0 (σ.1 9 0)) 4 1 ((sI σ 4 0 (σ.1 9 0)).1 9 1)) 4 2 ((sI (sI σ 4 0 (σ.1 9 0)) 4 1 ((sI σ 4 0 (σ.1 9 0)).1 9 1)).1 9 2)).1 9 3)).1 10) ((sI (sI (sI (sI σ 4 0 (σ.1 9 0)) 4 1 ((sI σ 4 0 (σ.1 9 0)).1 9 1)) 4 2 ((sI (sI σ 4 0 (σ.1 9 0)) 4 1 ((sI σ 4 0 (σ.1 9 0)).1 9 1)).1 9 2)) 4 3 ((sI (sI (sI σ 4 0 (σ.1 9 0)) 4 1 ((sI σ 4 0 (σ.1 9 0)).1 9 1)) 4 2 ((sI (sI σ 4 0 (σ.1 9 0)) 4 1 ((sI σ 4 0 (σ.1 9 0)).1 9 1)).1 9 2)).1 9 3)).1 5) (0 : Int32).toNatClampNeg (0 : Int32).toNatClampNeg (16 : Int32).toNatClampNeg)) 6 (va_cpy ((sR (sI (sI (sI (sI σ 4 0 (σ.1 9 0)) 4 1 ((sI σ 4 0 (σ.1 9 0)).1 9 1)) 4 2 ((sI (sI σ 4 0 (σ.1 9 0)) 4 1 ((sI σ 4 0 (σ.1 9 0)).1 9 1)).1 9 2)) 4 3 ((sI (sI (sI σ 4 0 (σ.1 9 0)) 4 1 ((sI σ 4 0 (σ.1 9 0)).1 9 1)) 4 2 ((sI (sI σ 4 0 (σ.1 9 0)) 4 1 ((sI σ 4 0 (σ.1 9 0)).1 9 1)).1 9 2)).1 9 3)) 5 (va_cpy ((sI (sI (sI (sI σ 4 0 (σ.1 9 0)) 4 1 ((sI σ 4 0 (σ.1 9 0)).1 9 1)) 4 2 ((sI (sI σ 4 0 (σ.1 9 0)) 4 1 ((sI σ 4 0 (σ.1 9 0)).1 9 1)).1 9 2)) 4 3 ((sI (sI (sI σ 4 0 (σ.1 9 0)) 4 1 ((sI σ 4 0 (σ.1 9 0)).1 9 1)) 4 2 ((sI (sI σ 4 0 (σ.1 9 0)) 4 1 ((sI σ 4 0 (σ.1 9 0)).1 9 1)).1 9 2)).1 9 3)).1 10) ((sI (sI (sI (sI σ 4 0 (σ.1 9 0)) 4 1 ((sI σ 4 0 (σ.1 9 0)).1 9 1)) 4 2 ((sI (sI σ 4 0 (σ.1 9 0)) 4 1 ((sI σ 4 0 (σ.1 9 0)).1 9 1)).1 9 2)) 4 3 ((sI (sI (sI σ 4 0 (σ.1 9 0)) 4 1 ((sI σ 4 0 (σ.1 9 0)).1 9 1)) 4 2 ((sI (sI σ 4 0 (σ.1 9 0)) 4 1 ((sI σ 4 0 (σ.1 9 0)).1 9 1)).1 9 2)).1 9 3)).1 5) (0 : Int32).toNatClampNeg (0 : Int32).toNatClampNeg (16 : Int32).toNatClampNeg)).1 11) ((sR (sI (sI (sI (sI σ 4 0 (σ.1 9 0)) 4 1 ((sI σ 4 0 (σ.1 9 0)).1 9 1)) 4 2 ((sI (sI σ 4 0 (σ.1 9 0)) 4 1 ((sI σ 4 0 (σ.1 9 0)).1 9 1)).1 9 2)) 4 3 ((sI (sI (sI σ 4 0 (σ.1 9 0)) 4 1 ((sI σ 4 0 (σ.1 9 0)).1 9 1)) 4 2 ((sI (sI σ 4 0 (σ.1 9 0)) 4 1 ((sI σ 4 0 (σ.1 9 0)).1 9 1)).1 9 2)).1 9 3)) 5 (va_cpy ((sI (sI (sI (sI σ 4 0 (σ.1 9 0)) 4 1 ((sI σ 4 0 (σ.1 9 0)).1 9 1)) 4 2 ((sI (sI σ 4 0 (σ.1 9 0)) 4 1 ((sI σ 4 0 (σ.1 9 0)).1 9 1)).1 9 2)) 4 3 ((sI (sI (sI σ 4 0 (σ.1 9 0)) 4 1 ((sI σ 4 0 (σ.1 9 0)).1 9 1)) 4 2 ((sI (sI σ 4 0 (σ.1 9 0)) 4 1 ((sI σ 4 0 (σ.1 9 0)).1 9 1)).1 9 2)).1 9 3)).1 10) ((sI (sI (sI (sI σ 4 0 (σ.1 9 0)) 4 1 ((sI σ 4 0 (σ.1 9 0)).1 9 1)) 4 2 ((sI (sI σ 4 0 (σ.1 9 0)) 4 1 ((sI σ 4 0 (σ.1 9 0)).1 9 1)).1 9 2)) 4 3 ((sI (sI (sI σ 4 0 (σ.1 9 0)) 4 1 ((sI σ 4 0 (σ.1 9 0)).1 9 1)) 4 2 ((sI (sI σ 4 0 (σ.1 9 0)) 4 1 ((sI σ 4 0 (σ.1 9 0)).1 9 1)).1 9 2)).1 9 3)).1 5) (0 : Int32).toNatClampNeg (0 : Int32).toNatClampNeg (16 : Int32).toNatClampNeg)).1 6) (0 : Int32).toNatClampNeg (0 : Int32).toNatClampNeg (3 : Int32).toNatClampNeg)).1 12) ((sR (sR (sI (sI (sI (sI σ 4 0 (σ.1 9 0)) 4 1 ((sI σ 4 0 (σ.1 9 0)).1 9 1)) 4 2 ((sI (sI σ 4 0 (σ.1 9 0)) 4 1 ((sI σ 4 0 (σ.1 9 0)).1 9 1)).1 9 2)) 4 3 ((sI (sI (sI σ 4 0 (σ.1 9 0)) 4 1 ((sI σ 4 0 (σ.1 9 0)).1 9 1)) 4 2 ((sI (sI σ 4 0 (σ.1 9 0)) 4 1 ((sI σ 4 0 (σ.1 9 0)).1 9 1)).1 9 2)).1 9 3)) 5 (va_cpy ((sI (sI (sI (sI σ 4 0 (σ.1 9 0)) 4 1 ((sI σ 4 0 (σ.1 9 0)).1 9 1)) 4 2 ((sI (sI σ 4 0 (σ.1 9 0)) 4 1 ((sI σ 4 0 (σ.1 9 0)).1 9 1)).1 9 2)) 4 3 ((sI (sI (sI σ 4 0 (σ.1 9 0)) 4 1 ((sI σ 4 0 (σ.1 9 0)).1 9 1)) 4 2 ((sI (sI σ 4 0 (σ.1 9 0)) 4 1 ((sI σ 4 0 (σ.1 9 0)).1 9 1)).1 9 2)).1 9 3)).1 10) ((sI (sI (sI (sI σ 4 0 (σ.1 9 0)) 4 1 ((sI σ 4 0 (σ.1 9 0)).1 9 1)) 4 2 ((sI (sI σ 4 0 (σ.1 9 0)) 4 1 ((sI σ 4 0 (σ.1 9 0)).1 9 1)).1 9 2)) 4 3 ((sI (sI (sI σ 4 0 (σ.1 9 0)) 4 1 ((sI σ 4 0 (σ.1 9 0)).1 9 1)) 4 2 ((sI (sI σ 4 0 (σ.1 9 0)) 4 1 ((sI σ 4 0 (σ.1 9 0)).1 9 1)).1 9 2)).1 9 3)).1 5) (0 : Int32).toNatClampNeg (0 : Int32).toNatClampNeg (16 : Int32).toNatClampNeg)) 6 (va_cpy ((sR (sI (sI (sI (sI σ 4 0 (σ.1 9 0)) 4 1 ((sI σ 4 0 (σ.1 9 0)).1 9 1)) 4 2 ((sI (sI σ 4 0 (σ.1 9 0)) 4 1 ((sI σ 4 0 (σ.1 9 0)).1 9 1)).1 9 2)) 4 3 ((sI (sI (sI σ 4 0 (σ.1 9 0)) 4 1 ((sI σ 4 0 (σ.1 9 0)).1 9 1)) 4 2 ((sI (sI σ 4 0 (σ.1 9 0)) 4 1 ((sI σ 4 0 (σ.1 9 0)).1 9 1)).1 9 2)).1 9 3)) 5 (va_cpy ((sI (sI (sI (sI σ 4 0 (σ.1 9 0)) 4 1 ((sI σ 4 0 (σ.1 9 0)).1 9 1)) 4 2 ((sI (sI σ 4 0 (σ.1 9 0)) 4 1 ((sI σ 4 0 (σ.1 9 0)).1 9 1)).1 9 2)) 4 3 ((sI (sI (sI σ 4 0 (σ.1 9 0)) 4 1 ((sI σ 4 0 (σ.1 9 0)).1 9 1)) 4 2 ((sI (sI σ 4 0 (σ.1 9 0)) 4 1 ((sI σ 4 0 (σ.1 9 0)).1 9 1)).1 9 2)).1 9 3)).1 10) ((sI (sI (sI (sI σ 4 0 (σ.1 9 0)) 4 1 ((sI σ 4 0 (σ.1 9 0)).1 9 1)) 4 2 ((sI (sI σ 4 0 (σ.1 9 0)) 4 1 ((sI σ 4 0 (σ.1 9 0)).1 9 1)).1 9 2)) 4 3 ((sI (sI (sI σ 4 0 (σ.1 9 0)) 4 1 ((sI σ 4 0 (σ.1 9 0)).1 9 1)) 4 2 ((sI (sI σ 4 0 (σ.1 9 0)) 4 1 ((sI σ 4 0 (σ.1 9 0)).1 9 1)).1 9 2)).1 9 3)).1 5) (0 : Int32).toNatClampNeg (0 : Int32).toNatClampNeg (16 : Int32).toNatClampNeg)).1 11) ((sR (sI (sI (sI (sI σ 4 0 (σ.1 9 0)) 4 1 ((sI σ 4 0 (σ.1 9 0)).1 9 1)) 4 2 ((sI (sI σ 4 0 (σ.1 9 0)) 4 1 ((sI σ 4 0 (σ.1 9 0)).1 9 1)).1 9 2)) 4 3 ((sI (sI (sI σ 4 0 (σ.1 9 0)) 4 1 ((sI σ 4 0 (σ.1 9 0)).1 9 1)) 4 2 ((sI (sI σ 4 0 (σ.1 9 0)) 4 1 ((sI σ 4 0 (σ.1 9 0)).1 9 1)).1 9 2)).1 9 3)) 5 (va_cpy ((sI (sI (sI (sI σ 4 0 (σ.1 9 0)) 4 1 ((sI σ 4 0 (σ.1 9 0)).1 9 1)) 4 2 ((sI (sI σ 4 0 (σ.1 9 0)) 4 1 ((sI σ 4 0 (σ.1 9 0)).1 9 1)).1 9 2)) 4 3 ((sI (sI (sI σ 4 0 (σ.1 9 0)) 4 1 ((sI σ 4 0 (σ.1 9 0)).1 9 1)) 4 2 ((sI (sI σ 4 0 (σ.1 9 0)) 4 1 ((sI σ 4 0 (σ.1 9 0)).1 9 1)).1 9 2)).1 9 3)).1 10) ((sI (sI (sI (sI σ 4 0 (σ.1 9 0)) 4 1 ((sI σ 4 0 (σ.1 9 0)).1 9 1)) 4 2 ((sI (sI σ 4 0 (σ.1 9 0)) 4 1 ((sI σ 4 0 (σ.1 9 0)).1 9 1)).1 9 2)) 4 3 ((sI (sI (sI σ 4 0 (σ.1 9 0)) 4 1 ((sI σ 4 0 (σ.1 9 0)).1 9 1)) 4 2 ((sI (sI σ 4 0 (σ.1 9 0)) 4 1 ((sI σ 4 0 (σ.1 9 0)).1 9 1)).1 9 2)).1 9 3)).1 5) (0 : Int32).toNatClampNeg (0 : Int32).toNatClampNeg (16 : Int32).toNatClampNeg)).1 6) (0 : Int32).toNatClampNeg (0 : Int32).toNatClampNeg (3 : Int32).toNatClampNeg)).1 7) (0 : Int32).toNatClampNeg (0 : Int32).toNatClampNeg (3 : Int32).toNatClampNeg)).1 8) (0 : Int32).toNatClampNeg (0 : Int32).toNatClampNeg (3 : Int32).toNatClampNeg))))))
def wp_X2_leans_b12 (Q : Int32 → St → Prop) (K12 : Int32 → Int32 → Int32 → St → Prop) (x2 : Int32) (x3 : Int32) (x4 : Int32) (σ : St) : Prop :=
  
    (((σ.1 4 1) ≤ x4 → Q x3 σ) ∧ (¬ (σ.1 4 1) ≤ x4 → (vp_in x2 3 ∧ (vp_in x4 16 ∧ (vp_in x2 3 ∧ (vp_in (x4 - 1) 16 ∧ 
    (((σ.1 (21 + 1 + (x2).toNatClampNeg) x4.toNatClampNeg) = (σ.1 (21 + 1 + (x2).toNatClampNeg) (x4 - 1).toNatClampNeg) → K12 (x2) (x3) (x4 + 1) (σ)) ∧ (¬ (σ.1 (21 + 1 + (x2).toNatClampNeg) x4.toNatClampNeg) = (σ.1 (21 + 1 + (x2).toNatClampNeg) (x4 - 1).toNatClampNeg) → K12 (x2) (x3 + 1) (x4 + 1) (σ)))))))))
def wp_X2_leans_l12 (Q : Int32 → St → Prop) : Nat → Int32 → Int32 → Int32 → St → Prop
  | 0, _, _, _, _ => False
  | n + 1, x2, x3, x4, σ => wp_X2_leans_b12 Q (wp_X2_leans_l12 Q  n) x2 x3 x4 σ
def wp_X2_leans (x2 : Int32) (Q : Int32 → St → Prop) (σ : St) : Prop :=
  (vp_in x2 3 ∧ (∃ n : Nat, wp_X2_leans_l12 Q n (x2) (0) ((σ.1 6 x2.toNatClampNeg) + 1) (σ)))
def wp_X2_bends_b12 (Q : Int32 → St → Prop) (K12 : Int32 → Int32 → Int32 → St → Prop) (x2 : Int32) (x3 : Int32) (x4 : Int32) (σ : St) : Prop :=
  
    (((σ.1 4 1) ≤ x4 → Q x3 σ) ∧ (¬ (σ.1 4 1) ≤ x4 → (vp_in x2 3 ∧ (vp_in (x4 - 1) 16 ∧ (vp_in x2 3 ∧ (vp_in (x4 - 2) 16 ∧ (∀ v44 : Int32, v44 = (σ.1 (21 + 1 + (x2).toNatClampNeg) (x4 - 1).toNatClampNeg) - (σ.1 (21 + 1 + (x2).toNatClampNeg) (x4 - 2).toNatClampNeg) → (vp_in x2 3 ∧ (vp_in x4 16 ∧ (vp_in x2 3 ∧ (vp_in (x4 - 1) 16 ∧ 
    ((((σ.1 (21 + 1 + (x2).toNatClampNeg) x4.toNatClampNeg) - (σ.1 (21 + 1 + (x2).toNatClampNeg) (x4 - 1).toNatClampNeg)) = v44 → K12 (x2) (x3) (x4 + 1) (σ)) ∧ (¬ ((σ.1 (21 + 1 + (x2).toNatClampNeg) x4.toNatClampNeg) - (σ.1 (21 + 1 + (x2).toNatClampNeg) (x4 - 1).toNatClampNeg)) = v44 → K12 (x2) (x3 + 1) (x4 + 1) (σ))))))))))))))
def wp_X2_bends_l12 (Q : Int32 → St → Prop) : Nat → Int32 → Int32 → Int32 → St → Prop
  | 0, _, _, _, _ => False
  | n + 1, x2, x3, x4, σ => wp_X2_bends_b12 Q (wp_X2_bends_l12 Q  n) x2 x3 x4 σ
def wp_X2_bends (x2 : Int32) (Q : Int32 → St → Prop) (σ : St) : Prop :=
  (vp_in x2 3 ∧ (∃ n : Nat, wp_X2_bends_l12 Q n (x2) (0) ((σ.1 6 x2.toNatClampNeg) + 2) (σ)))
def wp_X2_coldCourses_b10 (Q : Int32 → St → Prop) (K10 : Int32 → Int32 → Int32 → St → Prop) (x2 : Int32) (x3 : Int32) (x4 : Int32) (σ : St) : Prop :=
  
    (((σ.1 4 1) ≤ x4 → Q x3 σ) ∧ (¬ (σ.1 4 1) ≤ x4 → (vp_in x2 3 ∧ (vp_in x4 16 ∧ (wp_X4_isCold (σ.1 (21 + 1 + (x2).toNatClampNeg) x4.toNatClampNeg) (fun r29 σ29 =>
    
    ((r29 = 0 → K10 (x2) (x3) (x4 + 1) (σ29)) ∧ (¬ r29 = 0 → K10 (x2) (x3 + 1) (x4 + 1) (σ29)))) σ)))))
def wp_X2_coldCourses_l10 (Q : Int32 → St → Prop) : Nat → Int32 → Int32 → Int32 → St → Prop
  | 0, _, _, _, _ => False
  | n + 1, x2, x3, x4, σ => wp_X2_coldCourses_b10 Q (wp_X2_coldCourses_l10 Q  n) x2 x3 x4 σ
def wp_X2_coldCourses (x2 : Int32) (Q : Int32 → St → Prop) (σ : St) : Prop :=
  (vp_in x2 3 ∧ (∃ n : Nat, wp_X2_coldCourses_l10 Q n (x2) (0) (σ.1 6 x2.toNatClampNeg) (σ)))
def wp_X2_goStraightUp_b31 (Q : St → Prop) (K2 : Int32 → St → Prop) (x2 : Int32) (s0 : Int32) (z1 : Nat) (σ : St) : Prop :=
  (wp_fillI z1 16 s0 (fun σ31 => K2 (x2 + 1) (σ31)) σ)
def wp_X2_goStraightUp_b2 (Q : St → Prop) (K2 : Int32 → St → Prop) (x2 : Int32) (σ : St) : Prop :=
  
    (((3 : Int32) ≤ x2 → Q σ) ∧ (¬ (3 : Int32) ≤ x2 → (vp_in x2 3 ∧ (wp_X4_hasHearth x2 (fun r15 σ15 =>
    
    ((r15 = 0 → wp_X2_goStraightUp_b31 Q K2 (x2) (0) (21 + 1 + (x2).toNatClampNeg) (σ15)) ∧ (¬ r15 = 0 → (vp_in x2 3 ∧ wp_X2_goStraightUp_b31 Q K2 (x2) (σ15.1 7 x2.toNatClampNeg) (21 + 1 + (x2).toNatClampNeg) (σ15))))) σ))))
def wp_X2_goStraightUp_l2 (Q : St → Prop) : Nat → Int32 → St → Prop
  | 0, _, _ => False
  | n + 1, x2, σ => wp_X2_goStraightUp_b2 Q (wp_X2_goStraightUp_l2 Q  n) x2 σ
def wp_X2_goStraightUp (Q : St → Prop) (σ : St) : Prop :=
  (∃ n : Nat, wp_X2_goStraightUp_l2 Q n (0) (σ))
def wp_X2_copyFrom_28_20_b2 (Q : St → Prop) (K2 : Int32 → St → Prop) (x2 : Int32) (σ : St) : Prop :=
  
    (((3 : Int32) ≤ x2 → ((¬ (0 : Int32) < 0 ∧ ¬ (0 : Int32) < 0 ∧ ¬ (6 : Int32) < 0 ∧ (0 : Int32).toNatClampNeg + (6 : Int32).toNatClampNeg ≤ 6 ∧ (0 : Int32).toNatClampNeg + (6 : Int32).toNatClampNeg ≤ 6) ∧ ((¬ (0 : Int32) < 0 ∧ ¬ (0 : Int32) < 0 ∧ ¬ (6 : Int32) < 0 ∧ (0 : Int32).toNatClampNeg + (6 : Int32).toNatClampNeg ≤ 6 ∧ (0 : Int32).toNatClampNeg + (6 : Int32).toNatClampNeg ≤ 6) ∧ Q (sI (sR (sR σ 33 (va_cpy (σ.1 25) (σ.1 33) (0 : Int32).toNatClampNeg (0 : Int32).toNatClampNeg (6 : Int32).toNatClampNeg)) 34 (va_cpy ((sR σ 33 (va_cpy (σ.1 25) (σ.1 33) (0 : Int32).toNatClampNeg (0 : Int32).toNatClampNeg (6 : Int32).toNatClampNeg)).1 26) ((sR σ 33 (va_cpy (σ.1 25) (σ.1 33) (0 : Int32).toNatClampNeg (0 : Int32).toNatClampNeg (6 : Int32).toNatClampNeg)).1 34) (0 : Int32).toNatClampNeg (0 : Int32).toNatClampNeg (6 : Int32).toNatClampNeg)) 28 3 ((sR (sR σ 33 (va_cpy (σ.1 25) (σ.1 33) (0 : Int32).toNatClampNeg (0 : Int32).toNatClampNeg (6 : Int32).toNatClampNeg)) 34 (va_cpy ((sR σ 33 (va_cpy (σ.1 25) (σ.1 33) (0 : Int32).toNatClampNeg (0 : Int32).toNatClampNeg (6 : Int32).toNatClampNeg)).1 26) ((sR σ 33 (va_cpy (σ.1 25) (σ.1 33) (0 : Int32).toNatClampNeg (0 : Int32).toNatClampNeg (6 : Int32).toNatClampNeg)).1 34) (0 : Int32).toNatClampNeg (0 : Int32).toNatClampNeg (6 : Int32).toNatClampNeg)).1 20 3))))) ∧ (¬ (3 : Int32) ≤ x2 → (vp_in x2 3 ∧ (vp_in x2 3 ∧ ((¬ (0 : Int32) < 0 ∧ ¬ (0 : Int32) < 0 ∧ ¬ (16 : Int32) < 0 ∧ (0 : Int32).toNatClampNeg + (16 : Int32).toNatClampNeg ≤ 16 ∧ (0 : Int32).toNatClampNeg + (16 : Int32).toNatClampNeg ≤ 16) ∧ K2 (x2 + 1) (sR σ (29 + 1 + (x2).toNatClampNeg) (va_cpy (σ.1 (21 + 1 + (x2).toNatClampNeg)) (σ.1 (29 + 1 + (x2).toNatClampNeg)) (0 : Int32).toNatClampNeg (0 : Int32).toNatClampNeg (16 : Int32).toNatClampNeg)))))))
def wp_X2_copyFrom_28_20_l2 (Q : St → Prop) : Nat → Int32 → St → Prop
  | 0, _, _ => False
  | n + 1, x2, σ => wp_X2_copyFrom_28_20_b2 Q (wp_X2_copyFrom_28_20_l2 Q  n) x2 σ
def wp_X2_copyFrom_28_20 (Q : St → Prop) (σ : St) : Prop :=
  (∃ n : Nat, wp_X2_copyFrom_28_20_l2 Q n (0) (σ))
def wp_X2_copyFrom_35_20_b2 (Q : St → Prop) (K2 : Int32 → St → Prop) (x2 : Int32) (σ : St) : Prop :=
  
    (((3 : Int32) ≤ x2 → ((¬ (0 : Int32) < 0 ∧ ¬ (0 : Int32) < 0 ∧ ¬ (6 : Int32) < 0 ∧ (0 : Int32).toNatClampNeg + (6 : Int32).toNatClampNeg ≤ 6 ∧ (0 : Int32).toNatClampNeg + (6 : Int32).toNatClampNeg ≤ 6) ∧ ((¬ (0 : Int32) < 0 ∧ ¬ (0 : Int32) < 0 ∧ ¬ (6 : Int32) < 0 ∧ (0 : Int32).toNatClampNeg + (6 : Int32).toNatClampNeg ≤ 6 ∧ (0 : Int32).toNatClampNeg + (6 : Int32).toNatClampNeg ≤ 6) ∧ Q (sI (sR (sR σ 40 (va_cpy (σ.1 25) (σ.1 40) (0 : Int32).toNatClampNeg (0 : Int32).toNatClampNeg (6 : Int32).toNatClampNeg)) 41 (va_cpy ((sR σ 40 (va_cpy (σ.1 25) (σ.1 40) (0 : Int32).toNatClampNeg (0 : Int32).toNatClampNeg (6 : Int32).toNatClampNeg)).1 26) ((sR σ 40 (va_cpy (σ.1 25) (σ.1 40) (0 : Int32).toNatClampNeg (0 : Int32).toNatClampNeg (6 : Int32).toNatClampNeg)).1 41) (0 : Int32).toNatClampNeg (0 : Int32).toNatClampNeg (6 : Int32).toNatClampNeg)) 35 3 ((sR (sR σ 40 (va_cpy (σ.1 25) (σ.1 40) (0 : Int32).toNatClampNeg (0 : Int32).toNatClampNeg (6 : Int32).toNatClampNeg)) 41 (va_cpy ((sR σ 40 (va_cpy (σ.1 25) (σ.1 40) (0 : Int32).toNatClampNeg (0 : Int32).toNatClampNeg (6 : Int32).toNatClampNeg)).1 26) ((sR σ 40 (va_cpy (σ.1 25) (σ.1 40) (0 : Int32).toNatClampNeg (0 : Int32).toNatClampNeg (6 : Int32).toNatClampNeg)).1 41) (0 : Int32).toNatClampNeg (0 : Int32).toNatClampNeg (6 : Int32).toNatClampNeg)).1 20 3))))) ∧ (¬ (3 : Int32) ≤ x2 → (vp_in x2 3 ∧ (vp_in x2 3 ∧ ((¬ (0 : Int32) < 0 ∧ ¬ (0 : Int32) < 0 ∧ ¬ (16 : Int32) < 0 ∧ (0 : Int32).toNatClampNeg + (16 : Int32).toNatClampNeg ≤ 16 ∧ (0 : Int32).toNatClampNeg + (16 : Int32).toNatClampNeg ≤ 16) ∧ K2 (x2 + 1) (sR σ (36 + 1 + (x2).toNatClampNeg) (va_cpy (σ.1 (21 + 1 + (x2).toNatClampNeg)) (σ.1 (36 + 1 + (x2).toNatClampNeg)) (0 : Int32).toNatClampNeg (0 : Int32).toNatClampNeg (16 : Int32).toNatClampNeg)))))))
def wp_X2_copyFrom_35_20_l2 (Q : St → Prop) : Nat → Int32 → St → Prop
  | 0, _, _ => False
  | n + 1, x2, σ => wp_X2_copyFrom_35_20_b2 Q (wp_X2_copyFrom_35_20_l2 Q  n) x2 σ
def wp_X2_copyFrom_35_20 (Q : St → Prop) (σ : St) : Prop :=
  (∃ n : Nat, wp_X2_copyFrom_35_20_l2 Q n (0) (σ))
def wp_X2_copyFrom_20_28_b2 (Q : St → Prop) (K2 : Int32 → St → Prop) (x2 : Int32) (σ : St) : Prop :=
  
    (((3 : Int32) ≤ x2 → ((¬ (0 : Int32) < 0 ∧ ¬ (0 : Int32) < 0 ∧ ¬ (6 : Int32) < 0 ∧ (0 : Int32).toNatClampNeg + (6 : Int32).toNatClampNeg ≤ 6 ∧ (0 : Int32).toNatClampNeg + (6 : Int32).toNatClampNeg ≤ 6) ∧ ((¬ (0 : Int32) < 0 ∧ ¬ (0 : Int32) < 0 ∧ ¬ (6 : Int32) < 0 ∧ (0 : Int32).toNatClampNeg + (6 : Int32).toNatClampNeg ≤ 6 ∧ (0 : Int32).toNatClampNeg + (6 : Int32).toNatClampNeg ≤ 6) ∧ Q (sI (sR (sR σ 25 (va_cpy (σ.1 33) (σ.1 25) (0 : Int32).toNatClampNeg (0 : Int32).toNatClampNeg (6 : Int32).toNatClampNeg)) 26 (va_cpy ((sR σ 25 (va_cpy (σ.1 33) (σ.1 25) (0 : Int32).toNatClampNeg (0 : Int32).toNatClampNeg (6 : Int32).toNatClampNeg)).1 34) ((sR σ 25 (va_cpy (σ.1 33) (σ.1 25) (0 : Int32).toNatClampNeg (0 : Int32).toNatClampNeg (6 : Int32).toNatClampNeg)).1 26) (0 : Int32).toNatClampNeg (0 : Int32).toNatClampNeg (6 : Int32).toNatClampNeg)) 20 3 ((sR (sR σ 25 (va_cpy (σ.1 33) (σ.1 25) (0 : Int32).toNatClampNeg (0 : Int32).toNatClampNeg (6 : Int32).toNatClampNeg)) 26 (va_cpy ((sR σ 25 (va_cpy (σ.1 33) (σ.1 25) (0 : Int32).toNatClampNeg (0 : Int32).toNatClampNeg (6 : Int32).toNatClampNeg)).1 34) ((sR σ 25 (va_cpy (σ.1 33) (σ.1 25) (0 : Int32).toNatClampNeg (0 : Int32).toNatClampNeg (6 : Int32).toNatClampNeg)).1 26) (0 : Int32).toNatClampNeg (0 : Int32).toNatClampNeg (6 : Int32).toNatClampNeg)).1 28 3))))) ∧ (¬ (3 : Int32) ≤ x2 → (vp_in x2 3 ∧ (vp_in x2 3 ∧ ((¬ (0 : Int32) < 0 ∧ ¬ (0 : Int32) < 0 ∧ ¬ (16 : Int32) < 0 ∧ (0 : Int32).toNatClampNeg + (16 : Int32).toNatClampNeg ≤ 16 ∧ (0 : Int32).toNatClampNeg + (16 : Int32).toNatClampNeg ≤ 16) ∧ K2 (x2 + 1) (sR σ (21 + 1 + (x2).toNatClampNeg) (va_cpy (σ.1 (29 + 1 + (x2).toNatClampNeg)) (σ.1 (21 + 1 + (x2).toNatClampNeg)) (0 : Int32).toNatClampNeg (0 : Int32).toNatClampNeg (16 : Int32).toNatClampNeg)))))))
def wp_X2_copyFrom_20_28_l2 (Q : St → Prop) : Nat → Int32 → St → Prop
  | 0, _, _ => False
  | n + 1, x2, σ => wp_X2_copyFrom_20_28_b2 Q (wp_X2_copyFrom_20_28_l2 Q  n) x2 σ
def wp_X2_copyFrom_20_28 (Q : St → Prop) (σ : St) : Prop :=
  (∃ n : Nat, wp_X2_copyFrom_20_28_l2 Q n (0) (σ))
def wp_X2_copyFrom_20_35_b2 (Q : St → Prop) (K2 : Int32 → St → Prop) (x2 : Int32) (σ : St) : Prop :=
  
    (((3 : Int32) ≤ x2 → ((¬ (0 : Int32) < 0 ∧ ¬ (0 : Int32) < 0 ∧ ¬ (6 : Int32) < 0 ∧ (0 : Int32).toNatClampNeg + (6 : Int32).toNatClampNeg ≤ 6 ∧ (0 : Int32).toNatClampNeg + (6 : Int32).toNatClampNeg ≤ 6) ∧ ((¬ (0 : Int32) < 0 ∧ ¬ (0 : Int32) < 0 ∧ ¬ (6 : Int32) < 0 ∧ (0 : Int32).toNatClampNeg + (6 : Int32).toNatClampNeg ≤ 6 ∧ (0 : Int32).toNatClampNeg + (6 : Int32).toNatClampNeg ≤ 6) ∧ Q (sI (sR (sR σ 25 (va_cpy (σ.1 40) (σ.1 25) (0 : Int32).toNatClampNeg (0 : Int32).toNatClampNeg (6 : Int32).toNatClampNeg)) 26 (va_cpy ((sR σ 25 (va_cpy (σ.1 40) (σ.1 25) (0 : Int32).toNatClampNeg (0 : Int32).toNatClampNeg (6 : Int32).toNatClampNeg)).1 41) ((sR σ 25 (va_cpy (σ.1 40) (σ.1 25) (0 : Int32).toNatClampNeg (0 : Int32).toNatClampNeg (6 : Int32).toNatClampNeg)).1 26) (0 : Int32).toNatClampNeg (0 : Int32).toNatClampNeg (6 : Int32).toNatClampNeg)) 20 3 ((sR (sR σ 25 (va_cpy (σ.1 40) (σ.1 25) (0 : Int32).toNatClampNeg (0 : Int32).toNatClampNeg (6 : Int32).toNatClampNeg)) 26 (va_cpy ((sR σ 25 (va_cpy (σ.1 40) (σ.1 25) (0 : Int32).toNatClampNeg (0 : Int32).toNatClampNeg (6 : Int32).toNatClampNeg)).1 41) ((sR σ 25 (va_cpy (σ.1 40) (σ.1 25) (0 : Int32).toNatClampNeg (0 : Int32).toNatClampNeg (6 : Int32).toNatClampNeg)).1 26) (0 : Int32).toNatClampNeg (0 : Int32).toNatClampNeg (6 : Int32).toNatClampNeg)).1 35 3))))) ∧ (¬ (3 : Int32) ≤ x2 → (vp_in x2 3 ∧ (vp_in x2 3 ∧ ((¬ (0 : Int32) < 0 ∧ ¬ (0 : Int32) < 0 ∧ ¬ (16 : Int32) < 0 ∧ (0 : Int32).toNatClampNeg + (16 : Int32).toNatClampNeg ≤ 16 ∧ (0 : Int32).toNatClampNeg + (16 : Int32).toNatClampNeg ≤ 16) ∧ K2 (x2 + 1) (sR σ (21 + 1 + (x2).toNatClampNeg) (va_cpy (σ.1 (36 + 1 + (x2).toNatClampNeg)) (σ.1 (21 + 1 + (x2).toNatClampNeg)) (0 : Int32).toNatClampNeg (0 : Int32).toNatClampNeg (16 : Int32).toNatClampNeg)))))))
def wp_X2_copyFrom_20_35_l2 (Q : St → Prop) : Nat → Int32 → St → Prop
  | 0, _, _ => False
  | n + 1, x2, σ => wp_X2_copyFrom_20_35_b2 Q (wp_X2_copyFrom_20_35_l2 Q  n) x2 σ
def wp_X2_copyFrom_20_35 (Q : St → Prop) (σ : St) : Prop :=
  (∃ n : Nat, wp_X2_copyFrom_20_35_l2 Q n (0) (σ))
def wp_X0_crosses_b80 (Q : Int32 → St → Prop) (s0 : Int32) (s1 : Int32) (σ : St) : Prop :=
  
    ((s1 = s0 → Q (0 : Int32) σ) ∧ (¬ s1 = s0 → Q (1 : Int32) σ))
def wp_X0_crosses_b62 (Q : Int32 → St → Prop) (x4 : Int32) (y5 : Nat) (y6 : Nat) (s0 : Int32) (σ : St) : Prop :=
  (vp_in x4 16 ∧ (vp_in x4 16 ∧ 
    (((σ.1 y6 x4.toNatClampNeg) ≤ (σ.1 y5 x4.toNatClampNeg) → wp_X0_crosses_b80 Q (0) (s0) (σ)) ∧ (¬ (σ.1 y6 x4.toNatClampNeg) ≤ (σ.1 y5 x4.toNatClampNeg) → wp_X0_crosses_b80 Q (1) (s0) (σ)))))
def wp_X0_crosses (x2 : Int32) (x3 : Int32) (x4 : Int32) (Q : Int32 → St → Prop) (σ : St) : Prop :=
  (vp_in x2 3 ∧ 
    ((x4 ≤ (σ.1 6 x2.toNatClampNeg) → Q (0 : Int32) σ) ∧ (¬ x4 ≤ (σ.1 6 x2.toNatClampNeg) → (vp_in x3 3 ∧ 
    (((σ.1 6 x3.toNatClampNeg) < x4 → (vp_in x2 3 ∧ (vp_in x3 3 ∧ (vp_in (x4 - 1) 16 ∧ (vp_in (x4 - 1) 16 ∧ 
    (((σ.1 (21 + 1 + (x3).toNatClampNeg) (x4 - 1).toNatClampNeg) ≤ (σ.1 (21 + 1 + (x2).toNatClampNeg) (x4 - 1).toNatClampNeg) → wp_X0_crosses_b62 Q (x4) (21 + 1 + (x2).toNatClampNeg) (21 + 1 + (x3).toNatClampNeg) (0) (σ)) ∧ (¬ (σ.1 (21 + 1 + (x3).toNatClampNeg) (x4 - 1).toNatClampNeg) ≤ (σ.1 (21 + 1 + (x2).toNatClampNeg) (x4 - 1).toNatClampNeg) → wp_X0_crosses_b62 Q (x4) (21 + 1 + (x2).toNatClampNeg) (21 + 1 + (x3).toNatClampNeg) (1) (σ)))))))) ∧ (¬ (σ.1 6 x3.toNatClampNeg) < x4 → Q (0 : Int32) σ))))))
def wp_X0_troubleOf_b87 (Q : Int32 → St → Prop) (K87 : Int32 → Int32 → Int32 → St → Prop) (x3 : Int32) (x4 : Int32) (x6 : Int32) (σ : St) : Prop :=
  
    ((x3 ≤ x6 → Q (0 : Int32) σ) ∧ (¬ x3 ≤ x6 → (wp_X0_crosses x3 x6 x4 (fun r100 σ100 =>
    
    ((r100 = 0 → K87 (x3) (x4) (x6 + 1) (σ100)) ∧ (¬ r100 = 0 → Q (4 : Int32) σ100))) σ)))
def wp_X0_troubleOf_l87 (Q : Int32 → St → Prop) : Nat → Int32 → Int32 → Int32 → St → Prop
  | 0, _, _, _, _ => False
  | n + 1, x3, x4, x6, σ => wp_X0_troubleOf_b87 Q (wp_X0_troubleOf_l87 Q  n) x3 x4 x6 σ
def wp_X0_troubleOf_b38 (Q : Int32 → St → Prop) (K38 : Int32 → Int32 → Int32 → Int32 → Int32 → St → Prop) (x2 : Int32) (x3 : Int32) (x4 : Int32) (x5 : Int32) (x6 : Int32) (σ : St) : Prop :=
  
    ((x3 ≤ x6 → (∃ n : Nat, wp_X0_troubleOf_l87 Q n (x3) (x4) (0) (σ))) ∧ (¬ x3 ≤ x6 → (wp_X4_reaches x6 (x4.toInt64) (fun r50 σ50 =>
    
    ((r50 = 0 → K38 (x2) (x3) (x4) (x5) (x6 + 1) (σ50)) ∧ (¬ r50 = 0 → (vp_in x6 3 ∧ (vp_in x4 16 ∧ (∀ v69 : Int32, v69 = (if 0 ≤ (x5 - (σ50.1 (21 + 1 + (x6).toNatClampNeg) x4.toNatClampNeg)) then (x5 - (σ50.1 (21 + 1 + (x6).toNatClampNeg) x4.toNatClampNeg)) else 0 - (x5 - (σ50.1 (21 + 1 + (x6).toNatClampNeg) x4.toNatClampNeg))) → 
    ((x2 < v69 → K38 (x2) (x3) (x4) (x5) (x6 + 1) (σ50)) ∧ (¬ x2 < v69 → Q (3 : Int32) σ50)))))))) σ)))
def wp_X0_troubleOf_l38 (Q : Int32 → St → Prop) : Nat → Int32 → Int32 → Int32 → Int32 → Int32 → St → Prop
  | 0, _, _, _, _, _, _ => False
  | n + 1, x2, x3, x4, x5, x6, σ => wp_X0_troubleOf_b38 Q (wp_X0_troubleOf_l38 Q  n) x2 x3 x4 x5 x6 σ
def wp_X0_troubleOf (x2 : Int32) (x3 : Int32) (x4 : Int32) (Q : Int32 → St → Prop) (σ : St) : Prop :=
  (vp_in x3 3 ∧ (vp_in x4 16 ∧ (∀ v9 : Int32, v9 = σ.1 (21 + 1 + (x3).toNatClampNeg) x4.toNatClampNeg → (wp_X4_hasColumn v9 (fun r14 σ14 =>
    
    ((r14 = 0 → Q (1 : Int32) σ14) ∧ (¬ r14 = 0 → (wp_X4_isFree x4 v9 (fun r27 σ27 =>
    
    ((r27 = 0 → Q (2 : Int32) σ27) ∧ (¬ r27 = 0 → (∃ n : Nat, wp_X0_troubleOf_l38 Q n (x2) (x3) (x4) (v9) (0) (σ27))))) σ14)))) σ))))
def wp_X0_findsNone_b51 (Q : Int32 → St → Prop) (K3 : Int32 → Int32 → St → Prop) (K15 : Int32 → Int32 → Int32 → St → Prop) (x3 : Int32) (x4 : Int32) (x5 : Int32) (s0 : Int32) (σ : St) : Prop :=
  
    ((((sI (sI (sI σ 27 0 s0) 27 1 x5) 27 2 x4).1 27 0) = 0 → K15 (x3) (x4) (x5 + 1) (sI (sI (sI σ 27 0 s0) 27 1 x5) 27 2 x4)) ∧ (¬ ((sI (sI (sI σ 27 0 s0) 27 1 x5) 27 2 x4).1 27 0) = 0 → Q (0 : Int32) (sI (sI (sI σ 27 0 s0) 27 1 x5) 27 2 x4)))
def wp_X0_findsNone_b15 (Q : Int32 → St → Prop) (K3 : Int32 → Int32 → St → Prop) (K15 : Int32 → Int32 → Int32 → St → Prop) (x3 : Int32) (x4 : Int32) (x5 : Int32) (σ : St) : Prop :=
  
    (((σ.1 4 3) ≤ x5 → K3 (x3) (x4 + 1) (σ)) ∧ (¬ (σ.1 4 3) ≤ x5 → (wp_X4_reaches x5 (x4.toInt64) (fun r31 σ31 =>
    
    ((r31 = 0 → wp_X0_findsNone_b51 Q K3 K15 (x3) (x4) (x5) (0) (σ31)) ∧ (¬ r31 = 0 → (wp_X0_troubleOf x3 x5 x4 (fun r44 σ44 =>
    wp_X0_findsNone_b51 Q K3 K15 (x3) (x4) (x5) (r44) (σ44)) σ31)))) σ)))
def wp_X0_findsNone_l15 (Q : Int32 → St → Prop) (K3 : Int32 → Int32 → St → Prop) : Nat → Int32 → Int32 → Int32 → St → Prop
  | 0, _, _, _, _ => False
  | n + 1, x3, x4, x5, σ => wp_X0_findsNone_b15 Q K3 (wp_X0_findsNone_l15 Q K3 n) x3 x4 x5 σ
def wp_X0_findsNone_b3 (Q : Int32 → St → Prop) (K3 : Int32 → Int32 → St → Prop) (x3 : Int32) (x4 : Int32) (σ : St) : Prop :=
  
    (((σ.1 4 1) ≤ x4 → Q (1 : Int32) σ) ∧ (¬ (σ.1 4 1) ≤ x4 → (∃ n : Nat, wp_X0_findsNone_l15 Q K3 n (x3) (x4) (0) (σ))))
def wp_X0_findsNone_l3 (Q : Int32 → St → Prop) : Nat → Int32 → Int32 → St → Prop
  | 0, _, _, _ => False
  | n + 1, x3, x4, σ => wp_X0_findsNone_b3 Q (wp_X0_findsNone_l3 Q  n) x3 x4 σ
def wp_X0_findsNone (x3 : Int32) (Q : Int32 → St → Prop) (σ : St) : Prop :=
  (∃ n : Nat, wp_X0_findsNone_l3 Q n (x3) (0) (σ))
def wp_X5_isOpen (x1 : Int32) (x2 : Int32) (Q : Int32 → St → Prop) (σ : St) : Prop :=
  
    ((x2 < 0 → Q (0 : Int32) σ) ∧ (¬ x2 < 0 → 
    (((σ.1 43 4) ≤ x2 → Q (0 : Int32) σ) ∧ (¬ (σ.1 43 4) ≤ x2 → (vp_in x1 16 ∧ 
    (((((σ.1 44 x1.toNatClampNeg) >>> (x2 &&& 31)) &&& 1) = 0 → Q (0 : Int32) σ) ∧ (¬ (((σ.1 44 x1.toNatClampNeg) >>> (x2 &&& 31)) &&& 1) = 0 → Q (1 : Int32) σ)))))))
def wp_X5_numberBelow_b39 (Q : Int64 → St → Prop) (x1 : Int32) (x2 : Int64) (s0 : Int64) (σ : St) : Prop :=
  (vp_in x1 10 ∧ Q ((x2 + (σ.2 45 x1.toNatClampNeg)) + s0) σ)
def wp_X5_numberBelow_b16 (Q : Int64 → St → Prop) (x1 : Int32) (s0 : Int64) (σ : St) : Prop :=
  
    (((σ.1 43 4) ≤ (x1 + 1) → wp_X5_numberBelow_b39 Q (x1) (s0) (0) (σ)) ∧ (¬ (σ.1 43 4) ≤ (x1 + 1) → (vp_in (x1 + 1) 10 ∧ wp_X5_numberBelow_b39 Q (x1) (s0) (σ.2 45 (x1 + 1).toNatClampNeg) (σ))))
def wp_X5_numberBelow (x1 : Int32) (Q : Int64 → St → Prop) (σ : St) : Prop :=
  
    ((x1 ≤ 0 → wp_X5_numberBelow_b16 Q (x1) (0) (σ)) ∧ (¬ x1 ≤ 0 → (vp_in (x1 - 1) 10 ∧ wp_X5_numberBelow_b16 Q (x1) (σ.2 45 (x1 - 1).toNatClampNeg) (σ))))
def wp_X5_place (x0 : Int32) (x1 : Int32) (x2 : Int32) (Q : Int32 → St → Prop) (σ : St) : Prop :=
  Q ((((x0 * 10) + x1) * 4) + x2) σ
def wp_X5_restBy_b66 (Q : Int32 → St → Prop) (x4 : Int32) (x5 : Int32) (x6 : Int32) (s0 : Int32) (σ : St) : Prop :=
  (¬ (4 : Int32) = 0 ∧ Q (((((x5 / 4) + x6) + s0) * 4) + x4) σ)
def wp_X5_restBy_b53 (Q : Int32 → St → Prop) (x4 : Int32) (x5 : Int32) (s0 : Int32) (σ : St) : Prop :=
  
    ((x4 = (1 : Int32) → wp_X5_restBy_b66 Q (x4) (x5) (s0) (0) (σ)) ∧ (¬ x4 = (1 : Int32) → wp_X5_restBy_b66 Q (x4) (x5) (s0) (1) (σ)))
def wp_X5_restBy_b52 (Q : Int32 → St → Prop) (x4 : Int32) (x5 : Int32) (σ : St) : Prop :=
  wp_X5_restBy_b53 Q (x4) (x5) (0) (σ)
def wp_X5_restBy (x1 : Int32) (x2 : Int32) (x3 : Int32) (x4 : Int32) (Q : Int32 → St → Prop) (σ : St) : Prop :=
  (wp_X5_isOpen x1 x2 (fun r3 σ3 =>
    
    ((r3 = 0 → Q (1000000 : Int32) σ3) ∧ (¬ r3 = 0 → (wp_X5_place x1 x2 x4 (fun r20 σ20 =>
    (vp_in r20 640 ∧ 
    (((σ20.1 47 r20.toNatClampNeg) < (1000000 : Int32) → 
    ((x3 = (3 : Int32) → wp_X5_restBy_b52 Q (x4) (σ20.1 47 r20.toNatClampNeg) (σ20)) ∧ (¬ x3 = (3 : Int32) → 
    ((x3 = x4 → wp_X5_restBy_b52 Q (x4) (σ20.1 47 r20.toNatClampNeg) (σ20)) ∧ (¬ x3 = x4 → wp_X5_restBy_b53 Q (x4) (σ20.1 47 r20.toNatClampNeg) (100) (σ20)))))) ∧ (¬ (σ20.1 47 r20.toNatClampNeg) < (1000000 : Int32) → Q (1000000 : Int32) σ20)))) σ3)))) σ)
def wp_X5_leastRest_b17 (Q : Int32 → St → Prop) (K17 : Int32 → Int32 → Int32 → Int32 → Int32 → St → Prop) (x1 : Int32) (x2 : Int32) (x3 : Int32) (x4 : Int32) (x5 : Int32) (σ : St) : Prop :=
  
    (((3 : Int32) ≤ x5 → Q x4 σ) ∧ (¬ (3 : Int32) ≤ x5 → (wp_X5_restBy (x1 + 1) ((x2 + x5) - 1) x3 x5 (fun r38 σ38 =>
    K17 (x1) (x2) (x3) ((if r38 < x4 then r38 else x4)) (x5 + 1) (σ38)) σ)))
def wp_X5_leastRest_l17 (Q : Int32 → St → Prop) : Nat → Int32 → Int32 → Int32 → Int32 → Int32 → St → Prop
  | 0, _, _, _, _, _, _ => False
  | n + 1, x1, x2, x3, x4, x5, σ => wp_X5_leastRest_b17 Q (wp_X5_leastRest_l17 Q  n) x1 x2 x3 x4 x5 σ
def wp_X5_leastRest (x1 : Int32) (x2 : Int32) (x3 : Int32) (Q : Int32 → St → Prop) (σ : St) : Prop :=
  
    ((x1 = (σ.1 43 6) → Q (0 : Int32) σ) ∧ (¬ x1 = (σ.1 43 6) → (∃ n : Nat, wp_X5_leastRest_l17 Q n (x1) (x2) (x3) (1000000) (0) (σ))))
def wp_X5_walk_b22 (Q : St → Prop) (K22 : Int32 → Int32 → Int32 → St → Prop) (x1 : Int32) (x2 : Int32) (x3 : Int32) (σ : St) : Prop :=
  
    (((σ.1 43 6) ≤ x3 → Q σ) ∧ (¬ (σ.1 43 6) ≤ x3 → (wp_X5_isOpen x3 x1 (fun r33 σ33 =>
    
    ((r33 = 0 → Q σ33) ∧ (¬ r33 = 0 → (wp_X5_place x3 x1 x2 (fun r46 σ46 =>
    (vp_in r46 640 ∧ (¬ (4 : Int32) = 0 ∧ (∀ v52 : Int32, v52 = (σ46.1 47 r46.toNatClampNeg) - (σ46.1 47 r46.toNatClampNeg) / 4 * 4 → (vp_in (x3 + 1) 16 ∧ K22 (x1 + (v52 - 1)) (v52) (x3 + 1) (sI σ46 48 (x3 + 1).toNatClampNeg (x1 + (v52 - 1)))))))) σ33)))) σ)))
def wp_X5_walk_l22 (Q : St → Prop) : Nat → Int32 → Int32 → Int32 → St → Prop
  | 0, _, _, _, _ => False
  | n + 1, x1, x2, x3, σ => wp_X5_walk_b22 Q (wp_X5_walk_l22 Q  n) x1 x2 x3 σ
def wp_X5_walk (Q : St → Prop) (σ : St) : Prop :=
  (vp_in (σ.1 43 5) 16 ∧ (∀ v21 : Int32, v21 = (sI σ 48 (σ.1 43 5).toNatClampNeg (σ.1 43 7)).1 43 5 → (∃ n : Nat, wp_X5_walk_l22 Q n (σ.1 43 7) (3) (v21) (sI σ 48 (σ.1 43 5).toNatClampNeg (σ.1 43 7)))))
def wp_X5_findFewestBends_b42 (Q : Int32 → St → Prop) (K22 : Int32 → St → Prop) (K32 : Int32 → Int32 → St → Prop) (K42 : Int32 → Int32 → Int32 → St → Prop) (x1 : Int32) (x2 : Int32) (x3 : Int32) (σ : St) : Prop :=
  
    (((4 : Int32) ≤ x3 → K32 (x1) (x2 + 1) (σ)) ∧ (¬ (4 : Int32) ≤ x3 → (wp_X5_place x1 x2 x3 (fun r54 σ54 =>
    (wp_X5_leastRest x1 x2 x3 (fun r61 σ61 =>
    (vp_in r54 640 ∧ K42 (x1) (x2) (x3 + 1) (sI σ61 47 r54.toNatClampNeg r61))) σ54)) σ)))
def wp_X5_findFewestBends_l42 (Q : Int32 → St → Prop) (K22 : Int32 → St → Prop) (K32 : Int32 → Int32 → St → Prop) : Nat → Int32 → Int32 → Int32 → St → Prop
  | 0, _, _, _, _ => False
  | n + 1, x1, x2, x3, σ => wp_X5_findFewestBends_b42 Q K22 K32 (wp_X5_findFewestBends_l42 Q K22 K32 n) x1 x2 x3 σ
def wp_X5_findFewestBends_b32 (Q : Int32 → St → Prop) (K22 : Int32 → St → Prop) (K32 : Int32 → Int32 → St → Prop) (x1 : Int32) (x2 : Int32) (σ : St) : Prop :=
  
    (((σ.1 43 4) ≤ x2 → K22 (x1 + (-1)) (σ)) ∧ (¬ (σ.1 43 4) ≤ x2 → (∃ n : Nat, wp_X5_findFewestBends_l42 Q K22 K32 n (x1) (x2) (0) (σ))))
def wp_X5_findFewestBends_l32 (Q : Int32 → St → Prop) (K22 : Int32 → St → Prop) : Nat → Int32 → Int32 → St → Prop
  | 0, _, _, _ => False
  | n + 1, x1, x2, σ => wp_X5_findFewestBends_b32 Q K22 (wp_X5_findFewestBends_l32 Q K22 n) x1 x2 σ
def wp_X5_findFewestBends_b22 (Q : Int32 → St → Prop) (K22 : Int32 → St → Prop) (x1 : Int32) (σ : St) : Prop :=
  
    ((x1 < (σ.1 43 5) → (wp_X5_place (σ.1 43 5) (σ.1 43 7) (3 : Int32) (fun r96 σ96 =>
    (vp_in r96 640 ∧ 
    (((σ96.1 47 r96.toNatClampNeg) < (1000000 : Int32) → (¬ (4 : Int32) = 0 ∧ (¬ (100 : Int32) = 0 ∧ (¬ (4 : Int32) = 0 ∧ (¬ (100 : Int32) = 0 ∧ (wp_X5_walk  (fun σ130 => Q (1 : Int32) σ130) (sI (sI σ96 43 9 (((σ96.1 47 r96.toNatClampNeg) / 4) / 100)) 43 10 (((σ96.1 47 r96.toNatClampNeg) / 4) - ((σ96.1 47 r96.toNatClampNeg) / 4) / 100 * 100)))))))) ∧ (¬ (σ96.1 47 r96.toNatClampNeg) < (1000000 : Int32) → Q (0 : Int32) σ96)))) σ)) ∧ (¬ x1 < (σ.1 43 5) → (∃ n : Nat, wp_X5_findFewestBends_l32 Q K22 n (x1) (0) (σ))))
def wp_X5_findFewestBends_l22 (Q : Int32 → St → Prop) : Nat → Int32 → St → Prop
  | 0, _, _ => False
  | n + 1, x1, σ => wp_X5_findFewestBends_b22 Q (wp_X5_findFewestBends_l22 Q  n) x1 σ
def wp_X5_findFewestBends (Q : Int32 → St → Prop) (σ : St) : Prop :=
  (wp_X5_isOpen (σ.1 43 5) (σ.1 43 7) (fun r9 σ9 =>
    
    ((r9 = 0 → Q (0 : Int32) σ9) ∧ (¬ r9 = 0 → (∃ n : Nat, wp_X5_findFewestBends_l22 Q n (σ9.1 43 6) (σ9))))) σ)
def wp_X5_number_b119 (Q : Int64 → St → Prop) (K119 : Int64 → Int32 → St → Prop) (x1 : Int64) (x3 : Int32) (σ : St) : Prop :=
  
    (((σ.1 43 4) ≤ x3 → Q x1 σ) ∧ (¬ (σ.1 43 4) ≤ x3 → (vp_in x3 10 ∧ K119 (x1 + (σ.2 45 x3.toNatClampNeg)) (x3 + 1) (σ))))
def wp_X5_number_l119 (Q : Int64 → St → Prop) : Nat → Int64 → Int32 → St → Prop
  | 0, _, _, _ => False
  | n + 1, x1, x3, σ => wp_X5_number_b119 Q (wp_X5_number_l119 Q  n) x1 x3 σ
def wp_X5_number_b54 (Q : Int64 → St → Prop) (K44 : Int32 → St → Prop) (K54 : Int32 → Int32 → St → Prop) (x1 : Int32) (x2 : Int32) (σ : St) : Prop :=
  
    (((σ.1 43 4) ≤ x2 → ((¬ (0 : Int32) < 0 ∧ ¬ (0 : Int32) < 0 ∧ ¬ (σ.1 43 4 : Int32) < 0 ∧ (0 : Int32).toNatClampNeg + (σ.1 43 4 : Int32).toNatClampNeg ≤ 10 ∧ (0 : Int32).toNatClampNeg + (σ.1 43 4 : Int32).toNatClampNeg ≤ 10) ∧ K44 (x1 + 1) (sL σ 45 (va_cpy (σ.2 46) (σ.2 45) (0 : Int32).toNatClampNeg (0 : Int32).toNatClampNeg (σ.1 43 4 : Int32).toNatClampNeg)))) ∧ (¬ (σ.1 43 4) ≤ x2 → (wp_X5_isOpen x1 x2 (fun r70 σ70 =>
    
    ((r70 = 0 → (vp_in x2 10 ∧ K54 (x1) (x2 + 1) (sJ σ70 46 x2.toNatClampNeg (0 : Int64)))) ∧ (¬ r70 = 0 → (wp_X5_numberBelow x2 (fun r78 σ78 =>
    (vp_in x2 10 ∧ K54 (x1) (x2 + 1) (sJ σ78 46 x2.toNatClampNeg r78))) σ70)))) σ)))
def wp_X5_number_l54 (Q : Int64 → St → Prop) (K44 : Int32 → St → Prop) : Nat → Int32 → Int32 → St → Prop
  | 0, _, _, _ => False
  | n + 1, x1, x2, σ => wp_X5_number_b54 Q K44 (wp_X5_number_l54 Q K44 n) x1 x2 σ
def wp_X5_number_b44 (Q : Int64 → St → Prop) (K44 : Int32 → St → Prop) (x1 : Int32) (σ : St) : Prop :=
  
    (((σ.1 43 6) < x1 → (∃ n : Nat, wp_X5_number_l119 Q n (0) (0) (σ))) ∧ (¬ (σ.1 43 6) < x1 → (∃ n : Nat, wp_X5_number_l54 Q K44 n (x1) (0) (σ))))
def wp_X5_number_l44 (Q : Int64 → St → Prop) : Nat → Int32 → St → Prop
  | 0, _, _ => False
  | n + 1, x1, σ => wp_X5_number_b44 Q (wp_X5_number_l44 Q  n) x1 σ
def wp_X5_number_b36 (Q : Int64 → St → Prop) (s0 : Int64) (s1 : Int32) (σ : St) : Prop :=
  (vp_in s1 10 ∧ (∀ v43 : Int32, v43 = ((sJ σ 45 s1.toNatClampNeg s0).1 43 5) + 1 → (∃ n : Nat, wp_X5_number_l44 Q n (v43) (sJ σ 45 s1.toNatClampNeg s0))))
def wp_X5_number (Q : Int64 → St → Prop) (σ : St) : Prop :=
  (wp_fillJ 45 10 (0 : Int64) (fun σ5 => (wp_X5_isOpen (σ5.1 43 5) (σ5.1 43 7) (fun r25 σ25 =>
    
    ((r25 = 0 → wp_X5_number_b36 Q (0) (σ5.1 43 7) (σ25)) ∧ (¬ r25 = 0 → wp_X5_number_b36 Q (1) (σ5.1 43 7) (σ25)))) σ5)) σ)
def wp_X5_prepare_b40 (Q : St → Prop) (K40 : Int32 → St → Prop) (x3 : Int32) (σ : St) : Prop :=
  
    (((σ.1 43 6) < x3 → Q σ) ∧ (¬ (σ.1 43 6) < x3 → (wp_X4_freeColumns x3 (fun r55 σ55 =>
    (vp_in x3 16 ∧ K40 (x3 + 1) (sI σ55 44 x3.toNatClampNeg r55))) σ)))
def wp_X5_prepare_l40 (Q : St → Prop) : Nat → Int32 → St → Prop
  | 0, _, _ => False
  | n + 1, x3, σ => wp_X5_prepare_b40 Q (wp_X5_prepare_l40 Q  n) x3 σ
def wp_X5_prepare (x2 : Int32) (Q : St → Prop) (σ : St) : Prop :=
  (vp_in x2 3 ∧ (vp_in x2 3 ∧ (∃ n : Nat, wp_X5_prepare_l40 Q n (0) (sI (sI (sI (sI σ 43 4 (σ.1 4 0)) 43 5 ((sI σ 43 4 (σ.1 4 0)).1 6 x2.toNatClampNeg)) 43 6 (((sI (sI σ 43 4 (σ.1 4 0)) 43 5 ((sI σ 43 4 (σ.1 4 0)).1 6 x2.toNatClampNeg)).1 4 1) - 1)) 43 7 ((sI (sI (sI σ 43 4 (σ.1 4 0)) 43 5 ((sI σ 43 4 (σ.1 4 0)).1 6 x2.toNatClampNeg)) 43 6 (((sI (sI σ 43 4 (σ.1 4 0)) 43 5 ((sI σ 43 4 (σ.1 4 0)).1 6 x2.toNatClampNeg)).1 4 1) - 1)).1 7 x2.toNatClampNeg)))))
def wp_X5_hear_b2 (Q : St → Prop) (K2 : Int32 → St → Prop) (x2 : Int32) (σ : St) : Prop :=
  
    (((σ.1 20 3) ≤ x2 → Q σ) ∧ (¬ (σ.1 20 3) ≤ x2 → (vp_in x2 6 ∧ (vp_in (σ.1 25 x2.toNatClampNeg) 16 ∧ (vp_in x2 6 ∧ (vp_in (σ.1 25 x2.toNatClampNeg) 16 ∧ K2 (x2 + 1) (sI σ 44 (σ.1 25 x2.toNatClampNeg).toNatClampNeg ((σ.1 44 (σ.1 25 x2.toNatClampNeg).toNatClampNeg) &&& ((1 : Int32) <<< ((σ.1 26 x2.toNatClampNeg) &&& 31))))))))))
def wp_X5_hear_l2 (Q : St → Prop) : Nat → Int32 → St → Prop
  | 0, _, _ => False
  | n + 1, x2, σ => wp_X5_hear_b2 Q (wp_X5_hear_l2 Q  n) x2 σ
def wp_X5_hear (Q : St → Prop) (σ : St) : Prop :=
  (∃ n : Nat, wp_X5_hear_l2 Q n (0) (σ))
def wp_X3_columnIn (x0 : Int32) (x1 : Int32) (Q : Int32 → St → Prop) (σ : St) : Prop :=
  
    ((x1 = 0 → (¬ (100 : Int32) = 0 ∧ Q (x0 / 100) σ)) ∧ (¬ x1 = 0 → 
    ((x1 = (1 : Int32) → (¬ (10 : Int32) = 0 ∧ (¬ (10 : Int32) = 0 ∧ Q ((x0 / 10) - (x0 / 10) / 10 * 10) σ))) ∧ (¬ x1 = (1 : Int32) → (¬ (10 : Int32) = 0 ∧ Q (x0 - x0 / 10 * 10) σ)))))
def wp_X3_lowest (x1 : Int32) (x2 : Int32) (x3 : Int32) (Q : Int32 → St → Prop) (σ : St) : Prop :=
  (vp_in x1 3 ∧ 
    ((x2 ≤ (σ.1 68 x1.toNatClampNeg) → Q (0 : Int32) σ) ∧ (¬ x2 ≤ (σ.1 68 x1.toNatClampNeg) → (∀ v14 : Int32, v14 = (if (0 : Int32) < (x3 - 1) then (x3 - 1) else (0 : Int32)) → Q v14 σ))))
def wp_X3_highest (x1 : Int32) (x2 : Int32) (x3 : Int32) (Q : Int32 → St → Prop) (σ : St) : Prop :=
  (vp_in x1 3 ∧ 
    (((σ.1 68 x1.toNatClampNeg) ≤ x2 → (vp_in x1 3 ∧ 
    ((x2 ≤ (σ.1 68 x1.toNatClampNeg) → Q (9 : Int32) σ) ∧ (¬ x2 ≤ (σ.1 68 x1.toNatClampNeg) → (∀ v27 : Int32, v27 = (if (x3 + 1) < (9 : Int32) then (x3 + 1) else (9 : Int32)) → Q v27 σ))))) ∧ (¬ (σ.1 68 x1.toNatClampNeg) ≤ x2 → Q (0 : Int32) σ)))
def wp_X3_leftBy (x1 : Int32) (x2 : Int32) (x3 : Int32) (x4 : Int32) (x5 : Int32) (Q : Int32 → St → Prop) (σ : St) : Prop :=
  (vp_in x1 3 ∧ 
    ((x4 < (σ.1 68 x1.toNatClampNeg) → Q (1023 : Int32) σ) ∧ (¬ x4 < (σ.1 68 x1.toNatClampNeg) → (vp_in x3 3 ∧ 
    (((σ.1 68 x3.toNatClampNeg) ≤ x4 → (∀ v34 : Int32, v34 = (if (0 : Int32) < (x2 - (σ.1 49 5)) then (x2 - (σ.1 49 5)) else (0 : Int32)) → (∀ v54 : Int32, v54 = (1023 : Int32) <<< (((x2 + (σ.1 49 5)) + 1) &&& 31) → (vp_in x1 3 ∧ 
    ((x4 = (σ.1 68 x1.toNatClampNeg) → Q ((((1 : Int32) <<< (v34 &&& 31)) - 1) ||| v54) σ) ∧ (¬ x4 = (σ.1 68 x1.toNatClampNeg) → (vp_in x3 3 ∧ 
    ((x4 = (σ.1 68 x3.toNatClampNeg) → Q ((((1 : Int32) <<< (v34 &&& 31)) - 1) ||| v54) σ) ∧ (¬ x4 = (σ.1 68 x3.toNatClampNeg) → 
    ((x5 = 0 → Q (((1 : Int32) <<< (v34 &&& 31)) - 1) σ) ∧ (¬ x5 = 0 → Q v54 σ))))))))))) ∧ (¬ (σ.1 68 x3.toNatClampNeg) ≤ x4 → Q (1023 : Int32) σ))))))
def wp_X3_lean (x1 : Int32) (x2 : Int32) (x3 : Int32) (Q : Int32 → St → Prop) (σ : St) : Prop :=
  (vp_in x1 3 ∧ 
    ((x2 ≤ (σ.1 68 x1.toNatClampNeg) → Q (0 : Int32) σ) ∧ (¬ x2 ≤ (σ.1 68 x1.toNatClampNeg) → 
    ((x3 = 0 → Q (0 : Int32) σ) ∧ (¬ x3 = 0 → Q (1 : Int32) σ)))))
def wp_X3_breadthOf_b8 (Q : Int32 → St → Prop) (K8 : Int32 → Int32 → Int32 → Int32 → St → Prop) (x1 : Int32) (x2 : Int32) (x3 : Int32) (x4 : Int32) (σ : St) : Prop :=
  
    (((3 : Int32) ≤ x4 → (∀ v62 : Int32, v62 = (if (1 : Int32) < ((x3 - x2) + 1) then ((x3 - x2) + 1) else (1 : Int32)) → Q v62 σ)) ∧ (¬ (3 : Int32) ≤ x4 → (vp_in x4 3 ∧ 
    (((σ.1 49 4) < (σ.1 68 x4.toNatClampNeg) → K8 (x1) (x2) (x3) (x4 + 1) (σ)) ∧ (¬ (σ.1 49 4) < (σ.1 68 x4.toNatClampNeg) → (wp_X3_columnIn x1 x4 (fun r32 σ32 =>
    (wp_X3_columnIn x1 x4 (fun r43 σ43 =>
    K8 (x1) ((if r32 < x2 then r32 else x2)) ((if x3 < r43 then r43 else x3)) (x4 + 1) (σ43)) σ32)) σ))))))
def wp_X3_breadthOf_l8 (Q : Int32 → St → Prop) : Nat → Int32 → Int32 → Int32 → Int32 → St → Prop
  | 0, _, _, _, _, _ => False
  | n + 1, x1, x2, x3, x4, σ => wp_X3_breadthOf_b8 Q (wp_X3_breadthOf_l8 Q  n) x1 x2 x3 x4 σ
def wp_X3_breadthOf (x1 : Int32) (Q : Int32 → St → Prop) (σ : St) : Prop :=
  (∃ n : Nat, wp_X3_breadthOf_l8 Q n (x1) (10) ((-1)) (0) (σ))
def wp_X3_restBy (Rw : Int32 → Int32 → (Int32 → St → Prop) → St → Prop) (x1 : Int32) (x2 : Int32) (x3 : Int32) (Q : Int32 → St → Prop) (σ : St) : Prop :=
  (Rw (x1 + 1) x2 (fun r5 σ5 =>
    
    ((r5 < (1000000000 : Int32) → (¬ (1000 : Int32) = 0 ∧ Q ((((r5 / 1000) + x3) * 1000) + x2) σ5)) ∧ (¬ r5 < (1000000000 : Int32) → Q (1000000000 : Int32) σ5))) σ)
def wp_X3_leastRest_b223 (Rw : Int32 → Int32 → (Int32 → St → Prop) → St → Prop) (Q : Int32 → St → Prop) (K60 : Int32 → Int32 → Int32 → Int32 → Int32 → Int32 → Int32 → Int32 → Int32 → Int32 → Int32 → St → Prop) (K151 : Int32 → Int32 → Int32 → Int32 → Int32 → Int32 → Int32 → Int32 → Int32 → Int32 → Int32 → Int32 → Int32 → Int32 → St → Prop) (K223 : Int32 → Int32 → Int32 → Int32 → Int32 → Int32 → Int32 → Int32 → Int32 → Int32 → Int32 → Int32 → Int32 → Int32 → Int32 → Int32 → Int32 → St → Prop) (x1 : Int32) (x2 : Int32) (x3 : Int32) (x4 : Int32) (x5 : Int32) (x6 : Int32) (x7 : Int32) (x8 : Int32) (x9 : Int32) (x10 : Int32) (x11 : Int32) (x12 : Int32) (x13 : Int32) (x14 : Int32) (x15 : Int32) (x16 : Int32) (x17 : Int32) (σ : St) : Prop :=
  
    ((x10 < x17 → K151 (x1) (x2) (x3) (x4) (x5) (x6) (x7) (x8) (x9) (x10) (x11) (x12) (x13) (x14 + 1) (σ)) ∧ (¬ x10 < x17 → 
    ((((x15 >>> (x17 &&& 31)) &&& 1) = 0 → K223 (x1) (x2) (x3) (x4) (x5) (x6) (x7) (x8) (x9) (x10) (x11) (x12) (x13) (x14) (x15) (x16) (x17 + 1) (σ)) ∧ (¬ ((x15 >>> (x17 &&& 31)) &&& 1) = 0 → (wp_X3_lean (2 : Int32) x1 (x17 - x4) (fun r253 σ253 =>
    (wp_X3_restBy Rw x1 (((x11 * 100) + (x14 * 10)) + x17) (x16 + r253) (fun r279 σ279 =>
    
    (((σ279.1 49 6) = 0 → K223 (x1) (x2) (x3) (x4) ((if r279 < x5 then r279 else x5)) (x6) (x7) (x8) (x9) (x10) (x11) (x12) (x13) (x14) (x15) (x16) (x17 + 1) (σ279)) ∧ (¬ (σ279.1 49 6) = 0 → 
    (((1000000000 : Int32) ≤ (if r279 < x5 then r279 else x5) → K223 (x1) (x2) (x3) (x4) ((if r279 < x5 then r279 else x5)) (x6) (x7) (x8) (x9) (x10) (x11) (x12) (x13) (x14) (x15) (x16) (x17 + 1) (σ279)) ∧ (¬ (1000000000 : Int32) ≤ (if r279 < x5 then r279 else x5) → Q (if r279 < x5 then r279 else x5) σ279))))) σ253)) σ)))))
def wp_X3_leastRest_l223 (Rw : Int32 → Int32 → (Int32 → St → Prop) → St → Prop) (Q : Int32 → St → Prop) (K60 : Int32 → Int32 → Int32 → Int32 → Int32 → Int32 → Int32 → Int32 → Int32 → Int32 → Int32 → St → Prop) (K151 : Int32 → Int32 → Int32 → Int32 → Int32 → Int32 → Int32 → Int32 → Int32 → Int32 → Int32 → Int32 → Int32 → Int32 → St → Prop) : Nat → Int32 → Int32 → Int32 → Int32 → Int32 → Int32 → Int32 → Int32 → Int32 → Int32 → Int32 → Int32 → Int32 → Int32 → Int32 → Int32 → Int32 → St → Prop
  | 0, _, _, _, _, _, _, _, _, _, _, _, _, _, _, _, _, _, _ => False
  | n + 1, x1, x2, x3, x4, x5, x6, x7, x8, x9, x10, x11, x12, x13, x14, x15, x16, x17, σ => wp_X3_leastRest_b223 Rw Q K60 K151 (wp_X3_leastRest_l223 Rw Q K60 K151 n) x1 x2 x3 x4 x5 x6 x7 x8 x9 x10 x11 x12 x13 x14 x15 x16 x17 σ
def wp_X3_leastRest_b190 (Rw : Int32 → Int32 → (Int32 → St → Prop) → St → Prop) (Q : Int32 → St → Prop) (K60 : Int32 → Int32 → Int32 → Int32 → Int32 → Int32 → Int32 → Int32 → Int32 → Int32 → Int32 → St → Prop) (K151 : Int32 → Int32 → Int32 → Int32 → Int32 → Int32 → Int32 → Int32 → Int32 → Int32 → Int32 → Int32 → Int32 → Int32 → St → Prop) (x1 : Int32) (x2 : Int32) (x3 : Int32) (x4 : Int32) (x5 : Int32) (x6 : Int32) (x7 : Int32) (x8 : Int32) (x9 : Int32) (x10 : Int32) (x11 : Int32) (x12 : Int32) (x13 : Int32) (x14 : Int32) (s0 : Int32) (s1 : Int32) (s2 : Int32) (s3 : Int32) (s4 : Int32) (s6 : Int32) (σ : St) : Prop :=
  (wp_X3_leftBy s4 s3 s2 s1 s0 (fun r190 σ190 =>
    (wp_X3_lean (0 : Int32) x1 (x11 - x2) (fun r203 σ203 =>
    (wp_X3_lean (1 : Int32) x1 (x14 - x3) (fun r213 σ213 =>
    (∃ n : Nat, wp_X3_leastRest_l223 Rw Q K60 K151 n (x1) (x2) (x3) (x4) (x5) (x6) (x7) (x8) (x9) (x10) (x11) (x12) (x13) (x14) (s6 &&& r190) (r203 + r213) (x9) (σ213))) σ203)) σ190)) σ)
def wp_X3_leastRest_b151 (Rw : Int32 → Int32 → (Int32 → St → Prop) → St → Prop) (Q : Int32 → St → Prop) (K60 : Int32 → Int32 → Int32 → Int32 → Int32 → Int32 → Int32 → Int32 → Int32 → Int32 → Int32 → St → Prop) (K151 : Int32 → Int32 → Int32 → Int32 → Int32 → Int32 → Int32 → Int32 → Int32 → Int32 → Int32 → Int32 → Int32 → Int32 → St → Prop) (x1 : Int32) (x2 : Int32) (x3 : Int32) (x4 : Int32) (x5 : Int32) (x6 : Int32) (x7 : Int32) (x8 : Int32) (x9 : Int32) (x10 : Int32) (x11 : Int32) (x12 : Int32) (x13 : Int32) (x14 : Int32) (σ : St) : Prop :=
  
    ((x8 < x14 → K60 (x1) (x2) (x3) (x4) (x5) (x6) (x7) (x8) (x9) (x10) (x11 + 1) (σ)) ∧ (¬ x8 < x14 → 
    ((((x12 >>> (x14 &&& 31)) &&& 1) = 0 → K151 (x1) (x2) (x3) (x4) (x5) (x6) (x7) (x8) (x9) (x10) (x11) (x12) (x13) (x14 + 1) (σ)) ∧ (¬ ((x12 >>> (x14 &&& 31)) &&& 1) = 0 → 
    ((x4 ≤ x3 → wp_X3_leastRest_b190 Rw Q K60 K151 (x1) (x2) (x3) (x4) (x5) (x6) (x7) (x8) (x9) (x10) (x11) (x12) (x13) (x14) (0) (x1) (2) (x14) (1) (x13) (σ)) ∧ (¬ x4 ≤ x3 → wp_X3_leastRest_b190 Rw Q K60 K151 (x1) (x2) (x3) (x4) (x5) (x6) (x7) (x8) (x9) (x10) (x11) (x12) (x13) (x14) (1) (x1) (2) (x14) (1) (x13) (σ)))))))
def wp_X3_leastRest_l151 (Rw : Int32 → Int32 → (Int32 → St → Prop) → St → Prop) (Q : Int32 → St → Prop) (K60 : Int32 → Int32 → Int32 → Int32 → Int32 → Int32 → Int32 → Int32 → Int32 → Int32 → Int32 → St → Prop) : Nat → Int32 → Int32 → Int32 → Int32 → Int32 → Int32 → Int32 → Int32 → Int32 → Int32 → Int32 → Int32 → Int32 → Int32 → St → Prop
  | 0, _, _, _, _, _, _, _, _, _, _, _, _, _, _, _ => False
  | n + 1, x1, x2, x3, x4, x5, x6, x7, x8, x9, x10, x11, x12, x13, x14, σ => wp_X3_leastRest_b151 Rw Q K60 (wp_X3_leastRest_l151 Rw Q K60 n) x1 x2 x3 x4 x5 x6 x7 x8 x9 x10 x11 x12 x13 x14 σ
def wp_X3_leastRest_b141 (Rw : Int32 → Int32 → (Int32 → St → Prop) → St → Prop) (Q : Int32 → St → Prop) (K60 : Int32 → Int32 → Int32 → Int32 → Int32 → Int32 → Int32 → Int32 → Int32 → Int32 → Int32 → St → Prop) (x1 : Int32) (x2 : Int32) (x3 : Int32) (x4 : Int32) (x5 : Int32) (x6 : Int32) (x7 : Int32) (x8 : Int32) (x9 : Int32) (x10 : Int32) (x11 : Int32) (x12 : Int32) (s0 : Int32) (s1 : Int32) (s2 : Int32) (s3 : Int32) (s4 : Int32) (s6 : Int32) (σ : St) : Prop :=
  (wp_X3_leftBy s4 s3 s2 s1 s0 (fun r141 σ141 =>
    (∃ n : Nat, wp_X3_leastRest_l151 Rw Q K60 n (x1) (x2) (x3) (x4) (x5) (x6) (x7) (x8) (x9) (x10) (x11) (x12) (s6 &&& r141) (x7) (σ141))) σ)
def wp_X3_leastRest_b110 (Rw : Int32 → Int32 → (Int32 → St → Prop) → St → Prop) (Q : Int32 → St → Prop) (K60 : Int32 → Int32 → Int32 → Int32 → Int32 → Int32 → Int32 → Int32 → Int32 → Int32 → Int32 → St → Prop) (x1 : Int32) (x2 : Int32) (x3 : Int32) (x4 : Int32) (x5 : Int32) (x6 : Int32) (x7 : Int32) (x8 : Int32) (x9 : Int32) (x10 : Int32) (x11 : Int32) (s0 : Int32) (s1 : Int32) (s2 : Int32) (s3 : Int32) (s4 : Int32) (s6 : Int32) (σ : St) : Prop :=
  (wp_X3_leftBy s4 s3 s2 s1 s0 (fun r110 σ110 =>
    (vp_in (2 : Int32) 3 ∧ (vp_in x1 16 ∧ 
    ((x4 ≤ x2 → wp_X3_leastRest_b141 Rw Q K60 (x1) (x2) (x3) (x4) (x5) (x6) (x7) (x8) (x9) (x10) (x11) (s6 &&& r110) (0) (x1) (2) (x11) (0) (σ110.1 (70 + 1 + (2 : Int32).toNatClampNeg) x1.toNatClampNeg) (σ110)) ∧ (¬ x4 ≤ x2 → wp_X3_leastRest_b141 Rw Q K60 (x1) (x2) (x3) (x4) (x5) (x6) (x7) (x8) (x9) (x10) (x11) (s6 &&& r110) (1) (x1) (2) (x11) (0) (σ110.1 (70 + 1 + (2 : Int32).toNatClampNeg) x1.toNatClampNeg) (σ110)))))) σ)
def wp_X3_leastRest_b60 (Rw : Int32 → Int32 → (Int32 → St → Prop) → St → Prop) (Q : Int32 → St → Prop) (K60 : Int32 → Int32 → Int32 → Int32 → Int32 → Int32 → Int32 → Int32 → Int32 → Int32 → Int32 → St → Prop) (x1 : Int32) (x2 : Int32) (x3 : Int32) (x4 : Int32) (x5 : Int32) (x6 : Int32) (x7 : Int32) (x8 : Int32) (x9 : Int32) (x10 : Int32) (x11 : Int32) (σ : St) : Prop :=
  
    ((x6 < x11 → Q x5 σ) ∧ (¬ x6 < x11 → (vp_in (0 : Int32) 3 ∧ (vp_in x1 16 ∧ 
    (((((σ.1 (70 + 1 + (0 : Int32).toNatClampNeg) x1.toNatClampNeg) >>> (x11 &&& 31)) &&& 1) = 0 → K60 (x1) (x2) (x3) (x4) (x5) (x6) (x7) (x8) (x9) (x10) (x11 + 1) (σ)) ∧ (¬ (((σ.1 (70 + 1 + (0 : Int32).toNatClampNeg) x1.toNatClampNeg) >>> (x11 &&& 31)) &&& 1) = 0 → (vp_in (1 : Int32) 3 ∧ (vp_in x1 16 ∧ 
    ((x3 ≤ x2 → wp_X3_leastRest_b110 Rw Q K60 (x1) (x2) (x3) (x4) (x5) (x6) (x7) (x8) (x9) (x10) (x11) (0) (x1) (1) (x11) (0) (σ.1 (70 + 1 + (1 : Int32).toNatClampNeg) x1.toNatClampNeg) (σ)) ∧ (¬ x3 ≤ x2 → wp_X3_leastRest_b110 Rw Q K60 (x1) (x2) (x3) (x4) (x5) (x6) (x7) (x8) (x9) (x10) (x11) (1) (x1) (1) (x11) (0) (σ.1 (70 + 1 + (1 : Int32).toNatClampNeg) x1.toNatClampNeg) (σ)))))))))))
def wp_X3_leastRest_l60 (Rw : Int32 → Int32 → (Int32 → St → Prop) → St → Prop) (Q : Int32 → St → Prop) : Nat → Int32 → Int32 → Int32 → Int32 → Int32 → Int32 → Int32 → Int32 → Int32 → Int32 → Int32 → St → Prop
  | 0, _, _, _, _, _, _, _, _, _, _, _, _ => False
  | n + 1, x1, x2, x3, x4, x5, x6, x7, x8, x9, x10, x11, σ => wp_X3_leastRest_b60 Rw Q (wp_X3_leastRest_l60 Rw Q  n) x1 x2 x3 x4 x5 x6 x7 x8 x9 x10 x11 σ
def wp_X3_leastRest (Rw : Int32 → Int32 → (Int32 → St → Prop) → St → Prop) (x1 : Int32) (x2 : Int32) (x3 : Int32) (x4 : Int32) (Q : Int32 → St → Prop) (σ : St) : Prop :=
  (wp_X3_highest (0 : Int32) x1 x2 (fun r8 σ8 =>
    (wp_X3_lowest (1 : Int32) x1 x3 (fun r17 σ17 =>
    (wp_X3_highest (1 : Int32) x1 x3 (fun r26 σ26 =>
    (wp_X3_lowest (2 : Int32) x1 x4 (fun r36 σ36 =>
    (wp_X3_highest (2 : Int32) x1 x4 (fun r46 σ46 =>
    (wp_X3_lowest (0 : Int32) x1 x2 (fun r55 σ55 =>
    (∃ n : Nat, wp_X3_leastRest_l60 Rw Q n (x1) (x2) (x3) (x4) (1000000000) (r8) (r17) (r26) (r36) (r46) (r55) (σ55))) σ46)) σ36)) σ26)) σ17)) σ8)) σ)
def wp_X3_restFromF_b86 (Rw : Int32 → Int32 → (Int32 → St → Prop) → St → Prop) (Q : Int32 → St → Prop) (x1 : Int32) (x2 : Int32) (σ : St) : Prop :=
  (vp_in x1 17 ∧ (vp_in x2 1000 ∧ Q (σ.1 (50 + 1 + (x1).toNatClampNeg) x2.toNatClampNeg) σ))
def wp_X3_restFromF_b85 (Rw : Int32 → Int32 → (Int32 → St → Prop) → St → Prop) (Q : Int32 → St → Prop) (x1 : Int32) (x2 : Int32) (s0 : Int32) (s1 : Int32) (z2 : Nat) (σ : St) : Prop :=
  (vp_in s1 1000 ∧ wp_X3_restFromF_b86 Rw Q (x1) (x2) (sI σ z2 s1.toNatClampNeg s0))
def wp_X3_restFromF (Rw : Int32 → Int32 → (Int32 → St → Prop) → St → Prop) (x1 : Int32) (x2 : Int32) (Q : Int32 → St → Prop) (σ : St) : Prop :=
  
    ((x1 < 0 → Q (1000000000 : Int32) σ) ∧ (¬ x1 < 0 → 
    (((16 : Int32) < x1 → Q (1000000000 : Int32) σ) ∧ (¬ (16 : Int32) < x1 → 
    ((x2 < 0 → Q (1000000000 : Int32) σ) ∧ (¬ x2 < 0 → 
    ((x2 < (1000 : Int32) → (vp_in x1 17 ∧ (vp_in x2 1000 ∧ 
    (((σ.1 (50 + 1 + (x1).toNatClampNeg) x2.toNatClampNeg) = 0 → (vp_in x1 17 ∧ 
    ((x1 ≤ (σ.1 49 4) → (wp_X3_columnIn x2 (0 : Int32) (fun r69 σ69 =>
    (wp_X3_columnIn x2 (1 : Int32) (fun r74 σ74 =>
    (wp_X3_columnIn x2 (2 : Int32) (fun r79 σ79 =>
    (wp_X3_leastRest Rw x1 r69 r74 r79 (fun r82 σ82 =>
    wp_X3_restFromF_b85 Rw Q (x1) (x2) (r82) (x2) (50 + 1 + (x1).toNatClampNeg) (σ82)) σ79)) σ74)) σ69)) σ)) ∧ (¬ x1 ≤ (σ.1 49 4) → (wp_X3_breadthOf x2 (fun r52 σ52 =>
    wp_X3_restFromF_b85 Rw Q (x1) (x2) ((r52 * 100) * 1000) (x2) (50 + 1 + (x1).toNatClampNeg) (σ52)) σ))))) ∧ (¬ (σ.1 (50 + 1 + (x1).toNatClampNeg) x2.toNatClampNeg) = 0 → wp_X3_restFromF_b86 Rw Q (x1) (x2) (σ)))))) ∧ (¬ x2 < (1000 : Int32) → Q (1000000000 : Int32) σ))))))))
def wp_restN : Nat → Int32 → Int32 → (Int32 → St → Prop) → St → Prop
  | 0 => fun _ _ _ _ => False
  | n + 1 => fun a b Q σ => wp_X3_restFromF (wp_restN n) a b Q σ
def wp_X3_restFrom (x1 x2 : Int32) (Q : Int32 → St → Prop) (σ : St) : Prop := wp_restN 20 x1 x2 Q σ
def wp_X3_forgetUpTo_b2 (Q : St → Prop) (K2 : Int32 → Int32 → St → Prop) (x1 : Int32) (x2 : Int32) (σ : St) : Prop :=
  
    ((x1 < x2 → Q σ) ∧ (¬ x1 < x2 → 
    (((16 : Int32) < x2 → Q σ) ∧ (¬ (16 : Int32) < x2 → (vp_in x2 17 ∧ (wp_fillI (50 + 1 + (x2).toNatClampNeg) 1000 (0 : Int32) (fun σ20 => K2 (x1) (x2 + 1) (σ20)) σ))))))
def wp_X3_forgetUpTo_l2 (Q : St → Prop) : Nat → Int32 → Int32 → St → Prop
  | 0, _, _, _ => False
  | n + 1, x1, x2, σ => wp_X3_forgetUpTo_b2 Q (wp_X3_forgetUpTo_l2 Q  n) x1 x2 σ
def wp_X3_forgetUpTo (x1 : Int32) (Q : St → Prop) (σ : St) : Prop :=
  (∃ n : Nat, wp_X3_forgetUpTo_l2 Q n (x1) (0) (σ))
def wp_X3_prepare_b53 (Q : St → Prop) (K53 : Int32 → St → Prop) (x4 : Int32) (σ : St) : Prop :=
  
    (((3 : Int32) ≤ x4 → (wp_X3_forgetUpTo ((σ.1 49 4) + 1) (fun σ92 => Q σ92) σ)) ∧ (¬ (3 : Int32) ≤ x4 → (vp_in x4 3 ∧ (vp_in x4 3 ∧ (wp_fillI (70 + 1 + (x4).toNatClampNeg) 16 (1 : Int32) (fun σ76 => K53 (x4 + 1) (σ76)) (sI σ 68 x4.toNatClampNeg (16 : Int32)))))))
def wp_X3_prepare_l53 (Q : St → Prop) : Nat → Int32 → St → Prop
  | 0, _, _ => False
  | n + 1, x4, σ => wp_X3_prepare_b53 Q (wp_X3_prepare_l53 Q  n) x4 σ
def wp_X3_prepare_b18 (Q : St → Prop) (K18 : Int32 → Int32 → St → Prop) (x3 : Int32) (x4 : Int32) (σ : St) : Prop :=
  
    (((σ.1 49 4) < x4 → (∃ n : Nat, wp_X3_prepare_l53 Q n (0) (σ))) ∧ (¬ (σ.1 49 4) < x4 → (wp_X4_freeColumns x4 (fun r36 σ36 =>
    (vp_in x4 16 ∧ K18 (x3) (x4 + 1) (sI σ36 69 x4.toNatClampNeg (r36 &&& (x3 ^^^ (-1)))))) σ)))
def wp_X3_prepare_l18 (Q : St → Prop) : Nat → Int32 → Int32 → St → Prop
  | 0, _, _, _ => False
  | n + 1, x3, x4, σ => wp_X3_prepare_b18 Q (wp_X3_prepare_l18 Q  n) x3 x4 σ
def wp_X3_prepare (x2 : Int32) (x3 : Int32) (Q : St → Prop) (σ : St) : Prop :=
  (∃ n : Nat, wp_X3_prepare_l18 Q n (x3) (0) (sI (sI σ 49 4 ((σ.1 4 1) - 1)) 49 5 x2))
def wp_X3_put (x1 : Int32) (x2 : Int32) (x3 : Int32) (Q : St → Prop) (σ : St) : Prop :=
  (vp_in x1 3 ∧ (vp_in x1 3 ∧ ((¬ (x2 : Int32) < 0 ∧ ¬ (x2 : Int32) < 0 ∧ ¬ (16 - x2 : Int32) < 0 ∧ (x2 : Int32).toNatClampNeg + (16 - x2 : Int32).toNatClampNeg ≤ 16 ∧ (x2 : Int32).toNatClampNeg + (16 - x2 : Int32).toNatClampNeg ≤ 16) ∧ (vp_in x1 3 ∧ (vp_in x2 16 ∧ (vp_in x2 16 ∧ Q (sI (sR (sI σ 68 x1.toNatClampNeg x2) (70 + 1 + (x1).toNatClampNeg) (va_cpy ((sI σ 68 x1.toNatClampNeg x2).1 69) ((sI σ 68 x1.toNatClampNeg x2).1 (70 + 1 + (x1).toNatClampNeg)) (x2 : Int32).toNatClampNeg (x2 : Int32).toNatClampNeg (16 - x2 : Int32).toNatClampNeg)) (70 + 1 + (x1).toNatClampNeg) x2.toNatClampNeg (((sR (sI σ 68 x1.toNatClampNeg x2) (70 + 1 + (x1).toNatClampNeg) (va_cpy ((sI σ 68 x1.toNatClampNeg x2).1 69) ((sI σ 68 x1.toNatClampNeg x2).1 (70 + 1 + (x1).toNatClampNeg)) (x2 : Int32).toNatClampNeg (x2 : Int32).toNatClampNeg (16 - x2 : Int32).toNatClampNeg)).1 (70 + 1 + (x1).toNatClampNeg) x2.toNatClampNeg) &&& ((1 : Int32) <<< (x3 &&& 31))))))))))
def wp_X3_fix_b7 (Q : St → Prop) (K7 : Int32 → Int32 → St → Prop) (x1 : Int32) (x3 : Int32) (σ : St) : Prop :=
  
    (((σ.1 49 4) < x3 → Q σ) ∧ (¬ (σ.1 49 4) < x3 → (vp_in x1 3 ∧ (vp_in x3 16 ∧ (vp_in x1 3 ∧ (vp_in x3 16 ∧ (vp_in x3 16 ∧ K7 (x1) (x3 + 1) (sI σ (70 + 1 + (x1).toNatClampNeg) x3.toNatClampNeg ((σ.1 (70 + 1 + (x1).toNatClampNeg) x3.toNatClampNeg) &&& ((1 : Int32) <<< ((σ.1 (21 + 1 + (x1).toNatClampNeg) x3.toNatClampNeg) &&& 31)))))))))))
def wp_X3_fix_l7 (Q : St → Prop) : Nat → Int32 → Int32 → St → Prop
  | 0, _, _, _ => False
  | n + 1, x1, x3, σ => wp_X3_fix_b7 Q (wp_X3_fix_l7 Q  n) x1 x3 σ
def wp_X3_fix (x1 : Int32) (Q : St → Prop) (σ : St) : Prop :=
  (vp_in x1 3 ∧ (∃ n : Nat, wp_X3_fix_l7 Q n (x1) (σ.1 68 x1.toNatClampNeg) (σ)))
def wp_X3_findsAny (Q : Int32 → St → Prop) (σ : St) : Prop :=
  (wp_X3_restFrom (0 : Int32) (0 : Int32) (fun r8 σ8 =>
    
    (((1000000000 : Int32) ≤ r8 → Q (0 : Int32) σ8) ∧ (¬ (1000000000 : Int32) ≤ r8 → Q (1 : Int32) σ8))) (sI σ 49 6 (1 : Int32)))
def wp_X3_findsBest (Q : Int32 → St → Prop) (σ : St) : Prop :=
  (wp_X3_restFrom (0 : Int32) (0 : Int32) (fun r8 σ8 =>
    
    (((1000000000 : Int32) ≤ r8 → Q (0 : Int32) σ8) ∧ (¬ (1000000000 : Int32) ≤ r8 → Q (1 : Int32) σ8))) (sI σ 49 6 (0 : Int32)))
def wp_X3_breadth (Q : Int32 → St → Prop) (σ : St) : Prop :=
  (wp_X3_restFrom (0 : Int32) (0 : Int32) (fun r3 σ3 =>
    (¬ (1000 : Int32) = 0 ∧ (¬ (100 : Int32) = 0 ∧ Q ((r3 / 1000) / 100) σ3))) σ)
def wp_X3_leans (Q : Int32 → St → Prop) (σ : St) : Prop :=
  (wp_X3_restFrom (0 : Int32) (0 : Int32) (fun r3 σ3 =>
    (¬ (1000 : Int32) = 0 ∧ (¬ (100 : Int32) = 0 ∧ Q ((r3 / 1000) - (r3 / 1000) / 100 * 100) σ3))) σ)
def wp_X3_tell_b38 (Q : St → Prop) (K4 : Int32 → Int32 → St → Prop) (K38 : Int32 → Int32 → Int32 → St → Prop) (x2 : Int32) (x3 : Int32) (x5 : Int32) (σ : St) : Prop :=
  
    (((3 : Int32) ≤ x5 → K4 (x2) (x3 + 1) (σ)) ∧ (¬ (3 : Int32) ≤ x5 → (vp_in x5 3 ∧ 
    ((x3 < (σ.1 68 x5.toNatClampNeg) → K38 (x2) (x3) (x5 + 1) (σ)) ∧ (¬ x3 < (σ.1 68 x5.toNatClampNeg) → (vp_in x5 3 ∧ (wp_X3_columnIn x2 x5 (fun r66 σ66 =>
    (vp_in x3 16 ∧ K38 (x2) (x3) (x5 + 1) (sI σ66 (21 + 1 + (x5).toNatClampNeg) x3.toNatClampNeg r66))) σ)))))))
def wp_X3_tell_l38 (Q : St → Prop) (K4 : Int32 → Int32 → St → Prop) : Nat → Int32 → Int32 → Int32 → St → Prop
  | 0, _, _, _, _ => False
  | n + 1, x2, x3, x5, σ => wp_X3_tell_b38 Q K4 (wp_X3_tell_l38 Q K4 n) x2 x3 x5 σ
def wp_X3_tell_b4 (Q : St → Prop) (K4 : Int32 → Int32 → St → Prop) (x2 : Int32) (x3 : Int32) (σ : St) : Prop :=
  
    (((σ.1 49 4) < x3 → Q σ) ∧ (¬ (σ.1 49 4) < x3 → (wp_X3_restFrom x3 x2 (fun r15 σ15 =>
    
    ((r15 < (1000000000 : Int32) → (¬ (1000 : Int32) = 0 ∧ (∃ n : Nat, wp_X3_tell_l38 Q K4 n (r15 - r15 / 1000 * 1000) (x3) (0) (σ15)))) ∧ (¬ r15 < (1000000000 : Int32) → Q σ15))) σ)))
def wp_X3_tell_l4 (Q : St → Prop) : Nat → Int32 → Int32 → St → Prop
  | 0, _, _, _ => False
  | n + 1, x2, x3, σ => wp_X3_tell_b4 Q (wp_X3_tell_l4 Q  n) x2 x3 σ
def wp_X3_tell (Q : St → Prop) (σ : St) : Prop :=
  (∃ n : Nat, wp_X3_tell_l4 Q n (0) (0) (σ))
def wp_X1_byteAt (x1 : Int32) (Q : Int32 → St → Prop) (σ : St) : Prop :=
  
    ((x1 < 0 → Q (-1) σ) ∧ (¬ x1 < 0 → 
    (((σ.1 2 1) ≤ x1 → Q (-1) σ) ∧ (¬ (σ.1 2 1) ≤ x1 → (σ.1 2 0 = 1 ∧ (vp_in x1 300 ∧ Q ((σ.1 1 x1.toNatClampNeg) &&& 255) σ))))))
def wp_X1_letterAt (x1 : Int32) (Q : Int32 → St → Prop) (σ : St) : Prop :=
  (wp_X1_byteAt x1 (fun r2 σ2 =>
    
    ((r2 < (97 : Int32) → Q (0 : Int32) σ2) ∧ (¬ r2 < (97 : Int32) → 
    (((122 : Int32) < r2 → Q (0 : Int32) σ2) ∧ (¬ (122 : Int32) < r2 → Q (1 : Int32) σ2))))) σ)
def wp_X1_digitAt (x1 : Int32) (Q : Int32 → St → Prop) (σ : St) : Prop :=
  (wp_X1_byteAt x1 (fun r2 σ2 =>
    
    ((r2 < (48 : Int32) → Q (0 : Int32) σ2) ∧ (¬ r2 < (48 : Int32) → 
    (((57 : Int32) < r2 → Q (0 : Int32) σ2) ∧ (¬ (57 : Int32) < r2 → Q (1 : Int32) σ2))))) σ)
def wp_X1_wordIs_0_b17 (Q : Int32 → St → Prop) (K17 : Int32 → Int32 → St → Prop) (x1 : Int32) (x3 : Int32) (σ : St) : Prop :=
  
    (((4 : Int32) ≤ x3 → Q (1 : Int32) σ) ∧ (¬ (4 : Int32) ≤ x3 → (wp_X1_byteAt (x1 + x3) (fun r29 σ29 =>
    (vp_in x3 4 ∧ 
    ((r29 = (strC 0 x3.toNatClampNeg) → K17 (x1) (x3 + 1) (σ29)) ∧ (¬ r29 = (strC 0 x3.toNatClampNeg) → Q (0 : Int32) σ29)))) σ)))
def wp_X1_wordIs_0_l17 (Q : Int32 → St → Prop) : Nat → Int32 → Int32 → St → Prop
  | 0, _, _, _ => False
  | n + 1, x1, x3, σ => wp_X1_wordIs_0_b17 Q (wp_X1_wordIs_0_l17 Q  n) x1 x3 σ
def wp_X1_wordIs_0 (x1 : Int32) (Q : Int32 → St → Prop) (σ : St) : Prop :=
  
    ((((σ.1 2 2) - x1) = (4 : Int32) → (∃ n : Nat, wp_X1_wordIs_0_l17 Q n (x1) (0) (σ))) ∧ (¬ ((σ.1 2 2) - x1) = (4 : Int32) → Q (0 : Int32) σ))
def wp_X1_wordIs_1_b17 (Q : Int32 → St → Prop) (K17 : Int32 → Int32 → St → Prop) (x1 : Int32) (x3 : Int32) (σ : St) : Prop :=
  
    (((4 : Int32) ≤ x3 → Q (1 : Int32) σ) ∧ (¬ (4 : Int32) ≤ x3 → (wp_X1_byteAt (x1 + x3) (fun r29 σ29 =>
    (vp_in x3 4 ∧ 
    ((r29 = (strC 1 x3.toNatClampNeg) → K17 (x1) (x3 + 1) (σ29)) ∧ (¬ r29 = (strC 1 x3.toNatClampNeg) → Q (0 : Int32) σ29)))) σ)))
def wp_X1_wordIs_1_l17 (Q : Int32 → St → Prop) : Nat → Int32 → Int32 → St → Prop
  | 0, _, _, _ => False
  | n + 1, x1, x3, σ => wp_X1_wordIs_1_b17 Q (wp_X1_wordIs_1_l17 Q  n) x1 x3 σ
def wp_X1_wordIs_1 (x1 : Int32) (Q : Int32 → St → Prop) (σ : St) : Prop :=
  
    ((((σ.1 2 2) - x1) = (4 : Int32) → (∃ n : Nat, wp_X1_wordIs_1_l17 Q n (x1) (0) (σ))) ∧ (¬ ((σ.1 2 2) - x1) = (4 : Int32) → Q (0 : Int32) σ))
def wp_X1_wordIs_2_b17 (Q : Int32 → St → Prop) (K17 : Int32 → Int32 → St → Prop) (x1 : Int32) (x3 : Int32) (σ : St) : Prop :=
  
    (((4 : Int32) ≤ x3 → Q (1 : Int32) σ) ∧ (¬ (4 : Int32) ≤ x3 → (wp_X1_byteAt (x1 + x3) (fun r29 σ29 =>
    (vp_in x3 4 ∧ 
    ((r29 = (strC 2 x3.toNatClampNeg) → K17 (x1) (x3 + 1) (σ29)) ∧ (¬ r29 = (strC 2 x3.toNatClampNeg) → Q (0 : Int32) σ29)))) σ)))
def wp_X1_wordIs_2_l17 (Q : Int32 → St → Prop) : Nat → Int32 → Int32 → St → Prop
  | 0, _, _, _ => False
  | n + 1, x1, x3, σ => wp_X1_wordIs_2_b17 Q (wp_X1_wordIs_2_l17 Q  n) x1 x3 σ
def wp_X1_wordIs_2 (x1 : Int32) (Q : Int32 → St → Prop) (σ : St) : Prop :=
  
    ((((σ.1 2 2) - x1) = (4 : Int32) → (∃ n : Nat, wp_X1_wordIs_2_l17 Q n (x1) (0) (σ))) ∧ (¬ ((σ.1 2 2) - x1) = (4 : Int32) → Q (0 : Int32) σ))
def wp_X1_wordIs_3_b17 (Q : Int32 → St → Prop) (K17 : Int32 → Int32 → St → Prop) (x1 : Int32) (x3 : Int32) (σ : St) : Prop :=
  
    (((6 : Int32) ≤ x3 → Q (1 : Int32) σ) ∧ (¬ (6 : Int32) ≤ x3 → (wp_X1_byteAt (x1 + x3) (fun r29 σ29 =>
    (vp_in x3 6 ∧ 
    ((r29 = (strC 3 x3.toNatClampNeg) → K17 (x1) (x3 + 1) (σ29)) ∧ (¬ r29 = (strC 3 x3.toNatClampNeg) → Q (0 : Int32) σ29)))) σ)))
def wp_X1_wordIs_3_l17 (Q : Int32 → St → Prop) : Nat → Int32 → Int32 → St → Prop
  | 0, _, _, _ => False
  | n + 1, x1, x3, σ => wp_X1_wordIs_3_b17 Q (wp_X1_wordIs_3_l17 Q  n) x1 x3 σ
def wp_X1_wordIs_3 (x1 : Int32) (Q : Int32 → St → Prop) (σ : St) : Prop :=
  
    ((((σ.1 2 2) - x1) = (6 : Int32) → (∃ n : Nat, wp_X1_wordIs_3_l17 Q n (x1) (0) (σ))) ∧ (¬ ((σ.1 2 2) - x1) = (6 : Int32) → Q (0 : Int32) σ))
def wp_X1_partWord_b35 (Q : Int32 → St → Prop) (x1 : Int32) (σ : St) : Prop :=
  (wp_X1_wordIs_0 x1 (fun r39 σ39 =>
    
    ((r39 = 0 → (wp_X1_wordIs_1 x1 (fun r51 σ51 =>
    
    ((r51 = 0 → (wp_X1_wordIs_2 x1 (fun r63 σ63 =>
    
    ((r63 = 0 → (wp_X1_wordIs_3 x1 (fun r75 σ75 =>
    
    ((r75 = 0 → Q (0 : Int32) σ75) ∧ (¬ r75 = 0 → Q (4 : Int32) σ75))) σ63)) ∧ (¬ r63 = 0 → Q (3 : Int32) σ63))) σ51)) ∧ (¬ r51 = 0 → Q (2 : Int32) σ51))) σ39)) ∧ (¬ r39 = 0 → Q (1 : Int32) σ39))) σ)
def wp_X1_partWord_b0 (Q : Int32 → St → Prop) (K0 : Int32 → St → Prop) (x1 : Int32) (σ : St) : Prop :=
  
    (((σ.1 2 1) ≤ (σ.1 2 2) → wp_X1_partWord_b35 Q (x1) (σ)) ∧ (¬ (σ.1 2 1) ≤ (σ.1 2 2) → (wp_X1_letterAt (σ.1 2 2) (fun r16 σ16 =>
    
    ((r16 = 0 → wp_X1_partWord_b35 Q (x1) (σ16)) ∧ (¬ r16 = 0 → K0 (x1) (sI σ16 2 2 ((σ16.1 2 2) + 1))))) σ)))
def wp_X1_partWord_l0 (Q : Int32 → St → Prop) : Nat → Int32 → St → Prop
  | 0, _, _ => False
  | n + 1, x1, σ => wp_X1_partWord_b0 Q (wp_X1_partWord_l0 Q  n) x1 σ
def wp_X1_partWord (x1 : Int32) (Q : Int32 → St → Prop) (σ : St) : Prop :=
  (∃ n : Nat, wp_X1_partWord_l0 Q n (x1) (σ))
def wp_X1_partNumber_b93 (Q : Int32 → St → Prop) (s0 : Int32) (σ : St) : Prop :=
  
    ((s0 = 0 → 
    (((σ.1 2 8) ≤ (99 : Int32) → Q (5 : Int32) σ) ∧ (¬ (σ.1 2 8) ≤ (99 : Int32) → Q (0 : Int32) σ))) ∧ (¬ s0 = 0 → Q (0 : Int32) σ))
def wp_X1_partNumber_b92 (Q : Int32 → St → Prop) (σ : St) : Prop :=
  wp_X1_partNumber_b93 Q (0) (σ)
def wp_X1_partNumber_b68 (Q : Int32 → St → Prop) (x1 : Int32) (σ : St) : Prop :=
  
    ((((σ.1 2 2) - x1) ≤ (1 : Int32) → wp_X1_partNumber_b92 Q (σ)) ∧ (¬ ((σ.1 2 2) - x1) ≤ (1 : Int32) → (wp_X1_byteAt x1 (fun r80 σ80 =>
    
    ((r80 = (48 : Int32) → wp_X1_partNumber_b93 Q (1) (σ80)) ∧ (¬ r80 = (48 : Int32) → wp_X1_partNumber_b92 Q (σ80)))) σ)))
def wp_X1_partNumber_b5 (Q : Int32 → St → Prop) (K5 : Int32 → St → Prop) (x1 : Int32) (σ : St) : Prop :=
  
    (((σ.1 2 1) ≤ (σ.1 2 2) → wp_X1_partNumber_b68 Q (x1) (σ)) ∧ (¬ (σ.1 2 1) ≤ (σ.1 2 2) → (wp_X1_digitAt (σ.1 2 2) (fun r21 σ21 =>
    
    ((r21 = 0 → wp_X1_partNumber_b68 Q (x1) (σ21)) ∧ (¬ r21 = 0 → (wp_X1_byteAt (σ21.1 2 2) (fun r40 σ40 =>
    (∀ v49 : Int32, v49 = (if (100 : Int32) < ((((σ21.1 2 8) * 10) + r40) - 48) then (100 : Int32) else ((((σ21.1 2 8) * 10) + r40) - 48)) → K5 (x1) (sI (sI σ40 2 8 v49) 2 2 (((sI σ40 2 8 v49).1 2 2) + 1)))) σ21)))) σ)))
def wp_X1_partNumber_l5 (Q : Int32 → St → Prop) : Nat → Int32 → St → Prop
  | 0, _, _ => False
  | n + 1, x1, σ => wp_X1_partNumber_b5 Q (wp_X1_partNumber_l5 Q  n) x1 σ
def wp_X1_partNumber (x1 : Int32) (Q : Int32 → St → Prop) (σ : St) : Prop :=
  (∃ n : Nat, wp_X1_partNumber_l5 Q n (x1) (sI σ 2 8 (0 : Int32)))
def wp_X1_partToken (Q : Int32 → St → Prop) (σ : St) : Prop :=
  (wp_X1_letterAt (σ.1 2 2) (fun r7 σ7 =>
    
    ((r7 = 0 → (wp_X1_digitAt (σ.1 2 2) (fun r21 σ21 =>
    
    ((r21 = 0 → (wp_X1_byteAt (σ.1 2 2) (fun r45 σ45 =>
    
    ((r45 = (59 : Int32) → Q (6 : Int32) σ45) ∧ (¬ r45 = (59 : Int32) → Q (0 : Int32) σ45))) (sI σ21 2 2 ((σ21.1 2 2) + 1)))) ∧ (¬ r21 = 0 → (wp_X1_partNumber (σ.1 2 2) (fun r29 σ29 =>
    Q r29 σ29) σ21)))) σ7)) ∧ (¬ r7 = 0 → (wp_X1_partWord (σ.1 2 2) (fun r15 σ15 =>
    Q r15 σ15) σ7)))) σ)
def wp_X1_part_b10 (Q : St → Prop) (K10 : St → Prop) (σ : St) : Prop :=
  
    (((σ.1 2 1) ≤ (σ.1 2 2) → Q σ) ∧ (¬ (σ.1 2 1) ≤ (σ.1 2 2) → 
    (((300 : Int32) ≤ (σ.1 2 6) → Q σ) ∧ (¬ (300 : Int32) ≤ (σ.1 2 6) → (wp_X1_byteAt (σ.1 2 2) (fun r36 σ36 =>
    
    ((r36 = (32 : Int32) → K10 (sI σ36 2 2 ((σ36.1 2 2) + 1))) ∧ (¬ r36 = (32 : Int32) → (vp_in (σ36.1 2 6) 300 ∧ (wp_X1_partToken  (fun r79 σ79 =>
    (vp_in ((sI σ36 101 (σ36.1 2 6).toNatClampNeg (σ36.1 2 2)).1 2 6) 300 ∧ (vp_in ((sI σ79 100 ((sI σ36 101 (σ36.1 2 6).toNatClampNeg (σ36.1 2 2)).1 2 6).toNatClampNeg r79).1 2 6) 300 ∧ K10 (sI (sI (sI σ79 100 ((sI σ36 101 (σ36.1 2 6).toNatClampNeg (σ36.1 2 2)).1 2 6).toNatClampNeg r79) 74 ((sI σ79 100 ((sI σ36 101 (σ36.1 2 6).toNatClampNeg (σ36.1 2 2)).1 2 6).toNatClampNeg r79).1 2 6).toNatClampNeg ((sI σ79 100 ((sI σ36 101 (σ36.1 2 6).toNatClampNeg (σ36.1 2 2)).1 2 6).toNatClampNeg r79).1 2 8)) 2 6 (((sI (sI σ79 100 ((sI σ36 101 (σ36.1 2 6).toNatClampNeg (σ36.1 2 2)).1 2 6).toNatClampNeg r79) 74 ((sI σ79 100 ((sI σ36 101 (σ36.1 2 6).toNatClampNeg (σ36.1 2 2)).1 2 6).toNatClampNeg r79).1 2 6).toNatClampNeg ((sI σ79 100 ((sI σ36 101 (σ36.1 2 6).toNatClampNeg (σ36.1 2 2)).1 2 6).toNatClampNeg r79).1 2 8)).1 2 6) + 1))))) (sI σ36 101 (σ36.1 2 6).toNatClampNeg (σ36.1 2 2))))))) σ)))))
def wp_X1_part_l10 (Q : St → Prop) : Nat → St → Prop
  | 0, _ => False
  | n + 1, σ => wp_X1_part_b10 Q (wp_X1_part_l10 Q  n) σ
def wp_X1_part (Q : St → Prop) (σ : St) : Prop :=
  (∃ n : Nat, wp_X1_part_l10 Q n (sI (sI σ 2 6 (0 : Int32)) 2 2 (0 : Int32)))
def wp_X1_readNumber (x1 : Int32) (x2 : Int32) (Q : Int32 → St → Prop) (σ : St) : Prop :=
  
    ((((sI σ 2 7 ((σ.1 2 7) + 1)).1 2 6) ≤ ((sI σ 2 7 ((σ.1 2 7) + 1)).1 2 7) → Q (0 : Int32) (sI σ 2 7 ((σ.1 2 7) + 1))) ∧ (¬ ((sI σ 2 7 ((σ.1 2 7) + 1)).1 2 6) ≤ ((sI σ 2 7 ((σ.1 2 7) + 1)).1 2 7) → (vp_in ((sI σ 2 7 ((σ.1 2 7) + 1)).1 2 7) 300 ∧ 
    ((((sI σ 2 7 ((σ.1 2 7) + 1)).1 100 ((sI σ 2 7 ((σ.1 2 7) + 1)).1 2 7).toNatClampNeg) = (5 : Int32) → (vp_in ((sI σ 2 7 ((σ.1 2 7) + 1)).1 2 7) 300 ∧ 
    ((((sI (sI σ 2 7 ((σ.1 2 7) + 1)) 2 8 ((sI σ 2 7 ((σ.1 2 7) + 1)).1 74 ((sI σ 2 7 ((σ.1 2 7) + 1)).1 2 7).toNatClampNeg)).1 2 8) < x1 → Q (0 : Int32) (sI (sI σ 2 7 ((σ.1 2 7) + 1)) 2 8 ((sI σ 2 7 ((σ.1 2 7) + 1)).1 74 ((sI σ 2 7 ((σ.1 2 7) + 1)).1 2 7).toNatClampNeg))) ∧ (¬ ((sI (sI σ 2 7 ((σ.1 2 7) + 1)) 2 8 ((sI σ 2 7 ((σ.1 2 7) + 1)).1 74 ((sI σ 2 7 ((σ.1 2 7) + 1)).1 2 7).toNatClampNeg)).1 2 8) < x1 → 
    ((x2 < ((sI (sI σ 2 7 ((σ.1 2 7) + 1)) 2 8 ((sI σ 2 7 ((σ.1 2 7) + 1)).1 74 ((sI σ 2 7 ((σ.1 2 7) + 1)).1 2 7).toNatClampNeg)).1 2 8) → Q (0 : Int32) (sI (sI σ 2 7 ((σ.1 2 7) + 1)) 2 8 ((sI σ 2 7 ((σ.1 2 7) + 1)).1 74 ((sI σ 2 7 ((σ.1 2 7) + 1)).1 2 7).toNatClampNeg))) ∧ (¬ x2 < ((sI (sI σ 2 7 ((σ.1 2 7) + 1)) 2 8 ((sI σ 2 7 ((σ.1 2 7) + 1)).1 74 ((sI σ 2 7 ((σ.1 2 7) + 1)).1 2 7).toNatClampNeg)).1 2 8) → Q (1 : Int32) (sI (sI σ 2 7 ((σ.1 2 7) + 1)) 2 8 ((sI σ 2 7 ((σ.1 2 7) + 1)).1 74 ((sI σ 2 7 ((σ.1 2 7) + 1)).1 2 7).toNatClampNeg)))))))) ∧ (¬ ((sI σ 2 7 ((σ.1 2 7) + 1)).1 100 ((sI σ 2 7 ((σ.1 2 7) + 1)).1 2 7).toNatClampNeg) = (5 : Int32) → Q (0 : Int32) (sI σ 2 7 ((σ.1 2 7) + 1)))))))
def wp_X1_readClose (Q : Int32 → St → Prop) (σ : St) : Prop :=
  
    ((((sI σ 2 7 ((σ.1 2 7) + 1)).1 2 6) ≤ ((sI σ 2 7 ((σ.1 2 7) + 1)).1 2 7) → Q (0 : Int32) (sI σ 2 7 ((σ.1 2 7) + 1))) ∧ (¬ ((sI σ 2 7 ((σ.1 2 7) + 1)).1 2 6) ≤ ((sI σ 2 7 ((σ.1 2 7) + 1)).1 2 7) → (vp_in ((sI σ 2 7 ((σ.1 2 7) + 1)).1 2 7) 300 ∧ 
    ((((sI σ 2 7 ((σ.1 2 7) + 1)).1 100 ((sI σ 2 7 ((σ.1 2 7) + 1)).1 2 7).toNatClampNeg) = (6 : Int32) → Q (1 : Int32) (sI σ 2 7 ((σ.1 2 7) + 1))) ∧ (¬ ((sI σ 2 7 ((σ.1 2 7) + 1)).1 100 ((sI σ 2 7 ((σ.1 2 7) + 1)).1 2 7).toNatClampNeg) = (6 : Int32) → Q (0 : Int32) (sI σ 2 7 ((σ.1 2 7) + 1)))))))
def wp_X1_readSpan (Q : Int32 → St → Prop) (σ : St) : Prop :=
  (wp_X1_readNumber (0 : Int32) ((σ.1 9 0) - 1) (fun r8 σ8 =>
    
    ((r8 = 0 → Q (0 : Int32) σ8) ∧ (¬ r8 = 0 → (wp_X1_readNumber (σ8.1 2 8) ((σ8.1 9 0) - 1) (fun r29 σ29 =>
    
    ((r29 = 0 → Q (0 : Int32) σ29) ∧ (¬ r29 = 0 → Q ((((1 : Int32) <<< (((σ29.1 2 8) + 1) &&& 31)) - 1) &&& ((((1 : Int32) <<< ((σ8.1 2 8) &&& 31)) - 1) ^^^ (-1))) σ29))) σ8)))) σ)
def wp_X1_readSize (Q : Int32 → St → Prop) (σ : St) : Prop :=
  (wp_X1_readNumber (2 : Int32) (10 : Int32) (fun r4 σ4 =>
    
    ((r4 = 0 → Q (0 : Int32) σ4) ∧ (¬ r4 = 0 → (wp_X1_readNumber (2 : Int32) (16 : Int32) (fun r24 σ24 =>
    
    ((r24 = 0 → Q (0 : Int32) σ24) ∧ (¬ r24 = 0 → Q (1 : Int32) (sI σ24 9 1 (σ24.1 2 8))))) (sI σ4 9 0 (σ4.1 2 8)))))) σ)
def wp_X1_readBeam (Q : Int32 → St → Prop) (σ : St) : Prop :=
  (wp_X1_readNumber (0 : Int32) ((σ.1 9 1) - 1) (fun r8 σ8 =>
    
    ((r8 = 0 → Q (0 : Int32) σ8) ∧ (¬ r8 = 0 → (wp_X1_readSpan  (fun r23 σ23 =>
    
    ((r23 = 0 → Q (0 : Int32) σ23) ∧ (¬ r23 = 0 → (vp_in (σ8.1 2 8) 16 ∧ (vp_in (σ8.1 2 8) 16 ∧ Q (1 : Int32) (sI σ23 10 (σ8.1 2 8).toNatClampNeg ((σ23.1 10 (σ8.1 2 8).toNatClampNeg) ||| r23))))))) σ8)))) σ)
def wp_X1_readCold (Q : Int32 → St → Prop) (σ : St) : Prop :=
  (wp_X1_readSpan  (fun r2 σ2 =>
    
    ((r2 = 0 → Q (0 : Int32) (sI σ2 9 2 ((σ2.1 9 2) ||| r2))) ∧ (¬ r2 = 0 → Q (1 : Int32) (sI σ2 9 2 ((σ2.1 9 2) ||| r2))))) σ)
def wp_X1_readHearth (Q : Int32 → St → Prop) (σ : St) : Prop :=
  (wp_X1_readNumber (0 : Int32) ((σ.1 9 1) - 2) (fun r13 σ13 =>
    
    ((r13 = 0 → Q (0 : Int32) σ13) ∧ (¬ r13 = 0 → (vp_in (σ.1 9 3) 3 ∧ (wp_X1_readNumber (0 : Int32) (((sI σ13 11 (σ.1 9 3).toNatClampNeg (σ13.1 2 8)).1 9 0) - 1) (fun r39 σ39 =>
    
    ((r39 = 0 → Q (0 : Int32) σ39) ∧ (¬ r39 = 0 → (vp_in (σ.1 9 3) 3 ∧ (wp_X1_readNumber (0 : Int32) (99 : Int32) (fun r61 σ61 =>
    
    ((r61 = 0 → Q (0 : Int32) σ61) ∧ (¬ r61 = 0 → (vp_in (σ.1 9 3) 3 ∧ Q (1 : Int32) (sI (sI σ61 13 (σ.1 9 3).toNatClampNeg (σ61.1 2 8)) 9 3 (((sI σ61 13 (σ.1 9 3).toNatClampNeg (σ61.1 2 8)).1 9 3) + 1)))))) (sI σ39 12 (σ.1 9 3).toNatClampNeg (σ39.1 2 8))))))) (sI σ13 11 (σ.1 9 3).toNatClampNeg (σ13.1 2 8))))))) σ)
def wp_X1_readItem (Q : Int32 → St → Prop) (σ : St) : Prop :=
  (vp_in (σ.1 2 7) 300 ∧ 
    (((σ.1 100 (σ.1 2 7).toNatClampNeg) = 1 → 
    (((σ.1 2 7) = 0 → (wp_X1_readSize  (fun r49 σ49 =>
    
    ((r49 = 0 → Q (0 : Int32) σ49) ∧ (¬ r49 = 0 → (wp_X1_readClose  (fun r56 σ56 =>
    
    ((r56 = 0 → Q (0 : Int32) σ56) ∧ (¬ r56 = 0 → Q (1 : Int32) σ56))) σ49)))) σ)) ∧ (¬ (σ.1 2 7) = 0 → Q (0 : Int32) σ))) ∧ (¬ (σ.1 100 (σ.1 2 7).toNatClampNeg) = 1 → (((σ.1 100 (σ.1 2 7).toNatClampNeg) = 2 → (wp_X1_readBeam  (fun r70 σ70 =>
    
    ((r70 = 0 → Q (0 : Int32) σ70) ∧ (¬ r70 = 0 → (wp_X1_readClose  (fun r77 σ77 =>
    
    ((r77 = 0 → Q (0 : Int32) σ77) ∧ (¬ r77 = 0 → Q (1 : Int32) σ77))) σ70)))) σ)) ∧ (¬ (σ.1 100 (σ.1 2 7).toNatClampNeg) = 2 → (((σ.1 100 (σ.1 2 7).toNatClampNeg) = 3 → (wp_X1_readCold  (fun r91 σ91 =>
    
    ((r91 = 0 → Q (0 : Int32) σ91) ∧ (¬ r91 = 0 → (wp_X1_readClose  (fun r98 σ98 =>
    
    ((r98 = 0 → Q (0 : Int32) σ98) ∧ (¬ r98 = 0 → Q (1 : Int32) σ98))) σ91)))) σ)) ∧ (¬ (σ.1 100 (σ.1 2 7).toNatClampNeg) = 3 → (((σ.1 100 (σ.1 2 7).toNatClampNeg) = 4 → 
    (((3 : Int32) ≤ (σ.1 9 3) → Q (0 : Int32) σ) ∧ (¬ (3 : Int32) ≤ (σ.1 9 3) → (wp_X1_readHearth  (fun r120 σ120 =>
    
    ((r120 = 0 → Q (0 : Int32) σ120) ∧ (¬ r120 = 0 → (wp_X1_readClose  (fun r127 σ127 =>
    
    ((r127 = 0 → Q (0 : Int32) σ127) ∧ (¬ r127 = 0 → Q (1 : Int32) σ127))) σ120)))) σ)))) ∧ (¬ (σ.1 100 (σ.1 2 7).toNatClampNeg) = 4 → Q (0 : Int32) σ)))))))))
def wp_X1_read_b31 (Q : Int32 → St → Prop) (K31 : Int32 → St → Prop) (x4 : Int32) (σ : St) : Prop :=
  
    (((σ.1 2 6) ≤ x4 → Q (-9) σ) ∧ (¬ (σ.1 2 6) ≤ x4 → 
    (((σ.1 2 6) ≤ (σ.1 2 7) → Q (-9) σ) ∧ (¬ (σ.1 2 6) ≤ (σ.1 2 7) → (wp_X1_readItem  (fun r53 σ53 =>
    
    ((r53 = 0 → 
    (((σ53.1 2 6) ≤ (σ53.1 2 7) → Q (σ53.1 2 1) σ53) ∧ (¬ (σ53.1 2 6) ≤ (σ53.1 2 7) → (vp_in (σ53.1 2 7) 300 ∧ Q (σ53.1 101 (σ53.1 2 7).toNatClampNeg) σ53)))) ∧ (¬ r53 = 0 → K31 (x4 + 1) (sI σ53 2 7 ((σ53.1 2 7) + 1))))) σ)))))
def wp_X1_read_l31 (Q : Int32 → St → Prop) : Nat → Int32 → St → Prop
  | 0, _, _ => False
  | n + 1, x4, σ => wp_X1_read_b31 Q (wp_X1_read_l31 Q  n) x4 σ
def wp_X1_read (x2 : Int32) (Q : Int32 → St → Prop) (σ : St) : Prop :=
  (∀ v9 : Int32, v9 = (if (Int32.ofNat 300) < x2 then (Int32.ofNat 300) else x2) → (wp_X1_part  (fun σ16 => (wp_X4_reset  (fun σ20 => (∃ n : Nat, wp_X1_read_l31 Q n (0) (sI σ20 2 7 (0 : Int32)))) σ16)) (sI (sI σ 2 0 1) 2 1 v9)))
def wp_X6_hasQuarter (x0 : Int32) (Q : Int32 → St → Prop) (σ : St) : Prop :=
  
    ((x0 < 0 → Q (0 : Int32) σ) ∧ (¬ x0 < 0 → 
    (((4 : Int32) ≤ x0 → Q (0 : Int32) σ) ∧ (¬ (4 : Int32) ≤ x0 → Q (1 : Int32) σ))))
def wp_X6_isSet (x1 : Int32) (Q : Int32 → St → Prop) (σ : St) : Prop :=
  
    ((x1 < (1 : Int32) → Q (0 : Int32) σ) ∧ (¬ x1 < (1 : Int32) → 
    ((((1 : Int32) <<< ((σ.1 4 3) &&& 31)) ≤ x1 → Q (0 : Int32) σ) ∧ (¬ ((1 : Int32) <<< ((σ.1 4 3) &&& 31)) ≤ x1 → Q (1 : Int32) σ))))
def wp_X6_placeBeside (x0 : Int32) (Q : Int32 → St → Prop) (σ : St) : Prop :=
  
    (((x0 &&& 1) = 0 → Q (0 : Int32) σ) ∧ (¬ (x0 &&& 1) = 0 → 
    (((x0 &&& 2) = 0 → Q (1 : Int32) σ) ∧ (¬ (x0 &&& 2) = 0 → Q (2 : Int32) σ))))
def wp_X6_putSet_b20 (Q : St → Prop) (K20 : Int32 → Int32 → St → Prop) (x1 : Int32) (x2 : Int32) (σ : St) : Prop :=
  
    (((σ.1 4 3) ≤ x2 → Q σ) ∧ (¬ (σ.1 4 3) ≤ x2 → 
    ((((x1 >>> (x2 &&& 31)) &&& 1) = 0 → K20 (x1) (x2 + 1) (σ)) ∧ (¬ ((x1 >>> (x2 &&& 31)) &&& 1) = 0 → (vp_in x2 3 ∧ (vp_in x2 3 ∧ (wp_X3_put x2 (σ.1 6 x2.toNatClampNeg) (σ.1 7 x2.toNatClampNeg) (fun σ62 => K20 (x1) (x2 + 1) (σ62)) σ)))))))
def wp_X6_putSet_l20 (Q : St → Prop) : Nat → Int32 → Int32 → St → Prop
  | 0, _, _, _ => False
  | n + 1, x1, x2, σ => wp_X6_putSet_b20 Q (wp_X6_putSet_l20 Q  n) x1 x2 σ
def wp_X6_putSet (x1 : Int32) (Q : St → Prop) (σ : St) : Prop :=
  (vp_in (0 : Int32) 6 ∧ (wp_X3_prepare (σ.1 14 (0 : Int32).toNatClampNeg) (0 : Int32) (fun σ15 => (∃ n : Nat, wp_X6_putSet_l20 Q n (x1) (0) (σ15))) σ))
def wp_X6_sharedSet_b15 (Q : Int32 → St → Prop) (K8 : Int32 → St → Prop) (K15 : Int32 → Int32 → St → Prop) (x1 : Int32) (x2 : Int32) (σ : St) : Prop :=
  
    ((((1 : Int32) <<< ((σ.1 4 3) &&& 31)) ≤ x2 → K8 (x1 + (-1)) (σ)) ∧ (¬ ((1 : Int32) <<< ((σ.1 4 3) &&& 31)) ≤ x2 → (wp_J6_bitCount_0f7a4 x2 (fun r29 σ29 =>
    
    ((r29 = x1 → (wp_X6_putSet x2 (fun σ38 => (wp_X3_findsAny  (fun r45 σ45 =>
    
    ((r45 = 0 → K15 (x1) (x2 + 1) (σ45)) ∧ (¬ r45 = 0 → Q x2 σ45))) σ38)) σ29)) ∧ (¬ r29 = x1 → K15 (x1) (x2 + 1) (σ29)))) σ)))
def wp_X6_sharedSet_l15 (Q : Int32 → St → Prop) (K8 : Int32 → St → Prop) : Nat → Int32 → Int32 → St → Prop
  | 0, _, _, _ => False
  | n + 1, x1, x2, σ => wp_X6_sharedSet_b15 Q K8 (wp_X6_sharedSet_l15 Q K8 n) x1 x2 σ
def wp_X6_sharedSet_b8 (Q : Int32 → St → Prop) (K8 : Int32 → St → Prop) (x1 : Int32) (σ : St) : Prop :=
  
    ((x1 < (1 : Int32) → Q (0 : Int32) σ) ∧ (¬ x1 < (1 : Int32) → (∃ n : Nat, wp_X6_sharedSet_l15 Q K8 n (x1) (1) (σ))))
def wp_X6_sharedSet_l8 (Q : Int32 → St → Prop) : Nat → Int32 → St → Prop
  | 0, _, _ => False
  | n + 1, x1, σ => wp_X6_sharedSet_b8 Q (wp_X6_sharedSet_l8 Q  n) x1 σ
def wp_X6_sharedSet (Q : Int32 → St → Prop) (σ : St) : Prop :=
  (∃ n : Nat, wp_X6_sharedSet_l8 Q n (σ.1 4 3) (σ))
def wp_X6_doors (x1 : Int32) (Q : Int32 → St → Prop) (σ : St) : Prop :=
  (vp_in (4 : Int32) 6 ∧ (∀ v16 : Int32, v16 = (x1 + 1) - (2 * ((σ.1 14 (4 : Int32).toNatClampNeg) + 1)) → (∀ v22 : Int32, v22 = (2 * (σ.1 14 (4 : Int32).toNatClampNeg)) + 1 → 
    ((v16 ≤ 0 → Q (0 : Int32) σ) ∧ (¬ v16 ≤ 0 → 
    ((0 < v22 → (¬ (v22 : Int32) = 0 ∧ Q (((v16 + v22) - 1) / v22) σ)) ∧ (¬ 0 < v22 → Q (0 : Int32) σ)))))))
def wp_X6_strength_b48 (Q : Int32 → St → Prop) (x1 : Int32) (s0 : Int32) (σ : St) : Prop :=
  (vp_in (3 : Int32) 6 ∧ (wp_X4_above x1 (fun r61 σ61 =>
    (vp_in (1 : Int32) 6 ∧ (wp_X2_bends x1 (fun r80 σ80 =>
    (vp_in (2 : Int32) 6 ∧ (wp_X2_coldCourses x1 (fun r100 σ100 =>
    Q (((((σ.1 14 (3 : Int32).toNatClampNeg) * r61) - ((σ61.1 14 (1 : Int32).toNatClampNeg) * r80)) - ((σ80.1 14 (2 : Int32).toNatClampNeg) * r100)) + s0) σ100) σ80))) σ61))) σ))
def wp_X6_strength (x1 : Int32) (x2 : Int32) (Q : Int32 → St → Prop) (σ : St) : Prop :=
  (vp_in x1 3 ∧ (vp_in ((σ.1 4 1) - 1) 16 ∧ (∀ v21 : Int32, v21 = σ.1 (21 + 1 + (x1).toNatClampNeg) ((σ.1 4 1) - 1).toNatClampNeg → (wp_X4_hasColumn v21 (fun r29 σ29 =>
    
    ((r29 = 0 → wp_X6_strength_b48 Q (x1) (0) (σ29)) ∧ (¬ r29 = 0 → (vp_in x2 4 ∧ (vp_in v21 10 ∧ wp_X6_strength_b48 Q (x1) (σ29.1 (15 + 1 + (x2).toNatClampNeg) v21.toNatClampNeg) (σ29)))))) σ))))
def wp_X6_wanted (x1 : Int32) (x2 : Int32) (x3 : Int32) (Q : Int32 → St → Prop) (σ : St) : Prop :=
  (vp_in x1 3 ∧ 
    ((x2 = x1 → Q (σ.1 8 x1.toNatClampNeg) σ) ∧ (¬ x2 = x1 → (wp_X6_strength x2 x3 (fun r26 σ26 =>
    (vp_in (5 : Int32) 6 ∧ (∀ v36 : Int32, v36 = (if (σ.1 8 x1.toNatClampNeg) < (r26 - (σ26.1 14 (5 : Int32).toNatClampNeg)) then (r26 - (σ26.1 14 (5 : Int32).toNatClampNeg)) else (σ.1 8 x1.toNatClampNeg)) → Q v36 σ26))) σ))))
def wp_X6_putAllMoving_b20 (Q : St → Prop) (K20 : Int32 → Int32 → St → Prop) (x1 : Int32) (x3 : Int32) (σ : St) : Prop :=
  
    (((σ.1 4 3) ≤ x3 → Q σ) ∧ (¬ (σ.1 4 3) ≤ x3 → (vp_in x3 3 ∧ (vp_in x3 3 ∧ (wp_X3_put x3 (σ.1 6 x3.toNatClampNeg) (σ.1 7 x3.toNatClampNeg) (fun σ54 => 
    ((((x1 >>> (x3 &&& 31)) &&& 1) = 0 → (wp_X3_fix x3 (fun σ74 => K20 (x1) (x3 + 1) (σ74)) σ54)) ∧ (¬ ((x1 >>> (x3 &&& 31)) &&& 1) = 0 → K20 (x1) (x3 + 1) (σ54)))) σ)))))
def wp_X6_putAllMoving_l20 (Q : St → Prop) : Nat → Int32 → Int32 → St → Prop
  | 0, _, _, _ => False
  | n + 1, x1, x3, σ => wp_X6_putAllMoving_b20 Q (wp_X6_putAllMoving_l20 Q  n) x1 x3 σ
def wp_X6_putAllMoving (x1 : Int32) (x2 : Int32) (Q : St → Prop) (σ : St) : Prop :=
  (vp_in (0 : Int32) 6 ∧ (wp_X3_prepare (σ.1 14 (0 : Int32).toNatClampNeg) x2 (fun σ15 => (∃ n : Nat, wp_X6_putAllMoving_l20 Q n (x1) (0) (σ15))) σ))
def wp_X6_fewestMoved_b15 (Q : Int32 → St → Prop) (K2 : Int32 → Int32 → St → Prop) (K15 : Int32 → Int32 → Int32 → St → Prop) (x1 : Int32) (x2 : Int32) (x3 : Int32) (σ : St) : Prop :=
  
    ((((1 : Int32) <<< ((σ.1 4 3) &&& 31)) ≤ x3 → K2 (x1) (x2 + 1) (σ)) ∧ (¬ ((1 : Int32) <<< ((σ.1 4 3) &&& 31)) ≤ x3 → (wp_J6_bitCount_0f7a4 x3 (fun r29 σ29 =>
    
    ((r29 = x2 → (wp_X6_putAllMoving x3 x1 (fun σ39 => (wp_X3_findsAny  (fun r46 σ46 =>
    
    ((r46 = 0 → K15 (x1) (x2) (x3 + 1) (σ46)) ∧ (¬ r46 = 0 → Q x3 σ46))) σ39)) σ29)) ∧ (¬ r29 = x2 → K15 (x1) (x2) (x3 + 1) (σ29)))) σ)))
def wp_X6_fewestMoved_l15 (Q : Int32 → St → Prop) (K2 : Int32 → Int32 → St → Prop) : Nat → Int32 → Int32 → Int32 → St → Prop
  | 0, _, _, _, _ => False
  | n + 1, x1, x2, x3, σ => wp_X6_fewestMoved_b15 Q K2 (wp_X6_fewestMoved_l15 Q K2 n) x1 x2 x3 σ
def wp_X6_fewestMoved_b2 (Q : Int32 → St → Prop) (K2 : Int32 → Int32 → St → Prop) (x1 : Int32) (x2 : Int32) (σ : St) : Prop :=
  
    (((σ.1 4 3) < x2 → Q (-9) σ) ∧ (¬ (σ.1 4 3) < x2 → (∃ n : Nat, wp_X6_fewestMoved_l15 Q K2 n (x1) (x2) (0) (σ))))
def wp_X6_fewestMoved_l2 (Q : Int32 → St → Prop) : Nat → Int32 → Int32 → St → Prop
  | 0, _, _, _ => False
  | n + 1, x1, x2, σ => wp_X6_fewestMoved_b2 Q (wp_X6_fewestMoved_l2 Q  n) x1 x2 σ
def wp_X6_fewestMoved (x1 : Int32) (Q : Int32 → St → Prop) (σ : St) : Prop :=
  (∃ n : Nat, wp_X6_fewestMoved_l2 Q n (x1) (0) (σ))
def wp_X6_imageOf (x1 : Int32) (Q : Nat → St → Prop) (σ : St) : Prop :=
  
    ((x1 = 0 → Q 28 σ) ∧ (¬ x1 = 0 → Q 35 σ))
def wp_X6_rateFlue (x1 : Int32) (Q : Int32 → St → Prop) (σ : St) : Prop :=
  (wp_X4_above x1 (fun r15 σ15 =>
    Q r15 σ15) (sJ σ 0 14 ((σ.2 0 14) + 1)))
def wp_X6_rateStraight (x1 : Int32) (Q : Int32 → St → Prop) (σ : St) : Prop :=
  (wp_X6_rateFlue x1 (fun r14 σ14 =>
    (wp_X2_leans x1 (fun r26 σ26 =>
    Q (r14 - r26) σ26) σ14)) (sJ σ 0 14 ((σ.2 0 14) + 10)))
def wp_X6_rateLean (x1 : Int32) (Q : Int32 → St → Prop) (σ : St) : Prop :=
  (wp_X6_rateFlue x1 (fun r14 σ14 =>
    (wp_X2_bends x1 (fun r26 σ26 =>
    Q (r14 + r26) σ26) σ14)) (sJ σ 0 14 ((σ.2 0 14) + 100)))
def wp_X6_rateGather (x1 : Int32) (Q : Int32 → St → Prop) (σ : St) : Prop :=
  (wp_X6_rateLean x1 (fun r14 σ14 =>
    Q (r14 * 2) σ14) (sJ σ 0 14 ((σ.2 0 14) + 1000)))
def wp_X6_rateShared (x1 : Int32) (Q : Int32 → St → Prop) (σ : St) : Prop :=
  (wp_X6_rateStraight x1 (fun r14 σ14 =>
    Q (r14 + (σ14.1 4 3)) σ14) (sJ σ 0 14 ((σ.2 0 14) + 10000)))
def wp_X6_rateOld (x1 : Int32) (Q : Int32 → St → Prop) (σ : St) : Prop :=
  (wp_X6_rateFlue x1 (fun r14 σ14 =>
    (vp_in x1 3 ∧ Q (r14 - (σ14.1 8 x1.toNatClampNeg)) σ14)) (sJ σ 0 14 ((σ.2 0 14) + 100000)))
def wp_X6_tune (x1 : Int32) (x2 : Int32) (Q : Int32 → St → Prop) (σ : St) : Prop :=
  
    ((x1 < 0 → Q (-1) σ) ∧ (¬ x1 < 0 → 
    (((6 : Int32) ≤ x1 → Q (-1) σ) ∧ (¬ (6 : Int32) ≤ x1 → (vp_in x1 6 ∧ 
    ((x2 < (tab_LEAST_TUNES x1.toNatClampNeg) → Q (-1) σ) ∧ (¬ x2 < (tab_LEAST_TUNES x1.toNatClampNeg) → (vp_in x1 6 ∧ 
    ((x2 ≤ (tab_MOST_TUNES x1.toNatClampNeg) → (vp_in x1 6 ∧ (vp_in x1 6 ∧ Q (σ.1 14 x1.toNatClampNeg) (sI σ 14 x1.toNatClampNeg x2)))) ∧ (¬ x2 ≤ (tab_MOST_TUNES x1.toNatClampNeg) → Q (-1) σ))))))))))
def wp_X6_wall_b89 (Q : Int32 → St → Prop) (K89 : Int32 → St → Prop) (x2 : Int32) (σ : St) : Prop :=
  
    (((2 : Int32) ≤ x2 → Q (σ.1 4 3) σ) ∧ (¬ (2 : Int32) ≤ x2 → (vp_in x2 2 ∧ K89 (x2 + 1) (sI σ 42 x2.toNatClampNeg (vp_nar .boolean (0 : Int32))))))
def wp_X6_wall_l89 (Q : Int32 → St → Prop) : Nat → Int32 → St → Prop
  | 0, _, _ => False
  | n + 1, x2, σ => wp_X6_wall_b89 Q (wp_X6_wall_l89 Q  n) x2 σ
def wp_X6_wall_b66 (Q : Int32 → St → Prop) (K66 : Int32 → St → Prop) (x2 : Int32) (σ : St) : Prop :=
  
    (((4 : Int32) ≤ x2 → (∃ n : Nat, wp_X6_wall_l89 Q n (0) (σ))) ∧ (¬ (4 : Int32) ≤ x2 → (vp_in x2 4 ∧ (wp_fillI (15 + 1 + (x2).toNatClampNeg) 10 (0 : Int32) (fun σ78 => K66 (x2 + 1) (σ78)) σ))))
def wp_X6_wall_l66 (Q : Int32 → St → Prop) : Nat → Int32 → St → Prop
  | 0, _, _ => False
  | n + 1, x2, σ => wp_X6_wall_b66 Q (wp_X6_wall_l66 Q  n) x2 σ
def wp_X6_wall (Q : Int32 → St → Prop) (σ : St) : Prop :=
  (wp_X1_read (σ.1 0 1) (fun r16 σ16 =>
    
    ((r16 < 0 → (wp_X4_copyFrom  (fun σ37 => (wp_X2_goStraightUp  (fun σ53 => (∃ n : Nat, wp_X6_wall_l66 Q n (0) (sI σ53 20 3 (0 : Int32)))) (sI σ37 0 1 (0 : Int32)))) σ16)) ∧ (¬ r16 < 0 → Q ((-10) - r16) σ16))) σ)
def wp_X6_type_b33 (Q : Int32 → St → Prop) (K33 : Int64 → Int32 → St → Prop) (x1 : Int64) (x4 : Int32) (σ : St) : Prop :=
  
    ((x4 < 0 → Q (σ.1 0 1) σ) ∧ (¬ x4 < 0 → (vp_in (σ.1 0 1) 300 ∧ K33 (x1) (x4 + (-1)) (sI (sI σ 1 (σ.1 0 1).toNatClampNeg (vp_nar .byte ((((x1.toUInt64 >>> ((8 * x4).toInt64.toUInt64 &&& Int64.toUInt64 63)).toInt64).toInt32).toInt8.toInt32))) 0 1 (((sI σ 1 (σ.1 0 1).toNatClampNeg (vp_nar .byte ((((x1.toUInt64 >>> ((8 * x4).toInt64.toUInt64 &&& Int64.toUInt64 63)).toInt64).toInt32).toInt8.toInt32))).1 0 1) + 1)))))
def wp_X6_type_l33 (Q : Int32 → St → Prop) : Nat → Int64 → Int32 → St → Prop
  | 0, _, _, _ => False
  | n + 1, x1, x4, σ => wp_X6_type_b33 Q (wp_X6_type_l33 Q  n) x1 x4 σ
def wp_X6_type (x1 : Int64) (x3 : Int32) (Q : Int32 → St → Prop) (σ : St) : Prop :=
  
    ((x3 < (1 : Int32) → Q (-1) σ) ∧ (¬ x3 < (1 : Int32) → 
    ((x3 ≤ (8 : Int32) → 
    ((((σ.1 0 1) + x3) ≤ (300 : Int32) → (∃ n : Nat, wp_X6_type_l33 Q n (x1) (x3 - 1) (σ))) ∧ (¬ ((σ.1 0 1) + x3) ≤ (300 : Int32) → Q (-3) σ))) ∧ (¬ x3 ≤ (8 : Int32) → Q (-1) σ))))
def wp_X6_clear (Q : Int32 → St → Prop) (σ : St) : Prop :=
  Q (σ.1 0 1) (sI σ 0 1 (0 : Int32))
def wp_X6_brick_b31 (Q : Int32 → St → Prop) (x2 : Int32) (s0 : Int32) (σ : St) : Prop :=
  (wp_X4_isCold x2 (fun r36 σ36 =>
    
    ((r36 = 0 → Q (s0 + 0) σ36) ∧ (¬ r36 = 0 → Q (s0 + 2) σ36))) σ)
def wp_X6_brick (x1 : Int32) (x2 : Int32) (Q : Int32 → St → Prop) (σ : St) : Prop :=
  (wp_X4_hasBrick x1 x2 (fun r6 σ6 =>
    
    ((r6 = 0 → Q (-1) σ6) ∧ (¬ r6 = 0 → (wp_X4_isFree x1 x2 (fun r20 σ20 =>
    
    ((r20 = 0 → wp_X6_brick_b31 Q (x2) (1) (σ20)) ∧ (¬ r20 = 0 → wp_X6_brick_b31 Q (x2) (0) (σ20)))) σ6)))) σ)
def wp_X6_hearth (x1 : Int32) (x2 : Int32) (Q : Int32 → St → Prop) (σ : St) : Prop :=
  (wp_X4_hasHearth x1 (fun r5 σ5 =>
    
    ((r5 = 0 → Q (-1) σ5) ∧ (¬ r5 = 0 → 
    ((x2 = 0 → (vp_in x1 3 ∧ Q (σ5.1 6 x1.toNatClampNeg) σ5)) ∧ (¬ x2 = 0 → ((x2 = 1 → (vp_in x1 3 ∧ Q (σ5.1 7 x1.toNatClampNeg) σ5)) ∧ (¬ x2 = 1 → ((x2 = 2 → (vp_in x1 3 ∧ Q (σ5.1 8 x1.toNatClampNeg) σ5)) ∧ (¬ x2 = 2 → Q (-1) σ5))))))))) σ)
def wp_X6_wind (x1 : Int32) (x2 : Int32) (x3 : Int32) (Q : Int32 → St → Prop) (σ : St) : Prop :=
  (wp_X6_hasQuarter x1 (fun r1 σ1 =>
    
    ((r1 = 0 → Q (-1000000) σ1) ∧ (¬ r1 = 0 → (wp_X4_hasColumn x2 (fun r12 σ12 =>
    
    ((r12 = 0 → Q (-1000000) σ12) ∧ (¬ r12 = 0 → 
    ((x3 < ((-9) : Int32) → Q (-1000000) σ12) ∧ (¬ x3 < ((-9) : Int32) → 
    ((x3 ≤ (9 : Int32) → (vp_in x1 4 ∧ (vp_in x2 10 ∧ (∀ v41 : Int32, v41 = σ12.1 (15 + 1 + (x1).toNatClampNeg) x2.toNatClampNeg → (vp_in x1 4 ∧ (vp_in x2 10 ∧ Q v41 (sI σ12 (15 + 1 + (x1).toNatClampNeg) x2.toNatClampNeg x3))))))) ∧ (¬ x3 ≤ (9 : Int32) → Q (-1000000) σ12))))))) σ1)))) σ)
def wp_X6_many (x1 : Int32) (Q : Int64 → St → Prop) (σ : St) : Prop :=
  (wp_X4_hasHearth x1 (fun r5 σ5 =>
    
    ((r5 = 0 → Q (-1) σ5) ∧ (¬ r5 = 0 → (wp_X5_prepare x1 (fun σ24 => (wp_X5_number  (fun r31 σ31 =>
    Q r31 σ31) σ24)) σ5)))) σ)
def wp_X6_one_b37 (Q : Int32 → St → Prop) (x1 : Int32) (x2 : Int32) (σ : St) : Prop :=
  (wp_X5_prepare x1 (fun σ46 => (wp_X5_findFewestBends  (fun r53 σ53 =>
    
    ((r53 = 0 → Q (-9) σ53) ∧ (¬ r53 = 0 → 
    ((x2 = ((-1) : Int32) → Q (σ53.1 43 9) σ53) ∧ (¬ x2 = ((-1) : Int32) → 
    ((x2 = ((-2) : Int32) → Q (σ53.1 43 10) σ53) ∧ (¬ x2 = ((-2) : Int32) → (vp_in x2 16 ∧ Q (σ53.1 48 x2.toNatClampNeg) σ53)))))))) σ46)) σ)
def wp_X6_one (x1 : Int32) (x2 : Int32) (Q : Int32 → St → Prop) (σ : St) : Prop :=
  (wp_X4_hasHearth x1 (fun r5 σ5 =>
    
    ((r5 = 0 → Q (-1) σ5) ∧ (¬ r5 = 0 → 
    ((x2 = ((-1) : Int32) → wp_X6_one_b37 Q (x1) (x2) (σ5)) ∧ (¬ x2 = ((-1) : Int32) → 
    ((x2 = ((-2) : Int32) → wp_X6_one_b37 Q (x1) (x2) (σ5)) ∧ (¬ x2 = ((-2) : Int32) → (wp_X4_reaches x1 (x2.toInt64) (fun r29 σ29 =>
    
    ((r29 = 0 → Q (-1) σ29) ∧ (¬ r29 = 0 → wp_X6_one_b37 Q (x1) (x2) (σ29)))) σ5)))))))) σ)
def wp_X6_together (x1 : Int32) (x2 : Int32) (Q : Int32 → St → Prop) (σ : St) : Prop :=
  (wp_X6_isSet x1 (fun r2 σ2 =>
    
    ((r2 = 0 → Q (-1) σ2) ∧ (¬ r2 = 0 → 
    ((x2 < 0 → Q (-1) σ2) ∧ (¬ x2 < 0 → 
    ((x2 ≤ (1 : Int32) → (wp_X6_putSet x1 (fun σ21 => (wp_X3_findsBest  (fun r28 σ28 =>
    
    ((r28 = 0 → Q (-9) σ28) ∧ (¬ r28 = 0 → 
    ((x2 = 0 → (wp_X3_breadth  (fun r45 σ45 =>
    Q r45 σ45) σ28)) ∧ (¬ x2 = 0 → (wp_X3_leans  (fun r55 σ55 =>
    Q r55 σ55) σ28)))))) σ21)) σ2)) ∧ (¬ x2 ≤ (1 : Int32) → Q (-1) σ2))))))) σ)
def wp_X6_share (x1 : Int32) (Q : Int32 → St → Prop) (σ : St) : Prop :=
  
    ((x1 < 0 → Q (-1) σ) ∧ (¬ x1 < 0 → 
    ((x1 ≤ (1 : Int32) → (wp_X6_sharedSet  (fun r12 σ12 =>
    
    ((x1 = 0 → Q r12 σ12) ∧ (¬ x1 = 0 → (wp_J6_bitCount_0f7a4 r12 (fun r25 σ25 =>
    Q r25 σ25) σ12)))) σ)) ∧ (¬ x1 ≤ (1 : Int32) → Q (-1) σ))))
def wp_X6_more_b120 (Q : Int32 → St → Prop) (K67 : Int32 → Int32 → Int32 → Int32 → Int32 → Int32 → St → Prop) (x2 : Int32) (x3 : Int32) (x4 : Int32) (x5 : Int32) (x6 : Int32) (x7 : Int32) (σ : St) : Prop :=
  (wp_X3_forgetUpTo x2 (fun σ125 => K67 (x2) (x3) (x4) (x5) (x6) (x7 + 1) (σ125)) σ)
def wp_X6_more_b118 (Q : Int32 → St → Prop) (K67 : Int32 → Int32 → Int32 → Int32 → Int32 → Int32 → St → Prop) (x2 : Int32) (x3 : Int32) (x4 : Int32) (x5 : Int32) (x7 : Int32) (s0 : Int32) (σ : St) : Prop :=
  wp_X6_more_b120 Q K67 (x2) (x3) (x4) (x5) (s0) (x7) (σ)
def wp_X6_more_b67 (Q : Int32 → St → Prop) (K67 : Int32 → Int32 → Int32 → Int32 → Int32 → Int32 → St → Prop) (x2 : Int32) (x3 : Int32) (x4 : Int32) (x5 : Int32) (x6 : Int32) (x7 : Int32) (σ : St) : Prop :=
  
    (((σ.1 4 0) ≤ x7 → 
    ((x3 = 0 → Q x5 σ) ∧ (¬ x3 = 0 → Q x6 σ))) ∧ (¬ (σ.1 4 0) ≤ x7 → (wp_X3_put x4 x2 x7 (fun σ88 => (wp_X3_findsAny  (fun r95 σ95 =>
    
    ((r95 = 0 → wp_X6_more_b120 Q K67 (x2) (x3) (x4) (x5) (x6) (x7) (σ95)) ∧ (¬ r95 = 0 → 
    ((x6 = ((-9) : Int32) → wp_X6_more_b118 Q K67 (x2) (x3) (x4) (x5 + 1) (x7) (x7) (σ95)) ∧ (¬ x6 = ((-9) : Int32) → wp_X6_more_b118 Q K67 (x2) (x3) (x4) (x5 + 1) (x7) (x6) (σ95)))))) σ88)) σ)))
def wp_X6_more_l67 (Q : Int32 → St → Prop) : Nat → Int32 → Int32 → Int32 → Int32 → Int32 → Int32 → St → Prop
  | 0, _, _, _, _, _, _, _ => False
  | n + 1, x2, x3, x4, x5, x6, x7, σ => wp_X6_more_b67 Q (wp_X6_more_l67 Q  n) x2 x3 x4 x5 x6 x7 σ
def wp_X6_more_b12 (Q : Int32 → St → Prop) (x1 : Int32) (x2 : Int32) (x3 : Int32) (σ : St) : Prop :=
  
    ((x1 = (7 : Int32) → Q (-1) σ) ∧ (¬ x1 = (7 : Int32) → 
    ((x2 < 0 → Q (-1) σ) ∧ (¬ x2 < 0 → 
    ((((σ.1 4 1) - 2) < x2 → Q (-1) σ) ∧ (¬ ((σ.1 4 1) - 2) < x2 → 
    ((x3 < 0 → Q (-1) σ) ∧ (¬ x3 < 0 → 
    ((x3 ≤ (1 : Int32) → (wp_X6_putSet x1 (fun σ48 => (wp_X6_placeBeside x1 (fun r52 σ52 =>
    (∃ n : Nat, wp_X6_more_l67 Q n (x2) (x3) (r52) (0) ((-9)) (0) (σ52))) σ48)) σ)) ∧ (¬ x3 ≤ (1 : Int32) → Q (-1) σ))))))))))
def wp_X6_more (x1 : Int32) (x2 : Int32) (x3 : Int32) (Q : Int32 → St → Prop) (σ : St) : Prop :=
  
    ((x1 = 0 → wp_X6_more_b12 Q (x1) (x2) (x3) (σ)) ∧ (¬ x1 = 0 → (wp_X6_isSet x1 (fun r6 σ6 =>
    
    ((r6 = 0 → Q (-1) σ6) ∧ (¬ r6 = 0 → wp_X6_more_b12 Q (x1) (x2) (x3) (σ6)))) σ)))
def wp_X6_take (x1 : Int32) (Q : Int32 → St → Prop) (σ : St) : Prop :=
  (wp_X6_isSet x1 (fun r2 σ2 =>
    
    ((r2 = 0 → Q (-1) σ2) ∧ (¬ r2 = 0 → (wp_X6_putSet x1 (fun σ12 => (wp_X3_findsBest  (fun r19 σ19 =>
    
    ((r19 = 0 → Q (-2) σ19) ∧ (¬ r19 = 0 → (wp_X3_tell  (fun σ36 => Q (1 : Int32) σ36) σ19)))) σ12)) σ2)))) σ)
def wp_X6_way (x1 : Int32) (x2 : Int32) (Q : Int32 → St → Prop) (σ : St) : Prop :=
  (wp_X4_hasHearth x1 (fun r5 σ5 =>
    
    ((r5 = 0 → Q (-1000000) σ5) ∧ (¬ r5 = 0 → (wp_X4_reaches x1 (x2.toInt64) (fun r18 σ18 =>
    
    ((r18 = 0 → Q (-1000000) σ18) ∧ (¬ r18 = 0 → (vp_in x1 3 ∧ (vp_in x2 16 ∧ Q (σ18.1 (21 + 1 + (x1).toNatClampNeg) x2.toNatClampNeg) σ18))))) σ5)))) σ)
def wp_X6_turn_b80 (Q : Int32 → St → Prop) (K80 : Int32 → Int32 → Int32 → Int32 → St → Prop) (x1 : Int32) (x3 : Int32) (x4 : Int32) (x5 : Int32) (σ : St) : Prop :=
  
    (((σ.1 4 1) ≤ x5 → Q x4 σ) ∧ (¬ (σ.1 4 1) ≤ x5 → (vp_in x1 3 ∧ (vp_in x5 16 ∧ (vp_in x5 16 ∧ K80 (x1) (x3) (x4) (x5 + 1) (sI σ (21 + 1 + (x1).toNatClampNeg) x5.toNatClampNeg ((σ.1 (21 + 1 + (x1).toNatClampNeg) x5.toNatClampNeg) + (x3 - x4))))))))
def wp_X6_turn_l80 (Q : Int32 → St → Prop) : Nat → Int32 → Int32 → Int32 → Int32 → St → Prop
  | 0, _, _, _, _, _ => False
  | n + 1, x1, x3, x4, x5, σ => wp_X6_turn_b80 Q (wp_X6_turn_l80 Q  n) x1 x3 x4 x5 σ
def wp_X6_turn (x1 : Int32) (x2 : Int32) (x3 : Int32) (Q : Int32 → St → Prop) (σ : St) : Prop :=
  (wp_X4_hasHearth x1 (fun r5 σ5 =>
    
    ((r5 = 0 → Q (-1000000) σ5) ∧ (¬ r5 = 0 → (wp_X4_reaches x1 (x2.toInt64 - 1) (fun r20 σ20 =>
    
    ((r20 = 0 → Q (-1000000) σ20) ∧ (¬ r20 = 0 → (wp_X4_hasCourse x2 (fun r31 σ31 =>
    
    ((r31 = 0 → Q (-1000000) σ31) ∧ (¬ r31 = 0 → 
    ((x3 < ((-1) : Int32) → Q (-1000000) σ31) ∧ (¬ x3 < ((-1) : Int32) → 
    ((x3 ≤ (1 : Int32) → (vp_in x1 3 ∧ (vp_in x2 16 ∧ (vp_in x1 3 ∧ (vp_in (x2 - 1) 16 ∧ (∀ v75 : Int32, v75 = (σ31.1 (21 + 1 + (x1).toNatClampNeg) x2.toNatClampNeg) - (σ31.1 (21 + 1 + (x1).toNatClampNeg) (x2 - 1).toNatClampNeg) → (∃ n : Nat, wp_X6_turn_l80 Q n (x1) (x3) (v75) (x2) (σ31)))))))) ∧ (¬ x3 ≤ (1 : Int32) → Q (-1000000) σ31))))))) σ20)))) σ5)))) σ)
def wp_X6_judge (x1 : Int32) (Q : Int32 → St → Prop) (σ : St) : Prop :=
  
    ((x1 < 0 → Q (-1) σ) ∧ (¬ x1 < 0 → 
    ((x1 ≤ (2 : Int32) → (vp_in (0 : Int32) 6 ∧ (wp_X0_findsNone (σ.1 14 (0 : Int32).toNatClampNeg) (fun r29 σ29 =>
    
    ((r29 = 0 → 
    ((x1 = 0 → Q (σ29.1 27 0) σ29) ∧ (¬ x1 = 0 → 
    ((x1 = (1 : Int32) → Q (σ29.1 27 1) σ29) ∧ (¬ x1 = (1 : Int32) → Q (σ29.1 27 2) σ29))))) ∧ (¬ r29 = 0 → Q (-9) σ29))) σ))) ∧ (¬ x1 ≤ (2 : Int32) → Q (-1) σ))))
def wp_X6_plan (x1 : Int32) (x2 : Int32) (Q : Int32 → St → Prop) (σ : St) : Prop :=
  (wp_X4_hasHearth x1 (fun r5 σ5 =>
    
    ((r5 = 0 → Q (-1) σ5) ∧ (¬ r5 = 0 → 
    ((x2 = 0 → (wp_X2_bends x1 (fun r53 σ53 =>
    Q r53 σ53) σ5)) ∧ (¬ x2 = 0 → ((x2 = 1 → (wp_X2_leans x1 (fun r66 σ66 =>
    Q r66 σ66) σ5)) ∧ (¬ x2 = 1 → ((x2 = 2 → (wp_X2_coldCourses x1 (fun r79 σ79 =>
    Q r79 σ79) σ5)) ∧ (¬ x2 = 2 → ((x2 = 3 → (wp_X2_bends x1 (fun r93 σ93 =>
    (wp_X6_doors r93 (fun r96 σ96 =>
    Q r96 σ96) σ93)) σ5)) ∧ (¬ x2 = 3 → Q (-1) σ5))))))))))) σ)
def wp_X6_draw (x1 : Int32) (x2 : Int32) (Q : Int32 → St → Prop) (σ : St) : Prop :=
  (wp_X4_hasHearth x1 (fun r5 σ5 =>
    
    ((r5 = 0 → Q (-1000000) σ5) ∧ (¬ r5 = 0 → (wp_X6_hasQuarter x2 (fun r12 σ12 =>
    
    ((r12 = 0 → Q (-1000000) σ12) ∧ (¬ r12 = 0 → (wp_X6_strength x1 x2 (fun r24 σ24 =>
    Q r24 σ24) σ12)))) σ5)))) σ)
def wp_X6_smokes (x1 : Int32) (x2 : Int32) (x3 : Int32) (Q : Int32 → St → Prop) (σ : St) : Prop :=
  (wp_X4_hasHearth x1 (fun r5 σ5 =>
    
    ((r5 = 0 → Q (-1) σ5) ∧ (¬ r5 = 0 → (wp_X4_hasHearth x2 (fun r16 σ16 =>
    
    ((r16 = 0 → Q (-1) σ16) ∧ (¬ r16 = 0 → (wp_X6_hasQuarter x3 (fun r23 σ23 =>
    
    ((r23 = 0 → Q (-1) σ23) ∧ (¬ r23 = 0 → (wp_X6_strength x1 x3 (fun r34 σ34 =>
    (wp_X6_wanted x1 x2 x3 (fun r41 σ41 =>
    
    ((r41 ≤ r34 → Q (0 : Int32) σ41) ∧ (¬ r41 ≤ r34 → Q (1 : Int32) σ41))) σ34)) σ23)))) σ16)))) σ5)))) σ)
def wp_X6_mend_b71 (Q : Int32 → St → Prop) (K71 : Int32 → Int32 → St → Prop) (x2 : Int32) (x3 : Int32) (σ : St) : Prop :=
  
    (((40 : Int32) < x3 → Q (-9) σ) ∧ (¬ (40 : Int32) < x3 → (vp_in (3 : Int32) 6 ∧ 
    (((x3 * (σ.1 14 (3 : Int32).toNatClampNeg)) < x2 → K71 (x2) (x3 + 1) (σ)) ∧ (¬ (x3 * (σ.1 14 (3 : Int32).toNatClampNeg)) < x2 → Q x3 σ)))))
def wp_X6_mend_l71 (Q : Int32 → St → Prop) : Nat → Int32 → Int32 → St → Prop
  | 0, _, _, _ => False
  | n + 1, x2, x3, σ => wp_X6_mend_b71 Q (wp_X6_mend_l71 Q  n) x2 x3 σ
def wp_X6_mend_b25 (Q : Int32 → St → Prop) (K17 : Int32 → Int32 → Int32 → St → Prop) (K25 : Int32 → Int32 → Int32 → Int32 → St → Prop) (x1 : Int32) (x2 : Int32) (x3 : Int32) (x4 : Int32) (σ : St) : Prop :=
  
    (((σ.1 4 3) ≤ x4 → K17 (x1) (x2) (x3 + 1) (σ)) ∧ (¬ (σ.1 4 3) ≤ x4 → (wp_X6_wanted x1 x4 x3 (fun r43 σ43 =>
    (wp_X6_strength x1 x3 (fun r49 σ49 =>
    (∀ v53 : Int32, v53 = (if x2 < (r43 - r49) then (r43 - r49) else x2) → K25 (x1) (v53) (x3) (x4 + 1) (σ49))) σ43)) σ)))
def wp_X6_mend_l25 (Q : Int32 → St → Prop) (K17 : Int32 → Int32 → Int32 → St → Prop) : Nat → Int32 → Int32 → Int32 → Int32 → St → Prop
  | 0, _, _, _, _, _ => False
  | n + 1, x1, x2, x3, x4, σ => wp_X6_mend_b25 Q K17 (wp_X6_mend_l25 Q K17 n) x1 x2 x3 x4 σ
def wp_X6_mend_b17 (Q : Int32 → St → Prop) (K17 : Int32 → Int32 → Int32 → St → Prop) (x1 : Int32) (x2 : Int32) (x3 : Int32) (σ : St) : Prop :=
  
    (((4 : Int32) ≤ x3 → (∃ n : Nat, wp_X6_mend_l71 Q n (x2) (0) (σ))) ∧ (¬ (4 : Int32) ≤ x3 → (∃ n : Nat, wp_X6_mend_l25 Q K17 n (x1) (x2) (x3) (0) (σ))))
def wp_X6_mend_l17 (Q : Int32 → St → Prop) : Nat → Int32 → Int32 → Int32 → St → Prop
  | 0, _, _, _, _ => False
  | n + 1, x1, x2, x3, σ => wp_X6_mend_b17 Q (wp_X6_mend_l17 Q  n) x1 x2 x3 σ
def wp_X6_mend (x1 : Int32) (Q : Int32 → St → Prop) (σ : St) : Prop :=
  (wp_X4_hasHearth x1 (fun r5 σ5 =>
    
    ((r5 = 0 → Q (-1) σ5) ∧ (¬ r5 = 0 → (∃ n : Nat, wp_X6_mend_l17 Q n (x1) (0) (0) (σ5))))) σ)
def wp_X6_moved (x1 : Int32) (x2 : Int32) (Q : Int32 → St → Prop) (σ : St) : Prop :=
  
    ((x1 < 0 → Q (-1) σ) ∧ (¬ x1 < 0 → 
    (((1024 : Int32) ≤ x1 → Q (-1) σ) ∧ (¬ (1024 : Int32) ≤ x1 → 
    ((x2 < 0 → Q (-1) σ) ∧ (¬ x2 < 0 → 
    ((x2 ≤ (1 : Int32) → (vp_in (0 : Int32) 6 ∧ (wp_X0_findsNone (σ.1 14 (0 : Int32).toNatClampNeg) (fun r40 σ40 =>
    
    ((r40 = 0 → Q (-2) σ40) ∧ (¬ r40 = 0 → (wp_X6_fewestMoved x1 (fun r51 σ51 =>
    
    ((r51 = ((-9) : Int32) → Q (-9) σ51) ∧ (¬ r51 = ((-9) : Int32) → 
    ((x2 = 0 → (wp_J6_bitCount_0f7a4 r51 (fun r69 σ69 =>
    Q r69 σ69) σ51)) ∧ (¬ x2 = 0 → Q r51 σ51))))) σ40)))) σ))) ∧ (¬ x2 ≤ (1 : Int32) → Q (-1) σ))))))))
def wp_X6_mark (x1 : Int32) (x2 : Int32) (Q : Int32 → St → Prop) (σ : St) : Prop :=
  (wp_X4_hasBrick x1 x2 (fun r6 σ6 =>
    
    ((r6 = 0 → Q (-1) σ6) ∧ (¬ r6 = 0 → 
    (((σ6.1 20 3) < (6 : Int32) → (vp_in (σ6.1 20 3) 6 ∧ (vp_in ((sI σ6 25 (σ6.1 20 3).toNatClampNeg x1).1 20 3) 6 ∧ Q ((sI (sI (sI σ6 25 (σ6.1 20 3).toNatClampNeg x1) 26 ((sI σ6 25 (σ6.1 20 3).toNatClampNeg x1).1 20 3).toNatClampNeg x2) 20 3 (((sI (sI σ6 25 (σ6.1 20 3).toNatClampNeg x1) 26 ((sI σ6 25 (σ6.1 20 3).toNatClampNeg x1).1 20 3).toNatClampNeg x2).1 20 3) + 1)).1 20 3) (sI (sI (sI σ6 25 (σ6.1 20 3).toNatClampNeg x1) 26 ((sI σ6 25 (σ6.1 20 3).toNatClampNeg x1).1 20 3).toNatClampNeg x2) 20 3 (((sI (sI σ6 25 (σ6.1 20 3).toNatClampNeg x1) 26 ((sI σ6 25 (σ6.1 20 3).toNatClampNeg x1).1 20 3).toNatClampNeg x2).1 20 3) + 1))))) ∧ (¬ (σ6.1 20 3) < (6 : Int32) → Q (-3) σ6))))) σ)
def wp_X6_guess (x1 : Int32) (Q : Int64 → St → Prop) (σ : St) : Prop :=
  (wp_X4_hasHearth x1 (fun r5 σ5 =>
    
    ((r5 = 0 → Q (-1) σ5) ∧ (¬ r5 = 0 → (wp_X5_prepare x1 (fun σ24 => (wp_X5_hear  (fun σ35 => (wp_X5_number  (fun r42 σ42 =>
    Q r42 σ42) σ35)) σ24)) σ5)))) σ)
def wp_X6_rate (x1 : Int32) (x2 : Int32) (Q : Int32 → St → Prop) (σ : St) : Prop :=
  (wp_X4_hasHearth x2 (fun r5 σ5 =>
    
    ((r5 = 0 → Q (-1000000) σ5) ∧ (¬ r5 = 0 → 
    ((x1 = 0 → (wp_X6_rateFlue x2 (fun r54 σ54 =>
    Q r54 σ54) σ5)) ∧ (¬ x1 = 0 → ((x1 = 1 → (wp_X6_rateStraight x2 (fun r60 σ60 =>
    Q r60 σ60) σ5)) ∧ (¬ x1 = 1 → ((x1 = 2 → (wp_X6_rateLean x2 (fun r66 σ66 =>
    Q r66 σ66) σ5)) ∧ (¬ x1 = 2 → ((x1 = 3 → (wp_X6_rateGather x2 (fun r72 σ72 =>
    Q r72 σ72) σ5)) ∧ (¬ x1 = 3 → ((x1 = 4 → (wp_X6_rateShared x2 (fun r78 σ78 =>
    Q r78 σ78) σ5)) ∧ (¬ x1 = 4 → ((x1 = 5 → (wp_X6_rateOld x2 (fun r84 σ84 =>
    Q r84 σ84) σ5)) ∧ (¬ x1 = 5 → Q (-1000000) σ5))))))))))))))) σ)
def wp_X6_keep (x1 : Int32) (Q : Int32 → St → Prop) (σ : St) : Prop :=
  
    ((x1 < 0 → Q (-1) σ) ∧ (¬ x1 < 0 → 
    ((x1 < (2 : Int32) → (wp_X6_imageOf x1 (fun r13 σ13 => ((r13 = 28 → (wp_X2_copyFrom_28_20  (fun σ20 => (vp_in x1 2 ∧ Q ((sI σ20 42 x1.toNatClampNeg (vp_nar .boolean (1 : Int32))).1 20 3) (sI σ20 42 x1.toNatClampNeg (vp_nar .boolean (1 : Int32))))) σ13)) ∧ (r13 = 35 → (wp_X2_copyFrom_35_20  (fun σ20 => (vp_in x1 2 ∧ Q ((sI σ20 42 x1.toNatClampNeg (vp_nar .boolean (1 : Int32))).1 20 3) (sI σ20 42 x1.toNatClampNeg (vp_nar .boolean (1 : Int32))))) σ13)) ∧ (r13 = 28 ∨ r13 = 35))) σ)) ∧ (¬ x1 < (2 : Int32) → Q (-1) σ))))
def wp_X6_back (x1 : Int32) (Q : Int32 → St → Prop) (σ : St) : Prop :=
  
    ((x1 < 0 → Q (-1) σ) ∧ (¬ x1 < 0 → 
    ((x1 < (2 : Int32) → (vp_in x1 2 ∧ 
    (((σ.1 42 x1.toNatClampNeg) = 0 → Q (-2) σ) ∧ (¬ (σ.1 42 x1.toNatClampNeg) = 0 → (wp_X6_imageOf x1 (fun r29 σ29 => ((r29 = 28 → (wp_X2_copyFrom_20_28  (fun σ32 => Q (σ32.1 20 3) σ32) σ29)) ∧ (r29 = 35 → (wp_X2_copyFrom_20_35  (fun σ32 => Q (σ32.1 20 3) σ32) σ29)) ∧ (r29 = 28 ∨ r29 = 35))) σ))))) ∧ (¬ x1 < (2 : Int32) → Q (-1) σ))))
def wp_X6_count (x1 : Int32) (Q : Int32 → St → Prop) (σ : St) : Prop :=
  
    ((x1 = 0 → Q (σ.1 4 0) σ) ∧ (¬ x1 = 0 → ((x1 = 1 → Q (σ.1 4 1) σ) ∧ (¬ x1 = 1 → ((x1 = 2 → Q (σ.1 4 3) σ) ∧ (¬ x1 = 2 → ((x1 = 3 → Q (σ.1 20 3) σ) ∧ (¬ x1 = 3 → ((x1 = 4 → Q (σ.1 0 1) σ) ∧ (¬ x1 = 4 → ((x1 = 5 → (wp_X4_barredBricks  (fun r81 σ81 =>
    Q r81 σ81) σ)) ∧ (¬ x1 = 5 → Q (-1) σ))))))))))))
def wp_X6_trace (Q : Int64 → St → Prop) (σ : St) : Prop :=
  Q (σ.2 0 14) σ
def wp_X7_in (x0 : Int32) (x1 : Int32) (x2 : Int32) (Q : Int32 → St → Prop) (σ : St) : Prop :=
  
    ((x0 < x1 → Q (0 : Int32) σ) ∧ (¬ x0 < x1 → 
    ((x2 < x0 → Q (0 : Int32) σ) ∧ (¬ x2 < x0 → Q (1 : Int32) σ))))
def wp_X7_type_b32 (Q : Int32 → St → Prop) (K32 : Int64 → Int32 → St → Prop) (x1 : Int64) (x4 : Int32) (σ : St) : Prop :=
  
    ((x4 < 0 → Q (σ.1 75 2) σ) ∧ (¬ x4 < 0 → (vp_in (σ.1 75 2) 300 ∧ K32 (x1) (x4 + (-1)) (sI (sI σ 76 (σ.1 75 2).toNatClampNeg (vp_nar .byte ((((x1 >>> ((8 * x4).toInt64 &&& 63)) &&& 255).toInt32).toInt8.toInt32))) 75 2 (((sI σ 76 (σ.1 75 2).toNatClampNeg (vp_nar .byte ((((x1 >>> ((8 * x4).toInt64 &&& 63)) &&& 255).toInt32).toInt8.toInt32))).1 75 2) + 1)))))
def wp_X7_type_l32 (Q : Int32 → St → Prop) : Nat → Int64 → Int32 → St → Prop
  | 0, _, _, _ => False
  | n + 1, x1, x4, σ => wp_X7_type_b32 Q (wp_X7_type_l32 Q  n) x1 x4 σ
def wp_X7_type (x1 : Int64) (x3 : Int32) (Q : Int32 → St → Prop) (σ : St) : Prop :=
  (wp_X7_in x3 (1 : Int32) (8 : Int32) (fun r4 σ4 =>
    
    ((r4 = 0 → Q (-1) σ4) ∧ (¬ r4 = 0 → 
    ((((σ4.1 75 2) + x3) ≤ (300 : Int32) → (∃ n : Nat, wp_X7_type_l32 Q n (x1) (x3 - 1) (σ4))) ∧ (¬ ((σ4.1 75 2) + x3) ≤ (300 : Int32) → Q (-3) σ4))))) σ)
def wp_X7_clear (Q : Int32 → St → Prop) (σ : St) : Prop :=
  Q (σ.1 75 2) (sI σ 75 2 (0 : Int32))
def wp_X7_here (Q : Int32 → St → Prop) (σ : St) : Prop :=
  
    (((σ.1 75 2) ≤ (σ.1 75 13) → Q (-1) σ) ∧ (¬ (σ.1 75 2) ≤ (σ.1 75 13) → (vp_in (σ.1 75 13) 300 ∧ Q ((σ.1 76 (σ.1 75 13).toNatClampNeg) &&& 255) σ)))
def wp_X7_next_b294 (Q : St → Prop) (σ : St) : Prop :=
  Q (sI σ 75 15 (7 : Int32))
def wp_X7_next_b299 (Q : St → Prop) (σ : St) : Prop :=
  Q (sI σ 75 15 (5 : Int32))
def wp_X7_next_b249 (Q : St → Prop) (K203 : Int32 → St → Prop) (x1 : Int32) (s0 : Int32) (σ : St) : Prop :=
  K203 (x1) (sI (sI σ 75 16 s0) 75 13 (((sI σ 75 16 s0).1 75 13) + 1))
def wp_X7_next_b203 (Q : St → Prop) (K203 : Int32 → St → Prop) (x1 : Int32) (σ : St) : Prop :=
  (wp_X7_here  (fun r204 σ204 =>
    (wp_X7_in r204 (48 : Int32) (57 : Int32) (fun r211 σ211 =>
    
    ((r211 = 0 → 
    (((99 : Int32) < (σ211.1 75 16) → wp_X7_next_b294 Q (σ211)) ∧ (¬ (99 : Int32) < (σ211.1 75 16) → 
    ((x1 = (48 : Int32) → 
    ((((σ211.1 75 13) - (σ211.1 75 14)) ≤ (1 : Int32) → wp_X7_next_b299 Q (σ211)) ∧ (¬ ((σ211.1 75 13) - (σ211.1 75 14)) ≤ (1 : Int32) → wp_X7_next_b294 Q (σ211)))) ∧ (¬ x1 = (48 : Int32) → wp_X7_next_b299 Q (σ211)))))) ∧ (¬ r211 = 0 → 
    (((σ211.1 75 16) ≤ (99 : Int32) → (wp_X7_here  (fun r242 σ242 =>
    wp_X7_next_b249 Q K203 (x1) (((10 * (σ211.1 75 16)) + r242) - 48) (σ242)) σ211)) ∧ (¬ (σ211.1 75 16) ≤ (99 : Int32) → wp_X7_next_b249 Q K203 (x1) (σ211.1 75 16) (σ211)))))) σ204)) σ)
def wp_X7_next_l203 (Q : St → Prop) : Nat → Int32 → St → Prop
  | 0, _, _ => False
  | n + 1, x1, σ => wp_X7_next_b203 Q (wp_X7_next_l203 Q  n) x1 σ
def wp_X7_next_b142 (Q : St → Prop) (s0 : Int32) (σ : St) : Prop :=
  
    ((s0 = (381245 : Int32) → Q (sI σ 75 15 (1 : Int32))) ∧ (¬ s0 = (381245 : Int32) → 
    ((s0 = (43051 : Int32) → Q (sI σ 75 15 (2 : Int32))) ∧ (¬ s0 = (43051 : Int32) → 
    ((s0 = (70312 : Int32) → Q (sI σ 75 15 (3 : Int32))) ∧ (¬ s0 = (70312 : Int32) → 
    ((s0 = (117481814 : Int32) → Q (sI σ 75 15 (4 : Int32))) ∧ (¬ s0 = (117481814 : Int32) → Q (sI σ 75 15 (7 : Int32))))))))))
def wp_X7_next_b109 (Q : St → Prop) (K65 : Int32 → St → Prop) (s0 : Int32) (σ : St) : Prop :=
  K65 (s0) (sI σ 75 13 ((σ.1 75 13) + 1))
def wp_X7_next_b65 (Q : St → Prop) (K65 : Int32 → St → Prop) (x2 : Int32) (σ : St) : Prop :=
  (wp_X7_here  (fun r66 σ66 =>
    (wp_X7_in r66 (97 : Int32) (122 : Int32) (fun r73 σ73 =>
    
    ((r73 = 0 → 
    ((((σ73.1 75 13) - (σ73.1 75 14)) ≤ (6 : Int32) → wp_X7_next_b142 Q (x2) (σ73)) ∧ (¬ ((σ73.1 75 13) - (σ73.1 75 14)) ≤ (6 : Int32) → wp_X7_next_b142 Q (0) (σ73)))) ∧ (¬ r73 = 0 → 
    (((6 : Int32) ≤ ((σ73.1 75 13) - (σ73.1 75 14)) → wp_X7_next_b109 Q K65 (0) (σ73)) ∧ (¬ (6 : Int32) ≤ ((σ73.1 75 13) - (σ73.1 75 14)) → (wp_X7_here  (fun r98 σ98 =>
    wp_X7_next_b109 Q K65 (((27 * x2) + r98) - 96) (σ98)) σ73)))))) σ66)) σ)
def wp_X7_next_l65 (Q : St → Prop) : Nat → Int32 → St → Prop
  | 0, _, _ => False
  | n + 1, x2, σ => wp_X7_next_b65 Q (wp_X7_next_l65 Q  n) x2 σ
def wp_X7_next_b0 (Q : St → Prop) (K0 : St → Prop) (σ : St) : Prop :=
  (wp_X7_here  (fun r1 σ1 =>
    
    ((r1 = (32 : Int32) → K0 (sI σ1 75 13 ((σ1.1 75 13) + 1))) ∧ (¬ r1 = (32 : Int32) → (wp_X7_here  (fun r36 σ36 =>
    
    ((0 ≤ r36 → (wp_X7_in r36 (97 : Int32) (122 : Int32) (fun r57 σ57 =>
    
    ((r57 = 0 → (wp_X7_in r36 (48 : Int32) (57 : Int32) (fun r197 σ197 =>
    
    ((r197 = 0 → 
    ((r36 = (59 : Int32) → Q (sI (sI σ197 75 13 ((σ197.1 75 13) + 1)) 75 15 (6 : Int32))) ∧ (¬ r36 = (59 : Int32) → Q (sI (sI σ197 75 13 ((σ197.1 75 13) + 1)) 75 15 (7 : Int32))))) ∧ (¬ r197 = 0 → (∃ n : Nat, wp_X7_next_l203 Q n (r36) (σ197))))) σ57)) ∧ (¬ r57 = 0 → (∃ n : Nat, wp_X7_next_l65 Q n (0) (σ57))))) σ36)) ∧ (¬ 0 ≤ r36 → Q (sI σ36 75 15 (0 : Int32))))) (sI (sI σ1 75 14 (σ1.1 75 13)) 75 16 (0 : Int32)))))) σ)
def wp_X7_next_l0 (Q : St → Prop) : Nat → St → Prop
  | 0, _ => False
  | n + 1, σ => wp_X7_next_b0 Q (wp_X7_next_l0 Q  n) σ
def wp_X7_next (Q : St → Prop) (σ : St) : Prop :=
  (∃ n : Nat, wp_X7_next_l0 Q n (σ))
def wp_X7_due (x1 : Int32) (Q : Int32 → St → Prop) (σ : St) : Prop :=
  
    (((σ.1 75 17) = ((-9) : Int32) → 
    ((x1 = 0 → Q (σ.1 75 16) (sI σ 75 17 (σ.1 75 14))) ∧ (¬ x1 = 0 → (wp_X7_next  (fun σ19 => Q (σ.1 75 16) σ19) σ)))) ∧ (¬ (σ.1 75 17) = ((-9) : Int32) → Q (σ.1 75 16) σ))
def wp_X7_number_b26 (Q : Int32 → St → Prop) (s0 : Int32) (σ : St) : Prop :=
  (wp_X7_due s0 (fun r26 σ26 =>
    Q r26 σ26) σ)
def wp_X7_number_b25 (Q : Int32 → St → Prop) (σ : St) : Prop :=
  wp_X7_number_b26 Q (0) (σ)
def wp_X7_number (x1 : Int32) (x2 : Int32) (Q : Int32 → St → Prop) (σ : St) : Prop :=
  
    (((σ.1 75 15) = (5 : Int32) → (wp_X7_in (σ.1 75 16) x1 x2 (fun r15 σ15 =>
    
    ((r15 = 0 → wp_X7_number_b25 Q (σ15)) ∧ (¬ r15 = 0 → wp_X7_number_b26 Q (1) (σ15)))) σ)) ∧ (¬ (σ.1 75 15) = (5 : Int32) → wp_X7_number_b25 Q (σ)))
def wp_X7_span (Q : Int32 → St → Prop) (σ : St) : Prop :=
  (vp_in (1 : Int32) 2 ∧ (wp_X7_number (0 : Int32) ((σ.1 77 (1 : Int32).toNatClampNeg) - 1) (fun r10 σ10 =>
    (vp_in (1 : Int32) 2 ∧ (wp_X7_number r10 ((σ10.1 77 (1 : Int32).toNatClampNeg) - 1) (fun r24 σ24 =>
    
    (((σ24.1 75 17) = ((-9) : Int32) → Q (((2 : Int32) <<< (r24 &&& 31)) - ((1 : Int32) <<< (r10 &&& 31))) σ24) ∧ (¬ (σ24.1 75 17) = ((-9) : Int32) → Q (0 : Int32) σ24))) σ10))) σ))
def wp_X7_item_b299 (Q : St → Prop) (s0 : Int32) (σ : St) : Prop :=
  (wp_X7_due s0 (fun r299 σ299 =>
    Q σ299) σ)
def wp_X7_item_b284 (Q : St → Prop) (σ : St) : Prop :=
  
    (((σ.1 75 15) = (6 : Int32) → wp_X7_item_b299 Q (1) (σ)) ∧ (¬ (σ.1 75 15) = (6 : Int32) → wp_X7_item_b299 Q (0) (σ)))
def wp_X7_item_b183 (Q : St → Prop) (x4 : Int32) (s0 : Int32) (s1 : Int32) (σ : St) : Prop :=
  (vp_in (s1 + s0) 32 ∧ (vp_in (s1 + s0) 32 ∧ wp_X7_item_b284 Q (sI σ 83 (s1 + s0).toNatClampNeg ((σ.1 83 (s1 + s0).toNatClampNeg) ||| x4))))
def wp_X7_item_b134 (Q : St → Prop) (s0 : Int32) (s1 : Int32) (σ : St) : Prop :=
  (vp_in s1 2 ∧ wp_X7_item_b284 Q (sI σ 78 s1.toNatClampNeg s0))
def wp_X7_item_b108 (Q : St → Prop) (x4 : Int32) (s0 : Int32) (s1 : Int32) (σ : St) : Prop :=
  (vp_in s1 2 ∧ 
    ((((sI σ 77 s1.toNatClampNeg s0).1 75 17) = ((-9) : Int32) → wp_X7_item_b134 Q (x4) (1) (sI σ 77 s1.toNatClampNeg s0)) ∧ (¬ ((sI σ 77 s1.toNatClampNeg s0).1 75 17) = ((-9) : Int32) → (vp_in (1 : Int32) 2 ∧ wp_X7_item_b134 Q ((sI σ 77 s1.toNatClampNeg s0).1 78 (1 : Int32).toNatClampNeg) (1) (sI σ 77 s1.toNatClampNeg s0)))))
def wp_X7_item_b48 (Q : St → Prop) (x1 : Int32) (s0 : Int32) (σ : St) : Prop :=
  (wp_X7_due s0 (fun r48 σ48 =>
    
    (((σ48.1 75 17) = ((-9) : Int32) → 
    ((x1 = (1 : Int32) → (wp_X7_number (2 : Int32) (10 : Int32) (fun r71 σ71 =>
    (wp_X7_number (2 : Int32) (16 : Int32) (fun r79 σ79 =>
    
    (((σ79.1 75 17) = ((-9) : Int32) → wp_X7_item_b108 Q (r79) (r71) (1) (σ79)) ∧ (¬ (σ79.1 75 17) = ((-9) : Int32) → (vp_in (1 : Int32) 2 ∧ wp_X7_item_b108 Q (r79) (σ79.1 77 (1 : Int32).toNatClampNeg) (1) (σ79))))) σ71)) σ48)) ∧ (¬ x1 = (1 : Int32) → 
    ((x1 = (2 : Int32) → (vp_in (1 : Int32) 2 ∧ (wp_X7_number (0 : Int32) ((σ48.1 78 (1 : Int32).toNatClampNeg) - 1) (fun r153 σ153 =>
    (wp_X7_span  (fun r158 σ158 =>
    
    (((σ158.1 75 17) = ((-9) : Int32) → wp_X7_item_b183 Q (r158) (r153) (16) (σ158)) ∧ (¬ (σ158.1 75 17) = ((-9) : Int32) → wp_X7_item_b183 Q (r158) (0) (16) (σ158)))) σ153)) σ48))) ∧ (¬ x1 = (2 : Int32) → 
    ((x1 = (3 : Int32) → (vp_in (1 : Int32) 2 ∧ (wp_X7_span  (fun r206 σ206 =>
    (vp_in (1 : Int32) 2 ∧ wp_X7_item_b284 Q (sI σ206 84 (1 : Int32).toNatClampNeg ((σ48.1 84 (1 : Int32).toNatClampNeg) ||| r206)))) σ48))) ∧ (¬ x1 = (3 : Int32) → (vp_in (1 : Int32) 2 ∧ (∀ v222 : Int32, v222 = 3 + (σ48.1 79 (1 : Int32).toNatClampNeg) → (vp_in (1 : Int32) 2 ∧ (wp_X7_number (0 : Int32) ((σ48.1 78 (1 : Int32).toNatClampNeg) - 2) (fun r238 σ238 =>
    (vp_in v222 6 ∧ (vp_in (1 : Int32) 2 ∧ (wp_X7_number (0 : Int32) (((sI σ238 80 v222.toNatClampNeg r238).1 77 (1 : Int32).toNatClampNeg) - 1) (fun r257 σ257 =>
    (vp_in v222 6 ∧ (wp_X7_number (0 : Int32) (99 : Int32) (fun r270 σ270 =>
    (vp_in v222 6 ∧ (vp_in (1 : Int32) 2 ∧ (vp_in (1 : Int32) 2 ∧ wp_X7_item_b284 Q (sI (sI σ270 82 v222.toNatClampNeg r270) 79 (1 : Int32).toNatClampNeg (((sI σ270 82 v222.toNatClampNeg r270).1 79 (1 : Int32).toNatClampNeg) + 1)))))) (sI σ257 81 v222.toNatClampNeg r257)))) (sI σ238 80 v222.toNatClampNeg r238))))) σ48))))))))))) ∧ (¬ (σ48.1 75 17) = ((-9) : Int32) → Q σ48))) σ)
def wp_X7_item_b43 (Q : St → Prop) (x1 : Int32) (σ : St) : Prop :=
  wp_X7_item_b48 Q (x1) (1) (σ)
def wp_X7_item_b47 (Q : St → Prop) (x1 : Int32) (σ : St) : Prop :=
  wp_X7_item_b48 Q (x1) (0) (σ)
def wp_X7_item (x1 : Int32) (x2 : Int32) (Q : St → Prop) (σ : St) : Prop :=
  
    ((x1 = (1 : Int32) → 
    ((x2 = 0 → wp_X7_item_b48 Q (x1) (1) (σ)) ∧ (¬ x2 = 0 → wp_X7_item_b48 Q (x1) (0) (σ)))) ∧ (¬ x1 = (1 : Int32) → 
    ((x1 = (2 : Int32) → wp_X7_item_b43 Q (x1) (σ)) ∧ (¬ x1 = (2 : Int32) → 
    ((x1 = (3 : Int32) → wp_X7_item_b43 Q (x1) (σ)) ∧ (¬ x1 = (3 : Int32) → 
    ((x1 = (4 : Int32) → (vp_in (1 : Int32) 2 ∧ 
    (((3 : Int32) ≤ (σ.1 79 (1 : Int32).toNatClampNeg) → wp_X7_item_b47 Q (x1) (σ)) ∧ (¬ (3 : Int32) ≤ (σ.1 79 (1 : Int32).toNatClampNeg) → wp_X7_item_b43 Q (x1) (σ))))) ∧ (¬ x1 = (4 : Int32) → wp_X7_item_b47 Q (x1) (σ)))))))))
def wp_X7_wall_b284 (Q : Int32 → St → Prop) (K284 : Int32 → St → Prop) (x2 : Int32) (σ : St) : Prop :=
  
    (((40 : Int32) ≤ x2 → (vp_in (0 : Int32) 3 ∧ (vp_in (0 : Int32) 2 ∧ (vp_in (1 : Int32) 2 ∧ (vp_in (0 : Int32) 2 ∧ Q ((sI (sI (sI (sI σ 96 (0 : Int32).toNatClampNeg (0 : Int32)) 99 (0 : Int32).toNatClampNeg (vp_nar .boolean (0 : Int32))) 99 (1 : Int32).toNatClampNeg (vp_nar .boolean (0 : Int32))) 75 2 (0 : Int32)).1 79 (0 : Int32).toNatClampNeg) (sI (sI (sI (sI σ 96 (0 : Int32).toNatClampNeg (0 : Int32)) 99 (0 : Int32).toNatClampNeg (vp_nar .boolean (0 : Int32))) 99 (1 : Int32).toNatClampNeg (vp_nar .boolean (0 : Int32))) 75 2 (0 : Int32))))))) ∧ (¬ (40 : Int32) ≤ x2 → (vp_in x2 40 ∧ K284 (x2 + 1) (sI σ 86 x2.toNatClampNeg (0 : Int32)))))
def wp_X7_wall_l284 (Q : Int32 → St → Prop) : Nat → Int32 → St → Prop
  | 0, _, _ => False
  | n + 1, x2, σ => wp_X7_wall_b284 Q (wp_X7_wall_l284 Q  n) x2 σ
def wp_X7_wall_b247 (Q : Int32 → St → Prop) (K198 : Int32 → St → Prop) (K247 : Int32 → Int32 → St → Prop) (x2 : Int32) (x3 : Int32) (σ : St) : Prop :=
  
    (((16 : Int32) ≤ x3 → K198 (x2 + 1) (σ)) ∧ (¬ (16 : Int32) ≤ x3 → (vp_in x2 6 ∧ (vp_in ((16 * x2) + x3) 144 ∧ K247 (x2) (x3 + 1) (sI σ 95 ((16 * x2) + x3).toNatClampNeg (σ.1 81 x2.toNatClampNeg))))))
def wp_X7_wall_l247 (Q : Int32 → St → Prop) (K198 : Int32 → St → Prop) : Nat → Int32 → Int32 → St → Prop
  | 0, _, _, _ => False
  | n + 1, x2, x3, σ => wp_X7_wall_b247 Q K198 (wp_X7_wall_l247 Q K198 n) x2 x3 σ
def wp_X7_wall_b198 (Q : Int32 → St → Prop) (K198 : Int32 → St → Prop) (x2 : Int32) (σ : St) : Prop :=
  
    (((3 : Int32) ≤ x2 → (∃ n : Nat, wp_X7_wall_l284 Q n (0) (σ))) ∧ (¬ (3 : Int32) ≤ x2 → (vp_in (3 + x2) 6 ∧ (vp_in x2 6 ∧ (vp_in (3 + x2) 6 ∧ (vp_in x2 6 ∧ (vp_in (3 + x2) 6 ∧ (vp_in x2 6 ∧ (∃ n : Nat, wp_X7_wall_l247 Q K198 n (x2) (0) (sI (sI (sI σ 80 x2.toNatClampNeg (σ.1 80 (3 + x2).toNatClampNeg)) 81 x2.toNatClampNeg ((sI σ 80 x2.toNatClampNeg (σ.1 80 (3 + x2).toNatClampNeg)).1 81 (3 + x2).toNatClampNeg)) 82 x2.toNatClampNeg ((sI (sI σ 80 x2.toNatClampNeg (σ.1 80 (3 + x2).toNatClampNeg)) 81 x2.toNatClampNeg ((sI σ 80 x2.toNatClampNeg (σ.1 80 (3 + x2).toNatClampNeg)).1 81 (3 + x2).toNatClampNeg)).1 82 (3 + x2).toNatClampNeg)))))))))))
def wp_X7_wall_l198 (Q : Int32 → St → Prop) : Nat → Int32 → St → Prop
  | 0, _, _ => False
  | n + 1, x2, σ => wp_X7_wall_b198 Q (wp_X7_wall_l198 Q  n) x2 σ
def wp_X7_wall_b169 (Q : Int32 → St → Prop) (K169 : Int32 → St → Prop) (x2 : Int32) (σ : St) : Prop :=
  
    (((16 : Int32) ≤ x2 → (∃ n : Nat, wp_X7_wall_l198 Q n (0) (σ))) ∧ (¬ (16 : Int32) ≤ x2 → (vp_in (16 + x2) 32 ∧ (vp_in x2 32 ∧ K169 (x2 + 1) (sI σ 83 x2.toNatClampNeg (σ.1 83 (16 + x2).toNatClampNeg))))))
def wp_X7_wall_l169 (Q : Int32 → St → Prop) : Nat → Int32 → St → Prop
  | 0, _, _ => False
  | n + 1, x2, σ => wp_X7_wall_b169 Q (wp_X7_wall_l169 Q  n) x2 σ
def wp_X7_wall_b102 (Q : Int32 → St → Prop) (σ : St) : Prop :=
  
    (((σ.1 75 17) = ((-9) : Int32) → (vp_in (1 : Int32) 2 ∧ (vp_in (0 : Int32) 2 ∧ (vp_in (1 : Int32) 2 ∧ (vp_in (0 : Int32) 2 ∧ (vp_in (1 : Int32) 2 ∧ (vp_in (0 : Int32) 2 ∧ (vp_in (1 : Int32) 2 ∧ (vp_in (0 : Int32) 2 ∧ (∃ n : Nat, wp_X7_wall_l169 Q n (0) (sI (sI (sI (sI σ 77 (0 : Int32).toNatClampNeg (σ.1 77 (1 : Int32).toNatClampNeg)) 78 (0 : Int32).toNatClampNeg ((sI σ 77 (0 : Int32).toNatClampNeg (σ.1 77 (1 : Int32).toNatClampNeg)).1 78 (1 : Int32).toNatClampNeg)) 79 (0 : Int32).toNatClampNeg ((sI (sI σ 77 (0 : Int32).toNatClampNeg (σ.1 77 (1 : Int32).toNatClampNeg)) 78 (0 : Int32).toNatClampNeg ((sI σ 77 (0 : Int32).toNatClampNeg (σ.1 77 (1 : Int32).toNatClampNeg)).1 78 (1 : Int32).toNatClampNeg)).1 79 (1 : Int32).toNatClampNeg)) 84 (0 : Int32).toNatClampNeg ((sI (sI (sI σ 77 (0 : Int32).toNatClampNeg (σ.1 77 (1 : Int32).toNatClampNeg)) 78 (0 : Int32).toNatClampNeg ((sI σ 77 (0 : Int32).toNatClampNeg (σ.1 77 (1 : Int32).toNatClampNeg)).1 78 (1 : Int32).toNatClampNeg)) 79 (0 : Int32).toNatClampNeg ((sI (sI σ 77 (0 : Int32).toNatClampNeg (σ.1 77 (1 : Int32).toNatClampNeg)) 78 (0 : Int32).toNatClampNeg ((sI σ 77 (0 : Int32).toNatClampNeg (σ.1 77 (1 : Int32).toNatClampNeg)).1 78 (1 : Int32).toNatClampNeg)).1 79 (1 : Int32).toNatClampNeg)).1 84 (1 : Int32).toNatClampNeg)))))))))))) ∧ (¬ (σ.1 75 17) = ((-9) : Int32) → Q ((-10) - (σ.1 75 17)) σ))
def wp_X7_wall_b71 (Q : Int32 → St → Prop) (K71 : Int32 → St → Prop) (x1 : Int32) (σ : St) : Prop :=
  
    (((σ.1 75 17) = ((-9) : Int32) → 
    (((σ.1 75 15) = 0 → wp_X7_wall_b102 Q (σ)) ∧ (¬ (σ.1 75 15) = 0 → (wp_X7_item (σ.1 75 15) x1 (fun σ93 => K71 (x1 + 1) (σ93)) σ)))) ∧ (¬ (σ.1 75 17) = ((-9) : Int32) → wp_X7_wall_b102 Q (σ)))
def wp_X7_wall_l71 (Q : Int32 → St → Prop) : Nat → Int32 → St → Prop
  | 0, _, _ => False
  | n + 1, x1, σ => wp_X7_wall_b71 Q (wp_X7_wall_l71 Q  n) x1 σ
def wp_X7_wall_b43 (Q : Int32 → St → Prop) (K43 : Int32 → St → Prop) (x1 : Int32) (σ : St) : Prop :=
  
    (((16 : Int32) ≤ x1 → (wp_X7_next  (fun σ68 => (∃ n : Nat, wp_X7_wall_l71 Q n (0) (σ68))) σ)) ∧ (¬ (16 : Int32) ≤ x1 → (vp_in (16 + x1) 32 ∧ K43 (x1 + 1) (sI σ 83 (16 + x1).toNatClampNeg (0 : Int32)))))
def wp_X7_wall_l43 (Q : Int32 → St → Prop) : Nat → Int32 → St → Prop
  | 0, _, _ => False
  | n + 1, x1, σ => wp_X7_wall_b43 Q (wp_X7_wall_l43 Q  n) x1 σ
def wp_X7_wall (Q : Int32 → St → Prop) (σ : St) : Prop :=
  (vp_in (1 : Int32) 2 ∧ (vp_in (1 : Int32) 2 ∧ (vp_in (1 : Int32) 2 ∧ (vp_in (1 : Int32) 2 ∧ (∃ n : Nat, wp_X7_wall_l43 Q n (0) (sI (sI (sI (sI (sI (sI σ 75 13 (0 : Int32)) 75 17 (-9)) 77 (1 : Int32).toNatClampNeg (10 : Int32)) 78 (1 : Int32).toNatClampNeg (10 : Int32)) 79 (1 : Int32).toNatClampNeg (0 : Int32)) 84 (1 : Int32).toNatClampNeg (0 : Int32)))))))
def wp_X7_isIn (x1 : Int32) (Q : Int32 → St → Prop) (σ : St) : Prop :=
  (vp_in (0 : Int32) 2 ∧ (wp_X7_in x1 (0 : Int32) ((σ.1 77 (0 : Int32).toNatClampNeg) - 1) (fun r10 σ10 =>
    ((r10 = 0 ∨ r10 = 1) ∧ Q r10 σ10)) σ))
def wp_X7_isCourse (x1 : Int32) (Q : Int32 → St → Prop) (σ : St) : Prop :=
  (vp_in (0 : Int32) 2 ∧ (wp_X7_in x1 (0 : Int32) ((σ.1 78 (0 : Int32).toNatClampNeg) - 1) (fun r10 σ10 =>
    ((r10 = 0 ∨ r10 = 1) ∧ Q r10 σ10)) σ))
def wp_X7_isHearth (x1 : Int32) (Q : Int32 → St → Prop) (σ : St) : Prop :=
  (vp_in (0 : Int32) 2 ∧ (wp_X7_in x1 (0 : Int32) ((σ.1 79 (0 : Int32).toNatClampNeg) - 1) (fun r10 σ10 =>
    ((r10 = 0 ∨ r10 = 1) ∧ Q r10 σ10)) σ))
def wp_X7_isBarred (x1 : Int32) (x2 : Int32) (Q : Int32 → St → Prop) (σ : St) : Prop :=
  (vp_in x1 32 ∧ 
    (((((σ.1 83 x1.toNatClampNeg) >>> (x2 &&& 31)) &&& 1) = (1 : Int32) → Q (1 : Int32) σ) ∧ (¬ (((σ.1 83 x1.toNatClampNeg) >>> (x2 &&& 31)) &&& 1) = (1 : Int32) → Q (0 : Int32) σ)))
def wp_X7_isCold (x1 : Int32) (Q : Int32 → St → Prop) (σ : St) : Prop :=
  (wp_X7_isIn x1 (fun r2 σ2 =>
    
    ((r2 = 0 → Q (0 : Int32) σ2) ∧ (¬ r2 = 0 → (vp_in (0 : Int32) 2 ∧ 
    (((((σ2.1 84 (0 : Int32).toNatClampNeg) >>> (x1 &&& 31)) &&& 1) = (1 : Int32) → Q (1 : Int32) σ2) ∧ (¬ (((σ2.1 84 (0 : Int32).toNatClampNeg) >>> (x1 &&& 31)) &&& 1) = (1 : Int32) → Q (0 : Int32) σ2)))))) σ)
def wp_X7_brick_b30 (Q : Int32 → St → Prop) (x2 : Int32) (s0 : Int32) (σ : St) : Prop :=
  (wp_X7_isCold x2 (fun r32 σ32 =>
    
    ((r32 = 0 → Q (s0 + 0) σ32) ∧ (¬ r32 = 0 → Q (s0 + 2) σ32))) σ)
def wp_X7_brick (x1 : Int32) (x2 : Int32) (Q : Int32 → St → Prop) (σ : St) : Prop :=
  (wp_X7_isCourse x1 (fun r2 σ2 =>
    
    ((r2 = 0 → Q (-1) σ2) ∧ (¬ r2 = 0 → (wp_X7_isIn x2 (fun r10 σ10 =>
    
    ((r10 = 0 → Q (-1) σ10) ∧ (¬ r10 = 0 → (wp_X7_isBarred x1 x2 (fun r19 σ19 =>
    
    ((r19 = 0 → wp_X7_brick_b30 Q (x2) (0) (σ19)) ∧ (¬ r19 = 0 → wp_X7_brick_b30 Q (x2) (1) (σ19)))) σ10)))) σ2)))) σ)
def wp_X7_hearth (x1 : Int32) (x2 : Int32) (Q : Int32 → St → Prop) (σ : St) : Prop :=
  (wp_X7_isHearth x1 (fun r2 σ2 =>
    
    ((r2 = 0 → Q (-1) σ2) ∧ (¬ r2 = 0 → 
    ((x2 = 0 → (vp_in x1 6 ∧ Q (σ2.1 80 x1.toNatClampNeg) σ2)) ∧ (¬ x2 = 0 → 
    ((x2 = (1 : Int32) → (vp_in x1 6 ∧ Q (σ2.1 81 x1.toNatClampNeg) σ2)) ∧ (¬ x2 = (1 : Int32) → 
    ((x2 = (2 : Int32) → (vp_in x1 6 ∧ Q (σ2.1 82 x1.toNatClampNeg) σ2)) ∧ (¬ x2 = (2 : Int32) → Q (-1) σ2))))))))) σ)
def wp_X7_tune_b51 (Q : Int32 → St → Prop) (x1 : Int32) (x2 : Int32) (x3 : Int32) (s0 : Int32) (s1 : Int32) (σ : St) : Prop :=
  (wp_X7_in s1 s0 x3 (fun r52 σ52 =>
    
    ((r52 = 0 → Q (-1) σ52) ∧ (¬ r52 = 0 → (vp_in x1 6 ∧ (vp_in x1 6 ∧ Q (σ52.1 85 x1.toNatClampNeg) (sI σ52 85 x1.toNatClampNeg x2)))))) σ)
def wp_X7_tune_b30 (Q : Int32 → St → Prop) (x1 : Int32) (x2 : Int32) (s0 : Int32) (σ : St) : Prop :=
  (wp_X7_in x1 (0 : Int32) (5 : Int32) (fun r34 σ34 =>
    
    ((r34 = 0 → Q (-1) σ34) ∧ (¬ r34 = 0 → 
    ((x1 = (3 : Int32) → wp_X7_tune_b51 Q (x1) (x2) (s0) (1) (x2) (σ34)) ∧ (¬ x1 = (3 : Int32) → wp_X7_tune_b51 Q (x1) (x2) (s0) (0) (x2) (σ34)))))) σ)
def wp_X7_tune (x1 : Int32) (x2 : Int32) (Q : Int32 → St → Prop) (σ : St) : Prop :=
  
    ((x1 = 0 → wp_X7_tune_b30 Q (x1) (x2) (3) (σ)) ∧ (¬ x1 = 0 → 
    ((x1 = (4 : Int32) → wp_X7_tune_b30 Q (x1) (x2) (9) (σ)) ∧ (¬ x1 = (4 : Int32) → 
    ((x1 = (5 : Int32) → wp_X7_tune_b30 Q (x1) (x2) (99) (σ)) ∧ (¬ x1 = (5 : Int32) → wp_X7_tune_b30 Q (x1) (x2) (20) (σ)))))))
def wp_X7_wind (x1 : Int32) (x2 : Int32) (x3 : Int32) (Q : Int32 → St → Prop) (σ : St) : Prop :=
  (wp_X7_in x1 (0 : Int32) (3 : Int32) (fun r3 σ3 =>
    
    ((r3 = 0 → Q (-1000000) σ3) ∧ (¬ r3 = 0 → (wp_X7_isIn x2 (fun r11 σ11 =>
    
    ((r11 = 0 → Q (-1000000) σ11) ∧ (¬ r11 = 0 → (wp_X7_in x3 (-9) (9 : Int32) (fun r22 σ22 =>
    
    ((r22 = 0 → Q (-1000000) σ22) ∧ (¬ r22 = 0 → (vp_in ((10 * x1) + x2) 40 ∧ (∀ v42 : Int32, v42 = σ22.1 86 ((10 * x1) + x2).toNatClampNeg → (vp_in ((10 * x1) + x2) 40 ∧ Q v42 (sI σ22 86 ((10 * x1) + x2).toNatClampNeg x3))))))) σ11)))) σ3)))) σ)
def wp_X7_isMarked_b52 (Q : Int32 → St → Prop) (K6 : Int32 → Int32 → Int32 → Int32 → Int32 → St → Prop) (x1 : Int32) (x2 : Int32) (x3 : Int32) (x5 : Int32) (σ : St) : Prop :=
  K6 (x1) (x2) (x3) (0) (x5 + 1) (σ)
def wp_X7_isMarked_b48 (Q : Int32 → St → Prop) (K6 : Int32 → Int32 → Int32 → Int32 → Int32 → St → Prop) (x1 : Int32) (x2 : Int32) (x3 : Int32) (x5 : Int32) (σ : St) : Prop :=
  K6 (x1) (x2) (x3) (1) (x5 + 1) (σ)
def wp_X7_isMarked_b6 (Q : Int32 → St → Prop) (K6 : Int32 → Int32 → Int32 → Int32 → Int32 → St → Prop) (x1 : Int32) (x2 : Int32) (x3 : Int32) (x4 : Int32) (x5 : Int32) (σ : St) : Prop :=
  (vp_in (0 : Int32) 3 ∧ 
    (((σ.1 96 (0 : Int32).toNatClampNeg) ≤ x5 → ((x4 = 0 ∨ x4 = 1) ∧ Q x4 σ)) ∧ (¬ (σ.1 96 (0 : Int32).toNatClampNeg) ≤ x5 → 
    ((x3 = 0 → ((x4 = 0 ∨ x4 = 1) ∧ Q x4 σ)) ∧ (¬ x3 = 0 → 
    ((x4 = 0 → wp_X7_isMarked_b52 Q K6 (x1) (x2) (x3) (x5) (σ)) ∧ (¬ x4 = 0 → (vp_in x5 18 ∧ 
    (((σ.1 97 x5.toNatClampNeg) = x1 → (vp_in x5 18 ∧ 
    (((σ.1 98 x5.toNatClampNeg) = x2 → wp_X7_isMarked_b48 Q K6 (x1) (x2) (x3) (x5) (σ)) ∧ (¬ (σ.1 98 x5.toNatClampNeg) = x2 → wp_X7_isMarked_b52 Q K6 (x1) (x2) (x3) (x5) (σ))))) ∧ (¬ (σ.1 97 x5.toNatClampNeg) = x1 → wp_X7_isMarked_b48 Q K6 (x1) (x2) (x3) (x5) (σ)))))))))))
def wp_X7_isMarked_l6 (Q : Int32 → St → Prop) : Nat → Int32 → Int32 → Int32 → Int32 → Int32 → St → Prop
  | 0, _, _, _, _, _, _ => False
  | n + 1, x1, x2, x3, x4, x5, σ => wp_X7_isMarked_b6 Q (wp_X7_isMarked_l6 Q  n) x1 x2 x3 x4 x5 σ
def wp_X7_isMarked (x1 : Int32) (x2 : Int32) (x3 : Int32) (Q : Int32 → St → Prop) (σ : St) : Prop :=
  (∃ n : Nat, wp_X7_isMarked_l6 Q n (x1) (x2) (x3) (1) (0) (σ))
def wp_X7_countWays_b195 (Q : Int64 → St → Prop) (K195 : Int64 → Int32 → St → Prop) (x3 : Int64) (x5 : Int32) (σ : St) : Prop :=
  
    (((10 : Int32) ≤ x5 → Q x3 σ) ∧ (¬ (10 : Int32) ≤ x5 → (vp_in x5 10 ∧ K195 (x3 + (σ.2 87 x5.toNatClampNeg)) (x5 + 1) (σ))))
def wp_X7_countWays_l195 (Q : Int64 → St → Prop) : Nat → Int64 → Int32 → St → Prop
  | 0, _, _, _ => False
  | n + 1, x3, x5, σ => wp_X7_countWays_b195 Q (wp_X7_countWays_l195 Q  n) x3 x5 σ
def wp_X7_countWays_b176 (Q : Int64 → St → Prop) (K7 : Int32 → Int32 → Int32 → St → Prop) (K50 : Int32 → Int32 → Int32 → Int32 → St → Prop) (x1 : Int32) (x2 : Int32) (x3 : Int32) (x4 : Int32) (s0 : Int32) (σ : St) : Prop :=
  (vp_in s0 10 ∧ K50 (x1) (x2) (x3) (x4 + 1) (sJ σ 87 s0.toNatClampNeg (0 : Int64)))
def wp_X7_countWays_b133 (Q : Int64 → St → Prop) (K7 : Int32 → Int32 → Int32 → St → Prop) (K50 : Int32 → Int32 → Int32 → Int32 → St → Prop) (x1 : Int32) (x2 : Int32) (x3 : Int32) (x4 : Int32) (s0 : Int64) (σ : St) : Prop :=
  (wp_X7_isIn x4 (fun r144 σ144 =>
    
    ((r144 = 0 → wp_X7_countWays_b176 Q K7 K50 (x1) (x2) (x3) (x4) (x4) (σ144)) ∧ (¬ r144 = 0 → (wp_X7_isBarred x3 x4 (fun r154 σ154 =>
    
    ((r154 = 0 → (wp_X7_isMarked x3 x4 x2 (fun r165 σ165 =>
    
    ((r165 = 0 → wp_X7_countWays_b176 Q K7 K50 (x1) (x2) (x3) (x4) (x4) (σ165)) ∧ (¬ r165 = 0 → (vp_in x4 10 ∧ K50 (x1) (x2) (x3) (x4 + 1) (sJ σ165 87 x4.toNatClampNeg s0))))) σ154)) ∧ (¬ r154 = 0 → wp_X7_countWays_b176 Q K7 K50 (x1) (x2) (x3) (x4) (x4) (σ154)))) σ144)))) σ)
def wp_X7_countWays_b132 (Q : Int64 → St → Prop) (K7 : Int32 → Int32 → Int32 → St → Prop) (K50 : Int32 → Int32 → Int32 → Int32 → St → Prop) (x1 : Int32) (x2 : Int32) (x3 : Int32) (x4 : Int32) (s0 : Int64) (s1 : Int64) (σ : St) : Prop :=
  wp_X7_countWays_b133 Q K7 K50 (x1) (x2) (x3) (x4) (s1 + s0) (σ)
def wp_X7_countWays_b111 (Q : Int64 → St → Prop) (K7 : Int32 → Int32 → Int32 → St → Prop) (K50 : Int32 → Int32 → Int32 → Int32 → St → Prop) (x1 : Int32) (x2 : Int32) (x3 : Int32) (x4 : Int32) (s0 : Int64) (s1 : Int64) (σ : St) : Prop :=
  
    (((9 : Int32) ≤ x4 → wp_X7_countWays_b132 Q K7 K50 (x1) (x2) (x3) (x4) (0) (s1 + s0) (σ)) ∧ (¬ (9 : Int32) ≤ x4 → (vp_in (x4 + 1) 10 ∧ wp_X7_countWays_b132 Q K7 K50 (x1) (x2) (x3) (x4) (σ.2 88 (x4 + 1).toNatClampNeg) (s1 + s0) (σ))))
def wp_X7_countWays_b50 (Q : Int64 → St → Prop) (K7 : Int32 → Int32 → Int32 → St → Prop) (K50 : Int32 → Int32 → Int32 → Int32 → St → Prop) (x1 : Int32) (x2 : Int32) (x3 : Int32) (x4 : Int32) (σ : St) : Prop :=
  
    (((10 : Int32) ≤ x4 → K7 (x1) (x2) (x3 + 1) (σ)) ∧ (¬ (10 : Int32) ≤ x4 → (vp_in x1 6 ∧ 
    ((x3 = (σ.1 80 x1.toNatClampNeg) → (vp_in x1 6 ∧ 
    ((x4 = (σ.1 81 x1.toNatClampNeg) → wp_X7_countWays_b133 Q K7 K50 (x1) (x2) (x3) (x4) (1) (σ)) ∧ (¬ x4 = (σ.1 81 x1.toNatClampNeg) → wp_X7_countWays_b133 Q K7 K50 (x1) (x2) (x3) (x4) (0) (σ))))) ∧ (¬ x3 = (σ.1 80 x1.toNatClampNeg) → (vp_in x4 10 ∧ 
    ((x4 ≤ 0 → wp_X7_countWays_b111 Q K7 K50 (x1) (x2) (x3) (x4) (0) (σ.2 88 x4.toNatClampNeg) (σ)) ∧ (¬ x4 ≤ 0 → (vp_in (x4 - 1) 10 ∧ wp_X7_countWays_b111 Q K7 K50 (x1) (x2) (x3) (x4) (σ.2 88 (x4 - 1).toNatClampNeg) (σ.2 88 x4.toNatClampNeg) (σ))))))))))
def wp_X7_countWays_l50 (Q : Int64 → St → Prop) (K7 : Int32 → Int32 → Int32 → St → Prop) : Nat → Int32 → Int32 → Int32 → Int32 → St → Prop
  | 0, _, _, _, _, _ => False
  | n + 1, x1, x2, x3, x4, σ => wp_X7_countWays_b50 Q K7 (wp_X7_countWays_l50 Q K7 n) x1 x2 x3 x4 σ
def wp_X7_countWays_b20 (Q : Int64 → St → Prop) (K7 : Int32 → Int32 → Int32 → St → Prop) (K20 : Int32 → Int32 → Int32 → Int32 → St → Prop) (x1 : Int32) (x2 : Int32) (x3 : Int32) (x4 : Int32) (σ : St) : Prop :=
  
    (((10 : Int32) ≤ x4 → (∃ n : Nat, wp_X7_countWays_l50 Q K7 n (x1) (x2) (x3) (0) (σ))) ∧ (¬ (10 : Int32) ≤ x4 → (vp_in x4 10 ∧ (vp_in x4 10 ∧ K20 (x1) (x2) (x3) (x4 + 1) (sJ σ 88 x4.toNatClampNeg (σ.2 87 x4.toNatClampNeg))))))
def wp_X7_countWays_l20 (Q : Int64 → St → Prop) (K7 : Int32 → Int32 → Int32 → St → Prop) : Nat → Int32 → Int32 → Int32 → Int32 → St → Prop
  | 0, _, _, _, _, _ => False
  | n + 1, x1, x2, x3, x4, σ => wp_X7_countWays_b20 Q K7 (wp_X7_countWays_l20 Q K7 n) x1 x2 x3 x4 σ
def wp_X7_countWays_b7 (Q : Int64 → St → Prop) (K7 : Int32 → Int32 → Int32 → St → Prop) (x1 : Int32) (x2 : Int32) (x3 : Int32) (σ : St) : Prop :=
  (vp_in (0 : Int32) 2 ∧ 
    (((σ.1 78 (0 : Int32).toNatClampNeg) ≤ x3 → (∃ n : Nat, wp_X7_countWays_l195 Q n (0) (0) (σ))) ∧ (¬ (σ.1 78 (0 : Int32).toNatClampNeg) ≤ x3 → (∃ n : Nat, wp_X7_countWays_l20 Q K7 n (x1) (x2) (x3) (0) (σ)))))
def wp_X7_countWays_l7 (Q : Int64 → St → Prop) : Nat → Int32 → Int32 → Int32 → St → Prop
  | 0, _, _, _, _ => False
  | n + 1, x1, x2, x3, σ => wp_X7_countWays_b7 Q (wp_X7_countWays_l7 Q  n) x1 x2 x3 σ
def wp_X7_countWays (x1 : Int32) (x2 : Int32) (Q : Int64 → St → Prop) (σ : St) : Prop :=
  (vp_in x1 6 ∧ (∃ n : Nat, wp_X7_countWays_l7 Q n (x1) (x2) (σ.1 80 x1.toNatClampNeg) (σ)))
def wp_X7_many (x1 : Int32) (Q : Int64 → St → Prop) (σ : St) : Prop :=
  (wp_X7_isHearth x1 (fun r2 σ2 =>
    
    ((r2 = 0 → Q (-1) σ2) ∧ (¬ r2 = 0 → (wp_X7_countWays x1 (0 : Int32) (fun r11 σ11 =>
    Q r11 σ11) σ2)))) σ)
def wp_X7_guess (x1 : Int32) (Q : Int64 → St → Prop) (σ : St) : Prop :=
  (wp_X7_isHearth x1 (fun r2 σ2 =>
    
    ((r2 = 0 → Q (-1) σ2) ∧ (¬ r2 = 0 → (wp_X7_countWays x1 (1 : Int32) (fun r11 σ11 =>
    Q r11 σ11) σ2)))) σ)
def wp_X7_stillAt (x1 : Int32) (x2 : Int32) (x3 : Int32) (Q : Int32 → St → Prop) (σ : St) : Prop :=
  (vp_in ((((10 * x1) + x2) * 4) + x3) 640 ∧ Q (σ.1 89 ((((10 * x1) + x2) * 4) + x3).toNatClampNeg) σ)
def wp_X7_byStep_b48 (Q : Int32 → St → Prop) (x1 : Int32) (x4 : Int32) (x5 : Int32) (s0 : Int32) (σ : St) : Prop :=
  (wp_X7_stillAt (x1 + 1) x5 (x4 + 2) (fun r60 σ60 =>
    
    ((x4 = 0 → Q ((r60 + s0) + 0) σ60) ∧ (¬ x4 = 0 → Q ((r60 + s0) + 1) σ60))) σ)
def wp_X7_byStep_b47 (Q : Int32 → St → Prop) (x1 : Int32) (x4 : Int32) (x5 : Int32) (σ : St) : Prop :=
  wp_X7_byStep_b48 Q (x1) (x4) (x5) (0) (σ)
def wp_X7_byStep (x1 : Int32) (x2 : Int32) (x3 : Int32) (x4 : Int32) (Q : Int32 → St → Prop) (σ : St) : Prop :=
  (wp_X7_isIn (x2 + x4) (fun r9 σ9 =>
    
    ((r9 = 0 → Q (100000 : Int32) σ9) ∧ (¬ r9 = 0 → (wp_X7_isBarred (x1 + 1) (x2 + x4) (fun r21 σ21 =>
    
    ((r21 = 0 → 
    ((x3 ≤ 0 → wp_X7_byStep_b47 Q (x1) (x4) (x2 + x4) (σ21)) ∧ (¬ x3 ≤ 0 → 
    ((x3 = (x4 + 2) → wp_X7_byStep_b47 Q (x1) (x4) (x2 + x4) (σ21)) ∧ (¬ x3 = (x4 + 2) → wp_X7_byStep_b48 Q (x1) (x4) (x2 + x4) (100) (σ21)))))) ∧ (¬ r21 = 0 → Q (100000 : Int32) σ21))) σ9)))) σ)
def wp_X7_leastOne_b115 (Q : Int32 → St → Prop) (K9 : Int32 → Int32 → St → Prop) (K21 : Int32 → Int32 → Int32 → St → Prop) (K34 : Int32 → Int32 → Int32 → Int32 → St → Prop) (x1 : Int32) (x2 : Int32) (x3 : Int32) (x4 : Int32) (x5 : Int32) (σ : St) : Prop :=
  (wp_X7_isBarred x2 x3 (fun r133 σ133 =>
    
    ((r133 = 0 → (vp_in ((((10 * x2) + x3) * 4) + x4) 640 ∧ K34 (x1) (x2) (x3) (x4 + 1) (sI σ133 89 ((((10 * x2) + x3) * 4) + x4).toNatClampNeg x5))) ∧ (¬ r133 = 0 → (vp_in ((((10 * x2) + x3) * 4) + x4) 640 ∧ K34 (x1) (x2) (x3) (x4 + 1) (sI σ133 89 ((((10 * x2) + x3) * 4) + x4).toNatClampNeg (100000 : Int32)))))) σ)
def wp_X7_leastOne_b63 (Q : Int32 → St → Prop) (K9 : Int32 → Int32 → St → Prop) (K21 : Int32 → Int32 → Int32 → St → Prop) (K34 : Int32 → Int32 → Int32 → Int32 → St → Prop) (K63 : Int32 → Int32 → Int32 → Int32 → Int32 → Int32 → St → Prop) (x1 : Int32) (x2 : Int32) (x3 : Int32) (x4 : Int32) (x5 : Int32) (x6 : Int32) (σ : St) : Prop :=
  
    (((1 : Int32) < x6 → wp_X7_leastOne_b115 Q K9 K21 K34 (x1) (x2) (x3) (x4) (x5) (σ)) ∧ (¬ (1 : Int32) < x6 → (vp_in (0 : Int32) 2 ∧ 
    ((((σ.1 78 (0 : Int32).toNatClampNeg) - 1) ≤ x2 → wp_X7_leastOne_b115 Q K9 K21 K34 (x1) (x2) (x3) (x4) (x5) (σ)) ∧ (¬ ((σ.1 78 (0 : Int32).toNatClampNeg) - 1) ≤ x2 → (wp_X7_byStep x2 x3 x4 x6 (fun r88 σ88 =>
    
    ((x5 ≤ r88 → K63 (x1) (x2) (x3) (x4) (x5) (x6 + 1) (σ88)) ∧ (¬ x5 ≤ r88 → K63 (x1) (x2) (x3) (x4) (r88) (x6 + 1) (σ88)))) σ))))))
def wp_X7_leastOne_l63 (Q : Int32 → St → Prop) (K9 : Int32 → Int32 → St → Prop) (K21 : Int32 → Int32 → Int32 → St → Prop) (K34 : Int32 → Int32 → Int32 → Int32 → St → Prop) : Nat → Int32 → Int32 → Int32 → Int32 → Int32 → Int32 → St → Prop
  | 0, _, _, _, _, _, _, _ => False
  | n + 1, x1, x2, x3, x4, x5, x6, σ => wp_X7_leastOne_b63 Q K9 K21 K34 (wp_X7_leastOne_l63 Q K9 K21 K34 n) x1 x2 x3 x4 x5 x6 σ
def wp_X7_leastOne_b34 (Q : Int32 → St → Prop) (K9 : Int32 → Int32 → St → Prop) (K21 : Int32 → Int32 → Int32 → St → Prop) (K34 : Int32 → Int32 → Int32 → Int32 → St → Prop) (x1 : Int32) (x2 : Int32) (x3 : Int32) (x4 : Int32) (σ : St) : Prop :=
  
    (((4 : Int32) ≤ x4 → K21 (x1) (x2) (x3 + 1) (σ)) ∧ (¬ (4 : Int32) ≤ x4 → (vp_in (0 : Int32) 2 ∧ 
    ((x2 = ((σ.1 78 (0 : Int32).toNatClampNeg) - 1) → (∃ n : Nat, wp_X7_leastOne_l63 Q K9 K21 K34 n (x1) (x2) (x3) (x4) (0) ((-1)) (σ))) ∧ (¬ x2 = ((σ.1 78 (0 : Int32).toNatClampNeg) - 1) → (∃ n : Nat, wp_X7_leastOne_l63 Q K9 K21 K34 n (x1) (x2) (x3) (x4) (100000) ((-1)) (σ)))))))
def wp_X7_leastOne_l34 (Q : Int32 → St → Prop) (K9 : Int32 → Int32 → St → Prop) (K21 : Int32 → Int32 → Int32 → St → Prop) : Nat → Int32 → Int32 → Int32 → Int32 → St → Prop
  | 0, _, _, _, _, _ => False
  | n + 1, x1, x2, x3, x4, σ => wp_X7_leastOne_b34 Q K9 K21 (wp_X7_leastOne_l34 Q K9 K21 n) x1 x2 x3 x4 σ
def wp_X7_leastOne_b21 (Q : Int32 → St → Prop) (K9 : Int32 → Int32 → St → Prop) (K21 : Int32 → Int32 → Int32 → St → Prop) (x1 : Int32) (x2 : Int32) (x3 : Int32) (σ : St) : Prop :=
  (vp_in (0 : Int32) 2 ∧ 
    (((σ.1 77 (0 : Int32).toNatClampNeg) ≤ x3 → K9 (x1) (x2 + (-1)) (σ)) ∧ (¬ (σ.1 77 (0 : Int32).toNatClampNeg) ≤ x3 → (∃ n : Nat, wp_X7_leastOne_l34 Q K9 K21 n (x1) (x2) (x3) (0) (σ)))))
def wp_X7_leastOne_l21 (Q : Int32 → St → Prop) (K9 : Int32 → Int32 → St → Prop) : Nat → Int32 → Int32 → Int32 → St → Prop
  | 0, _, _, _, _ => False
  | n + 1, x1, x2, x3, σ => wp_X7_leastOne_b21 Q K9 (wp_X7_leastOne_l21 Q K9 n) x1 x2 x3 σ
def wp_X7_leastOne_b9 (Q : Int32 → St → Prop) (K9 : Int32 → Int32 → St → Prop) (x1 : Int32) (x2 : Int32) (σ : St) : Prop :=
  (vp_in x1 6 ∧ 
    ((x2 < (σ.1 80 x1.toNatClampNeg) → (vp_in x1 6 ∧ (vp_in x1 6 ∧ (wp_X7_stillAt (σ.1 80 x1.toNatClampNeg) (σ.1 81 x1.toNatClampNeg) (0 : Int32) (fun r179 σ179 =>
    Q r179 σ179) σ)))) ∧ (¬ x2 < (σ.1 80 x1.toNatClampNeg) → (∃ n : Nat, wp_X7_leastOne_l21 Q K9 n (x1) (x2) (0) (σ)))))
def wp_X7_leastOne_l9 (Q : Int32 → St → Prop) : Nat → Int32 → Int32 → St → Prop
  | 0, _, _, _ => False
  | n + 1, x1, x2, σ => wp_X7_leastOne_b9 Q (wp_X7_leastOne_l9 Q  n) x1 x2 σ
def wp_X7_leastOne (x1 : Int32) (Q : Int32 → St → Prop) (σ : St) : Prop :=
  (vp_in (0 : Int32) 2 ∧ (∀ v8 : Int32, v8 = (σ.1 78 (0 : Int32).toNatClampNeg) - 1 → (∃ n : Nat, wp_X7_leastOne_l9 Q n (x1) (v8) (σ))))
def wp_X7_one_b105 (Q : Int32 → St → Prop) (K96 : Int32 → Int32 → Int32 → Int32 → St → Prop) (K105 : Int32 → Int32 → Int32 → Int32 → Int32 → St → Prop) (x2 : Int32) (x4 : Int32) (x5 : Int32) (x6 : Int32) (x7 : Int32) (σ : St) : Prop :=
  (wp_X7_byStep x6 x4 x5 x7 (fun r114 σ114 =>
    (wp_X7_stillAt x6 x4 x5 (fun r124 σ124 =>
    
    ((r114 = r124 → K96 (x2) (x4 + x7) (x7 + 2) (x6 + 1) (σ124)) ∧ (¬ r114 = r124 → K105 (x2) (x4) (x5) (x6) (x7 + 1) (σ124)))) σ114)) σ)
def wp_X7_one_l105 (Q : Int32 → St → Prop) (K96 : Int32 → Int32 → Int32 → Int32 → St → Prop) : Nat → Int32 → Int32 → Int32 → Int32 → Int32 → St → Prop
  | 0, _, _, _, _, _, _ => False
  | n + 1, x2, x4, x5, x6, x7, σ => wp_X7_one_b105 Q K96 (wp_X7_one_l105 Q K96 n) x2 x4 x5 x6 x7 σ
def wp_X7_one_b96 (Q : Int32 → St → Prop) (K96 : Int32 → Int32 → Int32 → Int32 → St → Prop) (x2 : Int32) (x4 : Int32) (x5 : Int32) (x6 : Int32) (σ : St) : Prop :=
  
    ((x2 ≤ x6 → Q x4 σ) ∧ (¬ x2 ≤ x6 → (∃ n : Nat, wp_X7_one_l105 Q K96 n (x2) (x4) (x5) (x6) ((-1)) (σ))))
def wp_X7_one_l96 (Q : Int32 → St → Prop) : Nat → Int32 → Int32 → Int32 → Int32 → St → Prop
  | 0, _, _, _, _, _ => False
  | n + 1, x2, x4, x5, x6, σ => wp_X7_one_b96 Q (wp_X7_one_l96 Q  n) x2 x4 x5 x6 σ
def wp_X7_one_b41 (Q : Int32 → St → Prop) (x1 : Int32) (x2 : Int32) (σ : St) : Prop :=
  (wp_X7_leastOne x1 (fun r43 σ43 =>
    
    ((r43 < (100000 : Int32) → 
    ((0 ≤ x2 → (vp_in x1 6 ∧ (vp_in x1 6 ∧ (∃ n : Nat, wp_X7_one_l96 Q n (x2) (σ43.1 81 x1.toNatClampNeg) (0) (σ43.1 80 x1.toNatClampNeg) (σ43))))) ∧ (¬ 0 ≤ x2 → 
    ((x2 = ((-1) : Int32) → (¬ (100 : Int32) = 0 ∧ Q (r43 / 100) σ43)) ∧ (¬ x2 = ((-1) : Int32) → (¬ (100 : Int32) = 0 ∧ Q (r43 - r43 / 100 * 100) σ43)))))) ∧ (¬ r43 < (100000 : Int32) → Q (-9) σ43))) σ)
def wp_X7_one (x1 : Int32) (x2 : Int32) (Q : Int32 → St → Prop) (σ : St) : Prop :=
  (wp_X7_isHearth x1 (fun r2 σ2 =>
    
    ((r2 = 0 → Q (-1) σ2) ∧ (¬ r2 = 0 → (wp_X7_in x2 (-2) (-1) (fun r12 σ12 =>
    
    ((r12 = 0 → (vp_in x1 6 ∧ (vp_in (0 : Int32) 2 ∧ (wp_X7_in x2 (σ12.1 80 x1.toNatClampNeg) ((σ12.1 78 (0 : Int32).toNatClampNeg) - 1) (fun r33 σ33 =>
    
    ((r33 = 0 → Q (-1) σ33) ∧ (¬ r33 = 0 → wp_X7_one_b41 Q (x1) (x2) (σ33)))) σ12)))) ∧ (¬ r12 = 0 → wp_X7_one_b41 Q (x1) (x2) (σ12)))) σ2)))) σ)
def wp_X7_add (x1 : Int32) (x2 : Int32) (x3 : Int32) (Q : St → Prop) (σ : St) : Prop :=
  (vp_in (σ.1 75 21) 3 ∧ (vp_in ((sI σ 90 (σ.1 75 21).toNatClampNeg x1).1 75 21) 3 ∧ (vp_in ((sI (sI σ 90 (σ.1 75 21).toNatClampNeg x1) 91 ((sI σ 90 (σ.1 75 21).toNatClampNeg x1).1 75 21).toNatClampNeg x2).1 75 21) 3 ∧ 
    ((((sI (sI (sI (sI σ 90 (σ.1 75 21).toNatClampNeg x1) 91 ((sI σ 90 (σ.1 75 21).toNatClampNeg x1).1 75 21).toNatClampNeg x2) 92 ((sI (sI σ 90 (σ.1 75 21).toNatClampNeg x1) 91 ((sI σ 90 (σ.1 75 21).toNatClampNeg x1).1 75 21).toNatClampNeg x2).1 75 21).toNatClampNeg x3) 75 21 (((sI (sI (sI σ 90 (σ.1 75 21).toNatClampNeg x1) 91 ((sI σ 90 (σ.1 75 21).toNatClampNeg x1).1 75 21).toNatClampNeg x2) 92 ((sI (sI σ 90 (σ.1 75 21).toNatClampNeg x1) 91 ((sI σ 90 (σ.1 75 21).toNatClampNeg x1).1 75 21).toNatClampNeg x2).1 75 21).toNatClampNeg x3).1 75 21) + 1)).1 75 26) ≤ x1 → Q (sI (sI (sI (sI (sI σ 90 (σ.1 75 21).toNatClampNeg x1) 91 ((sI σ 90 (σ.1 75 21).toNatClampNeg x1).1 75 21).toNatClampNeg x2) 92 ((sI (sI σ 90 (σ.1 75 21).toNatClampNeg x1) 91 ((sI σ 90 (σ.1 75 21).toNatClampNeg x1).1 75 21).toNatClampNeg x2).1 75 21).toNatClampNeg x3) 75 21 (((sI (sI (sI σ 90 (σ.1 75 21).toNatClampNeg x1) 91 ((sI σ 90 (σ.1 75 21).toNatClampNeg x1).1 75 21).toNatClampNeg x2) 92 ((sI (sI σ 90 (σ.1 75 21).toNatClampNeg x1) 91 ((sI σ 90 (σ.1 75 21).toNatClampNeg x1).1 75 21).toNatClampNeg x2).1 75 21).toNatClampNeg x3).1 75 21) + 1)) 75 26 ((sI (sI (sI (sI σ 90 (σ.1 75 21).toNatClampNeg x1) 91 ((sI σ 90 (σ.1 75 21).toNatClampNeg x1).1 75 21).toNatClampNeg x2) 92 ((sI (sI σ 90 (σ.1 75 21).toNatClampNeg x1) 91 ((sI σ 90 (σ.1 75 21).toNatClampNeg x1).1 75 21).toNatClampNeg x2).1 75 21).toNatClampNeg x3) 75 21 (((sI (sI (sI σ 90 (σ.1 75 21).toNatClampNeg x1) 91 ((sI σ 90 (σ.1 75 21).toNatClampNeg x1).1 75 21).toNatClampNeg x2) 92 ((sI (sI σ 90 (σ.1 75 21).toNatClampNeg x1) 91 ((sI σ 90 (σ.1 75 21).toNatClampNeg x1).1 75 21).toNatClampNeg x2).1 75 21).toNatClampNeg x3).1 75 21) + 1)).1 75 26))) ∧ (¬ ((sI (sI (sI (sI σ 90 (σ.1 75 21).toNatClampNeg x1) 91 ((sI σ 90 (σ.1 75 21).toNatClampNeg x1).1 75 21).toNatClampNeg x2) 92 ((sI (sI σ 90 (σ.1 75 21).toNatClampNeg x1) 91 ((sI σ 90 (σ.1 75 21).toNatClampNeg x1).1 75 21).toNatClampNeg x2).1 75 21).toNatClampNeg x3) 75 21 (((sI (sI (sI σ 90 (σ.1 75 21).toNatClampNeg x1) 91 ((sI σ 90 (σ.1 75 21).toNatClampNeg x1).1 75 21).toNatClampNeg x2) 92 ((sI (sI σ 90 (σ.1 75 21).toNatClampNeg x1) 91 ((sI σ 90 (σ.1 75 21).toNatClampNeg x1).1 75 21).toNatClampNeg x2).1 75 21).toNatClampNeg x3).1 75 21) + 1)).1 75 26) ≤ x1 → Q (sI (sI (sI (sI (sI σ 90 (σ.1 75 21).toNatClampNeg x1) 91 ((sI σ 90 (σ.1 75 21).toNatClampNeg x1).1 75 21).toNatClampNeg x2) 92 ((sI (sI σ 90 (σ.1 75 21).toNatClampNeg x1) 91 ((sI σ 90 (σ.1 75 21).toNatClampNeg x1).1 75 21).toNatClampNeg x2).1 75 21).toNatClampNeg x3) 75 21 (((sI (sI (sI σ 90 (σ.1 75 21).toNatClampNeg x1) 91 ((sI σ 90 (σ.1 75 21).toNatClampNeg x1).1 75 21).toNatClampNeg x2) 92 ((sI (sI σ 90 (σ.1 75 21).toNatClampNeg x1) 91 ((sI σ 90 (σ.1 75 21).toNatClampNeg x1).1 75 21).toNatClampNeg x2).1 75 21).toNatClampNeg x3).1 75 21) + 1)) 75 26 x1))))))
def wp_X7_gather_b18 (Q : St → Prop) (K18 : Int32 → Int32 → St → Prop) (x1 : Int32) (x2 : Int32) (σ : St) : Prop :=
  
    (((3 : Int32) ≤ x2 → Q σ) ∧ (¬ (3 : Int32) ≤ x2 → 
    ((((x1 >>> (x2 &&& 31)) &&& 1) = (1 : Int32) → (vp_in x2 6 ∧ (vp_in x2 6 ∧ (wp_X7_add (σ.1 80 x2.toNatClampNeg) (σ.1 81 x2.toNatClampNeg) (-1) (fun σ46 => K18 (x1) (x2 + 1) (σ46)) σ)))) ∧ (¬ ((x1 >>> (x2 &&& 31)) &&& 1) = (1 : Int32) → K18 (x1) (x2 + 1) (σ)))))
def wp_X7_gather_l18 (Q : St → Prop) : Nat → Int32 → Int32 → St → Prop
  | 0, _, _, _ => False
  | n + 1, x1, x2, σ => wp_X7_gather_b18 Q (wp_X7_gather_l18 Q  n) x1 x2 σ
def wp_X7_gather (x1 : Int32) (Q : St → Prop) (σ : St) : Prop :=
  (∃ n : Nat, wp_X7_gather_l18 Q n (x1) (0) (sI (sI (sI σ 75 21 (0 : Int32)) 75 26 (16 : Int32)) 75 25 (0 : Int32)))
def wp_X7_placeIn (x1 : Int32) (x2 : Int32) (Q : Int32 → St → Prop) (σ : St) : Prop :=
  (vp_in x2 3 ∧ (¬ ((σ.1 94 x2.toNatClampNeg) : Int32) = 0 ∧ (¬ (10 : Int32) = 0 ∧ Q ((x1 / (σ.1 94 x2.toNatClampNeg)) - (x1 / (σ.1 94 x2.toNatClampNeg)) / 10 * 10) σ)))
def wp_X7_mayBe_b73 (Q : Int32 → St → Prop) (x1 : Int32) (x2 : Int32) (x3 : Int32) (s0 : Int32) (σ : St) : Prop :=
  
    ((s0 = 0 → Q (0 : Int32) σ) ∧ (¬ s0 = 0 → (vp_in x1 3 ∧ 
    (((σ.1 92 x1.toNatClampNeg) = ((-1) : Int32) → Q (1 : Int32) σ) ∧ (¬ (σ.1 92 x1.toNatClampNeg) = ((-1) : Int32) → (vp_in x1 3 ∧ (vp_in ((16 * (σ.1 92 x1.toNatClampNeg)) + x2) 144 ∧ 
    (((σ.1 95 ((16 * (σ.1 92 x1.toNatClampNeg)) + x2).toNatClampNeg) = x3 → Q (1 : Int32) σ) ∧ (¬ (σ.1 95 ((16 * (σ.1 92 x1.toNatClampNeg)) + x2).toNatClampNeg) = x3 → Q (0 : Int32) σ)))))))))
def wp_X7_mayBe_b72 (Q : Int32 → St → Prop) (x1 : Int32) (x2 : Int32) (x3 : Int32) (σ : St) : Prop :=
  wp_X7_mayBe_b73 Q (x1) (x2) (x3) (0) (σ)
def wp_X7_mayBe_b68 (Q : Int32 → St → Prop) (x1 : Int32) (x2 : Int32) (x3 : Int32) (σ : St) : Prop :=
  wp_X7_mayBe_b73 Q (x1) (x2) (x3) (1) (σ)
def wp_X7_mayBe (x1 : Int32) (x2 : Int32) (x3 : Int32) (Q : Int32 → St → Prop) (σ : St) : Prop :=
  (vp_in x1 3 ∧ 
    (((σ.1 90 x1.toNatClampNeg) ≤ x2 → (wp_X7_isIn x3 (fun r22 σ22 =>
    
    ((r22 = 0 → wp_X7_mayBe_b72 Q (x1) (x2) (x3) (σ22)) ∧ (¬ r22 = 0 → (wp_X7_isBarred x2 x3 (fun r31 σ31 =>
    
    ((r31 = 0 → 
    (((((σ31.1 75 25) >>> (x3 &&& 31)) &&& 1) = 0 → (vp_in x1 3 ∧ 
    (((σ31.1 90 x1.toNatClampNeg) < x2 → wp_X7_mayBe_b68 Q (x1) (x2) (x3) (σ31)) ∧ (¬ (σ31.1 90 x1.toNatClampNeg) < x2 → (vp_in x1 3 ∧ 
    ((x3 = (σ31.1 91 x1.toNatClampNeg) → wp_X7_mayBe_b68 Q (x1) (x2) (x3) (σ31)) ∧ (¬ x3 = (σ31.1 91 x1.toNatClampNeg) → wp_X7_mayBe_b72 Q (x1) (x2) (x3) (σ31)))))))) ∧ (¬ (((σ31.1 75 25) >>> (x3 &&& 31)) &&& 1) = 0 → wp_X7_mayBe_b72 Q (x1) (x2) (x3) (σ31)))) ∧ (¬ r31 = 0 → wp_X7_mayBe_b72 Q (x1) (x2) (x3) (σ31)))) σ22)))) σ)) ∧ (¬ (σ.1 90 x1.toNatClampNeg) ≤ x2 → 
    ((x3 = 0 → Q (1 : Int32) σ) ∧ (¬ x3 = 0 → Q (0 : Int32) σ)))))
def wp_X7_isSpot_b108 (Q : Int32 → St → Prop) (K5 : Int32 → Int32 → Int32 → Int32 → St → Prop) (K36 : Int32 → Int32 → Int32 → Int32 → Int32 → St → Prop) (x1 : Int32) (x2 : Int32) (x4 : Int32) (x5 : Int32) (σ : St) : Prop :=
  K36 (x1) (x2) (1) (x4) (x5 + 1) (σ)
def wp_X7_isSpot_b99 (Q : Int32 → St → Prop) (K5 : Int32 → Int32 → Int32 → Int32 → St → Prop) (K36 : Int32 → Int32 → Int32 → Int32 → Int32 → St → Prop) (x1 : Int32) (x2 : Int32) (x4 : Int32) (x5 : Int32) (s0 : Int32) (σ : St) : Prop :=
  (vp_in (0 : Int32) 6 ∧ 
    ((s0 ≤ (σ.1 85 (0 : Int32).toNatClampNeg) → K36 (x1) (x2) (0) (x4) (x5 + 1) (σ)) ∧ (¬ s0 ≤ (σ.1 85 (0 : Int32).toNatClampNeg) → wp_X7_isSpot_b108 Q K5 K36 (x1) (x2) (x4) (x5) (σ))))
def wp_X7_isSpot_b36 (Q : Int32 → St → Prop) (K5 : Int32 → Int32 → Int32 → Int32 → St → Prop) (K36 : Int32 → Int32 → Int32 → Int32 → Int32 → St → Prop) (x1 : Int32) (x2 : Int32) (x3 : Int32) (x4 : Int32) (x5 : Int32) (σ : St) : Prop :=
  
    ((x4 ≤ x5 → K5 (x1) (x2) (x3) (x4 + 1) (σ)) ∧ (¬ x4 ≤ x5 → 
    ((x3 = 0 → K5 (x1) (x2) (x3) (x4 + 1) (σ)) ∧ (¬ x3 = 0 → (vp_in x4 3 ∧ 
    ((x1 < (σ.1 90 x4.toNatClampNeg) → K5 (x1) (x2) (x3) (x4 + 1) (σ)) ∧ (¬ x1 < (σ.1 90 x4.toNatClampNeg) → (wp_X7_placeIn x2 x4 (fun r62 σ62 =>
    (wp_X7_placeIn x2 x5 (fun r69 σ69 =>
    (vp_in x5 3 ∧ 
    ((x1 < (σ69.1 90 x5.toNatClampNeg) → wp_X7_isSpot_b108 Q K5 K36 (x1) (x2) (x4) (x5) (σ69)) ∧ (¬ x1 < (σ69.1 90 x5.toNatClampNeg) → 
    ((0 ≤ (r62 - r69) → wp_X7_isSpot_b99 Q K5 K36 (x1) (x2) (x4) (x5) (r62 - r69) (σ69)) ∧ (¬ 0 ≤ (r62 - r69) → wp_X7_isSpot_b99 Q K5 K36 (x1) (x2) (x4) (x5) (-(r62 - r69)) (σ69))))))) σ62)) σ))))))))
def wp_X7_isSpot_l36 (Q : Int32 → St → Prop) (K5 : Int32 → Int32 → Int32 → Int32 → St → Prop) : Nat → Int32 → Int32 → Int32 → Int32 → Int32 → St → Prop
  | 0, _, _, _, _, _, _ => False
  | n + 1, x1, x2, x3, x4, x5, σ => wp_X7_isSpot_b36 Q K5 (wp_X7_isSpot_l36 Q K5 n) x1 x2 x3 x4 x5 σ
def wp_X7_isSpot_b5 (Q : Int32 → St → Prop) (K5 : Int32 → Int32 → Int32 → Int32 → St → Prop) (x1 : Int32) (x2 : Int32) (x3 : Int32) (x4 : Int32) (σ : St) : Prop :=
  
    (((σ.1 75 21) ≤ x4 → ((x3 = 0 ∨ x3 = 1) ∧ Q x3 σ)) ∧ (¬ (σ.1 75 21) ≤ x4 → 
    ((x3 = 0 → ((x3 = 0 ∨ x3 = 1) ∧ Q x3 σ)) ∧ (¬ x3 = 0 → (wp_X7_placeIn x2 x4 (fun r26 σ26 =>
    (wp_X7_mayBe x4 x1 r26 (fun r29 σ29 =>
    (∃ n : Nat, wp_X7_isSpot_l36 Q K5 n (x1) (x2) (r29) (x4) (0) (σ29))) σ26)) σ)))))
def wp_X7_isSpot_l5 (Q : Int32 → St → Prop) : Nat → Int32 → Int32 → Int32 → Int32 → St → Prop
  | 0, _, _, _, _, _ => False
  | n + 1, x1, x2, x3, x4, σ => wp_X7_isSpot_b5 Q (wp_X7_isSpot_l5 Q  n) x1 x2 x3 x4 σ
def wp_X7_isSpot (x1 : Int32) (x2 : Int32) (Q : Int32 → St → Prop) (σ : St) : Prop :=
  (∃ n : Nat, wp_X7_isSpot_l5 Q n (x1) (x2) (1) (0) (σ))
def wp_X7_breadthOf_b39 (Q : Int32 → St → Prop) (K8 : Int32 → Int32 → Int32 → Int32 → St → Prop) (x1 : Int32) (x3 : Int32) (x4 : Int32) (s0 : Int32) (σ : St) : Prop :=
  (wp_X7_placeIn x1 x4 (fun r44 σ44 =>
    
    ((r44 ≤ x3 → K8 (x1) (s0) (x3) (x4 + 1) (σ44)) ∧ (¬ r44 ≤ x3 → (wp_X7_placeIn x1 x4 (fun r55 σ55 =>
    K8 (x1) (s0) (r55) (x4 + 1) (σ55)) σ44)))) σ)
def wp_X7_breadthOf_b8 (Q : Int32 → St → Prop) (K8 : Int32 → Int32 → Int32 → Int32 → St → Prop) (x1 : Int32) (x2 : Int32) (x3 : Int32) (x4 : Int32) (σ : St) : Prop :=
  
    (((σ.1 75 21) ≤ x4 → Q ((x3 - x2) + 1) σ) ∧ (¬ (σ.1 75 21) ≤ x4 → (wp_X7_placeIn x1 x4 (fun r21 σ21 =>
    
    ((x2 ≤ r21 → wp_X7_breadthOf_b39 Q K8 (x1) (x3) (x4) (x2) (σ21)) ∧ (¬ x2 ≤ r21 → (wp_X7_placeIn x1 x4 (fun r32 σ32 =>
    wp_X7_breadthOf_b39 Q K8 (x1) (x3) (x4) (r32) (σ32)) σ21)))) σ)))
def wp_X7_breadthOf_l8 (Q : Int32 → St → Prop) : Nat → Int32 → Int32 → Int32 → Int32 → St → Prop
  | 0, _, _, _, _, _ => False
  | n + 1, x1, x2, x3, x4, σ => wp_X7_breadthOf_b8 Q (wp_X7_breadthOf_l8 Q  n) x1 x2 x3 x4 σ
def wp_X7_breadthOf (x1 : Int32) (Q : Int32 → St → Prop) (σ : St) : Prop :=
  (∃ n : Nat, wp_X7_breadthOf_l8 Q n (x1) (10) (0) (0) (σ))
def wp_X7_leansTo_b136 (Q : Int32 → St → Prop) (K6 : Int32 → Int32 → Int32 → Int32 → Int32 → St → Prop) (K74 : Int32 → Int32 → Int32 → Int32 → Int32 → Int32 → St → Prop) (x1 : Int32) (x2 : Int32) (x3 : Int32) (x4 : Int32) (x5 : Int32) (x7 : Int32) (s0 : Int32) (s1 : Int32) (σ : St) : Prop :=
  
    ((s1 = s0 → K74 (x1) (x2) (x3) (x4) (x5) (x7 + 1) (σ)) ∧ (¬ s1 = s0 → Q (100000 : Int32) σ))
def wp_X7_leansTo_b114 (Q : Int32 → St → Prop) (K6 : Int32 → Int32 → Int32 → Int32 → Int32 → St → Prop) (K74 : Int32 → Int32 → Int32 → Int32 → Int32 → Int32 → St → Prop) (x1 : Int32) (x2 : Int32) (x3 : Int32) (x4 : Int32) (x5 : Int32) (x7 : Int32) (s0 : Int32) (σ : St) : Prop :=
  (wp_X7_placeIn x3 x5 (fun r118 σ118 =>
    (wp_X7_placeIn x3 x7 (fun r125 σ125 =>
    
    ((r125 ≤ r118 → wp_X7_leansTo_b136 Q K6 K74 (x1) (x2) (x3) (x4) (x5) (x7) (0) (s0) (σ125)) ∧ (¬ r125 ≤ r118 → wp_X7_leansTo_b136 Q K6 K74 (x1) (x2) (x3) (x4) (x5) (x7) (1) (s0) (σ125)))) σ118)) σ)
def wp_X7_leansTo_b74 (Q : Int32 → St → Prop) (K6 : Int32 → Int32 → Int32 → Int32 → Int32 → St → Prop) (K74 : Int32 → Int32 → Int32 → Int32 → Int32 → Int32 → St → Prop) (x1 : Int32) (x2 : Int32) (x3 : Int32) (x4 : Int32) (x5 : Int32) (x7 : Int32) (σ : St) : Prop :=
  
    ((x5 ≤ x7 → K6 (x1) (x2) (x3) (x4) (x5 + 1) (σ)) ∧ (¬ x5 ≤ x7 → (vp_in x7 3 ∧ 
    ((x1 < (σ.1 90 x7.toNatClampNeg) → K74 (x1) (x2) (x3) (x4) (x5) (x7 + 1) (σ)) ∧ (¬ x1 < (σ.1 90 x7.toNatClampNeg) → (wp_X7_placeIn x2 x5 (fun r96 σ96 =>
    (wp_X7_placeIn x2 x7 (fun r103 σ103 =>
    
    ((r103 ≤ r96 → wp_X7_leansTo_b114 Q K6 K74 (x1) (x2) (x3) (x4) (x5) (x7) (0) (σ103)) ∧ (¬ r103 ≤ r96 → wp_X7_leansTo_b114 Q K6 K74 (x1) (x2) (x3) (x4) (x5) (x7) (1) (σ103)))) σ96)) σ))))))
def wp_X7_leansTo_l74 (Q : Int32 → St → Prop) (K6 : Int32 → Int32 → Int32 → Int32 → Int32 → St → Prop) : Nat → Int32 → Int32 → Int32 → Int32 → Int32 → Int32 → St → Prop
  | 0, _, _, _, _, _, _, _ => False
  | n + 1, x1, x2, x3, x4, x5, x7, σ => wp_X7_leansTo_b74 Q K6 (wp_X7_leansTo_l74 Q K6 n) x1 x2 x3 x4 x5 x7 σ
def wp_X7_leansTo_b6 (Q : Int32 → St → Prop) (K6 : Int32 → Int32 → Int32 → Int32 → Int32 → St → Prop) (x1 : Int32) (x2 : Int32) (x3 : Int32) (x4 : Int32) (x5 : Int32) (σ : St) : Prop :=
  
    (((σ.1 75 21) ≤ x5 → Q x4 σ) ∧ (¬ (σ.1 75 21) ≤ x5 → (vp_in x5 3 ∧ 
    ((x1 < (σ.1 90 x5.toNatClampNeg) → K6 (x1) (x2) (x3) (x4) (x5 + 1) (σ)) ∧ (¬ x1 < (σ.1 90 x5.toNatClampNeg) → (wp_X7_placeIn x3 x5 (fun r30 σ30 =>
    (wp_X7_placeIn x2 x5 (fun r37 σ37 =>
    (wp_X7_in (r30 - r37) (-1) (1 : Int32) (fun r47 σ47 =>
    
    ((r47 = 0 → Q (100000 : Int32) σ47) ∧ (¬ r47 = 0 → 
    (((r30 - r37) = 0 → (∃ n : Nat, wp_X7_leansTo_l74 Q K6 n (x1) (x2) (x3) (x4 + 0) (x5) (0) (σ47))) ∧ (¬ (r30 - r37) = 0 → (∃ n : Nat, wp_X7_leansTo_l74 Q K6 n (x1) (x2) (x3) (x4 + 1) (x5) (0) (σ47))))))) σ37)) σ30)) σ))))))
def wp_X7_leansTo_l6 (Q : Int32 → St → Prop) : Nat → Int32 → Int32 → Int32 → Int32 → Int32 → St → Prop
  | 0, _, _, _, _, _, _ => False
  | n + 1, x1, x2, x3, x4, x5, σ => wp_X7_leansTo_b6 Q (wp_X7_leansTo_l6 Q  n) x1 x2 x3 x4 x5 σ
def wp_X7_leansTo (x1 : Int32) (x2 : Int32) (x3 : Int32) (Q : Int32 → St → Prop) (σ : St) : Prop :=
  (∃ n : Nat, wp_X7_leansTo_l6 Q n (x1) (x2) (x3) (0) (0) (σ))
def wp_X7_spots (Q : Int32 → St → Prop) (σ : St) : Prop :=
  
    (((σ.1 75 21) = 0 → Q (1 : Int32) σ) ∧ (¬ (σ.1 75 21) = 0 → 
    (((σ.1 75 21) = (1 : Int32) → Q (10 : Int32) σ) ∧ (¬ (σ.1 75 21) = (1 : Int32) → 
    (((σ.1 75 21) = (2 : Int32) → Q (100 : Int32) σ) ∧ (¬ (σ.1 75 21) = (2 : Int32) → Q (1000 : Int32) σ))))))
def wp_X7_firstOf (x1 : Int32) (x2 : Int32) (x3 : Int32) (Q : Int32 → St → Prop) (σ : St) : Prop :=
  
    (((σ.1 75 21) ≤ x1 → Q (0 : Int32) σ) ∧ (¬ (σ.1 75 21) ≤ x1 → (vp_in x1 3 ∧ 
    (((σ.1 90 x1.toNatClampNeg) ≤ (x2 + 1) → (vp_in x1 3 ∧ 
    (((x2 + 1) = (σ.1 90 x1.toNatClampNeg) → (vp_in x1 3 ∧ Q (σ.1 91 x1.toNatClampNeg) σ)) ∧ (¬ (x2 + 1) = (σ.1 90 x1.toNatClampNeg) → (wp_X7_placeIn x3 x1 (fun r48 σ48 =>
    
    ((r48 ≤ 0 → Q (0 : Int32) σ48) ∧ (¬ r48 ≤ 0 → (wp_X7_placeIn x3 x1 (fun r57 σ57 =>
    Q (r57 - 1) σ57) σ48)))) σ))))) ∧ (¬ (σ.1 90 x1.toNatClampNeg) ≤ (x2 + 1) → Q (0 : Int32) σ)))))
def wp_X7_lastOf (x1 : Int32) (x2 : Int32) (x3 : Int32) (Q : Int32 → St → Prop) (σ : St) : Prop :=
  
    (((σ.1 75 21) ≤ x1 → Q (0 : Int32) σ) ∧ (¬ (σ.1 75 21) ≤ x1 → (vp_in x1 3 ∧ 
    (((σ.1 90 x1.toNatClampNeg) ≤ (x2 + 1) → (vp_in x1 3 ∧ 
    (((x2 + 1) = (σ.1 90 x1.toNatClampNeg) → (vp_in x1 3 ∧ Q (σ.1 91 x1.toNatClampNeg) σ)) ∧ (¬ (x2 + 1) = (σ.1 90 x1.toNatClampNeg) → (wp_X7_placeIn x3 x1 (fun r48 σ48 =>
    
    (((9 : Int32) ≤ r48 → Q (9 : Int32) σ48) ∧ (¬ (9 : Int32) ≤ r48 → (wp_X7_placeIn x3 x1 (fun r59 σ59 =>
    Q (r59 + 1) σ59) σ48)))) σ))))) ∧ (¬ (σ.1 90 x1.toNatClampNeg) ≤ (x2 + 1) → Q (0 : Int32) σ)))))
def wp_X7_leastNext_b146 (Q : Int32 → St → Prop) (K18 : Int32 → Int32 → Int32 → Int32 → St → Prop) (K39 : Int32 → Int32 → Int32 → Int32 → Int32 → St → Prop) (K60 : Int32 → Int32 → Int32 → Int32 → Int32 → Int32 → St → Prop) (x1 : Int32) (x2 : Int32) (x3 : Int32) (x4 : Int32) (x5 : Int32) (x6 : Int32) (x9 : Int32) (s0 : Int32) (σ : St) : Prop :=
  
    ((x3 ≤ x9 → K60 (x1) (x2) (x3) (x4) (x5) (x6 + 1) (sI σ 75 29 s0)) ∧ (¬ x3 ≤ x9 → K60 (x1) (x2) (x9) (x4) (x5) (x6 + 1) (sI σ 75 29 s0)))
def wp_X7_leastNext_b128 (Q : Int32 → St → Prop) (K18 : Int32 → Int32 → Int32 → Int32 → St → Prop) (K39 : Int32 → Int32 → Int32 → Int32 → Int32 → St → Prop) (K60 : Int32 → Int32 → Int32 → Int32 → Int32 → Int32 → St → Prop) (x1 : Int32) (x2 : Int32) (x3 : Int32) (x4 : Int32) (x5 : Int32) (x6 : Int32) (x7 : Int32) (s0 : Int32) (σ : St) : Prop :=
  
    ((x3 ≤ s0 → wp_X7_leastNext_b146 Q K18 K39 K60 (x1) (x2) (x3) (x4) (x5) (x6) (s0) (σ.1 75 29) (σ)) ∧ (¬ x3 ≤ s0 → wp_X7_leastNext_b146 Q K18 K39 K60 (x1) (x2) (x3) (x4) (x5) (x6) (s0) (x7) (σ)))
def wp_X7_leastNext_b60 (Q : Int32 → St → Prop) (K18 : Int32 → Int32 → Int32 → Int32 → St → Prop) (K39 : Int32 → Int32 → Int32 → Int32 → Int32 → St → Prop) (K60 : Int32 → Int32 → Int32 → Int32 → Int32 → Int32 → St → Prop) (x1 : Int32) (x2 : Int32) (x3 : Int32) (x4 : Int32) (x5 : Int32) (x6 : Int32) (σ : St) : Prop :=
  (wp_X7_lastOf (2 : Int32) x1 x2 (fun r66 σ66 =>
    
    ((r66 < x6 → K39 (x1) (x2) (x3) (x4) (x5 + 1) (σ66)) ∧ (¬ r66 < x6 → (vp_in ((1000 * (x1 + 1)) + ((x4 + (10 * x5)) + (100 * x6))) 16000 ∧ (∀ v103 : Int32, v103 = σ66.1 93 ((1000 * (x1 + 1)) + ((x4 + (10 * x5)) + (100 * x6))).toNatClampNeg → 
    ((v103 < (100000 : Int32) → (wp_X7_leansTo x1 x2 ((x4 + (10 * x5)) + (100 * x6)) (fun r124 σ124 =>
    wp_X7_leastNext_b128 Q K18 K39 K60 (x1) (x2) (x3) (x4) (x5) (x6) ((x4 + (10 * x5)) + (100 * x6)) (v103 + r124) (σ124)) σ66)) ∧ (¬ v103 < (100000 : Int32) → wp_X7_leastNext_b128 Q K18 K39 K60 (x1) (x2) (x3) (x4) (x5) (x6) ((x4 + (10 * x5)) + (100 * x6)) (100000) (σ66)))))))) σ)
def wp_X7_leastNext_l60 (Q : Int32 → St → Prop) (K18 : Int32 → Int32 → Int32 → Int32 → St → Prop) (K39 : Int32 → Int32 → Int32 → Int32 → Int32 → St → Prop) : Nat → Int32 → Int32 → Int32 → Int32 → Int32 → Int32 → St → Prop
  | 0, _, _, _, _, _, _, _ => False
  | n + 1, x1, x2, x3, x4, x5, x6, σ => wp_X7_leastNext_b60 Q K18 K39 (wp_X7_leastNext_l60 Q K18 K39 n) x1 x2 x3 x4 x5 x6 σ
def wp_X7_leastNext_b39 (Q : Int32 → St → Prop) (K18 : Int32 → Int32 → Int32 → Int32 → St → Prop) (K39 : Int32 → Int32 → Int32 → Int32 → Int32 → St → Prop) (x1 : Int32) (x2 : Int32) (x3 : Int32) (x4 : Int32) (x5 : Int32) (σ : St) : Prop :=
  (wp_X7_lastOf (1 : Int32) x1 x2 (fun r45 σ45 =>
    
    ((r45 < x5 → K18 (x1) (x2) (x3) (x4 + 1) (σ45)) ∧ (¬ r45 < x5 → (wp_X7_firstOf (2 : Int32) x1 x2 (fun r55 σ55 =>
    (∃ n : Nat, wp_X7_leastNext_l60 Q K18 K39 n (x1) (x2) (x3) (x4) (x5) (r55) (σ55))) σ45)))) σ)
def wp_X7_leastNext_l39 (Q : Int32 → St → Prop) (K18 : Int32 → Int32 → Int32 → Int32 → St → Prop) : Nat → Int32 → Int32 → Int32 → Int32 → Int32 → St → Prop
  | 0, _, _, _, _, _, _ => False
  | n + 1, x1, x2, x3, x4, x5, σ => wp_X7_leastNext_b39 Q K18 (wp_X7_leastNext_l39 Q K18 n) x1 x2 x3 x4 x5 σ
def wp_X7_leastNext_b18 (Q : Int32 → St → Prop) (K18 : Int32 → Int32 → Int32 → Int32 → St → Prop) (x1 : Int32) (x2 : Int32) (x3 : Int32) (x4 : Int32) (σ : St) : Prop :=
  (wp_X7_lastOf (0 : Int32) x1 x2 (fun r24 σ24 =>
    
    ((r24 < x4 → Q x3 σ24) ∧ (¬ r24 < x4 → (wp_X7_firstOf (1 : Int32) x1 x2 (fun r34 σ34 =>
    (∃ n : Nat, wp_X7_leastNext_l39 Q K18 n (x1) (x2) (x3) (x4) (r34) (σ34))) σ24)))) σ)
def wp_X7_leastNext_l18 (Q : Int32 → St → Prop) : Nat → Int32 → Int32 → Int32 → Int32 → St → Prop
  | 0, _, _, _, _, _ => False
  | n + 1, x1, x2, x3, x4, σ => wp_X7_leastNext_b18 Q (wp_X7_leastNext_l18 Q  n) x1 x2 x3 x4 σ
def wp_X7_leastNext (x1 : Int32) (x2 : Int32) (Q : Int32 → St → Prop) (σ : St) : Prop :=
  (wp_X7_firstOf (0 : Int32) x1 x2 (fun r13 σ13 =>
    (∃ n : Nat, wp_X7_leastNext_l18 Q n (x1) (x2) (100000) (r13) (σ13))) (sI σ 75 29 (-9)))
def wp_X7_firstSpot_b4 (Q : Int32 → St → Prop) (K4 : Int32 → Int32 → St → Prop) (x1 : Int32) (x2 : Int32) (σ : St) : Prop :=
  
    (((σ.1 75 21) ≤ x2 → Q x1 σ) ∧ (¬ (σ.1 75 21) ≤ x2 → (vp_in x2 3 ∧ 
    (((σ.1 90 x2.toNatClampNeg) = (σ.1 75 26) → (vp_in x2 3 ∧ (vp_in x2 3 ∧ (∀ v44 : Int32, v44 = x1 + ((σ.1 91 x2.toNatClampNeg) * (σ.1 94 x2.toNatClampNeg)) → K4 (v44) (x2 + 1) (σ))))) ∧ (¬ (σ.1 90 x2.toNatClampNeg) = (σ.1 75 26) → K4 (x1 + 0) (x2 + 1) (σ))))))
def wp_X7_firstSpot_l4 (Q : Int32 → St → Prop) : Nat → Int32 → Int32 → St → Prop
  | 0, _, _, _ => False
  | n + 1, x1, x2, σ => wp_X7_firstSpot_b4 Q (wp_X7_firstSpot_l4 Q  n) x1 x2 σ
def wp_X7_firstSpot (Q : Int32 → St → Prop) (σ : St) : Prop :=
  (∃ n : Nat, wp_X7_firstSpot_l4 Q n (0) (0) (σ))
def wp_X7_goBroad_b82 (Q : Int32 → St → Prop) (K9 : Int32 → Int32 → St → Prop) (K19 : Int32 → Int32 → Int32 → St → Prop) (x1 : Int32) (x2 : Int32) (x3 : Int32) (x5 : Int32) (σ : St) : Prop :=
  (vp_in ((1000 * x2) + x3) 16000 ∧ K19 (x1) (x2) (x3 + 1) (sI σ 93 ((1000 * x2) + x3).toNatClampNeg x5))
def wp_X7_goBroad_b80 (Q : Int32 → St → Prop) (K9 : Int32 → Int32 → St → Prop) (K19 : Int32 → Int32 → Int32 → St → Prop) (x1 : Int32) (x2 : Int32) (x3 : Int32) (s0 : Int32) (σ : St) : Prop :=
  wp_X7_goBroad_b82 Q K9 K19 (x1) (x2) (x3) (s0) (σ)
def wp_X7_goBroad_b19 (Q : Int32 → St → Prop) (K9 : Int32 → Int32 → St → Prop) (K19 : Int32 → Int32 → Int32 → St → Prop) (x1 : Int32) (x2 : Int32) (x3 : Int32) (σ : St) : Prop :=
  (wp_X7_spots  (fun r21 σ21 =>
    
    ((r21 ≤ x3 → K9 (x1) (x2 + (-1)) (σ21)) ∧ (¬ r21 ≤ x3 → (wp_X7_isSpot x2 x3 (fun r30 σ30 =>
    
    ((r30 = 0 → wp_X7_goBroad_b82 Q K9 K19 (x1) (x2) (x3) (100000) (σ30)) ∧ (¬ r30 = 0 → (vp_in (0 : Int32) 2 ∧ 
    ((((σ30.1 78 (0 : Int32).toNatClampNeg) - 1) ≤ x2 → (wp_X7_breadthOf x3 (fun r67 σ67 =>
    
    ((r67 = x1 → wp_X7_goBroad_b80 Q K9 K19 (x1) (x2) (x3) (0) (σ67)) ∧ (¬ r67 = x1 → wp_X7_goBroad_b80 Q K9 K19 (x1) (x2) (x3) (100000) (σ67)))) σ30)) ∧ (¬ ((σ30.1 78 (0 : Int32).toNatClampNeg) - 1) ≤ x2 → (wp_X7_leastNext x2 x3 (fun r59 σ59 =>
    wp_X7_goBroad_b80 Q K9 K19 (x1) (x2) (x3) (r59) (σ59)) σ30))))))) σ21)))) σ)
def wp_X7_goBroad_l19 (Q : Int32 → St → Prop) (K9 : Int32 → Int32 → St → Prop) : Nat → Int32 → Int32 → Int32 → St → Prop
  | 0, _, _, _, _ => False
  | n + 1, x1, x2, x3, σ => wp_X7_goBroad_b19 Q K9 (wp_X7_goBroad_l19 Q K9 n) x1 x2 x3 σ
def wp_X7_goBroad_b9 (Q : Int32 → St → Prop) (K9 : Int32 → Int32 → St → Prop) (x1 : Int32) (x2 : Int32) (σ : St) : Prop :=
  
    ((x2 < (σ.1 75 26) → (wp_X7_firstSpot  (fun r121 σ121 =>
    (vp_in ((1000 * (σ.1 75 26)) + r121) 16000 ∧ Q (σ121.1 93 ((1000 * (σ.1 75 26)) + r121).toNatClampNeg) σ121)) σ)) ∧ (¬ x2 < (σ.1 75 26) → (∃ n : Nat, wp_X7_goBroad_l19 Q K9 n (x1) (x2) (0) (σ))))
def wp_X7_goBroad_l9 (Q : Int32 → St → Prop) : Nat → Int32 → Int32 → St → Prop
  | 0, _, _, _ => False
  | n + 1, x1, x2, σ => wp_X7_goBroad_b9 Q (wp_X7_goBroad_l9 Q  n) x1 x2 σ
def wp_X7_goBroad (x1 : Int32) (Q : Int32 → St → Prop) (σ : St) : Prop :=
  (vp_in (0 : Int32) 2 ∧ (∀ v8 : Int32, v8 = (σ.1 78 (0 : Int32).toNatClampNeg) - 1 → (∃ n : Nat, wp_X7_goBroad_l9 Q n (x1) (v8) (σ))))
def wp_X7_goTogether_b2 (Q : Int32 → St → Prop) (K2 : Int32 → St → Prop) (x1 : Int32) (σ : St) : Prop :=
  (vp_in (0 : Int32) 2 ∧ 
    (((σ.1 77 (0 : Int32).toNatClampNeg) < x1 → Q (-9) σ) ∧ (¬ (σ.1 77 (0 : Int32).toNatClampNeg) < x1 → 
    (((σ.1 75 21) ≤ 0 → Q (-9) σ) ∧ (¬ (σ.1 75 21) ≤ 0 → (wp_X7_goBroad x1 (fun r21 σ21 =>
    
    (((100000 : Int32) ≤ r21 → K2 (x1 + 1) (σ21)) ∧ (¬ (100000 : Int32) ≤ r21 → Q x1 σ21))) σ))))))
def wp_X7_goTogether_l2 (Q : Int32 → St → Prop) : Nat → Int32 → St → Prop
  | 0, _, _ => False
  | n + 1, x1, σ => wp_X7_goTogether_b2 Q (wp_X7_goTogether_l2 Q  n) x1 σ
def wp_X7_goTogether (Q : Int32 → St → Prop) (σ : St) : Prop :=
  (∃ n : Nat, wp_X7_goTogether_l2 Q n (1) (σ))
def wp_X7_isSet (x1 : Int32) (Q : Int32 → St → Prop) (σ : St) : Prop :=
  (vp_in (0 : Int32) 2 ∧ (wp_X7_in x1 (1 : Int32) (((1 : Int32) <<< ((σ.1 79 (0 : Int32).toNatClampNeg) &&& 31)) - 1) (fun r12 σ12 =>
    ((r12 = 0 ∨ r12 = 1) ∧ Q r12 σ12)) σ))
def wp_X7_together (x1 : Int32) (x2 : Int32) (Q : Int32 → St → Prop) (σ : St) : Prop :=
  (wp_X7_isSet x1 (fun r2 σ2 =>
    
    ((r2 = 0 → Q (-1) σ2) ∧ (¬ r2 = 0 → (wp_X7_in x2 (0 : Int32) (1 : Int32) (fun r11 σ11 =>
    
    ((r11 = 0 → Q (-1) σ11) ∧ (¬ r11 = 0 → (wp_X7_gather x1 (fun σ21 => (wp_X7_goTogether  (fun r25 σ25 =>
    
    ((r25 = ((-9) : Int32) → Q r25 σ25) ∧ (¬ r25 = ((-9) : Int32) → 
    ((x2 = 0 → Q r25 σ25) ∧ (¬ x2 = 0 → (wp_X7_firstSpot  (fun r56 σ56 =>
    (vp_in ((1000 * (σ25.1 75 26)) + r56) 16000 ∧ Q (σ56.1 93 ((1000 * (σ25.1 75 26)) + r56).toNatClampNeg) σ56)) σ25)))))) σ21)) σ11)))) σ2)))) σ)
def wp_X7_bitsIn (x0 : Int32) (Q : Int32 → St → Prop) (σ : St) : Prop :=
  Q (((x0 &&& 1) + ((x0 >>> ((1 : Int32) &&& 31)) &&& 1)) + ((x0 >>> ((2 : Int32) &&& 31)) &&& 1)) σ
def wp_X7_share_b57 (Q : Int32 → St → Prop) (K15 : Int32 → Int32 → Int32 → St → Prop) (x1 : Int32) (x3 : Int32) (s0 : Int32) (σ : St) : Prop :=
  K15 (x1) (s0) (x3 + 1) (σ)
def wp_X7_share_b15 (Q : Int32 → St → Prop) (K15 : Int32 → Int32 → Int32 → St → Prop) (x1 : Int32) (x2 : Int32) (x3 : Int32) (σ : St) : Prop :=
  (vp_in (0 : Int32) 2 ∧ 
    ((((1 : Int32) <<< ((σ.1 79 (0 : Int32).toNatClampNeg) &&& 31)) ≤ x3 → 
    ((x1 = 0 → Q x2 σ) ∧ (¬ x1 = 0 → (wp_X7_bitsIn x2 (fun r73 σ73 =>
    Q r73 σ73) σ)))) ∧ (¬ ((1 : Int32) <<< ((σ.1 79 (0 : Int32).toNatClampNeg) &&& 31)) ≤ x3 → (wp_X7_bitsIn x3 (fun r28 σ28 =>
    (wp_X7_bitsIn x2 (fun r32 σ32 =>
    
    ((r28 ≤ r32 → K15 (x1) (x2) (x3 + 1) (σ32)) ∧ (¬ r28 ≤ r32 → (wp_X7_gather x3 (fun σ40 => (wp_X7_goTogether  (fun r44 σ44 =>
    
    ((r44 = ((-9) : Int32) → wp_X7_share_b57 Q K15 (x1) (x3) (x2) (σ44)) ∧ (¬ r44 = ((-9) : Int32) → wp_X7_share_b57 Q K15 (x1) (x3) (x3) (σ44)))) σ40)) σ32)))) σ28)) σ))))
def wp_X7_share_l15 (Q : Int32 → St → Prop) : Nat → Int32 → Int32 → Int32 → St → Prop
  | 0, _, _, _, _ => False
  | n + 1, x1, x2, x3, σ => wp_X7_share_b15 Q (wp_X7_share_l15 Q  n) x1 x2 x3 σ
def wp_X7_share (x1 : Int32) (Q : Int32 → St → Prop) (σ : St) : Prop :=
  (wp_X7_in x1 (0 : Int32) (1 : Int32) (fun r3 σ3 =>
    
    ((r3 = 0 → Q (-1) σ3) ∧ (¬ r3 = 0 → (∃ n : Nat, wp_X7_share_l15 Q n (x1) (0) (1) (σ3))))) σ)
def wp_X7_more_b70 (Q : Int32 → St → Prop) (K70 : Int32 → Int32 → Int32 → Int32 → Int32 → Int32 → St → Prop) (x1 : Int32) (x2 : Int32) (x3 : Int32) (x4 : Int32) (x5 : Int32) (x6 : Int32) (σ : St) : Prop :=
  
    ((x6 < 0 → 
    ((x3 = 0 → Q x4 σ) ∧ (¬ x3 = 0 → Q x5 σ))) ∧ (¬ x6 < 0 → (wp_X7_gather x1 (fun σ77 => (wp_X7_add x2 x6 (-1) (fun σ85 => (wp_X7_goTogether  (fun r89 σ89 =>
    
    ((r89 = ((-9) : Int32) → K70 (x1) (x2) (x3) (x4) (x5) (x6 + (-1)) (σ89)) ∧ (¬ r89 = ((-9) : Int32) → K70 (x1) (x2) (x3) (x4 + 1) (x6) (x6 + (-1)) (σ89)))) σ85)) σ77)) σ)))
def wp_X7_more_l70 (Q : Int32 → St → Prop) : Nat → Int32 → Int32 → Int32 → Int32 → Int32 → Int32 → St → Prop
  | 0, _, _, _, _, _, _, _ => False
  | n + 1, x1, x2, x3, x4, x5, x6, σ => wp_X7_more_b70 Q (wp_X7_more_l70 Q  n) x1 x2 x3 x4 x5 x6 σ
def wp_X7_more (x1 : Int32) (x2 : Int32) (x3 : Int32) (Q : Int32 → St → Prop) (σ : St) : Prop :=
  (vp_in (0 : Int32) 2 ∧ (wp_X7_in x1 (0 : Int32) (((1 : Int32) <<< ((σ.1 79 (0 : Int32).toNatClampNeg) &&& 31)) - 1) (fun r12 σ12 =>
    
    ((r12 = 0 → Q (-1) σ12) ∧ (¬ r12 = 0 → (wp_X7_bitsIn x1 (fun r19 σ19 =>
    
    ((r19 = (3 : Int32) → Q (-1) σ19) ∧ (¬ r19 = (3 : Int32) → (vp_in (0 : Int32) 2 ∧ (wp_X7_in x2 (0 : Int32) ((σ19.1 78 (0 : Int32).toNatClampNeg) - 2) (fun r36 σ36 =>
    
    ((r36 = 0 → Q (-1) σ36) ∧ (¬ r36 = 0 → (wp_X7_in x3 (0 : Int32) (1 : Int32) (fun r45 σ45 =>
    
    ((r45 = 0 → Q (-1) σ45) ∧ (¬ r45 = 0 → (vp_in (0 : Int32) 2 ∧ (∀ v68 : Int32, v68 = (σ45.1 77 (0 : Int32).toNatClampNeg) - 1 → (∃ n : Nat, wp_X7_more_l70 Q n (x1) (x2) (x3) (0) ((-9)) (v68) (σ45))))))) σ36)))) σ19))))) σ12)))) σ))
def wp_X7_take_b99 (Q : Int32 → St → Prop) (K37 : Int32 → Int32 → Int32 → St → Prop) (K53 : Int32 → Int32 → Int32 → Int32 → Int32 → St → Prop) (x1 : Int32) (x2 : Int32) (x3 : Int32) (x4 : Int32) (x5 : Int32) (σ : St) : Prop :=
  K53 (x1) (x2) (x3) (x4 + 1) (x5 + 1) (σ)
def wp_X7_take_b53 (Q : Int32 → St → Prop) (K37 : Int32 → Int32 → Int32 → St → Prop) (K53 : Int32 → Int32 → Int32 → Int32 → Int32 → St → Prop) (x1 : Int32) (x2 : Int32) (x3 : Int32) (x4 : Int32) (x5 : Int32) (σ : St) : Prop :=
  
    (((3 : Int32) ≤ x5 → (vp_in (0 : Int32) 2 ∧ 
    ((((σ.1 78 (0 : Int32).toNatClampNeg) - 1) ≤ x3 → K37 (x1) (x2) (x3 + 1) (σ)) ∧ (¬ ((σ.1 78 (0 : Int32).toNatClampNeg) - 1) ≤ x3 → (wp_X7_leastNext x3 x2 (fun r123 σ123 =>
    K37 (x1) (σ123.1 75 29) (x3 + 1) (σ123)) σ))))) ∧ (¬ (3 : Int32) ≤ x5 → 
    ((((x1 >>> (x5 &&& 31)) &&& 1) = (1 : Int32) → (vp_in x4 3 ∧ 
    ((x3 < (σ.1 90 x4.toNatClampNeg) → wp_X7_take_b99 Q K37 K53 (x1) (x2) (x3) (x4) (x5) (σ)) ∧ (¬ x3 < (σ.1 90 x4.toNatClampNeg) → (wp_X7_placeIn x2 x4 (fun r95 σ95 =>
    (vp_in ((16 * x5) + x3) 144 ∧ wp_X7_take_b99 Q K37 K53 (x1) (x2) (x3) (x4) (x5) (sI σ95 95 ((16 * x5) + x3).toNatClampNeg r95))) σ))))) ∧ (¬ ((x1 >>> (x5 &&& 31)) &&& 1) = (1 : Int32) → K53 (x1) (x2) (x3) (x4) (x5 + 1) (σ)))))
def wp_X7_take_l53 (Q : Int32 → St → Prop) (K37 : Int32 → Int32 → Int32 → St → Prop) : Nat → Int32 → Int32 → Int32 → Int32 → Int32 → St → Prop
  | 0, _, _, _, _, _, _ => False
  | n + 1, x1, x2, x3, x4, x5, σ => wp_X7_take_b53 Q K37 (wp_X7_take_l53 Q K37 n) x1 x2 x3 x4 x5 σ
def wp_X7_take_b37 (Q : Int32 → St → Prop) (K37 : Int32 → Int32 → Int32 → St → Prop) (x1 : Int32) (x2 : Int32) (x3 : Int32) (σ : St) : Prop :=
  (vp_in (0 : Int32) 2 ∧ 
    (((σ.1 78 (0 : Int32).toNatClampNeg) ≤ x3 → Q (1 : Int32) σ) ∧ (¬ (σ.1 78 (0 : Int32).toNatClampNeg) ≤ x3 → (∃ n : Nat, wp_X7_take_l53 Q K37 n (x1) (x2) (x3) (0) (0) (σ)))))
def wp_X7_take_l37 (Q : Int32 → St → Prop) : Nat → Int32 → Int32 → Int32 → St → Prop
  | 0, _, _, _, _ => False
  | n + 1, x1, x2, x3, σ => wp_X7_take_b37 Q (wp_X7_take_l37 Q  n) x1 x2 x3 σ
def wp_X7_take (x1 : Int32) (Q : Int32 → St → Prop) (σ : St) : Prop :=
  (wp_X7_isSet x1 (fun r2 σ2 =>
    
    ((r2 = 0 → Q (-1) σ2) ∧ (¬ r2 = 0 → (wp_X7_gather x1 (fun σ12 => (wp_X7_goTogether  (fun r16 σ16 =>
    
    ((r16 = ((-9) : Int32) → Q (-2) σ16) ∧ (¬ r16 = ((-9) : Int32) → (wp_X7_firstSpot  (fun r28 σ28 =>
    (∃ n : Nat, wp_X7_take_l37 Q n (x1) (r28) (σ28.1 75 26) (σ28))) σ16)))) σ12)) σ2)))) σ)
def wp_X7_way (x1 : Int32) (x2 : Int32) (Q : Int32 → St → Prop) (σ : St) : Prop :=
  (wp_X7_isHearth x1 (fun r2 σ2 =>
    
    ((r2 = 0 → Q (-1000000) σ2) ∧ (¬ r2 = 0 → (vp_in x1 6 ∧ (vp_in (0 : Int32) 2 ∧ (wp_X7_in x2 (σ2.1 80 x1.toNatClampNeg) ((σ2.1 78 (0 : Int32).toNatClampNeg) - 1) (fun r23 σ23 =>
    
    ((r23 = 0 → Q (-1000000) σ23) ∧ (¬ r23 = 0 → (vp_in ((16 * x1) + x2) 144 ∧ Q (σ23.1 95 ((16 * x1) + x2).toNatClampNeg) σ23)))) σ2)))))) σ)
def wp_X7_turn_b73 (Q : Int32 → St → Prop) (K73 : Int32 → Int32 → Int32 → Int32 → St → Prop) (x1 : Int32) (x3 : Int32) (x4 : Int32) (x5 : Int32) (σ : St) : Prop :=
  (vp_in (0 : Int32) 2 ∧ 
    (((σ.1 78 (0 : Int32).toNatClampNeg) ≤ x5 → Q x4 σ) ∧ (¬ (σ.1 78 (0 : Int32).toNatClampNeg) ≤ x5 → (vp_in ((16 * x1) + x5) 144 ∧ (vp_in ((16 * x1) + x5) 144 ∧ K73 (x1) (x3) (x4) (x5 + 1) (sI σ 95 ((16 * x1) + x5).toNatClampNeg ((σ.1 95 ((16 * x1) + x5).toNatClampNeg) + (x3 - x4))))))))
def wp_X7_turn_l73 (Q : Int32 → St → Prop) : Nat → Int32 → Int32 → Int32 → Int32 → St → Prop
  | 0, _, _, _, _, _ => False
  | n + 1, x1, x3, x4, x5, σ => wp_X7_turn_b73 Q (wp_X7_turn_l73 Q  n) x1 x3 x4 x5 σ
def wp_X7_turn (x1 : Int32) (x2 : Int32) (x3 : Int32) (Q : Int32 → St → Prop) (σ : St) : Prop :=
  (wp_X7_isHearth x1 (fun r2 σ2 =>
    
    ((r2 = 0 → Q (-1000000) σ2) ∧ (¬ r2 = 0 → (vp_in x1 6 ∧ (vp_in (0 : Int32) 2 ∧ (wp_X7_in x2 ((σ2.1 80 x1.toNatClampNeg) + 1) ((σ2.1 78 (0 : Int32).toNatClampNeg) - 1) (fun r25 σ25 =>
    
    ((r25 = 0 → Q (-1000000) σ25) ∧ (¬ r25 = 0 → (wp_X7_in x3 (-1) (1 : Int32) (fun r34 σ34 =>
    
    ((r34 = 0 → Q (-1000000) σ34) ∧ (¬ r34 = 0 → (vp_in ((16 * x1) + x2) 144 ∧ (vp_in (((16 * x1) + x2) - 1) 144 ∧ (∀ v68 : Int32, v68 = (σ34.1 95 ((16 * x1) + x2).toNatClampNeg) - (σ34.1 95 (((16 * x1) + x2) - 1).toNatClampNeg) → (∃ n : Nat, wp_X7_turn_l73 Q n (x1) (x3) (v68) (x2) (σ34)))))))) σ25)))) σ2)))))) σ)
def wp_X7_troubleAt_b210 (Q : Int32 → St → Prop) (K42 : Int32 → Int32 → Int32 → Int32 → Int32 → Int32 → St → Prop) (x1 : Int32) (x2 : Int32) (x3 : Int32) (x4 : Int32) (x6 : Int32) (s0 : Int32) (σ : St) : Prop :=
  K42 (x1) (x2) (x3) (x4) (s0) (x6 + 1) (σ)
def wp_X7_troubleAt_b205 (Q : Int32 → St → Prop) (K42 : Int32 → Int32 → Int32 → Int32 → Int32 → Int32 → St → Prop) (x1 : Int32) (x2 : Int32) (x3 : Int32) (x4 : Int32) (x6 : Int32) (σ : St) : Prop :=
  wp_X7_troubleAt_b210 Q K42 (x1) (x2) (x3) (x4) (x6) (1) (σ)
def wp_X7_troubleAt_b202 (Q : Int32 → St → Prop) (K42 : Int32 → Int32 → Int32 → Int32 → Int32 → Int32 → St → Prop) (x1 : Int32) (x2 : Int32) (x3 : Int32) (x4 : Int32) (x6 : Int32) (s0 : Int32) (s1 : Int32) (σ : St) : Prop :=
  
    ((s1 = s0 → wp_X7_troubleAt_b210 Q K42 (x1) (x2) (x3) (x4) (x6) (0) (σ)) ∧ (¬ s1 = s0 → wp_X7_troubleAt_b205 Q K42 (x1) (x2) (x3) (x4) (x6) (σ)))
def wp_X7_troubleAt_b192 (Q : Int32 → St → Prop) (K42 : Int32 → Int32 → Int32 → Int32 → Int32 → Int32 → St → Prop) (x1 : Int32) (x2 : Int32) (x3 : Int32) (x4 : Int32) (x6 : Int32) (x9 : Int32) (s0 : Int32) (σ : St) : Prop :=
  
    ((0 ≤ x9 → wp_X7_troubleAt_b202 Q K42 (x1) (x2) (x3) (x4) (x6) (0) (s0) (σ)) ∧ (¬ 0 ≤ x9 → wp_X7_troubleAt_b202 Q K42 (x1) (x2) (x3) (x4) (x6) (1) (s0) (σ)))
def wp_X7_troubleAt_b175 (Q : Int32 → St → Prop) (K42 : Int32 → Int32 → Int32 → Int32 → Int32 → Int32 → St → Prop) (x1 : Int32) (x2 : Int32) (x3 : Int32) (x4 : Int32) (x5 : Int32) (x6 : Int32) (x7 : Int32) (s0 : Int32) (σ : St) : Prop :=
  
    ((x5 = 0 → 
    ((0 ≤ x7 → wp_X7_troubleAt_b192 Q K42 (x1) (x2) (x3) (x4) (x6) (s0) (0) (σ)) ∧ (¬ 0 ≤ x7 → wp_X7_troubleAt_b192 Q K42 (x1) (x2) (x3) (x4) (x6) (s0) (1) (σ)))) ∧ (¬ x5 = 0 → wp_X7_troubleAt_b205 Q K42 (x1) (x2) (x3) (x4) (x6) (σ)))
def wp_X7_troubleAt_b135 (Q : Int32 → St → Prop) (K42 : Int32 → Int32 → Int32 → Int32 → Int32 → Int32 → St → Prop) (x1 : Int32) (x2 : Int32) (x3 : Int32) (x4 : Int32) (x5 : Int32) (x6 : Int32) (x7 : Int32) (s0 : Int32) (σ : St) : Prop :=
  
    ((s0 = 0 → wp_X7_troubleAt_b175 Q K42 (x1) (x2) (x3) (x4) (x5) (x6) (x7) (x7) (σ)) ∧ (¬ s0 = 0 → (vp_in (((16 * x1) + x2) - 1) 144 ∧ (vp_in (((16 * x6) + x2) - 1) 144 ∧ wp_X7_troubleAt_b175 Q K42 (x1) (x2) (x3) (x4) (x5) (x6) (x7) ((σ.1 95 (((16 * x1) + x2) - 1).toNatClampNeg) - (σ.1 95 (((16 * x6) + x2) - 1).toNatClampNeg)) (σ)))))
def wp_X7_troubleAt_b134 (Q : Int32 → St → Prop) (K42 : Int32 → Int32 → Int32 → Int32 → Int32 → Int32 → St → Prop) (x1 : Int32) (x2 : Int32) (x3 : Int32) (x4 : Int32) (x5 : Int32) (x6 : Int32) (x7 : Int32) (σ : St) : Prop :=
  wp_X7_troubleAt_b135 Q K42 (x1) (x2) (x3) (x4) (x5) (x6) (x7) (0) (σ)
def wp_X7_troubleAt_b107 (Q : Int32 → St → Prop) (K42 : Int32 → Int32 → Int32 → Int32 → Int32 → Int32 → St → Prop) (x1 : Int32) (x2 : Int32) (x3 : Int32) (x5 : Int32) (x6 : Int32) (x7 : Int32) (s0 : Int32) (σ : St) : Prop :=
  (vp_in x6 6 ∧ 
    ((x2 ≤ (σ.1 80 x6.toNatClampNeg) → wp_X7_troubleAt_b134 Q K42 (x1) (x2) (x3) (s0) (x5) (x6) (x7) (σ)) ∧ (¬ x2 ≤ (σ.1 80 x6.toNatClampNeg) → (vp_in x1 6 ∧ 
    ((x2 ≤ (σ.1 80 x1.toNatClampNeg) → wp_X7_troubleAt_b134 Q K42 (x1) (x2) (x3) (s0) (x5) (x6) (x7) (σ)) ∧ (¬ x2 ≤ (σ.1 80 x1.toNatClampNeg) → wp_X7_troubleAt_b135 Q K42 (x1) (x2) (x3) (s0) (x5) (x6) (x7) (1) (σ)))))))
def wp_X7_troubleAt_b102 (Q : Int32 → St → Prop) (K42 : Int32 → Int32 → Int32 → Int32 → Int32 → Int32 → St → Prop) (x1 : Int32) (x2 : Int32) (x3 : Int32) (x5 : Int32) (x6 : Int32) (x7 : Int32) (σ : St) : Prop :=
  wp_X7_troubleAt_b107 Q K42 (x1) (x2) (x3) (x5) (x6) (x7) (1) (σ)
def wp_X7_troubleAt_b93 (Q : Int32 → St → Prop) (K42 : Int32 → Int32 → Int32 → Int32 → Int32 → Int32 → St → Prop) (x1 : Int32) (x2 : Int32) (x3 : Int32) (x5 : Int32) (x6 : Int32) (x7 : Int32) (s0 : Int32) (σ : St) : Prop :=
  (vp_in (0 : Int32) 6 ∧ 
    (((σ.1 85 (0 : Int32).toNatClampNeg) < s0 → wp_X7_troubleAt_b107 Q K42 (x1) (x2) (x3) (x5) (x6) (x7) (0) (σ)) ∧ (¬ (σ.1 85 (0 : Int32).toNatClampNeg) < s0 → wp_X7_troubleAt_b102 Q K42 (x1) (x2) (x3) (x5) (x6) (x7) (σ))))
def wp_X7_troubleAt_b42 (Q : Int32 → St → Prop) (K42 : Int32 → Int32 → Int32 → Int32 → Int32 → Int32 → St → Prop) (x1 : Int32) (x2 : Int32) (x3 : Int32) (x4 : Int32) (x5 : Int32) (x6 : Int32) (σ : St) : Prop :=
  
    ((x1 ≤ x6 → 
    ((x4 = 0 → 
    ((x5 = 0 → Q (-9) σ) ∧ (¬ x5 = 0 → Q (4 : Int32) σ))) ∧ (¬ x4 = 0 → Q (3 : Int32) σ))) ∧ (¬ x1 ≤ x6 → (vp_in x6 6 ∧ 
    ((x2 < (σ.1 80 x6.toNatClampNeg) → K42 (x1) (x2) (x3) (x4) (x5) (x6 + 1) (σ)) ∧ (¬ x2 < (σ.1 80 x6.toNatClampNeg) → (vp_in ((16 * x6) + x2) 144 ∧ (∀ v73 : Int32, v73 = x3 - (σ.1 95 ((16 * x6) + x2).toNatClampNeg) → 
    ((x4 = 0 → 
    ((0 ≤ v73 → wp_X7_troubleAt_b93 Q K42 (x1) (x2) (x3) (x5) (x6) (v73) (v73) (σ)) ∧ (¬ 0 ≤ v73 → wp_X7_troubleAt_b93 Q K42 (x1) (x2) (x3) (x5) (x6) (v73) (-v73) (σ)))) ∧ (¬ x4 = 0 → wp_X7_troubleAt_b102 Q K42 (x1) (x2) (x3) (x5) (x6) (v73) (σ))))))))))
def wp_X7_troubleAt_l42 (Q : Int32 → St → Prop) : Nat → Int32 → Int32 → Int32 → Int32 → Int32 → Int32 → St → Prop
  | 0, _, _, _, _, _, _, _ => False
  | n + 1, x1, x2, x3, x4, x5, x6, σ => wp_X7_troubleAt_b42 Q (wp_X7_troubleAt_l42 Q  n) x1 x2 x3 x4 x5 x6 σ
def wp_X7_troubleAt (x1 : Int32) (x2 : Int32) (Q : Int32 → St → Prop) (σ : St) : Prop :=
  (vp_in ((16 * x1) + x2) 144 ∧ (∀ v11 : Int32, v11 = σ.1 95 ((16 * x1) + x2).toNatClampNeg → (wp_X7_isIn v11 (fun r14 σ14 =>
    
    ((r14 = 0 → Q (1 : Int32) σ14) ∧ (¬ r14 = 0 → (wp_X7_isBarred x2 v11 (fun r25 σ25 =>
    
    ((r25 = 0 → (∃ n : Nat, wp_X7_troubleAt_l42 Q n (x1) (x2) (v11) (0) (0) (0) (σ25))) ∧ (¬ r25 = 0 → Q (2 : Int32) σ25))) σ14)))) σ)))
def wp_X7_judge_b56 (Q : Int32 → St → Prop) (K13 : Int32 → Int32 → St → Prop) (K25 : Int32 → Int32 → Int32 → St → Prop) (x1 : Int32) (x2 : Int32) (x3 : Int32) (s0 : Int32) (σ : St) : Prop :=
  
    ((s0 = ((-9) : Int32) → K25 (x1) (x2) (x3 + 1) (σ)) ∧ (¬ s0 = ((-9) : Int32) → 
    ((x1 = 0 → Q s0 σ) ∧ (¬ x1 = 0 → 
    ((x1 = (1 : Int32) → Q x3 σ) ∧ (¬ x1 = (1 : Int32) → Q x2 σ))))))
def wp_X7_judge_b25 (Q : Int32 → St → Prop) (K13 : Int32 → Int32 → St → Prop) (K25 : Int32 → Int32 → Int32 → St → Prop) (x1 : Int32) (x2 : Int32) (x3 : Int32) (σ : St) : Prop :=
  (vp_in (0 : Int32) 2 ∧ 
    (((σ.1 79 (0 : Int32).toNatClampNeg) ≤ x3 → K13 (x1) (x2 + 1) (σ)) ∧ (¬ (σ.1 79 (0 : Int32).toNatClampNeg) ≤ x3 → (vp_in x3 6 ∧ 
    ((x2 < (σ.1 80 x3.toNatClampNeg) → wp_X7_judge_b56 Q K13 K25 (x1) (x2) (x3) ((-9)) (σ)) ∧ (¬ x2 < (σ.1 80 x3.toNatClampNeg) → (wp_X7_troubleAt x3 x2 (fun r48 σ48 =>
    wp_X7_judge_b56 Q K13 K25 (x1) (x2) (x3) (r48) (σ48)) σ)))))))
def wp_X7_judge_l25 (Q : Int32 → St → Prop) (K13 : Int32 → Int32 → St → Prop) : Nat → Int32 → Int32 → Int32 → St → Prop
  | 0, _, _, _, _ => False
  | n + 1, x1, x2, x3, σ => wp_X7_judge_b25 Q K13 (wp_X7_judge_l25 Q K13 n) x1 x2 x3 σ
def wp_X7_judge_b13 (Q : Int32 → St → Prop) (K13 : Int32 → Int32 → St → Prop) (x1 : Int32) (x2 : Int32) (σ : St) : Prop :=
  (vp_in (0 : Int32) 2 ∧ 
    (((σ.1 78 (0 : Int32).toNatClampNeg) ≤ x2 → Q (-9) σ) ∧ (¬ (σ.1 78 (0 : Int32).toNatClampNeg) ≤ x2 → (∃ n : Nat, wp_X7_judge_l25 Q K13 n (x1) (x2) (0) (σ)))))
def wp_X7_judge_l13 (Q : Int32 → St → Prop) : Nat → Int32 → Int32 → St → Prop
  | 0, _, _, _ => False
  | n + 1, x1, x2, σ => wp_X7_judge_b13 Q (wp_X7_judge_l13 Q  n) x1 x2 σ
def wp_X7_judge (x1 : Int32) (Q : Int32 → St → Prop) (σ : St) : Prop :=
  (wp_X7_in x1 (0 : Int32) (2 : Int32) (fun r3 σ3 =>
    
    ((r3 = 0 → Q (-1) σ3) ∧ (¬ r3 = 0 → (∃ n : Nat, wp_X7_judge_l13 Q n (x1) (0) (σ3))))) σ)
def wp_X7_stepInto (x1 : Int32) (x2 : Int32) (Q : Int32 → St → Prop) (σ : St) : Prop :=
  (vp_in ((16 * x1) + x2) 144 ∧ (vp_in (((16 * x1) + x2) - 1) 144 ∧ Q ((σ.1 95 ((16 * x1) + x2).toNatClampNeg) - (σ.1 95 (((16 * x1) + x2) - 1).toNatClampNeg)) σ))
def wp_X7_bendsOf_b11 (Q : Int32 → St → Prop) (K11 : Int32 → Int32 → Int32 → St → Prop) (x1 : Int32) (x2 : Int32) (x3 : Int32) (σ : St) : Prop :=
  (vp_in (0 : Int32) 2 ∧ 
    (((σ.1 78 (0 : Int32).toNatClampNeg) ≤ x3 → Q x2 σ) ∧ (¬ (σ.1 78 (0 : Int32).toNatClampNeg) ≤ x3 → (wp_X7_stepInto x1 x3 (fun r25 σ25 =>
    (wp_X7_stepInto x1 (x3 - 1) (fun r33 σ33 =>
    
    ((r25 = r33 → K11 (x1) (x2 + 0) (x3 + 1) (σ33)) ∧ (¬ r25 = r33 → K11 (x1) (x2 + 1) (x3 + 1) (σ33)))) σ25)) σ))))
def wp_X7_bendsOf_l11 (Q : Int32 → St → Prop) : Nat → Int32 → Int32 → Int32 → St → Prop
  | 0, _, _, _, _ => False
  | n + 1, x1, x2, x3, σ => wp_X7_bendsOf_b11 Q (wp_X7_bendsOf_l11 Q  n) x1 x2 x3 σ
def wp_X7_bendsOf (x1 : Int32) (Q : Int32 → St → Prop) (σ : St) : Prop :=
  (vp_in x1 6 ∧ (∃ n : Nat, wp_X7_bendsOf_l11 Q n (x1) (0) ((σ.1 80 x1.toNatClampNeg) + 2) (σ)))
def wp_X7_leansOf_b11 (Q : Int32 → St → Prop) (K11 : Int32 → Int32 → Int32 → St → Prop) (x1 : Int32) (x2 : Int32) (x3 : Int32) (σ : St) : Prop :=
  (vp_in (0 : Int32) 2 ∧ 
    (((σ.1 78 (0 : Int32).toNatClampNeg) ≤ x3 → Q x2 σ) ∧ (¬ (σ.1 78 (0 : Int32).toNatClampNeg) ≤ x3 → (wp_X7_stepInto x1 x3 (fun r25 σ25 =>
    
    ((r25 = 0 → K11 (x1) (x2 + 0) (x3 + 1) (σ25)) ∧ (¬ r25 = 0 → K11 (x1) (x2 + 1) (x3 + 1) (σ25)))) σ))))
def wp_X7_leansOf_l11 (Q : Int32 → St → Prop) : Nat → Int32 → Int32 → Int32 → St → Prop
  | 0, _, _, _, _ => False
  | n + 1, x1, x2, x3, σ => wp_X7_leansOf_b11 Q (wp_X7_leansOf_l11 Q  n) x1 x2 x3 σ
def wp_X7_leansOf (x1 : Int32) (Q : Int32 → St → Prop) (σ : St) : Prop :=
  (vp_in x1 6 ∧ (∃ n : Nat, wp_X7_leansOf_l11 Q n (x1) (0) ((σ.1 80 x1.toNatClampNeg) + 1) (σ)))
def wp_X7_coldOf_b9 (Q : Int32 → St → Prop) (K9 : Int32 → Int32 → Int32 → St → Prop) (x1 : Int32) (x2 : Int32) (x3 : Int32) (σ : St) : Prop :=
  (vp_in (0 : Int32) 2 ∧ 
    (((σ.1 78 (0 : Int32).toNatClampNeg) ≤ x3 → Q x2 σ) ∧ (¬ (σ.1 78 (0 : Int32).toNatClampNeg) ≤ x3 → (vp_in ((16 * x1) + x3) 144 ∧ (wp_X7_isCold (σ.1 95 ((16 * x1) + x3).toNatClampNeg) (fun r32 σ32 =>
    
    ((r32 = 0 → K9 (x1) (x2 + 0) (x3 + 1) (σ32)) ∧ (¬ r32 = 0 → K9 (x1) (x2 + 1) (x3 + 1) (σ32)))) σ)))))
def wp_X7_coldOf_l9 (Q : Int32 → St → Prop) : Nat → Int32 → Int32 → Int32 → St → Prop
  | 0, _, _, _, _ => False
  | n + 1, x1, x2, x3, σ => wp_X7_coldOf_b9 Q (wp_X7_coldOf_l9 Q  n) x1 x2 x3 σ
def wp_X7_coldOf (x1 : Int32) (Q : Int32 → St → Prop) (σ : St) : Prop :=
  (vp_in x1 6 ∧ (∃ n : Nat, wp_X7_coldOf_l9 Q n (x1) (0) (σ.1 80 x1.toNatClampNeg) (σ)))
def wp_X7_plan (x1 : Int32) (x2 : Int32) (Q : Int32 → St → Prop) (σ : St) : Prop :=
  (wp_X7_isHearth x1 (fun r2 σ2 =>
    
    ((r2 = 0 → Q (-1) σ2) ∧ (¬ r2 = 0 → (wp_X7_in x2 (0 : Int32) (3 : Int32) (fun r11 σ11 =>
    
    ((r11 = 0 → Q (-1) σ11) ∧ (¬ r11 = 0 → (wp_X7_bendsOf x1 (fun r21 σ21 =>
    (vp_in (4 : Int32) 6 ∧ (∀ v37 : Int32, v37 = (r21 + 1) - (2 * ((σ21.1 85 (4 : Int32).toNatClampNeg) + 1)) → (vp_in (4 : Int32) 6 ∧ (∀ v48 : Int32, v48 = (2 * (σ21.1 85 (4 : Int32).toNatClampNeg)) + 1 → 
    ((x2 = 0 → (wp_X7_bendsOf x1 (fun r56 σ56 =>
    Q r56 σ56) σ21)) ∧ (¬ x2 = 0 → 
    ((x2 = (1 : Int32) → (wp_X7_leansOf x1 (fun r69 σ69 =>
    Q r69 σ69) σ21)) ∧ (¬ x2 = (1 : Int32) → 
    ((x2 = (2 : Int32) → (wp_X7_coldOf x1 (fun r82 σ82 =>
    Q r82 σ82) σ21)) ∧ (¬ x2 = (2 : Int32) → 
    ((0 < v37 → (¬ (v48 : Int32) = 0 ∧ Q (((v37 + v48) - 1) / v48) σ21)) ∧ (¬ 0 < v37 → Q (0 : Int32) σ21))))))))))))) σ11)))) σ2)))) σ)
def wp_X7_drawOf_b42 (Q : Int32 → St → Prop) (x1 : Int32) (s0 : Int32) (σ : St) : Prop :=
  (vp_in (3 : Int32) 6 ∧ (vp_in (0 : Int32) 2 ∧ (vp_in x1 6 ∧ (vp_in (1 : Int32) 6 ∧ (wp_X7_bendsOf x1 (fun r74 σ74 =>
    (vp_in (2 : Int32) 6 ∧ (wp_X7_coldOf x1 (fun r87 σ87 =>
    Q (((((σ.1 85 (3 : Int32).toNatClampNeg) * (((σ.1 78 (0 : Int32).toNatClampNeg) - 1) - (σ.1 80 x1.toNatClampNeg))) - ((σ.1 85 (1 : Int32).toNatClampNeg) * r74)) - ((σ74.1 85 (2 : Int32).toNatClampNeg) * r87)) + s0) σ87) σ74))) σ)))))
def wp_X7_drawOf (x1 : Int32) (x2 : Int32) (Q : Int32 → St → Prop) (σ : St) : Prop :=
  (vp_in (0 : Int32) 2 ∧ (vp_in (((16 * x1) + (σ.1 78 (0 : Int32).toNatClampNeg)) - 1) 144 ∧ (∀ v18 : Int32, v18 = σ.1 95 (((16 * x1) + (σ.1 78 (0 : Int32).toNatClampNeg)) - 1).toNatClampNeg → (wp_X7_isIn v18 (fun r21 σ21 =>
    
    ((r21 = 0 → wp_X7_drawOf_b42 Q (x1) (0) (σ21)) ∧ (¬ r21 = 0 → (vp_in ((10 * x2) + v18) 40 ∧ wp_X7_drawOf_b42 Q (x1) (σ21.1 86 ((10 * x2) + v18).toNatClampNeg) (σ21))))) σ))))
def wp_X7_draw (x1 : Int32) (x2 : Int32) (Q : Int32 → St → Prop) (σ : St) : Prop :=
  (wp_X7_isHearth x1 (fun r2 σ2 =>
    
    ((r2 = 0 → Q (-1000000) σ2) ∧ (¬ r2 = 0 → (wp_X7_in x2 (0 : Int32) (3 : Int32) (fun r11 σ11 =>
    
    ((r11 = 0 → Q (-1000000) σ11) ∧ (¬ r11 = 0 → (wp_X7_drawOf x1 x2 (fun r20 σ20 =>
    Q r20 σ20) σ11)))) σ2)))) σ)
def wp_X7_smokes (x1 : Int32) (x2 : Int32) (x3 : Int32) (Q : Int32 → St → Prop) (σ : St) : Prop :=
  (wp_X7_isHearth x1 (fun r2 σ2 =>
    
    ((r2 = 0 → Q (-1) σ2) ∧ (¬ r2 = 0 → (wp_X7_isHearth x2 (fun r10 σ10 =>
    
    ((r10 = 0 → Q (-1) σ10) ∧ (¬ r10 = 0 → (wp_X7_in x3 (0 : Int32) (3 : Int32) (fun r19 σ19 =>
    
    ((r19 = 0 → Q (-1) σ19) ∧ (¬ r19 = 0 → (wp_X7_drawOf x1 x3 (fun r30 σ30 =>
    (vp_in x1 6 ∧ 
    ((r30 < (σ30.1 82 x1.toNatClampNeg) → Q (1 : Int32) σ30) ∧ (¬ r30 < (σ30.1 82 x1.toNatClampNeg) → 
    ((x2 = x1 → Q (0 : Int32) σ30) ∧ (¬ x2 = x1 → (wp_X7_drawOf x2 x3 (fun r56 σ56 =>
    (vp_in (5 : Int32) 6 ∧ 
    (((r56 - (σ56.1 85 (5 : Int32).toNatClampNeg)) ≤ r30 → Q (0 : Int32) σ56) ∧ (¬ (r56 - (σ56.1 85 (5 : Int32).toNatClampNeg)) ≤ r30 → Q (1 : Int32) σ56)))) σ30))))))) σ19)))) σ10)))) σ2)))) σ)
def wp_X7_mend_b102 (Q : Int32 → St → Prop) (K14 : Int32 → Int32 → Int32 → St → Prop) (K22 : Int32 → Int32 → Int32 → Int32 → St → Prop) (x1 : Int32) (x2 : Int32) (x3 : Int32) (x4 : Int32) (s0 : Int32) (σ : St) : Prop :=
  
    ((s0 ≤ x2 → K22 (x1) (x2) (x3) (x4 + 1) (σ)) ∧ (¬ s0 ≤ x2 → K22 (x1) (s0) (x3) (x4 + 1) (σ)))
def wp_X7_mend_b62 (Q : Int32 → St → Prop) (K14 : Int32 → Int32 → Int32 → St → Prop) (K22 : Int32 → Int32 → Int32 → Int32 → St → Prop) (x1 : Int32) (x2 : Int32) (x3 : Int32) (x4 : Int32) (s0 : Int32) (σ : St) : Prop :=
  (wp_X7_drawOf x1 x3 (fun r69 σ69 =>
    
    ((0 < (s0 - r69) → (vp_in (3 : Int32) 6 ∧ (vp_in (3 : Int32) 6 ∧ (¬ ((σ69.1 85 (3 : Int32).toNatClampNeg) : Int32) = 0 ∧ wp_X7_mend_b102 Q K14 K22 (x1) (x2) (x3) (x4) ((((s0 - r69) + (σ69.1 85 (3 : Int32).toNatClampNeg)) - 1) / (σ69.1 85 (3 : Int32).toNatClampNeg)) (σ69))))) ∧ (¬ 0 < (s0 - r69) → wp_X7_mend_b102 Q K14 K22 (x1) (x2) (x3) (x4) (0) (σ69)))) σ)
def wp_X7_mend_b22 (Q : Int32 → St → Prop) (K14 : Int32 → Int32 → Int32 → St → Prop) (K22 : Int32 → Int32 → Int32 → Int32 → St → Prop) (x1 : Int32) (x2 : Int32) (x3 : Int32) (x4 : Int32) (σ : St) : Prop :=
  (vp_in (0 : Int32) 2 ∧ 
    (((σ.1 79 (0 : Int32).toNatClampNeg) ≤ x4 → K14 (x1) (x2) (x3 + 1) (σ)) ∧ (¬ (σ.1 79 (0 : Int32).toNatClampNeg) ≤ x4 → 
    ((x4 = x1 → (vp_in x1 6 ∧ wp_X7_mend_b62 Q K14 K22 (x1) (x2) (x3) (x4) (σ.1 82 x1.toNatClampNeg) (σ))) ∧ (¬ x4 = x1 → (wp_X7_drawOf x4 x3 (fun r52 σ52 =>
    (vp_in (5 : Int32) 6 ∧ wp_X7_mend_b62 Q K14 K22 (x1) (x2) (x3) (x4) (r52 - (σ52.1 85 (5 : Int32).toNatClampNeg)) (σ52))) σ))))))
def wp_X7_mend_l22 (Q : Int32 → St → Prop) (K14 : Int32 → Int32 → Int32 → St → Prop) : Nat → Int32 → Int32 → Int32 → Int32 → St → Prop
  | 0, _, _, _, _, _ => False
  | n + 1, x1, x2, x3, x4, σ => wp_X7_mend_b22 Q K14 (wp_X7_mend_l22 Q K14 n) x1 x2 x3 x4 σ
def wp_X7_mend_b14 (Q : Int32 → St → Prop) (K14 : Int32 → Int32 → Int32 → St → Prop) (x1 : Int32) (x2 : Int32) (x3 : Int32) (σ : St) : Prop :=
  
    (((4 : Int32) ≤ x3 → 
    ((x2 ≤ (40 : Int32) → Q x2 σ) ∧ (¬ x2 ≤ (40 : Int32) → Q (-9) σ))) ∧ (¬ (4 : Int32) ≤ x3 → (∃ n : Nat, wp_X7_mend_l22 Q K14 n (x1) (x2) (x3) (0) (σ))))
def wp_X7_mend_l14 (Q : Int32 → St → Prop) : Nat → Int32 → Int32 → Int32 → St → Prop
  | 0, _, _, _, _ => False
  | n + 1, x1, x2, x3, σ => wp_X7_mend_b14 Q (wp_X7_mend_l14 Q  n) x1 x2 x3 σ
def wp_X7_mend (x1 : Int32) (Q : Int32 → St → Prop) (σ : St) : Prop :=
  (wp_X7_isHearth x1 (fun r2 σ2 =>
    
    ((r2 = 0 → Q (-1) σ2) ∧ (¬ r2 = 0 → (∃ n : Nat, wp_X7_mend_l14 Q n (x1) (0) (0) (σ2))))) σ)
def wp_X7_isWellWith_b50 (Q : Int32 → St → Prop) (K13 : Int32 → Int32 → Int32 → St → Prop) (x1 : Int32) (x2 : Int32) (x3 : Int32) (s0 : Int32) (s1 : Int32) (s2 : Int32) (σ : St) : Prop :=
  (wp_X7_add s2 s1 s0 (fun σ50 => K13 (x1) (x2) (x3 + 1) (σ50)) σ)
def wp_X7_isWellWith_b13 (Q : Int32 → St → Prop) (K13 : Int32 → Int32 → Int32 → St → Prop) (x1 : Int32) (x2 : Int32) (x3 : Int32) (σ : St) : Prop :=
  (vp_in (0 : Int32) 2 ∧ 
    (((σ.1 79 (0 : Int32).toNatClampNeg) ≤ x3 → 
    ((((sI σ 75 25 x2).1 75 21) = 0 → Q (1 : Int32) (sI σ 75 25 x2)) ∧ (¬ ((sI σ 75 25 x2).1 75 21) = 0 → (wp_X7_goTogether  (fun r72 σ72 =>
    
    ((r72 = ((-9) : Int32) → Q (0 : Int32) σ72) ∧ (¬ r72 = ((-9) : Int32) → Q (1 : Int32) σ72))) (sI σ 75 25 x2))))) ∧ (¬ (σ.1 79 (0 : Int32).toNatClampNeg) ≤ x3 → (vp_in x3 6 ∧ (vp_in x3 6 ∧ 
    ((((x1 >>> (x3 &&& 31)) &&& 1) = (1 : Int32) → wp_X7_isWellWith_b50 Q K13 (x1) (x2) (x3) ((-1)) (σ.1 81 x3.toNatClampNeg) (σ.1 80 x3.toNatClampNeg) (σ)) ∧ (¬ ((x1 >>> (x3 &&& 31)) &&& 1) = (1 : Int32) → wp_X7_isWellWith_b50 Q K13 (x1) (x2) (x3) (x3) (σ.1 81 x3.toNatClampNeg) (σ.1 80 x3.toNatClampNeg) (σ))))))))
def wp_X7_isWellWith_l13 (Q : Int32 → St → Prop) : Nat → Int32 → Int32 → Int32 → St → Prop
  | 0, _, _, _, _ => False
  | n + 1, x1, x2, x3, σ => wp_X7_isWellWith_b13 Q (wp_X7_isWellWith_l13 Q  n) x1 x2 x3 σ
def wp_X7_isWellWith (x1 : Int32) (x2 : Int32) (Q : Int32 → St → Prop) (σ : St) : Prop :=
  (∃ n : Nat, wp_X7_isWellWith_l13 Q n (x1) (x2) (0) (sI (sI σ 75 21 (0 : Int32)) 75 26 (16 : Int32)))
def wp_X7_moved_b50 (Q : Int32 → St → Prop) (K37 : Int32 → Int32 → Int32 → St → Prop) (K50 : Int32 → Int32 → Int32 → Int32 → St → Prop) (x1 : Int32) (x2 : Int32) (x3 : Int32) (x4 : Int32) (σ : St) : Prop :=
  (vp_in (0 : Int32) 2 ∧ 
    ((((1 : Int32) <<< ((σ.1 79 (0 : Int32).toNatClampNeg) &&& 31)) ≤ x4 → K37 (x1) (x2) (x3 + 1) (σ)) ∧ (¬ ((1 : Int32) <<< ((σ.1 79 (0 : Int32).toNatClampNeg) &&& 31)) ≤ x4 → (wp_X7_bitsIn x4 (fun r65 σ65 =>
    
    ((r65 = x3 → (wp_X7_isWellWith x4 x1 (fun r76 σ76 =>
    
    ((r76 = 0 → K50 (x1) (x2) (x3) (x4 + 1) (σ76)) ∧ (¬ r76 = 0 → 
    ((x2 = 0 → Q x3 σ76) ∧ (¬ x2 = 0 → Q x4 σ76))))) σ65)) ∧ (¬ r65 = x3 → K50 (x1) (x2) (x3) (x4 + 1) (σ65)))) σ))))
def wp_X7_moved_l50 (Q : Int32 → St → Prop) (K37 : Int32 → Int32 → Int32 → St → Prop) : Nat → Int32 → Int32 → Int32 → Int32 → St → Prop
  | 0, _, _, _, _, _ => False
  | n + 1, x1, x2, x3, x4, σ => wp_X7_moved_b50 Q K37 (wp_X7_moved_l50 Q K37 n) x1 x2 x3 x4 σ
def wp_X7_moved_b37 (Q : Int32 → St → Prop) (K37 : Int32 → Int32 → Int32 → St → Prop) (x1 : Int32) (x2 : Int32) (x3 : Int32) (σ : St) : Prop :=
  (vp_in (0 : Int32) 2 ∧ 
    (((σ.1 79 (0 : Int32).toNatClampNeg) < x3 → Q (-9) σ) ∧ (¬ (σ.1 79 (0 : Int32).toNatClampNeg) < x3 → (∃ n : Nat, wp_X7_moved_l50 Q K37 n (x1) (x2) (x3) (0) (σ)))))
def wp_X7_moved_l37 (Q : Int32 → St → Prop) : Nat → Int32 → Int32 → Int32 → St → Prop
  | 0, _, _, _, _ => False
  | n + 1, x1, x2, x3, σ => wp_X7_moved_b37 Q (wp_X7_moved_l37 Q  n) x1 x2 x3 σ
def wp_X7_moved (x1 : Int32) (x2 : Int32) (Q : Int32 → St → Prop) (σ : St) : Prop :=
  (wp_X7_in x1 (0 : Int32) (1023 : Int32) (fun r5 σ5 =>
    
    ((r5 = 0 → Q (-1) σ5) ∧ (¬ r5 = 0 → (wp_X7_in x2 (0 : Int32) (1 : Int32) (fun r14 σ14 =>
    
    ((r14 = 0 → Q (-1) σ14) ∧ (¬ r14 = 0 → (wp_X7_judge (0 : Int32) (fun r24 σ24 =>
    
    ((r24 = ((-9) : Int32) → (∃ n : Nat, wp_X7_moved_l37 Q n (x1) (x2) (0) (σ24))) ∧ (¬ r24 = ((-9) : Int32) → Q (-2) σ24))) σ14)))) σ5)))) σ)
def wp_X7_mark (x1 : Int32) (x2 : Int32) (Q : Int32 → St → Prop) (σ : St) : Prop :=
  (wp_X7_isCourse x1 (fun r2 σ2 =>
    
    ((r2 = 0 → Q (-1) σ2) ∧ (¬ r2 = 0 → (wp_X7_isIn x2 (fun r10 σ10 =>
    
    ((r10 = 0 → Q (-1) σ10) ∧ (¬ r10 = 0 → (vp_in (0 : Int32) 3 ∧ 
    (((σ10.1 96 (0 : Int32).toNatClampNeg) = (6 : Int32) → Q (-3) σ10) ∧ (¬ (σ10.1 96 (0 : Int32).toNatClampNeg) = (6 : Int32) → (vp_in (0 : Int32) 3 ∧ (vp_in (σ10.1 96 (0 : Int32).toNatClampNeg) 18 ∧ (vp_in (0 : Int32) 3 ∧ (vp_in ((sI σ10 97 (σ10.1 96 (0 : Int32).toNatClampNeg).toNatClampNeg x1).1 96 (0 : Int32).toNatClampNeg) 18 ∧ (vp_in (0 : Int32) 3 ∧ (vp_in (0 : Int32) 3 ∧ (vp_in (0 : Int32) 3 ∧ Q ((sI (sI (sI σ10 97 (σ10.1 96 (0 : Int32).toNatClampNeg).toNatClampNeg x1) 98 ((sI σ10 97 (σ10.1 96 (0 : Int32).toNatClampNeg).toNatClampNeg x1).1 96 (0 : Int32).toNatClampNeg).toNatClampNeg x2) 96 (0 : Int32).toNatClampNeg (((sI (sI σ10 97 (σ10.1 96 (0 : Int32).toNatClampNeg).toNatClampNeg x1) 98 ((sI σ10 97 (σ10.1 96 (0 : Int32).toNatClampNeg).toNatClampNeg x1).1 96 (0 : Int32).toNatClampNeg).toNatClampNeg x2).1 96 (0 : Int32).toNatClampNeg) + 1)).1 96 (0 : Int32).toNatClampNeg) (sI (sI (sI σ10 97 (σ10.1 96 (0 : Int32).toNatClampNeg).toNatClampNeg x1) 98 ((sI σ10 97 (σ10.1 96 (0 : Int32).toNatClampNeg).toNatClampNeg x1).1 96 (0 : Int32).toNatClampNeg).toNatClampNeg x2) 96 (0 : Int32).toNatClampNeg (((sI (sI σ10 97 (σ10.1 96 (0 : Int32).toNatClampNeg).toNatClampNeg x1) 98 ((sI σ10 97 (σ10.1 96 (0 : Int32).toNatClampNeg).toNatClampNeg x1).1 96 (0 : Int32).toNatClampNeg).toNatClampNeg x2).1 96 (0 : Int32).toNatClampNeg) + 1))))))))))))))) σ2)))) σ)
def wp_X7_rate (x1 : Int32) (x2 : Int32) (Q : Int32 → St → Prop) (σ : St) : Prop :=
  (wp_X7_in x1 (0 : Int32) (5 : Int32) (fun r3 σ3 =>
    
    ((r3 = 0 → Q (-1000000) σ3) ∧ (¬ r3 = 0 → (wp_X7_isHearth x2 (fun r11 σ11 =>
    
    ((r11 = 0 → Q (-1000000) σ11) ∧ (¬ r11 = 0 → (vp_in (0 : Int32) 2 ∧ (vp_in x2 6 ∧ (∀ v35 : Int32, v35 = ((σ11.1 78 (0 : Int32).toNatClampNeg) - 1) - (σ11.1 80 x2.toNatClampNeg) → 
    ((x1 = 0 → Q v35 (sJ σ11 75 0 ((σ11.2 75 0) + 1))) ∧ (¬ x1 = 0 → ((x1 = 1 → (wp_X7_leansOf x2 (fun r99 σ99 =>
    Q (v35 - r99) σ99) (sJ σ11 75 0 ((σ11.2 75 0) + 11)))) ∧ (¬ x1 = 1 → ((x1 = 2 → (wp_X7_bendsOf x2 (fun r119 σ119 =>
    Q (v35 + r119) σ119) (sJ σ11 75 0 ((σ11.2 75 0) + 101)))) ∧ (¬ x1 = 2 → ((x1 = 3 → (wp_X7_bendsOf x2 (fun r140 σ140 =>
    Q (2 * (v35 + r140)) σ140) (sJ σ11 75 0 ((σ11.2 75 0) + 1101)))) ∧ (¬ x1 = 3 → ((x1 = 4 → (wp_X7_leansOf x2 (fun r161 σ161 =>
    (vp_in (0 : Int32) 2 ∧ Q ((v35 - r161) + (σ161.1 79 (0 : Int32).toNatClampNeg)) σ161)) (sJ σ11 75 0 ((σ11.2 75 0) + 10011)))) ∧ (¬ x1 = 4 → (vp_in x2 6 ∧ Q (v35 - ((sJ σ11 75 0 ((σ11.2 75 0) + 100001)).1 82 x2.toNatClampNeg)) (sJ σ11 75 0 ((σ11.2 75 0) + 100001))))))))))))))))))) σ3)))) σ)
def wp_X7_copy_b50 (Q : St → Prop) (K50 : Int32 → Int32 → Int32 → St → Prop) (x1 : Int32) (x2 : Int32) (x3 : Int32) (σ : St) : Prop :=
  
    (((6 : Int32) ≤ x3 → Q σ) ∧ (¬ (6 : Int32) ≤ x3 → (vp_in ((6 * x1) + x3) 18 ∧ (vp_in ((6 * x2) + x3) 18 ∧ (vp_in ((6 * x1) + x3) 18 ∧ (vp_in ((6 * x2) + x3) 18 ∧ K50 (x1) (x2) (x3 + 1) (sI (sI σ 97 ((6 * x2) + x3).toNatClampNeg (σ.1 97 ((6 * x1) + x3).toNatClampNeg)) 98 ((6 * x2) + x3).toNatClampNeg ((sI σ 97 ((6 * x2) + x3).toNatClampNeg (σ.1 97 ((6 * x1) + x3).toNatClampNeg)).1 98 ((6 * x1) + x3).toNatClampNeg))))))))
def wp_X7_copy_l50 (Q : St → Prop) : Nat → Int32 → Int32 → Int32 → St → Prop
  | 0, _, _, _, _ => False
  | n + 1, x1, x2, x3, σ => wp_X7_copy_b50 Q (wp_X7_copy_l50 Q  n) x1 x2 x3 σ
def wp_X7_copy_b2 (Q : St → Prop) (K2 : Int32 → Int32 → Int32 → St → Prop) (x1 : Int32) (x2 : Int32) (x3 : Int32) (σ : St) : Prop :=
  
    (((48 : Int32) ≤ x3 → (vp_in x1 3 ∧ (vp_in x2 3 ∧ (∃ n : Nat, wp_X7_copy_l50 Q n (x1) (x2) (0) (sI σ 96 x2.toNatClampNeg (σ.1 96 x1.toNatClampNeg)))))) ∧ (¬ (48 : Int32) ≤ x3 → (vp_in ((48 * x1) + x3) 144 ∧ (vp_in ((48 * x2) + x3) 144 ∧ K2 (x1) (x2) (x3 + 1) (sI σ 95 ((48 * x2) + x3).toNatClampNeg (σ.1 95 ((48 * x1) + x3).toNatClampNeg))))))
def wp_X7_copy_l2 (Q : St → Prop) : Nat → Int32 → Int32 → Int32 → St → Prop
  | 0, _, _, _, _ => False
  | n + 1, x1, x2, x3, σ => wp_X7_copy_b2 Q (wp_X7_copy_l2 Q  n) x1 x2 x3 σ
def wp_X7_copy (x1 : Int32) (x2 : Int32) (Q : St → Prop) (σ : St) : Prop :=
  (∃ n : Nat, wp_X7_copy_l2 Q n (x1) (x2) (0) (σ))
def wp_X7_keep (x1 : Int32) (Q : Int32 → St → Prop) (σ : St) : Prop :=
  (wp_X7_in x1 (0 : Int32) (1 : Int32) (fun r3 σ3 =>
    
    ((r3 = 0 → Q (-1) σ3) ∧ (¬ r3 = 0 → (wp_X7_copy (0 : Int32) (1 + x1) (fun σ16 => (vp_in x1 2 ∧ (vp_in (0 : Int32) 3 ∧ Q ((sI σ16 99 x1.toNatClampNeg (vp_nar .boolean (1 : Int32))).1 96 (0 : Int32).toNatClampNeg) (sI σ16 99 x1.toNatClampNeg (vp_nar .boolean (1 : Int32)))))) σ3)))) σ)
def wp_X7_back (x1 : Int32) (Q : Int32 → St → Prop) (σ : St) : Prop :=
  (wp_X7_in x1 (0 : Int32) (1 : Int32) (fun r3 σ3 =>
    
    ((r3 = 0 → Q (-1) σ3) ∧ (¬ r3 = 0 → (vp_in x1 2 ∧ 
    (((σ3.1 99 x1.toNatClampNeg) = 0 → Q (-2) σ3) ∧ (¬ (σ3.1 99 x1.toNatClampNeg) = 0 → (wp_X7_copy (1 + x1) (0 : Int32) (fun σ28 => (vp_in (0 : Int32) 3 ∧ Q (σ28.1 96 (0 : Int32).toNatClampNeg) σ28)) σ3))))))) σ)
def wp_X7_count_b17 (Q : Int32 → St → Prop) (K4 : Int32 → Int32 → Int32 → St → Prop) (K17 : Int32 → Int32 → Int32 → Int32 → St → Prop) (x1 : Int32) (x2 : Int32) (x3 : Int32) (x4 : Int32) (σ : St) : Prop :=
  (vp_in (0 : Int32) 2 ∧ 
    (((σ.1 77 (0 : Int32).toNatClampNeg) ≤ x4 → K4 (x1) (x2) (x3 + 1) (σ)) ∧ (¬ (σ.1 77 (0 : Int32).toNatClampNeg) ≤ x4 → (wp_X7_isBarred x3 x4 (fun r33 σ33 =>
    
    ((r33 = 0 → K17 (x1) (x2 + 0) (x3) (x4 + 1) (σ33)) ∧ (¬ r33 = 0 → K17 (x1) (x2 + 1) (x3) (x4 + 1) (σ33)))) σ))))
def wp_X7_count_l17 (Q : Int32 → St → Prop) (K4 : Int32 → Int32 → Int32 → St → Prop) : Nat → Int32 → Int32 → Int32 → Int32 → St → Prop
  | 0, _, _, _, _, _ => False
  | n + 1, x1, x2, x3, x4, σ => wp_X7_count_b17 Q K4 (wp_X7_count_l17 Q K4 n) x1 x2 x3 x4 σ
def wp_X7_count_b4 (Q : Int32 → St → Prop) (K4 : Int32 → Int32 → Int32 → St → Prop) (x1 : Int32) (x2 : Int32) (x3 : Int32) (σ : St) : Prop :=
  (vp_in (0 : Int32) 2 ∧ 
    (((σ.1 78 (0 : Int32).toNatClampNeg) ≤ x3 → 
    ((x1 = 0 → (vp_in (0 : Int32) 2 ∧ Q (σ.1 77 (0 : Int32).toNatClampNeg) σ)) ∧ (¬ x1 = 0 → ((x1 = 1 → (vp_in (0 : Int32) 2 ∧ Q (σ.1 78 (0 : Int32).toNatClampNeg) σ)) ∧ (¬ x1 = 1 → ((x1 = 2 → (vp_in (0 : Int32) 2 ∧ Q (σ.1 79 (0 : Int32).toNatClampNeg) σ)) ∧ (¬ x1 = 2 → ((x1 = 3 → (vp_in (0 : Int32) 3 ∧ Q (σ.1 96 (0 : Int32).toNatClampNeg) σ)) ∧ (¬ x1 = 3 → ((x1 = 4 → Q (σ.1 75 2) σ) ∧ (¬ x1 = 4 → ((x1 = 5 → Q x2 σ) ∧ (¬ x1 = 5 → Q (-1) σ))))))))))))) ∧ (¬ (σ.1 78 (0 : Int32).toNatClampNeg) ≤ x3 → (∃ n : Nat, wp_X7_count_l17 Q K4 n (x1) (x2) (x3) (0) (σ)))))
def wp_X7_count_l4 (Q : Int32 → St → Prop) : Nat → Int32 → Int32 → Int32 → St → Prop
  | 0, _, _, _, _ => False
  | n + 1, x1, x2, x3, σ => wp_X7_count_b4 Q (wp_X7_count_l4 Q  n) x1 x2 x3 σ
def wp_X7_count (x1 : Int32) (Q : Int32 → St → Prop) (σ : St) : Prop :=
  (∃ n : Nat, wp_X7_count_l4 Q n (x1) (0) (0) (σ))
def wp_X7_trace (Q : Int64 → St → Prop) (σ : St) : Prop :=
  Q (σ.2 75 0) σ
def wp_L_law_b18 (L : Nat) (xs : Nat → Int32) (Q : Int32 → St → Prop) (K18 : Int32 → St → Prop) (x3 : Int32) (σ : St) : Prop :=
  
    ((((nI L) - 4) < x3 → Q (1 : Int32) σ) ∧ (¬ ((nI L) - 4) < x3 → (vp_in x3 L ∧ 
    ((((xs x3.toNatClampNeg) &&& 31) = 0 → (vp_in (x3 + 1) L ∧ (vp_in (x3 + 2) L ∧ (vp_in (x3 + 3) L ∧ (wp_X6_type ((((xs (x3 + 1).toNatClampNeg).toInt64) <<< ((32 : Int32).toInt64 &&& 63)) ||| (((xs (x3 + 2).toNatClampNeg).toInt64) &&& 4294967295)) (xs (x3 + 3).toNatClampNeg) (fun r186 σ186 =>
    (vp_in (x3 + 1) L ∧ (vp_in (x3 + 2) L ∧ (vp_in (x3 + 3) L ∧ (wp_X7_type ((((xs (x3 + 1).toNatClampNeg).toInt64) <<< ((32 : Int32).toInt64 &&& 63)) ||| (((xs (x3 + 2).toNatClampNeg).toInt64) &&& 4294967295)) (xs (x3 + 3).toNatClampNeg) (fun r215 σ215 =>
    
    ((r186 = r215 → K18 (x3 + 4) (σ215)) ∧ (¬ r186 = r215 → Q (0 : Int32) σ215))) σ186))))) σ))))) ∧ (¬ ((xs x3.toNatClampNeg) &&& 31) = 0 → ((((xs x3.toNatClampNeg) &&& 31) = 1 → (wp_X6_clear  (fun r224 σ224 =>
    (wp_X7_clear  (fun r228 σ228 =>
    
    ((r224 = r228 → K18 (x3 + 4) (σ228)) ∧ (¬ r224 = r228 → Q (0 : Int32) σ228))) σ224)) σ)) ∧ (¬ ((xs x3.toNatClampNeg) &&& 31) = 1 → ((((xs x3.toNatClampNeg) &&& 31) = 2 → (wp_X6_wall  (fun r237 σ237 =>
    (wp_X7_wall  (fun r241 σ241 =>
    
    ((r237 = r241 → K18 (x3 + 4) (σ241)) ∧ (¬ r237 = r241 → Q (0 : Int32) σ241))) σ237)) σ)) ∧ (¬ ((xs x3.toNatClampNeg) &&& 31) = 2 → ((((xs x3.toNatClampNeg) &&& 31) = 3 → (vp_in (x3 + 1) L ∧ (vp_in (x3 + 2) L ∧ (wp_X6_brick (xs (x3 + 1).toNatClampNeg) (xs (x3 + 2).toNatClampNeg) (fun r260 σ260 =>
    (vp_in (x3 + 1) L ∧ (vp_in (x3 + 2) L ∧ (wp_X7_brick (xs (x3 + 1).toNatClampNeg) (xs (x3 + 2).toNatClampNeg) (fun r274 σ274 =>
    
    ((r260 = r274 → K18 (x3 + 4) (σ274)) ∧ (¬ r260 = r274 → Q (0 : Int32) σ274))) σ260)))) σ)))) ∧ (¬ ((xs x3.toNatClampNeg) &&& 31) = 3 → ((((xs x3.toNatClampNeg) &&& 31) = 4 → (vp_in (x3 + 1) L ∧ (vp_in (x3 + 2) L ∧ (wp_X6_hearth (xs (x3 + 1).toNatClampNeg) (xs (x3 + 2).toNatClampNeg) (fun r293 σ293 =>
    (vp_in (x3 + 1) L ∧ (vp_in (x3 + 2) L ∧ (wp_X7_hearth (xs (x3 + 1).toNatClampNeg) (xs (x3 + 2).toNatClampNeg) (fun r307 σ307 =>
    
    ((r293 = r307 → K18 (x3 + 4) (σ307)) ∧ (¬ r293 = r307 → Q (0 : Int32) σ307))) σ293)))) σ)))) ∧ (¬ ((xs x3.toNatClampNeg) &&& 31) = 4 → ((((xs x3.toNatClampNeg) &&& 31) = 5 → (vp_in (x3 + 1) L ∧ (vp_in (x3 + 2) L ∧ (wp_X6_tune (xs (x3 + 1).toNatClampNeg) (xs (x3 + 2).toNatClampNeg) (fun r326 σ326 =>
    (vp_in (x3 + 1) L ∧ (vp_in (x3 + 2) L ∧ (wp_X7_tune (xs (x3 + 1).toNatClampNeg) (xs (x3 + 2).toNatClampNeg) (fun r340 σ340 =>
    
    ((r326 = r340 → K18 (x3 + 4) (σ340)) ∧ (¬ r326 = r340 → Q (0 : Int32) σ340))) σ326)))) σ)))) ∧ (¬ ((xs x3.toNatClampNeg) &&& 31) = 5 → ((((xs x3.toNatClampNeg) &&& 31) = 6 → (vp_in (x3 + 1) L ∧ (vp_in (x3 + 2) L ∧ (vp_in (x3 + 3) L ∧ (wp_X6_wind (xs (x3 + 1).toNatClampNeg) (xs (x3 + 2).toNatClampNeg) (xs (x3 + 3).toNatClampNeg) (fun r364 σ364 =>
    (vp_in (x3 + 1) L ∧ (vp_in (x3 + 2) L ∧ (vp_in (x3 + 3) L ∧ (wp_X7_wind (xs (x3 + 1).toNatClampNeg) (xs (x3 + 2).toNatClampNeg) (xs (x3 + 3).toNatClampNeg) (fun r383 σ383 =>
    
    ((r364 = r383 → K18 (x3 + 4) (σ383)) ∧ (¬ r364 = r383 → Q (0 : Int32) σ383))) σ364))))) σ))))) ∧ (¬ ((xs x3.toNatClampNeg) &&& 31) = 6 → ((((xs x3.toNatClampNeg) &&& 31) = 7 → (vp_in (x3 + 1) L ∧ (wp_X6_many (xs (x3 + 1).toNatClampNeg) (fun r397 σ397 =>
    (vp_in (x3 + 1) L ∧ (wp_X7_many (xs (x3 + 1).toNatClampNeg) (fun r406 σ406 =>
    
    (((lg_cmp r397 r406) = 0 → K18 (x3 + 4) (σ406)) ∧ (¬ (lg_cmp r397 r406) = 0 → Q (0 : Int32) σ406))) σ397))) σ))) ∧ (¬ ((xs x3.toNatClampNeg) &&& 31) = 7 → ((((xs x3.toNatClampNeg) &&& 31) = 8 → (vp_in (x3 + 1) L ∧ (vp_in (x3 + 2) L ∧ (wp_X6_one (xs (x3 + 1).toNatClampNeg) (xs (x3 + 2).toNatClampNeg) (fun r426 σ426 =>
    (vp_in (x3 + 1) L ∧ (vp_in (x3 + 2) L ∧ (wp_X7_one (xs (x3 + 1).toNatClampNeg) (xs (x3 + 2).toNatClampNeg) (fun r440 σ440 =>
    
    ((r426 = r440 → K18 (x3 + 4) (σ440)) ∧ (¬ r426 = r440 → Q (0 : Int32) σ440))) σ426)))) σ)))) ∧ (¬ ((xs x3.toNatClampNeg) &&& 31) = 8 → ((((xs x3.toNatClampNeg) &&& 31) = 9 → (vp_in (x3 + 1) L ∧ (vp_in (x3 + 2) L ∧ (wp_X6_together (xs (x3 + 1).toNatClampNeg) (xs (x3 + 2).toNatClampNeg) (fun r459 σ459 =>
    (vp_in (x3 + 1) L ∧ (vp_in (x3 + 2) L ∧ (wp_X7_together (xs (x3 + 1).toNatClampNeg) (xs (x3 + 2).toNatClampNeg) (fun r473 σ473 =>
    
    ((r459 = r473 → K18 (x3 + 4) (σ473)) ∧ (¬ r459 = r473 → Q (0 : Int32) σ473))) σ459)))) σ)))) ∧ (¬ ((xs x3.toNatClampNeg) &&& 31) = 9 → ((((xs x3.toNatClampNeg) &&& 31) = 10 → (vp_in (x3 + 1) L ∧ (wp_X6_share (xs (x3 + 1).toNatClampNeg) (fun r487 σ487 =>
    (vp_in (x3 + 1) L ∧ (wp_X7_share (xs (x3 + 1).toNatClampNeg) (fun r496 σ496 =>
    
    ((r487 = r496 → K18 (x3 + 4) (σ496)) ∧ (¬ r487 = r496 → Q (0 : Int32) σ496))) σ487))) σ))) ∧ (¬ ((xs x3.toNatClampNeg) &&& 31) = 10 → ((((xs x3.toNatClampNeg) &&& 31) = 11 → (vp_in (x3 + 1) L ∧ (vp_in (x3 + 2) L ∧ (vp_in (x3 + 3) L ∧ (wp_X6_more (xs (x3 + 1).toNatClampNeg) (xs (x3 + 2).toNatClampNeg) (xs (x3 + 3).toNatClampNeg) (fun r520 σ520 =>
    (vp_in (x3 + 1) L ∧ (vp_in (x3 + 2) L ∧ (vp_in (x3 + 3) L ∧ (wp_X7_more (xs (x3 + 1).toNatClampNeg) (xs (x3 + 2).toNatClampNeg) (xs (x3 + 3).toNatClampNeg) (fun r539 σ539 =>
    
    ((r520 = r539 → K18 (x3 + 4) (σ539)) ∧ (¬ r520 = r539 → Q (0 : Int32) σ539))) σ520))))) σ))))) ∧ (¬ ((xs x3.toNatClampNeg) &&& 31) = 11 → ((((xs x3.toNatClampNeg) &&& 31) = 12 → (vp_in (x3 + 1) L ∧ (wp_X6_take (xs (x3 + 1).toNatClampNeg) (fun r553 σ553 =>
    (vp_in (x3 + 1) L ∧ (wp_X7_take (xs (x3 + 1).toNatClampNeg) (fun r562 σ562 =>
    
    ((r553 = r562 → K18 (x3 + 4) (σ562)) ∧ (¬ r553 = r562 → Q (0 : Int32) σ562))) σ553))) σ))) ∧ (¬ ((xs x3.toNatClampNeg) &&& 31) = 12 → ((((xs x3.toNatClampNeg) &&& 31) = 13 → (vp_in (x3 + 1) L ∧ (vp_in (x3 + 2) L ∧ (wp_X6_way (xs (x3 + 1).toNatClampNeg) (xs (x3 + 2).toNatClampNeg) (fun r581 σ581 =>
    (vp_in (x3 + 1) L ∧ (vp_in (x3 + 2) L ∧ (wp_X7_way (xs (x3 + 1).toNatClampNeg) (xs (x3 + 2).toNatClampNeg) (fun r595 σ595 =>
    
    ((r581 = r595 → K18 (x3 + 4) (σ595)) ∧ (¬ r581 = r595 → Q (0 : Int32) σ595))) σ581)))) σ)))) ∧ (¬ ((xs x3.toNatClampNeg) &&& 31) = 13 → ((((xs x3.toNatClampNeg) &&& 31) = 14 → (vp_in (x3 + 1) L ∧ (vp_in (x3 + 2) L ∧ (vp_in (x3 + 3) L ∧ (wp_X6_turn (xs (x3 + 1).toNatClampNeg) (xs (x3 + 2).toNatClampNeg) (xs (x3 + 3).toNatClampNeg) (fun r619 σ619 =>
    (vp_in (x3 + 1) L ∧ (vp_in (x3 + 2) L ∧ (vp_in (x3 + 3) L ∧ (wp_X7_turn (xs (x3 + 1).toNatClampNeg) (xs (x3 + 2).toNatClampNeg) (xs (x3 + 3).toNatClampNeg) (fun r638 σ638 =>
    
    ((r619 = r638 → K18 (x3 + 4) (σ638)) ∧ (¬ r619 = r638 → Q (0 : Int32) σ638))) σ619))))) σ))))) ∧ (¬ ((xs x3.toNatClampNeg) &&& 31) = 14 → ((((xs x3.toNatClampNeg) &&& 31) = 15 → (vp_in (x3 + 1) L ∧ (wp_X6_judge (xs (x3 + 1).toNatClampNeg) (fun r652 σ652 =>
    (vp_in (x3 + 1) L ∧ (wp_X7_judge (xs (x3 + 1).toNatClampNeg) (fun r661 σ661 =>
    
    ((r652 = r661 → K18 (x3 + 4) (σ661)) ∧ (¬ r652 = r661 → Q (0 : Int32) σ661))) σ652))) σ))) ∧ (¬ ((xs x3.toNatClampNeg) &&& 31) = 15 → ((((xs x3.toNatClampNeg) &&& 31) = 16 → (vp_in (x3 + 1) L ∧ (vp_in (x3 + 2) L ∧ (wp_X6_plan (xs (x3 + 1).toNatClampNeg) (xs (x3 + 2).toNatClampNeg) (fun r680 σ680 =>
    (vp_in (x3 + 1) L ∧ (vp_in (x3 + 2) L ∧ (wp_X7_plan (xs (x3 + 1).toNatClampNeg) (xs (x3 + 2).toNatClampNeg) (fun r694 σ694 =>
    
    ((r680 = r694 → K18 (x3 + 4) (σ694)) ∧ (¬ r680 = r694 → Q (0 : Int32) σ694))) σ680)))) σ)))) ∧ (¬ ((xs x3.toNatClampNeg) &&& 31) = 16 → ((((xs x3.toNatClampNeg) &&& 31) = 17 → (vp_in (x3 + 1) L ∧ (vp_in (x3 + 2) L ∧ (wp_X6_draw (xs (x3 + 1).toNatClampNeg) (xs (x3 + 2).toNatClampNeg) (fun r713 σ713 =>
    (vp_in (x3 + 1) L ∧ (vp_in (x3 + 2) L ∧ (wp_X7_draw (xs (x3 + 1).toNatClampNeg) (xs (x3 + 2).toNatClampNeg) (fun r727 σ727 =>
    
    ((r713 = r727 → K18 (x3 + 4) (σ727)) ∧ (¬ r713 = r727 → Q (0 : Int32) σ727))) σ713)))) σ)))) ∧ (¬ ((xs x3.toNatClampNeg) &&& 31) = 17 → ((((xs x3.toNatClampNeg) &&& 31) = 18 → (vp_in (x3 + 1) L ∧ (vp_in (x3 + 2) L ∧ (vp_in (x3 + 3) L ∧ (wp_X6_smokes (xs (x3 + 1).toNatClampNeg) (xs (x3 + 2).toNatClampNeg) (xs (x3 + 3).toNatClampNeg) (fun r751 σ751 =>
    (vp_in (x3 + 1) L ∧ (vp_in (x3 + 2) L ∧ (vp_in (x3 + 3) L ∧ (wp_X7_smokes (xs (x3 + 1).toNatClampNeg) (xs (x3 + 2).toNatClampNeg) (xs (x3 + 3).toNatClampNeg) (fun r770 σ770 =>
    
    ((r751 = r770 → K18 (x3 + 4) (σ770)) ∧ (¬ r751 = r770 → Q (0 : Int32) σ770))) σ751))))) σ))))) ∧ (¬ ((xs x3.toNatClampNeg) &&& 31) = 18 → ((((xs x3.toNatClampNeg) &&& 31) = 19 → (vp_in (x3 + 1) L ∧ (wp_X6_mend (xs (x3 + 1).toNatClampNeg) (fun r784 σ784 =>
    (vp_in (x3 + 1) L ∧ (wp_X7_mend (xs (x3 + 1).toNatClampNeg) (fun r793 σ793 =>
    
    ((r784 = r793 → K18 (x3 + 4) (σ793)) ∧ (¬ r784 = r793 → Q (0 : Int32) σ793))) σ784))) σ))) ∧ (¬ ((xs x3.toNatClampNeg) &&& 31) = 19 → ((((xs x3.toNatClampNeg) &&& 31) = 20 → (vp_in (x3 + 1) L ∧ (vp_in (x3 + 2) L ∧ (wp_X6_moved (xs (x3 + 1).toNatClampNeg) (xs (x3 + 2).toNatClampNeg) (fun r812 σ812 =>
    (vp_in (x3 + 1) L ∧ (vp_in (x3 + 2) L ∧ (wp_X7_moved (xs (x3 + 1).toNatClampNeg) (xs (x3 + 2).toNatClampNeg) (fun r826 σ826 =>
    
    ((r812 = r826 → K18 (x3 + 4) (σ826)) ∧ (¬ r812 = r826 → Q (0 : Int32) σ826))) σ812)))) σ)))) ∧ (¬ ((xs x3.toNatClampNeg) &&& 31) = 20 → ((((xs x3.toNatClampNeg) &&& 31) = 21 → (vp_in (x3 + 1) L ∧ (vp_in (x3 + 2) L ∧ (wp_X6_mark (xs (x3 + 1).toNatClampNeg) (xs (x3 + 2).toNatClampNeg) (fun r845 σ845 =>
    (vp_in (x3 + 1) L ∧ (vp_in (x3 + 2) L ∧ (wp_X7_mark (xs (x3 + 1).toNatClampNeg) (xs (x3 + 2).toNatClampNeg) (fun r859 σ859 =>
    
    ((r845 = r859 → K18 (x3 + 4) (σ859)) ∧ (¬ r845 = r859 → Q (0 : Int32) σ859))) σ845)))) σ)))) ∧ (¬ ((xs x3.toNatClampNeg) &&& 31) = 21 → ((((xs x3.toNatClampNeg) &&& 31) = 22 → (vp_in (x3 + 1) L ∧ (wp_X6_guess (xs (x3 + 1).toNatClampNeg) (fun r873 σ873 =>
    (vp_in (x3 + 1) L ∧ (wp_X7_guess (xs (x3 + 1).toNatClampNeg) (fun r882 σ882 =>
    
    (((lg_cmp r873 r882) = 0 → K18 (x3 + 4) (σ882)) ∧ (¬ (lg_cmp r873 r882) = 0 → Q (0 : Int32) σ882))) σ873))) σ))) ∧ (¬ ((xs x3.toNatClampNeg) &&& 31) = 22 → ((((xs x3.toNatClampNeg) &&& 31) = 23 → (vp_in (x3 + 1) L ∧ (vp_in (x3 + 2) L ∧ (wp_X6_rate (xs (x3 + 1).toNatClampNeg) (xs (x3 + 2).toNatClampNeg) (fun r902 σ902 =>
    (vp_in (x3 + 1) L ∧ (vp_in (x3 + 2) L ∧ (wp_X7_rate (xs (x3 + 1).toNatClampNeg) (xs (x3 + 2).toNatClampNeg) (fun r916 σ916 =>
    
    ((r902 = r916 → K18 (x3 + 4) (σ916)) ∧ (¬ r902 = r916 → Q (0 : Int32) σ916))) σ902)))) σ)))) ∧ (¬ ((xs x3.toNatClampNeg) &&& 31) = 23 → ((((xs x3.toNatClampNeg) &&& 31) = 24 → (vp_in (x3 + 1) L ∧ (wp_X6_keep (xs (x3 + 1).toNatClampNeg) (fun r930 σ930 =>
    (vp_in (x3 + 1) L ∧ (wp_X7_keep (xs (x3 + 1).toNatClampNeg) (fun r939 σ939 =>
    
    ((r930 = r939 → K18 (x3 + 4) (σ939)) ∧ (¬ r930 = r939 → Q (0 : Int32) σ939))) σ930))) σ))) ∧ (¬ ((xs x3.toNatClampNeg) &&& 31) = 24 → ((((xs x3.toNatClampNeg) &&& 31) = 25 → (vp_in (x3 + 1) L ∧ (wp_X6_back (xs (x3 + 1).toNatClampNeg) (fun r953 σ953 =>
    (vp_in (x3 + 1) L ∧ (wp_X7_back (xs (x3 + 1).toNatClampNeg) (fun r962 σ962 =>
    
    ((r953 = r962 → K18 (x3 + 4) (σ962)) ∧ (¬ r953 = r962 → Q (0 : Int32) σ962))) σ953))) σ))) ∧ (¬ ((xs x3.toNatClampNeg) &&& 31) = 25 → ((((xs x3.toNatClampNeg) &&& 31) = 26 → (vp_in (x3 + 1) L ∧ (wp_X6_count (xs (x3 + 1).toNatClampNeg) (fun r976 σ976 =>
    (vp_in (x3 + 1) L ∧ (wp_X7_count (xs (x3 + 1).toNatClampNeg) (fun r985 σ985 =>
    
    ((r976 = r985 → K18 (x3 + 4) (σ985)) ∧ (¬ r976 = r985 → Q (0 : Int32) σ985))) σ976))) σ))) ∧ (¬ ((xs x3.toNatClampNeg) &&& 31) = 26 → ((((xs x3.toNatClampNeg) &&& 31) = 27 → (wp_X6_trace  (fun r994 σ994 =>
    (wp_X7_trace  (fun r998 σ998 =>
    
    (((lg_cmp r994 r998) = 0 → K18 (x3 + 4) (σ998)) ∧ (¬ (lg_cmp r994 r998) = 0 → Q (0 : Int32) σ998))) σ994)) σ)) ∧ (¬ ((xs x3.toNatClampNeg) &&& 31) = 27 → K18 (x3 + 4) (σ))))))))))))))))))))))))))))))))))))))))))))))))))))))))))))
def wp_L_law_l18 (L : Nat) (xs : Nat → Int32) (Q : Int32 → St → Prop) : Nat → Int32 → St → Prop
  | 0, _, _ => False
  | n + 1, x3, σ => wp_L_law_b18 L xs Q (wp_L_law_l18 L xs Q  n) x3 σ
