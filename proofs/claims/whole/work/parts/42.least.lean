def tri (a b c : Nat) : Nat → Nat := fun h => if h = 0 then a else if h = 1 then b else c
theorem tri_0 {a b c : Nat} : tri a b c 0 = a := rfl
theorem tri_1 {a b c : Nat} : tri a b c 1 = b := rfl
theorem tri_2 {a b c : Nat} : tri a b c 2 = c := rfl
theorem eq_tri {t : Nat → Nat} {a b c : Nat} (h0 : t 0 = a) (h1 : t 1 = b) (h2 : t 2 = c) : Eq3 (tri a b c) t := by
  intro h hh
  have : h = 0 ∨ h = 1 ∨ h = 2 := by omega
  rcases this with rfl | rfl | rfl
  · exact h0.symm
  · exact h1.symm
  · exact h2.symm
theorem two_e {p : Prm} {r i j : Nat} {s t t' : Nat → Nat} (e : t i = t' i) (e2 : t j = t' j) (H : twoOK p r i j s t) : twoOK p r i j s t' := by
  unfold twoOK at H ⊢
  rw [← e, ← e2]
  exact H
def P1 (e0 e1 : Nat) (t : Nat → Nat) : Prop := t 0 + 1 < e0 ∨ (t 0 + 1 = e0 ∧ t 1 + 1 < e1)
def P2 (e0 e1 e2 : Nat) (t : Nat → Nat) : Prop := t 0 + 1 < e0 ∨ (t 0 + 1 = e0 ∧ (t 1 + 1 < e1 ∨ (t 1 + 1 = e1 ∧ t 2 + 1 < e2)))
abbrev RwT : Type := Int32 → Int32 → (Int32 → St → Prop) → St → Prop
def RwOK (p : Prm) (k : Nat) (Rw : RwT) : Prop := ∀ (t : Nat → Nat) (Q : Int32 → St → Prop) (τ : St), (∀ h, h < 3 → t h < 10) → SP p τ → Tab p τ → (∀ w υ, XV p k t w → Fr τ υ → Tab p υ → Q (nI w) υ) → Rw (nI (p.la + 1 - k)) (nI (cod3 t)) Q τ
section LR
variable {p : Prm} {τ υ : St} {Q : Int32 → St → Prop} {k r : Nat} {s : Nat → Nat} {Rw : RwT}
theorem st_1 {h e : Nat} {a : Nat} (hl : loE p r h a ≤ e) (he : r < p.fs h ∨ (1 ≤ e ∧ e - 1 < 10 ∧ bitP (p.op r) (e - 1))) : 1 ≤ e ∧ standP p r h (e - 1) := by
  rcases he with z | ⟨z1, z2, z3⟩
  · unfold loE at hl
    rw [if_pos (Or.inr (by omega))] at hl
    exact ⟨by omega, Or.inl z⟩
  · exact ⟨z1, Or.inr ⟨z2, z3⟩⟩
theorem E_b {h : Nat} (hP : SP p τ) (hh : h < 3) (hr : r ≤ p.la) (hs : s h < 10) : hiE p r h (s h) ≤ 11 ∧ loE p r h (s h) ≤ hiE p r h (s h) := by
  have := onlyC_lt hP hh hr
  unfold hiE loE
  split <;> omega
theorem apart_I {i j a b x y : Nat} {A B X Y : Int32} (hA : A = nI a) (hB : B = nI b) (hX : X = nI x) (hY : Y = nI y) (hP : SP p τ) (hi : i < 3) (hj : j < 3) (hr : r ≤ p.la) (ha : a < 50) (hb : b < 50) (hx : x < 50) (hy : y < 50) (s t : Nat → Nat) (es : s i = a ∧ s j = b) (et : t i = x ∧ t j = y)
    (h1 : twoOK p r i j s t → Q 1 τ) (h0 : ¬ twoOK p r i j s t → Q 0 τ) : wp_X3_apart (nI i) (nI j) (nI r) (A - B) (X - Y) Q τ := by
  subst hA hB hX hY
  exact apart_ok hP hi hj hr ha hb hx hy s t es et h1 h0
theorem lean_I {h a x : Nat} {A X : Int32} (hA : A = nI a) (hX : X = nI x) (hP : SP p τ) (hh : h < 3) (hr : r ≤ p.la) (ha : a < 50) (hx : x < 50) (hq : Q (nI (if p.fs h < r ∧ x ≠ a then 1 else 0)) τ) : wp_X3_lean (nI h) (nI r) (X - A) Q τ := by
  subst hA hX
  exact lean_ok hP hh hr ha hx hq
theorem restBy_ok {t : Nat → Nat} {l : Nat} (hR : RwOK p k Rw) (hr : r = p.la - k) (hk : k ≤ p.la) (ht : ∀ h, h < 3 → t h < 10) (hP : SP p τ) (hT : Tab p τ) (hl : l ≤ 3)
    (hq : ∀ w υ, XV p k t w → Fr τ υ → Tab p υ → Q (nI (if w < FAR then (w / 1000 + l) * 1000 + cod3 t else FAR)) υ) : wp_X3_restBy Rw (nI r) (nI (cod3 t)) (nI l) Q τ := by
  unfold wp_X3_restBy
  rw [na1, show r + 1 = p.la + 1 - k by omega]
  refine hR t _ τ ht hP hT (fun w υ hw hf hT2 => ?_)
  have hb := XV_b (by have := hP.1; omega) ht hw
  have hq := hq w υ hw hf hT2
  have hc := code_lt ht
  have eF : (1000000000 : Int32) = nI FAR := rfl
  unfold FAR at hb hq
  rw [show (1000000000 : Int32) = nI 1000000000 from rfl, pn_lt (by omega) (by omega), show (1000 : Int32) = nI 1000 from rfl, pk_div (by omega) (by omega) (by omega), nI_add, pk_mul, nI_add]
  refine ⟨fun q => ⟨by decide, ?_⟩, fun q => ?_⟩
  · rw [if_pos q] at hq; exact hq
  · rw [if_neg q] at hq; exact hq
theorem l120_ok {K41 : Int32 → Int32 → Int32 → Int32 → Int32 → Int32 → Int32 → Int32 → Int32 → St → Prop} {K71 : Int32 → Int32 → Int32 → Int32 → Int32 → Int32 → Int32 → Int32 → Int32 → Int32 → St → Prop} {e0 e1 v : Nat} {X0 X1 H0 H1 : Int32} (hR : RwOK p k Rw) (hr : r = p.la - k) (hk : k ≤ p.la) (hs : ∀ h, h < 3 → s h < 10) (hX0 : X0 = nI (e0 - 1)) (hX1 : X1 = nI (e1 - 1))
    (c0 : 1 ≤ e0 ∧ loE p r 0 (s 0) ≤ e0 ∧ e0 ≤ hiE p r 0 (s 0) ∧ standP p r 0 (e0 - 1)) (c1 : 1 ≤ e1 ∧ loE p r 1 (s 1) ≤ e1 ∧ e1 ≤ hiE p r 1 (s 1) ∧ standP p r 1 (e1 - 1)) (c01 : twoOK p r 0 1 s (tri (e0 - 1) (e1 - 1) 0))
    (hP : SP p τ) (hf : Fr τ υ) (hT : Tab p υ) (hv : Lst p k r s (P1 e0 e1) v)
    (hk2 : ∀ v' υ', Fr τ υ' → Tab p υ' → Lst p k r s (P1 e0 (e1 + 1)) v' → K71 (nI r) (nI (s 0)) (nI (s 1)) (nI (s 2)) (nI v') H0 H1 (nI (hiE p r 2 (s 2)) - 1) X0 (X1 + 1) υ') :
    ∃ n, wp_X3_leastRest_l120 Rw Q K41 K71 n (nI r) (nI (s 0)) (nI (s 1)) (nI (s 2)) (nI v) H0 H1 (nI (hiE p r 2 (s 2)) - 1) X0 X1 (nI (loE p r 2 (s 2)) - 1) υ := by
  have hr2 : r ≤ p.la := by omega
  have hs0 := hs 0 (by omega)
  have hs1 := hs 1 (by omega)
  have hs2 := hs 2 (by omega)
  have b0 := E_b hP (by omega) hr2 hs0
  have b1 := E_b hP (by omega) hr2 hs1
  have b2 := E_b hP (by omega) hr2 hs2
  have k16 : k ≤ 16 := by have := hP.1; omega
  refine pk_loop (fun n e (q : Nat × St) => wp_X3_leastRest_l120 Rw Q K41 K71 n (nI r) (nI (s 0)) (nI (s 1)) (nI (s 2)) (nI q.1) H0 H1 (nI (hiE p r 2 (s 2)) - 1) X0 X1 (nI e - 1) q.2) (fun e q => loE p r 2 (s 2) ≤ e ∧ Fr τ q.2 ∧ Tab p q.2 ∧ Lst p k r s (P2 e0 e1 e) q.1) (hiE p r 2 (s 2) + 1) (loE p r 2 (s 2)) (v, υ) (by omega) ⟨Nat.le_refl _, hf, hT, hv.i (fun t ht => ?_)⟩ (fun n q hq => ?_) (fun n e q he hq hk3 => ?_)
  · have := (ht.1 2 (by omega)).1
    unfold P1 P2
    omega
  · show wp_X3_leastRest_b120 _ _ _ _ _ _ _ _ _ _ _ _ _ _ _ _ _
    unfold wp_X3_leastRest_b120
    obtain ⟨-, f1, f2, f3⟩ := hq
    rw [tI_lt, nI_m1 _ (by omega), nI_m1 _ (by omega)]
    refine ⟨fun _ => hk2 _ _ f1 f2 (f3.i (fun t ht => ?_)), fun z => absurd (by omega) z⟩
    have := (ht.1 2 (by omega)).2.1
    unfold P1 P2
    omega
  · show wp_X3_leastRest_b120 _ _ _ _ _ _ _ _ _ _ _ _ _ _ _ _ _
    unfold wp_X3_leastRest_b120
    obtain ⟨f0, f1, f2, f3⟩ := hq
    obtain ⟨v, υ⟩ := q
    have hPu := hP.fr f1
    have vF : v ≤ FAR := f3.1
    have skip : (∀ t, nxt p r s t → ¬ (t 0 + 1 = e0 ∧ t 1 + 1 = e1 ∧ t 2 + 1 = e)) → wp_X3_leastRest_l120 Rw Q K41 K71 n (nI r) (nI (s 0)) (nI (s 1)) (nI (s 2)) (nI v) H0 H1 (nI (hiE p r 2 (s 2)) - 1) X0 X1 (nI e - 1 + 1) υ := by
      intro z
      rw [e_1]
      refine hk3 (v, υ) ⟨by omega, f1, f2, f3.i (fun t ht => ?_)⟩
      have := z t ht
      unfold P2
      omega
    rw [tI_lt, nI_m1 _ (by omega), nI_m1 _ (by omega)]
    refine ⟨fun z => absurd z (by omega), fun _ => stands_ok (h := 2) hPu (by omega) hr2 (by omega) (i2_eq (fun z => ?_) (fun z => skip (fun t ht y => ?_)))⟩
    · obtain ⟨g1, g2⟩ := st_1 f0 z
      have hX2 : nI e - 1 = nI (e - 1) := ns1 g1
      refine apart_I (i := 0) (j := 2) rfl rfl hX0 hX2 hPu (by omega) (by omega) hr2 (by omega) (by omega) (by omega) (by omega) s (tri (e0 - 1) (e1 - 1) (e - 1)) ⟨rfl, rfl⟩ ⟨rfl, rfl⟩ (fun c02 => ⟨fun q => absurd q (by decide), fun _ => ?_⟩) (fun c02 => ⟨fun _ => skip (fun t ht y => c02 ?_), fun q => absurd rfl q⟩)
      · refine apart_I (i := 1) (j := 2) rfl rfl hX1 hX2 hPu (by omega) (by omega) hr2 (by omega) (by omega) (by omega) (by omega) s (tri (e0 - 1) (e1 - 1) (e - 1)) ⟨rfl, rfl⟩ ⟨rfl, rfl⟩ (fun c12 => ⟨fun q => absurd q (by decide), fun _ => ?_⟩) (fun c12 => ⟨fun _ => skip (fun t ht y => c12 ?_), fun q => absurd rfl q⟩)
        · have hn : nxt p r s (tri (e0 - 1) (e1 - 1) (e - 1)) := by
            refine ⟨fun h hh => ?_, two_e rfl rfl c01, c02, c12⟩
            have : h = 0 ∨ h = 1 ∨ h = 2 := by omega
            rcases this with rfl | rfl | rfl
            · exact ⟨by rw [tri_0]; omega, by rw [tri_0]; omega, c0.2.2.2⟩
            · exact ⟨by rw [tri_1]; omega, by rw [tri_1]; omega, c1.2.2.2⟩
            · exact ⟨by rw [tri_2]; omega, by rw [tri_2]; omega, g2⟩
          have tl := nxt_lt hn
          refine lean_I (h := 0) rfl hX0 hPu (by omega) hr2 (by omega) (by omega) (lean_I (h := 1) rfl hX1 hPu (by omega) hr2 (by omega) (by omega) (lean_I (h := 2) rfl hX2 hPu (by omega) hr2 (by omega) (by omega) ?_))
          have eL : nI (if p.fs 0 < r ∧ e0 - 1 ≠ s 0 then 1 else 0) + nI (if p.fs 1 < r ∧ e1 - 1 ≠ s 1 then 1 else 0) + nI (if p.fs 2 < r ∧ e - 1 ≠ s 2 then 1 else 0) = nI (lnP p r s (tri (e0 - 1) (e1 - 1) (e - 1))) := by
            rw [nI_add, nI_add]; rfl
          have eC : X0 * 100 + X1 * 10 + (nI e - 1) = nI (cod3 (tri (e0 - 1) (e1 - 1) (e - 1))) := by
            rw [hX0, hX1, hX2, show (100 : Int32) = nI 100 from rfl, show (10 : Int32) = nI 10 from rfl, pk_mul, pk_mul, nI_add, nI_add]
            unfold cod3
            rw [tri_0, tri_1, tri_2]
            exact congrArg nI (by omega)
          rw [eL, eC]
          refine restBy_ok hR hr hk tl hPu f2 (ln_3 _ _ _ _) (fun w φ hw hf2 hT2 => ?_)
          have cv := CV_of (r := r) (s := s) tl k16 hw
          generalize (if w < FAR then (w / 1000 + lnP p r s (tri (e0 - 1) (e1 - 1) (e - 1))) * 1000 + cod3 (tri (e0 - 1) (e1 - 1) (e - 1)) else FAR) = w' at *
          have stp := f3.step (P' := P2 e0 e1 (e + 1)) k16 hn cv (fun t' ht' => ?_)
          · have wF : w' ≤ FAR := by
              rcases cv with ⟨z, _⟩ | ⟨b, l, z1, z2, z3⟩
              · omega
              · have := Can_b tl z1
                have := ln_3 p r s (tri (e0 - 1) (e1 - 1) (e - 1))
                have := code_lt tl
                unfold cV at z2
                unfold FAR
                omega
            have em : (if nI w' < nI v then nI w' else nI v) = nI (if w' < v then w' else v) := by
              have : w' < 2 ^ 31 := by unfold FAR at wF; omega
              have : v < 2 ^ 31 := by unfold FAR at vF; omega
              by_cases c : w' < v
              · rw [if_pos (by rw [pn_lt (by omega) (by omega)]; exact c), if_pos c]
              · rw [if_neg (by rw [pn_lt (by omega) (by omega)]; exact c), if_neg c]
            rw [em, e_1]
            exact hk3 ((if w' < v then w' else v), φ) ⟨by omega, f1.tr hf2, hT2, stp⟩
          · unfold P2
            constructor
            · intro z
              by_cases y : t' 0 + 1 = e0 ∧ t' 1 + 1 = e1 ∧ t' 2 + 1 = e
              · exact Or.inr (eq_tri (by omega) (by omega) (by omega))
              · exact Or.inl (by omega)
            · rintro (z | z)
              · omega
              · have z0 := z 0 (by omega)
                have z1 := z 1 (by omega)
                have z2 := z 2 (by omega)
                rw [tri_0] at z0
                rw [tri_1] at z1
                rw [tri_2] at z2
                omega
        · exact two_e (by rw [tri_1]; omega) (by rw [tri_2]; omega) ht.2.2.2
      · exact two_e (by rw [tri_0]; omega) (by rw [tri_2]; omega) ht.2.2.1
    · have := (ht.1 2 (by omega)).2.2
      refine z ?_
      rcases this with y2 | y2
      · exact Or.inl y2
      · rw [show t 2 = e - 1 by omega] at y2
        exact Or.inr ⟨by omega, y2⟩
theorem l71_ok {K41 : Int32 → Int32 → Int32 → Int32 → Int32 → Int32 → Int32 → Int32 → Int32 → St → Prop} {e0 v : Nat} {X0 H0 : Int32} (hR : RwOK p k Rw) (hr : r = p.la - k) (hk : k ≤ p.la) (hs : ∀ h, h < 3 → s h < 10) (hX0 : X0 = nI (e0 - 1))
    (c0 : 1 ≤ e0 ∧ loE p r 0 (s 0) ≤ e0 ∧ e0 ≤ hiE p r 0 (s 0) ∧ standP p r 0 (e0 - 1))
    (hP : SP p τ) (hf : Fr τ υ) (hT : Tab p υ) (hv : Lst p k r s (fun t => t 0 + 1 < e0) v)
    (hk2 : ∀ v' υ', Fr τ υ' → Tab p υ' → Lst p k r s (fun t => t 0 + 1 < e0 + 1) v' → K41 (nI r) (nI (s 0)) (nI (s 1)) (nI (s 2)) (nI v') H0 (nI (hiE p r 1 (s 1)) - 1) (nI (hiE p r 2 (s 2)) - 1) (X0 + 1) υ') :
    ∃ n, wp_X3_leastRest_l71 Rw Q K41 n (nI r) (nI (s 0)) (nI (s 1)) (nI (s 2)) (nI v) H0 (nI (hiE p r 1 (s 1)) - 1) (nI (hiE p r 2 (s 2)) - 1) X0 (nI (loE p r 1 (s 1)) - 1) υ := by
  have hr2 : r ≤ p.la := by omega
  have hs0 := hs 0 (by omega)
  have hs1 := hs 1 (by omega)
  have hs2 := hs 2 (by omega)
  have b0 := E_b hP (by omega) hr2 hs0
  have b1 := E_b hP (by omega) hr2 hs1
  refine pk_loop (fun n e (q : Nat × St) => wp_X3_leastRest_l71 Rw Q K41 n (nI r) (nI (s 0)) (nI (s 1)) (nI (s 2)) (nI q.1) H0 (nI (hiE p r 1 (s 1)) - 1) (nI (hiE p r 2 (s 2)) - 1) X0 (nI e - 1) q.2) (fun e q => loE p r 1 (s 1) ≤ e ∧ Fr τ q.2 ∧ Tab p q.2 ∧ Lst p k r s (P1 e0 e) q.1) (hiE p r 1 (s 1) + 1) (loE p r 1 (s 1)) (v, υ) (by omega) ⟨Nat.le_refl _, hf, hT, hv.i (fun t ht => ?_)⟩ (fun n q hq => ?_) (fun n e q he hq hk3 => ?_)
  · have := (ht.1 1 (by omega)).1
    unfold P1
    omega
  · show wp_X3_leastRest_b71 _ _ _ _ _ _ _ _ _ _ _ _ _ _ _
    unfold wp_X3_leastRest_b71
    obtain ⟨-, f1, f2, f3⟩ := hq
    rw [tI_lt, nI_m1 _ (by omega), nI_m1 _ (by omega)]
    refine ⟨fun _ => hk2 _ _ f1 f2 (f3.i (fun t ht => ?_)), fun z => absurd (by omega) z⟩
    have := (ht.1 1 (by omega)).2.1
    unfold P1
    omega
  · show wp_X3_leastRest_b71 _ _ _ _ _ _ _ _ _ _ _ _ _ _ _
    unfold wp_X3_leastRest_b71
    obtain ⟨f0, f1, f2, f3⟩ := hq
    obtain ⟨v, υ⟩ := q
    have hPu := hP.fr f1
    have skip : (∀ t, nxt p r s t → ¬ (t 0 + 1 = e0 ∧ t 1 + 1 = e)) → wp_X3_leastRest_l71 Rw Q K41 n (nI r) (nI (s 0)) (nI (s 1)) (nI (s 2)) (nI v) H0 (nI (hiE p r 1 (s 1)) - 1) (nI (hiE p r 2 (s 2)) - 1) X0 (nI e - 1 + 1) υ := by
      intro z
      rw [e_1]
      refine hk3 (v, υ) ⟨by omega, f1, f2, f3.i (fun t ht => ?_)⟩
      have := z t ht
      unfold P1
      omega
    rw [tI_lt, nI_m1 _ (by omega), nI_m1 _ (by omega)]
    refine ⟨fun z => absurd z (by omega), fun _ => stands_ok (h := 1) hPu (by omega) hr2 (by omega) (i2_eq (fun z => ?_) (fun z => skip (fun t ht y => ?_)))⟩
    · obtain ⟨g1, g2⟩ := st_1 f0 z
      have hX1 : nI e - 1 = nI (e - 1) := ns1 g1
      refine apart_I (i := 0) (j := 1) rfl rfl hX0 hX1 hPu (by omega) (by omega) hr2 (by omega) (by omega) (by omega) (by omega) s (tri (e0 - 1) (e - 1) 0) ⟨rfl, rfl⟩ ⟨rfl, rfl⟩ (fun c01 => ⟨fun q => absurd q (by decide), fun _ => ?_⟩) (fun c01 => ⟨fun _ => skip (fun t ht y => c01 ?_), fun q => absurd rfl q⟩)
      · refine low_ok (h := 2) hPu (by omega) hr2 ?_
        refine l120_ok hR hr hk hs hX0 hX1 c0 ⟨g1, f0, by omega, g2⟩ c01 hP f1 f2 f3 (fun v' υ' h1 h2 h3 => ?_)
        rw [e_1]
        exact hk3 (v', υ') ⟨by omega, h1, h2, h3⟩
      · exact two_e (by rw [tri_0]; omega) (by rw [tri_1]; omega) ht.2.1
    · have := (ht.1 1 (by omega)).2.2
      refine z ?_
      rcases this with y2 | y2
      · exact Or.inl y2
      · rw [show t 1 = e - 1 by omega] at y2
        exact Or.inr ⟨by omega, y2⟩
theorem leastRest_ok (hR : RwOK p k Rw) (hr : r = p.la - k) (hk : k ≤ p.la) (hs : ∀ h, h < 3 → s h < 10) (hP : SP p τ) (hT : Tab p τ)
    (hq : ∀ v υ, XV p (k + 1) s v → Fr τ υ → Tab p υ → Q (nI v) υ) : wp_X3_leastRest Rw (nI r) (nI (s 0)) (nI (s 1)) (nI (s 2)) Q τ := by
  have hr2 : r ≤ p.la := by omega
  have hs0 := hs 0 (by omega)
  have b0 := E_b hP (by omega) hr2 hs0
  have k16 : k ≤ 16 := by have := hP.1; omega
  unfold wp_X3_leastRest
  refine high_ok (h := 0) hP (by omega) hr2 (high_ok (h := 1) hP (by omega) hr2 (high_ok (h := 2) hP (by omega) hr2 (low_ok (h := 0) hP (by omega) hr2 ?_)))
  refine pk_loop (fun n e (q : Nat × St) => wp_X3_leastRest_l41 Rw Q n (nI r) (nI (s 0)) (nI (s 1)) (nI (s 2)) (nI q.1) (nI (hiE p r 0 (s 0)) - 1) (nI (hiE p r 1 (s 1)) - 1) (nI (hiE p r 2 (s 2)) - 1) (nI e - 1) q.2) (fun e q => loE p r 0 (s 0) ≤ e ∧ Fr τ q.2 ∧ Tab p q.2 ∧ Lst p k r s (fun t => t 0 + 1 < e) q.1) (hiE p r 0 (s 0) + 1) (loE p r 0 (s 0)) (FAR, τ) (by omega) ⟨Nat.le_refl _, Fr.rf, hT, Lst.nil (fun t ht => by have := (ht.1 0 (by omega)).1; omega)⟩ (fun n q hq2 => ?_) (fun n e q he hq2 hk3 => ?_)
  · show wp_X3_leastRest_b41 _ _ _ _ _ _ _ _ _ _ _ _ _
    unfold wp_X3_leastRest_b41
    obtain ⟨-, f1, f2, f3⟩ := hq2
    rw [tI_lt, nI_m1 _ (by omega), nI_m1 _ (by omega)]
    refine ⟨fun _ => hq _ _ (Lst.fin k16 (by rw [← hr]; exact f3) (fun t ht => ?_)) f1 f2, fun z => absurd (by omega) z⟩
    have := (ht.1 0 (by omega)).2.1
    rw [← hr] at this
    omega
  · show wp_X3_leastRest_b41 _ _ _ _ _ _ _ _ _ _ _ _ _
    unfold wp_X3_leastRest_b41
    obtain ⟨f0, f1, f2, f3⟩ := hq2
    obtain ⟨v, υ⟩ := q
    have hPu := hP.fr f1
    rw [tI_lt, nI_m1 _ (by omega), nI_m1 _ (by omega)]
    refine ⟨fun z => absurd z (by omega), fun _ => stands_ok (h := 0) hPu (by omega) hr2 (by omega) (i2_eq (fun z => ?_) (fun z => ?_))⟩
    · obtain ⟨g1, g2⟩ := st_1 f0 z
      refine low_ok (h := 1) hPu (by omega) hr2 ?_
      refine l71_ok hR hr hk hs (ns1 g1) ⟨g1, f0, by omega, g2⟩ hP f1 f2 f3 (fun v' υ' h1 h2 h3 => ?_)
      rw [e_1]
      exact hk3 (v', υ') ⟨by omega, h1, h2, h3⟩
    · rw [e_1]
      refine hk3 (v, υ) ⟨by omega, f1, f2, f3.i (fun t ht => ?_)⟩
      have h1 := (ht.1 0 (by omega)).2.2
      have : ¬ t 0 + 1 = e := by
        intro y
        refine z ?_
        rcases h1 with y2 | y2
        · exact Or.inl y2
        · rw [show t 0 = e - 1 by omega] at y2
          exact Or.inr ⟨by omega, y2⟩
      show t 0 + 1 < e ↔ t 0 + 1 < e + 1
      omega
theorem restN_ok (p : Prm) : ∀ k, k ≤ p.la + 1 → ∀ n, k < n → RwOK p k (wp_restN n) := by
  intro k
  induction k with
  | zero =>
    intro hk n hn t Q τ ht hP hT hq
    obtain ⟨m, rfl⟩ : ∃ m, n = m + 1 := ⟨n - 1, by omega⟩
    show wp_X3_restFromF _ _ _ _ _
    unfold wp_X3_restFromF
    have hc := code_lt ht
    have := hP.1
    have mb : brP p t ≤ 10 := by
      have := mx_le (p := p) ht
      unfold brP; omega
    rw [hP.2.2.1, show (1000 : Int32) = nI 1000 from rfl, pn_lt (a := cod3 t) (by omega) (by omega), pn_le (by omega) (by omega)]
    refine ⟨fun z => absurd z (nI_pos (by omega)), fun _ => ⟨fun z => absurd z (nI_pos (by omega)), fun _ => ⟨fun _ => ⟨fun z => absurd z (by omega), fun _ => breadth_ok hP hc ?_⟩, fun z => absurd hc z⟩⟩⟩
    rw [show (100 : Int32) = nI 100 from rfl, pk_mul, pk_mul]
    have e : brP p (dec (cod3 t)) = brP p t := br_ext (fun h hh => dec_code ht hh)
    rw [e]
    exact hq _ τ rfl Fr.rf hT
  | succ k ih =>
    intro hk n hn t Q τ ht hP hT hq
    obtain ⟨m, rfl⟩ : ∃ m, n = m + 1 := ⟨n - 1, by omega⟩
    show wp_X3_restFromF _ _ _ _ _
    unfold wp_X3_restFromF
    have hc := code_lt ht
    have la15 := hP.1
    have er : p.la + 1 - (k + 1) = p.la - k := by omega
    have e3 : Eq3 (dec (cod3 t)) t := fun h hh => dec_code ht hh
    rw [er, hP.2.2.1, show (1000 : Int32) = nI 1000 from rfl, pn_lt (a := cod3 t) (by omega) (by omega), pn_le (by omega) (by omega), pn_in (by omega) (by omega), pn_in (by omega) (by omega), pn_cl (by omega), pn_cl (by omega), show 50 + 1 + (p.la - k) = 51 + (p.la - k) by omega]
    refine ⟨fun z => absurd z (nI_pos (by omega)), fun _ => ⟨fun z => absurd z (nI_pos (by omega)), fun _ => ⟨fun _ => ⟨fun _ => ⟨by omega, by omega, fun z => ⟨by omega, ?_⟩, fun z => ?_⟩, fun z => absurd (by omega) z⟩, fun z => absurd hc z⟩⟩⟩
    · refine columnIn_ok (h := 0) hc (by omega) (columnIn_ok (h := 1) hc (by omega) (columnIn_ok (h := 2) hc (by omega) ?_))
      rw [e3 0 (by omega), e3 1 (by omega), e3 2 (by omega)]
      refine leastRest_ok (ih (by omega) m (by omega)) rfl (by omega) ht hP hT (fun v υ hv hf hT2 => ?_)
      unfold wp_X3_restFromF_b78
      rw [pn_in (by omega) (by omega), pn_in (by omega) (by omega), pn_cl (by omega), pn_cl (by omega), show 50 + 1 + (p.la - k) = 51 + (p.la - k) by omega, sI_1, if_pos ⟨rfl, rfl⟩]
      refine ⟨by omega, by omega, by omega, hq v _ hv ⟨fun a b n => ?_, hf.2⟩ (fun k' hk' c hc' => ?_)⟩
      · rw [sI_1, if_neg (by omega)]
        exact hf.1 a b n
      · rw [sI_1]
        by_cases e : 51 + (p.la - k') = 51 + (p.la - k) ∧ c = cod3 t
        · rw [if_pos e, e.2]
          have ek : k' = k := by omega
          subst ek
          exact Or.inr ⟨v, rfl, XV_ext e3.sy hv⟩
        · rw [if_neg e]
          exact hT2 k' hk' c hc'
    · unfold wp_X3_restFromF_b78
      rw [pn_in (by omega) (by omega), pn_in (by omega) (by omega), pn_cl (by omega), pn_cl (by omega), show 50 + 1 + (p.la - k) = 51 + (p.la - k) by omega]
      refine ⟨by omega, by omega, ?_⟩
      rcases hT k (by omega) (cod3 t) hc with y | ⟨v, y1, y2⟩
      · exact absurd y z
      · rw [y1]
        exact hq v τ (XV_ext e3 y2) Fr.rf hT
theorem rest0_ok (hP : SP p τ) (hT : Tab p τ) (hq : ∀ v υ, XV p (p.la + 1) (fun _ => 0) v → Fr τ υ → Tab p υ → Q (nI v) υ) : wp_X3_restFrom 0 0 Q τ := by
  have := hP.1
  have H := restN_ok p (p.la + 1) (Nat.le_refl _) 20 (by omega) (fun _ => 0) Q τ (fun _ _ => by show 0 < 10; omega) hP hT hq
  rw [Nat.sub_self] at H
  exact H
end LR
