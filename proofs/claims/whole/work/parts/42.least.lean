def tri (a b c : Nat) : Nat → Nat := fun h => if h = 0 then a else if h = 1 then b else c
theorem tri_0 {a b c : Nat} : tri a b c 0 = a := rfl
theorem tri_1 {a b c : Nat} : tri a b c 1 = b := rfl
theorem tri_2 {a b c : Nat} : tri a b c 2 = c := rfl
theorem eq_tri {t : Nat → Nat} {a b c : Nat} (h0 : t 0 = a) (h1 : t 1 = b) (h2 : t 2 = c) : Eq3 (tri a b c) t := by
  intro h hh
  have : h = 0 ∨ h = 1 ∨ h = 2 := by omega
  rcases this with rfl | rfl | rfl
  · exact h0.symm
  · exact h1.symm
  · exact h2.symm
theorem two_e {p : Prm} {r i j : Nat} {s t t' : Nat → Nat} (e : t i = t' i) (e2 : t j = t' j) (H : twoOK p r i j s t) : twoOK p r i j s t' := by
  unfold twoOK at H ⊢
  rw [← e, ← e2]
  exact H
def P1 (e0 e1 : Nat) (t : Nat → Nat) : Prop := t 0 < e0 ∨ (t 0 = e0 ∧ t 1 < e1)
def P2 (e0 e1 e2 : Nat) (t : Nat → Nat) : Prop := t 0 < e0 ∨ (t 0 = e0 ∧ (t 1 < e1 ∨ (t 1 = e1 ∧ t 2 < e2)))
abbrev RwT : Type := Int32 → Int32 → (Int32 → St → Prop) → St → Prop
def RwOK (a : Bool) (p : Prm) (k : Nat) (Rw : RwT) : Prop := ∀ (t : Nat → Nat) (Q : Int32 → St → Prop) (τ : St), (∀ h, h < 3 → t h < 10) → Rch p (p.la + 1 - k) t → SP p τ → TF a p τ → (∀ w υ, XV a p k t w → Fr τ υ → TF a p υ → Q (nI w) υ) → Rw (nI (p.la + 1 - k)) (nI (cod3 t)) Q τ
theorem c_1 : (1 : Int32).toNatClampNeg = 1 := by decide
theorem c_2 : (2 : Int32).toNatClampNeg = 2 := by decide
theorem vin_0 : vp_in (0 : Int32) 3 := by unfold vp_in; decide
theorem vin_1 : vp_in (1 : Int32) 3 := by unfold vp_in; decide
theorem vin_2 : vp_in (2 : Int32) 3 := by unfold vp_in; decide
section LR
variable {a : Bool} {p : Prm} {τ υ : St} {Q : Int32 → St → Prop} {k r : Nat} {s : Nat → Nat} {Rw : RwT}
theorem restBy_ok {t : Nat → Nat} {l : Nat} (hR : RwOK a p k Rw) (hr : r = p.la - k) (hk : k ≤ p.la) (ht : ∀ h, h < 3 → t h < 10) (hrc : Rch p (r + 1) t) (hP : SP p τ) (hT : TF a p τ) (hl : l ≤ 3)
    (hq : ∀ w υ, XV a p k t w → Fr τ υ → TF a p υ → Q (nI (if w < FAR then (w / 1000 + l) * 1000 + cod3 t else FAR)) υ) : wp_X3_restBy Rw (nI r) (nI (cod3 t)) (nI l) Q τ := by
  unfold wp_X3_restBy
  have e1 : r + 1 = p.la + 1 - k := by omega
  rw [na1, e1]
  rw [e1] at hrc
  refine hR t _ τ ht hrc hP hT (fun w υ hw hf hT2 => ?_)
  have hb := XV_b (by have := hP.1; omega) ht hw
  have hq := hq w υ hw hf hT2
  have hc := code_lt ht
  unfold FAR at hb hq
  rw [show (1000000000 : Int32) = nI 1000000000 from rfl, pn_lt (by omega) (by omega), show (1000 : Int32) = nI 1000 from rfl, pk_div (by omega) (by omega) (by omega), nI_add, pk_mul, nI_add]
  refine ⟨fun q => ⟨by decide, ?_⟩, fun q => ?_⟩
  · rw [if_pos q] at hq; exact hq
  · rw [if_neg q] at hq; exact hq
theorem nx_iff (hP : SP p τ) (hr : r ≤ p.la) (hs : ∀ h, h < 3 → s h < 10) (hrc : Rch p r s) {h : Nat} (hh : h < 3) (t : Nat → Nat) : oneOK p r h s t ↔ (loC p r h (s h) ≤ t h ∧ t h ≤ hiC p r h (s h) ∧ oneC p r h (t h)) := one_iff hh hr (hP.2.2.2.2 h hh).2.2.1 hrc (hs h hh)
theorem l223_ok {K60 : Int32 → Int32 → Int32 → Int32 → Int32 → Int32 → Int32 → Int32 → Int32 → Int32 → Int32 → St → Prop} {K151 : Int32 → Int32 → Int32 → Int32 → Int32 → Int32 → Int32 → Int32 → Int32 → Int32 → Int32 → Int32 → Int32 → Int32 → St → Prop} {e0 e1 v m : Nat} {X6 X7 X8 X12 X13 X16 : Int32} (hR : RwOK a p k Rw) (hr : r = p.la - k) (hk : k ≤ p.la) (hs : ∀ h, h < 3 → s h < 10) (hrc : Rch p r s)
    (h10 : e0 < 10) (h11 : e1 < 10) (c0 : ∀ t, t 0 = e0 → oneOK p r 0 s t) (c1 : ∀ t, t 1 = e1 → oneOK p r 1 s t) (c01 : twoOK p r 0 1 s (tri e0 e1 0))
    (hm : m < 1024) (bm : ∀ c, c < 10 → (bitP m c ↔ (oneC p r 2 c ∧ twoOK p r 0 2 s (tri e0 e1 c) ∧ twoOK p r 1 2 s (tri e0 e1 c)))) (hX16 : X16 = nI (lnH p r 0 s (tri e0 e1 0) + lnH p r 1 s (tri e0 e1 0)))
    (hP : SP p τ) (hf : Fr τ υ) (hT : TF a p υ) (hv : Lst a p k r s (P1 e0 e1) v)
    (hq : ∀ v υ', XV a p (k + 1) s v → Fr τ υ' → TF a p υ' → Q (nI v) υ')
    (hk2 : ∀ v' υ', Fr τ υ' → TF a p υ' → Lst a p k r s (P1 e0 (e1 + 1)) v' → K151 (nI r) (nI (s 0)) (nI (s 1)) (nI (s 2)) (nI v') X6 X7 X8 (nI (loC p r 2 (s 2))) (nI (hiC p r 2 (s 2))) (nI e0) X12 X13 (nI (e1 + 1)) υ') :
    ∃ n, wp_X3_leastRest_l223 Rw Q K60 K151 n (nI r) (nI (s 0)) (nI (s 1)) (nI (s 2)) (nI v) X6 X7 X8 (nI (loC p r 2 (s 2))) (nI (hiC p r 2 (s 2))) (nI e0) X12 X13 (nI e1) (nI m) X16 (nI (loC p r 2 (s 2))) υ := by
  have hr2 : r ≤ p.la := by omega
  have hs2 := hs 2 (by omega)
  have b9 := hi_9 p r 2 (s 2)
  have lh := lohi (p := p) (r := r) (h := 2) hs2
  have k16 : k ≤ 16 := by have := hP.1; omega
  have ub : ∀ t, nxt p r s t → loC p r 2 (s 2) ≤ t 2 ∧ t 2 ≤ hiC p r 2 (s 2) ∧ oneC p r 2 (t 2) := fun t ht => (nx_iff hP hr2 hs hrc (by omega) t).mp (ht.1 2 (by omega))
  refine pk_loop (fun n e (q : Nat × St) => wp_X3_leastRest_l223 Rw Q K60 K151 n (nI r) (nI (s 0)) (nI (s 1)) (nI (s 2)) (nI q.1) X6 X7 X8 (nI (loC p r 2 (s 2))) (nI (hiC p r 2 (s 2))) (nI e0) X12 X13 (nI e1) (nI m) X16 (nI e) q.2) (fun e q => loC p r 2 (s 2) ≤ e ∧ Fr τ q.2 ∧ TF a p q.2 ∧ Lst a p k r s (P2 e0 e1 e) q.1) (hiC p r 2 (s 2) + 1) (loC p r 2 (s 2)) (v, υ) (by omega) ⟨Nat.le_refl _, hf, hT, hv.i (fun t ht => ?_)⟩ (fun n q hq2 => ?_) (fun n e q he hq2 hk3 => ?_)
  · have := (ub t ht).1
    unfold P1 P2
    omega
  · show wp_X3_leastRest_b223 _ _ _ _ _ _ _ _ _ _ _ _ _ _ _ _ _ _ _ _ _ _ _
    unfold wp_X3_leastRest_b223
    obtain ⟨-, f1, f2, f3⟩ := hq2
    rw [pn_lt (by omega) (by omega), na1 e1]
    refine ⟨fun _ => hk2 _ _ f1 f2 (f3.i (fun t ht => ?_)), fun z => absurd (by omega) z⟩
    have := (ub t ht).2.1
    unfold P1 P2
    omega
  · show wp_X3_leastRest_b223 _ _ _ _ _ _ _ _ _ _ _ _ _ _ _ _ _ _ _ _ _ _ _
    unfold wp_X3_leastRest_b223
    obtain ⟨f0, f1, f2, f3⟩ := hq2
    obtain ⟨v, υ⟩ := q
    have hPu := hP.fr f1
    have vF : v ≤ FAR := f3.1
    have bv : (nI m >>> (nI e &&& 31)) &&& 1 = nI (m / 2 ^ e % 2) := bit_val (by omega) (by omega)
    have be := bm e (by omega)
    rw [pn_lt (by omega) (by omega), na1 e, bv, show (0 : Int32) = nI 0 from rfl, pn_eq (by omega) (by omega)]
    refine ⟨fun z => absurd z (by omega), fun _ => ⟨fun z => hk3 (v, υ) ⟨by omega, f1, f2, f3.i (fun t ht => ?_)⟩, fun z => ?_⟩⟩
    · have : ¬ (t 0 = e0 ∧ t 1 = e1 ∧ t 2 = e) := by
        rintro ⟨y0, y1, y2⟩
        have o := (ub t ht).2.2
        rw [y2] at o
        have b := be.mpr ⟨o, two_e (by rw [tri_0]; exact y0) (by rw [tri_2]; exact y2) ht.2.2.1, two_e (by rw [tri_1]; exact y1) (by rw [tri_2]; exact y2) ht.2.2.2⟩
        unfold bitP at b
        omega
      unfold P2
      omega
    · obtain ⟨z1, c02, c12⟩ := be.mp (show m / 2 ^ e % 2 = 1 by omega)
      have hn : nxt p r s (tri e0 e1 e) := by
        refine ⟨fun h hh => ?_, two_e rfl rfl c01, c02, c12⟩
        have : h = 0 ∨ h = 1 ∨ h = 2 := by omega
        rcases this with rfl | rfl | rfl
        · exact c0 _ rfl
        · exact c1 _ rfl
        · exact (nx_iff hP hr2 hs hrc (by omega) _).mpr ⟨by rw [tri_2]; omega, by rw [tri_2]; omega, z1⟩
      have tl := nxt_lt hn
      refine lean_ok (h := 2) hPu (by omega) hr2 (by omega) (by omega) ?_
      have eL : X16 + nI (if p.fs 2 < r ∧ e ≠ s 2 then 1 else 0) = nI (lnP p r s (tri e0 e1 e)) := by
        rw [hX16, nI_add]; rfl
      have eC : nI e0 * 100 + nI e1 * 10 + nI e = nI (cod3 (tri e0 e1 e)) := by
        rw [show (100 : Int32) = nI 100 from rfl, show (10 : Int32) = nI 10 from rfl, pk_mul, pk_mul, nI_add, nI_add]
        unfold cod3
        rw [tri_0, tri_1, tri_2]
        exact congrArg nI (by omega)
      rw [eL, eC]
      refine restBy_ok hR hr hk tl (Rch.nx hn) hPu f2 (ln_3 _ _ _ _) (fun w φ hw hf2 hT2 => ?_)
      have cv := CV_of (r := r) (s := s) tl k16 hw
      generalize (if w < FAR then (w / 1000 + lnP p r s (tri e0 e1 e)) * 1000 + cod3 (tri e0 e1 e) else FAR) = w' at *
      have stp := f3.step (P' := P2 e0 e1 (e + 1)) k16 hn cv (fun t' ht' => by
        unfold P2
        constructor
        · intro z
          by_cases y : t' 0 = e0 ∧ t' 1 = e1 ∧ t' 2 = e
          · exact Or.inr (eq_tri y.1 y.2.1 y.2.2)
          · exact Or.inl (by omega)
        · rintro (z | z)
          · omega
          · have z0 := z 0 (by omega)
            have z1 := z 1 (by omega)
            have z2 := z 2 (by omega)
            rw [tri_0] at z0
            rw [tri_1] at z1
            rw [tri_2] at z2
            omega)
      have wF : w' ≤ FAR := by
        rcases cv with ⟨z, _⟩ | ⟨b, l, z1, z2, z3⟩
        · omega
        · have := cV_F (r := r) (s := s) k16 tl z1
          omega
      have em : (if nI w' < nI v then nI w' else nI v) = nI (if w' < v then w' else v) := by
        have : w' < 2 ^ 31 := by unfold FAR at wF; omega
        have : v < 2 ^ 31 := by unfold FAR at vF; omega
        by_cases c : w' < v
        · rw [if_pos (by rw [pn_lt (by omega) (by omega)]; exact c), if_pos c]
        · rw [if_neg (by rw [pn_lt (by omega) (by omega)]; exact c), if_neg c]
      rw [em]
      generalize (if w' < v then w' else v) = v2 at *
      have next := hk3 (v2, φ) ⟨by omega, f1.tr hf2, hT2, stp⟩
      refine ⟨fun _ => next, fun z5 => ⟨fun _ => next, fun z6 => ?_⟩⟩
      have v2F : v2 ≤ FAR := stp.1
      have ha : a = true := by
        by_cases h : a = true
        · exact h
        · exact absurd (by rw [hT2.1, if_neg h]; rfl) z5
      subst ha
      rw [hr] at stp
      unfold FAR at v2F
      rw [show (1000000000 : Int32) = nI 1000000000 from rfl, pn_le (by omega) (by omega)] at z6
      exact hq v2 φ (stp.any (by unfold FAR; omega)) (f1.tr hf2) hT2
theorem l151_ok {K60 : Int32 → Int32 → Int32 → Int32 → Int32 → Int32 → Int32 → Int32 → Int32 → Int32 → Int32 → St → Prop} {e0 v my mz : Nat} {X6 : Int32} (hR : RwOK a p k Rw) (hr : r = p.la - k) (hk : k ≤ p.la) (hs : ∀ h, h < 3 → s h < 10) (hrc : Rch p r s)
    (h10 : e0 < 10) (c0 : ∀ t, t 0 = e0 → oneOK p r 0 s t)
    (hmy : my < 1024) (bmy : ∀ c, c < 10 → (bitP my c ↔ (oneC p r 1 c ∧ twoOK p r 0 1 s (tri e0 c 0)))) (hmz : mz < 1024) (bmz : ∀ c, c < 10 → (bitP mz c ↔ (oneC p r 2 c ∧ twoOK p r 0 2 s (tri e0 0 c))))
    (hP : SP p τ) (hf : Fr τ υ) (hT : TF a p υ) (hv : Lst a p k r s (fun t => t 0 < e0) v)
    (hq : ∀ v υ', XV a p (k + 1) s v → Fr τ υ' → TF a p υ' → Q (nI v) υ')
    (hk2 : ∀ v' υ', Fr τ υ' → TF a p υ' → Lst a p k r s (fun t => t 0 < e0 + 1) v' → K60 (nI r) (nI (s 0)) (nI (s 1)) (nI (s 2)) (nI v') X6 (nI (loC p r 1 (s 1))) (nI (hiC p r 1 (s 1))) (nI (loC p r 2 (s 2))) (nI (hiC p r 2 (s 2))) (nI (e0 + 1)) υ') :
    ∃ n, wp_X3_leastRest_l151 Rw Q K60 n (nI r) (nI (s 0)) (nI (s 1)) (nI (s 2)) (nI v) X6 (nI (loC p r 1 (s 1))) (nI (hiC p r 1 (s 1))) (nI (loC p r 2 (s 2))) (nI (hiC p r 2 (s 2))) (nI e0) (nI my) (nI mz) (nI (loC p r 1 (s 1))) υ := by
  have hr2 : r ≤ p.la := by omega
  have hs0 := hs 0 (by omega)
  have hs1 := hs 1 (by omega)
  have hs2 := hs 2 (by omega)
  have b9 := hi_9 p r 1 (s 1)
  have lh := lohi (p := p) (r := r) (h := 1) hs1
  have ub : ∀ t, nxt p r s t → loC p r 1 (s 1) ≤ t 1 ∧ t 1 ≤ hiC p r 1 (s 1) ∧ oneC p r 1 (t 1) := fun t ht => (nx_iff hP hr2 hs hrc (by omega) t).mp (ht.1 1 (by omega))
  refine pk_loop (fun n e (q : Nat × St) => wp_X3_leastRest_l151 Rw Q K60 n (nI r) (nI (s 0)) (nI (s 1)) (nI (s 2)) (nI q.1) X6 (nI (loC p r 1 (s 1))) (nI (hiC p r 1 (s 1))) (nI (loC p r 2 (s 2))) (nI (hiC p r 2 (s 2))) (nI e0) (nI my) (nI mz) (nI e) q.2) (fun e q => loC p r 1 (s 1) ≤ e ∧ Fr τ q.2 ∧ TF a p q.2 ∧ Lst a p k r s (P1 e0 e) q.1) (hiC p r 1 (s 1) + 1) (loC p r 1 (s 1)) (v, υ) (by omega) ⟨Nat.le_refl _, hf, hT, hv.i (fun t ht => ?_)⟩ (fun n q hq2 => ?_) (fun n e q he hq2 hk3 => ?_)
  · have := (ub t ht).1
    unfold P1
    omega
  · show wp_X3_leastRest_b151 _ _ _ _ _ _ _ _ _ _ _ _ _ _ _ _ _ _ _
    unfold wp_X3_leastRest_b151
    obtain ⟨-, f1, f2, f3⟩ := hq2
    rw [pn_lt (by omega) (by omega), na1 e0]
    refine ⟨fun _ => hk2 _ _ f1 f2 (f3.i (fun t ht => ?_)), fun z => absurd (by omega) z⟩
    have := (ub t ht).2.1
    unfold P1
    omega
  · show wp_X3_leastRest_b151 _ _ _ _ _ _ _ _ _ _ _ _ _ _ _ _ _ _ _
    unfold wp_X3_leastRest_b151
    obtain ⟨f0, f1, f2, f3⟩ := hq2
    obtain ⟨v, υ⟩ := q
    have hPu := hP.fr f1
    have bv : (nI my >>> (nI e &&& 31)) &&& 1 = nI (my / 2 ^ e % 2) := bit_val (by omega) (by omega)
    have be := bmy e (by omega)
    rw [pn_lt (by omega) (by omega), na1 e, bv, show (0 : Int32) = nI 0 from rfl, pn_eq (by omega) (by omega), pn_le (by omega) (by omega)]
    refine ⟨fun z => absurd z (by omega), fun _ => ⟨fun z => hk3 (v, υ) ⟨by omega, f1, f2, f3.i (fun t ht => ?_)⟩, fun z => ?_⟩⟩
    · have : ¬ (t 0 = e0 ∧ t 1 = e) := by
        rintro ⟨y0, y1⟩
        have o := (ub t ht).2.2
        rw [y1] at o
        have b := be.mpr ⟨o, two_e (by rw [tri_0]; exact y0) (by rw [tri_1]; exact y1) ht.2.1⟩
        unfold bitP at b
        omega
      unfold P1
      omega
    · obtain ⟨z1, c01⟩ := be.mp (show my / 2 ^ e % 2 = 1 by omega)
      have c1 : ∀ t, t 1 = e → oneOK p r 1 s t := fun t et => (nx_iff hP hr2 hs hrc (by omega) t).mpr ⟨by omega, by omega, by rw [et]; exact z1⟩
      have go : ∀ w : Int32, ((w = 1 ∧ s 1 < s 2) ∨ (w = 0 ∧ ¬ s 1 < s 2)) → wp_X3_leastRest_b190 Rw Q K60 (wp_X3_leastRest_l151 Rw Q K60 n) (nI r) (nI (s 0)) (nI (s 1)) (nI (s 2)) (nI v) X6 (nI (loC p r 1 (s 1))) (nI (hiC p r 1 (s 1))) (nI (loC p r 2 (s 2))) (nI (hiC p r 2 (s 2))) (nI e0) (nI my) (nI mz) (nI e) w (nI r) 2 (nI e) 1 (nI mz) υ := by
        intro w hw
        unfold wp_X3_leastRest_b190
        refine left_ok (i := 1) (j := 2) hPu (by omega) (by omega) hr2 (by omega) hw (fun m1 l1 q1 => ?_)
        obtain ⟨o, o1, o2, o3⟩ := andI (b := m1) hmz l1
        refine lean_ok (h := 0) hPu (by omega) hr2 (by omega) (by omega) (lean_ok (h := 1) hPu (by omega) hr2 (by omega) (by omega) ?_)
        rw [o2]
        refine l223_ok hR hr hk hs hrc h10 (by omega) c0 c1 c01 o1 (fun c hc => ?_) (by rw [nI_add]; rfl) hP f1 f2 f3 hq (fun v' υ' h1 h2 h3 => hk3 (v', υ') ⟨by omega, h1, h2, h3⟩)
        rw [o3, bmz c hc, q1 c hc]
        exact ⟨fun z => ⟨z.1.1, two_e rfl rfl z.1.2, z.2⟩, fun z => ⟨⟨z.1, two_e rfl rfl z.2.1⟩, z.2.2⟩⟩
      exact ⟨fun z2 => go 0 (Or.inr ⟨rfl, by omega⟩), fun z2 => go 1 (Or.inl ⟨rfl, by omega⟩)⟩
theorem leastRest_ok (hR : RwOK a p k Rw) (hr : r = p.la - k) (hk : k ≤ p.la) (hs : ∀ h, h < 3 → s h < 10) (hrc : Rch p r s) (hP : SP p τ) (hT : TF a p τ)
    (hq : ∀ v υ, XV a p (k + 1) s v → Fr τ υ → TF a p υ → Q (nI v) υ) : wp_X3_leastRest Rw (nI r) (nI (s 0)) (nI (s 1)) (nI (s 2)) Q τ := by
  have hr2 : r ≤ p.la := by omega
  have la15 := hP.1
  have hs0 := hs 0 (by omega)
  have hs1 := hs 1 (by omega)
  have hs2 := hs 2 (by omega)
  have b9 := hi_9 p r 0 (s 0)
  have lh := lohi (p := p) (r := r) (h := 0) hs0
  have ub : ∀ t, nxt p r s t → loC p r 0 (s 0) ≤ t 0 ∧ t 0 ≤ hiC p r 0 (s 0) ∧ oneC p r 0 (t 0) := fun t ht => (nx_iff hP hr2 hs hrc (by omega) t).mp (ht.1 0 (by omega))
  unfold wp_X3_leastRest
  refine high_ok (h := 0) hP (by omega) hr2 hs0 (low_ok (h := 1) hP (by omega) hr2 hs1 (high_ok (h := 1) hP (by omega) hr2 hs1 (low_ok (h := 2) hP (by omega) hr2 hs2 (high_ok (h := 2) hP (by omega) hr2 hs2 (low_ok (h := 0) hP (by omega) hr2 hs0 ?_)))))
  refine pk_loop (fun n e (q : Nat × St) => wp_X3_leastRest_l60 Rw Q n (nI r) (nI (s 0)) (nI (s 1)) (nI (s 2)) (nI q.1) (nI (hiC p r 0 (s 0))) (nI (loC p r 1 (s 1))) (nI (hiC p r 1 (s 1))) (nI (loC p r 2 (s 2))) (nI (hiC p r 2 (s 2))) (nI e) q.2) (fun e q => loC p r 0 (s 0) ≤ e ∧ Fr τ q.2 ∧ TF a p q.2 ∧ Lst a p k r s (fun t => t 0 < e) q.1) (hiC p r 0 (s 0) + 1) (loC p r 0 (s 0)) (FAR, τ) (by omega) ⟨Nat.le_refl _, Fr.rf, hT, Lst.nil (fun t ht => by have := (ub t ht).1; omega)⟩ (fun n q hq2 => ?_) (fun n e q he hq2 hk3 => ?_)
  · show wp_X3_leastRest_b60 _ _ _ _ _ _ _ _ _ _ _ _ _ _ _
    unfold wp_X3_leastRest_b60
    obtain ⟨-, f1, f2, f3⟩ := hq2
    rw [pn_lt (by omega) (by omega)]
    rw [hr] at f3
    refine ⟨fun _ => hq _ _ (f3.fin (fun t ht => ?_)) f1 f2, fun z => absurd (by omega) z⟩
    have := (ub t (by rw [hr]; exact ht)).2.1
    rw [hr] at this
    omega
  · show wp_X3_leastRest_b60 _ _ _ _ _ _ _ _ _ _ _ _ _ _ _
    unfold wp_X3_leastRest_b60
    obtain ⟨f0, f1, f2, f3⟩ := hq2
    obtain ⟨v, υ⟩ := q
    have hPu := hP.fr f1
    obtain ⟨m0, d0, l0, q0⟩ := (hPu.2.2.2.2 0 (by omega)).2.2.2 r hr2
    obtain ⟨m1, d1, l1, q1⟩ := (hPu.2.2.2.2 1 (by omega)).2.2.2 r hr2
    obtain ⟨m2, d2, l2, q2⟩ := (hPu.2.2.2.2 2 (by omega)).2.2.2 r hr2
    have d0 : υ.1 (70 + 1 + 0) r = nI m0 := d0
    have d1 : υ.1 (70 + 1 + 1) r = nI m1 := d1
    have d2 : υ.1 (70 + 1 + 2) r = nI m2 := d2
    have r16 : vp_in (nI r) 16 := vp_in_nI (by omega) (by omega)
    have bv : (nI m0 >>> (nI e &&& 31)) &&& 1 = nI (m0 / 2 ^ e % 2) := bit_val (by omega) (by omega)
    have be := q0 e (by omega)
    have z9 : (nI (m0 / 2 ^ e % 2) = (0 : Int32)) = (m0 / 2 ^ e % 2 = 0) := pn_eq (b := 0) (by omega) (by omega)
    rw [pn_lt (by omega) (by omega), na1 e, c0, c_1, pn_cl (show r < 2 ^ 31 by omega), d0, d1, bv, z9, pn_le (by omega) (by omega)]
    refine ⟨fun z => absurd z (by omega), fun _ => ⟨vin_0, r16, fun z => hk3 (v, υ) ⟨by omega, f1, f2, f3.i (fun t ht => ?_)⟩, fun z => ⟨vin_1, r16, ?_⟩⟩⟩
    · have : ¬ t 0 = e := by
        intro y
        have o := (ub t ht).2.2
        rw [y] at o
        have b := be.mpr o
        unfold bitP at b
        omega
      show t 0 < e ↔ t 0 < e + 1
      omega
    · have z1 := be.mp (show m0 / 2 ^ e % 2 = 1 by omega)
      have c0' : ∀ t, t 0 = e → oneOK p r 0 s t := fun t et => (nx_iff hP hr2 hs hrc (by omega) t).mpr ⟨by omega, by omega, by rw [et]; exact z1⟩
      have go : ∀ w : Int32, ((w = 1 ∧ s 0 < s 1) ∨ (w = 0 ∧ ¬ s 0 < s 1)) → wp_X3_leastRest_b110 Rw Q (wp_X3_leastRest_l60 Rw Q n) (nI r) (nI (s 0)) (nI (s 1)) (nI (s 2)) (nI v) (nI (hiC p r 0 (s 0))) (nI (loC p r 1 (s 1))) (nI (hiC p r 1 (s 1))) (nI (loC p r 2 (s 2))) (nI (hiC p r 2 (s 2))) (nI e) w (nI r) 1 (nI e) 0 (nI m1) υ := by
        intro w hw
        unfold wp_X3_leastRest_b110
        refine left_ok (i := 0) (j := 1) hPu (by omega) (by omega) hr2 (by omega) hw (fun x1 y1 w1 => ?_)
        obtain ⟨oy, oy1, oy2, oy3⟩ := andI (b := x1) l1 y1
        rw [c_2, pn_cl (show r < 2 ^ 31 by omega), d2, oy2, pn_le (by omega) (by omega)]
        have go2 : ∀ w : Int32, ((w = 1 ∧ s 0 < s 2) ∨ (w = 0 ∧ ¬ s 0 < s 2)) → wp_X3_leastRest_b141 Rw Q (wp_X3_leastRest_l60 Rw Q n) (nI r) (nI (s 0)) (nI (s 1)) (nI (s 2)) (nI v) (nI (hiC p r 0 (s 0))) (nI (loC p r 1 (s 1))) (nI (hiC p r 1 (s 1))) (nI (loC p r 2 (s 2))) (nI (hiC p r 2 (s 2))) (nI e) (nI oy) w (nI r) 2 (nI e) 0 (nI m2) υ := by
          intro w hw
          unfold wp_X3_leastRest_b141
          refine left_ok (i := 0) (j := 2) hPu (by omega) (by omega) hr2 (by omega) hw (fun x2 y2 w2 => ?_)
          obtain ⟨oz, oz1, oz2, oz3⟩ := andI (b := x2) l2 y2
          rw [oz2]
          refine l151_ok hR hr hk hs hrc (by omega) c0' oy1 (fun c hc => ?_) oz1 (fun c hc => ?_) hP f1 f2 f3 hq (fun v' υ' h1 h2 h3 => hk3 (v', υ') ⟨by omega, h1, h2, h3⟩)
          · rw [oy3, q1 c hc, w1 c hc]; exact Iff.rfl
          · rw [oz3, q2 c hc, w2 c hc]; exact Iff.rfl
        exact ⟨vin_2, r16, fun z2 => go2 0 (Or.inr ⟨rfl, by omega⟩), fun z2 => go2 1 (Or.inl ⟨rfl, by omega⟩)⟩
      exact ⟨fun z2 => go 0 (Or.inr ⟨rfl, by omega⟩), fun z2 => go 1 (Or.inl ⟨rfl, by omega⟩)⟩
theorem restN_ok (a : Bool) (p : Prm) : ∀ k, k ≤ p.la + 1 → ∀ n, k < n → RwOK a p k (wp_restN n) := by
  intro k
  induction k with
  | zero =>
    intro hk n hn t Q τ ht hrc hP hT hq
    obtain ⟨m, rfl⟩ : ∃ m, n = m + 1 := ⟨n - 1, by omega⟩
    show wp_X3_restFromF _ _ _ _ _
    unfold wp_X3_restFromF wp_X3_restFromF_b85 wp_X3_restFromF_b86
    have hc := code_lt ht
    have la15 := hP.1
    have e3 : Eq3 (dec (cod3 t)) t := fun h hh => dec_code ht hh
    have mb : brP p t ≤ 10 := by
      have := mx_le (p := p) ht
      unfold brP; omega
    rw [Nat.sub_zero, hP.2.2.1, show (1000 : Int32) = nI 1000 from rfl, show (16 : Int32) = nI 16 from rfl, pn_lt (a := cod3 t) (by omega) (by omega), pn_lt (a := 16) (by omega) (by omega), pn_le (by omega) (by omega), pn_in (by omega) (by omega), pn_in (by omega) (by omega), pn_cl (by omega), pn_cl (by omega), show 50 + 1 + (p.la + 1) = 51 + (p.la + 1) by omega]
    refine ⟨fun z => absurd z (nI_pos (by omega)), fun _ => ⟨fun z => absurd z (by omega), fun _ => ⟨fun z => absurd z (nI_pos (by omega)), fun _ => ⟨fun _ => ⟨by omega, by omega, fun z => ⟨by omega, fun z2 => absurd z2 (by omega), fun _ => breadth_ok hP hc ?_⟩, fun z => ⟨by omega, by omega, ?_⟩⟩, fun z => absurd hc z⟩⟩⟩⟩
    · have e : brP p (dec (cod3 t)) = brP p t := br_ext e3
      rw [e, show (100 : Int32) = nI 100 from rfl, pk_mul, pk_mul, sI_1, if_pos ⟨rfl, rfl⟩]
      refine ⟨by omega, by omega, by omega, hq _ _ rfl ⟨fun x y nn => ?_, rfl⟩ ⟨?_, fun k' hk' c hc' => ?_⟩⟩
      · rw [sI_1, if_neg (by omega)]
      · rw [sI_1, if_neg (by omega)]; exact hT.1
      · rw [sI_1]
        by_cases e4 : 51 + (p.la + 1 - k') = 51 + (p.la + 1) ∧ c = cod3 t
        · rw [if_pos e4, e4.2]
          have ek : k' = 0 := by omega
          subst ek
          exact Or.inr ⟨_, rfl, show _ = brP p (dec (cod3 t)) * 100 * 1000 by rw [e]⟩
        · rw [if_neg e4]
          exact hT.2 k' hk' c hc'
    · rcases hT.2 0 (by omega) (cod3 t) hc with y | ⟨v, y1, y2⟩
      · rw [Nat.sub_zero] at y; exact absurd y z
      · rw [Nat.sub_zero] at y1
        rw [y1]
        exact hq v τ (XV_ext e3 y2) Fr.rf hT
  | succ k ih =>
    intro hk n hn t Q τ ht hrc hP hT hq
    obtain ⟨m, rfl⟩ : ∃ m, n = m + 1 := ⟨n - 1, by omega⟩
    show wp_X3_restFromF _ _ _ _ _
    unfold wp_X3_restFromF wp_X3_restFromF_b85 wp_X3_restFromF_b86
    have hc := code_lt ht
    have la15 := hP.1
    have er : p.la + 1 - (k + 1) = p.la - k := by omega
    have e3 : Eq3 (dec (cod3 t)) t := fun h hh => dec_code ht hh
    rw [er] at hrc
    rw [er, hP.2.2.1, show (1000 : Int32) = nI 1000 from rfl, show (16 : Int32) = nI 16 from rfl, pn_lt (a := cod3 t) (by omega) (by omega), pn_lt (a := 16) (by omega) (by omega), pn_le (by omega) (by omega), pn_in (by omega) (by omega), pn_in (by omega) (by omega), pn_cl (by omega), pn_cl (by omega), show 50 + 1 + (p.la - k) = 51 + (p.la - k) by omega]
    refine ⟨fun z => absurd z (nI_pos (by omega)), fun _ => ⟨fun z => absurd z (by omega), fun _ => ⟨fun z => absurd z (nI_pos (by omega)), fun _ => ⟨fun _ => ⟨by omega, by omega, fun z => ⟨by omega, fun _ => ?_, fun z2 => absurd (by omega) z2⟩, fun z => ⟨by omega, by omega, ?_⟩⟩, fun z => absurd hc z⟩⟩⟩⟩
    · refine columnIn_ok (h := 0) hc (by omega) (columnIn_ok (h := 1) hc (by omega) (columnIn_ok (h := 2) hc (by omega) ?_))
      rw [e3 0 (by omega), e3 1 (by omega), e3 2 (by omega)]
      refine leastRest_ok (ih (by omega) m (by omega)) rfl (by omega) ht hrc hP hT (fun v υ hv hf hT2 => ?_)
      rw [sI_1, if_pos ⟨rfl, rfl⟩]
      refine ⟨by omega, by omega, by omega, hq v _ hv ⟨fun x y nn => ?_, hf.2⟩ ⟨?_, fun k' hk' c hc' => ?_⟩⟩
      · rw [sI_1, if_neg (by omega)]
        exact hf.1 x y nn
      · rw [sI_1, if_neg (by omega)]; exact hT2.1
      · rw [sI_1]
        by_cases e : 51 + (p.la + 1 - k') = 51 + (p.la - k) ∧ c = cod3 t
        · rw [if_pos e, e.2]
          have ek : k' = k + 1 := by omega
          subst ek
          exact Or.inr ⟨v, rfl, XV_ext e3.sy hv⟩
        · rw [if_neg e]
          exact hT2.2 k' hk' c hc'
    · have T := hT.2 (k + 1) (by omega) (cod3 t) hc
      rw [er] at T
      rcases T with y | ⟨v, y1, y2⟩
      · exact absurd y z
      · rw [y1]
        exact hq v τ (XV_ext e3 y2) Fr.rf hT
theorem rest0_ok (hP : SP p τ) (hT : TF a p τ) (hq : ∀ v υ, XV a p (p.la + 1) (fun _ => 0) v → Fr τ υ → TF a p υ → Q (nI v) υ) : wp_X3_restFrom 0 0 Q τ := by
  have := hP.1
  have H := restN_ok a p (p.la + 1) (Nat.le_refl _) 20 (by omega) (fun _ => 0) Q τ (fun _ _ => by show 0 < 10; omega) (fun h _ _ hr => absurd hr (by rw [Nat.sub_self]; omega)) hP hT hq
  rw [Nat.sub_self] at H
  exact H
end LR
