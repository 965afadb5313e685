section OX
variable {g : Geo} {σ τ : St} {K : St → Prop} {F : Prop} {h : Nat} {o : Nat → Nat}
theorem Prep.f {υ : St} (hP : Prep g h o τ) (e : ∀ i, 4 ≤ i → i ≤ 7 → υ.1 43 i = τ.1 43 i) (e2 : ∀ i, υ.1 44 i = τ.1 44 i) : Prep g h o υ := by
  obtain ⟨p1, p2, p3, p4, p5⟩ := hP
  exact ⟨by rw [e 4 (by omega) (by omega)]; exact p1, by rw [e 5 (by omega) (by omega)]; exact p2, by rw [e 6 (by omega) (by omega)]; exact p3, by rw [e 7 (by omega) (by omega)]; exact p4, fun r hr => by rw [e2]; exact p5 r hr⟩
theorem Prep.s (hP : Prep g h o τ) {k i : Nat} {v : Int32} (h1 : k ≠ 44) (h2 : ¬ (k = 43 ∧ 4 ≤ i ∧ i ≤ 7)) : Prep g h o (sI τ k i v) :=
  hP.f (fun j a b => by rw [sI_1, if_neg (by omega)]) (fun j => by rw [sI_1, if_neg (by omega)])
theorem nm1_pW {n : Nat} (hn : n < 2 ^ 31) : pW g (nI n - 1) ↔ (1 ≤ n ∧ n - 1 < g.gW) := by
  unfold pW
  rw [nI_m1 n hn]
  omega
theorem nm1_n {n : Nat} (hn : n < 2 ^ 31) : (nI n - 1).toInt.toNat = n - 1 := by
  rw [nI_m1 n hn]
  omega
theorem mn_nI {a b : Nat} (ha : a < 2 ^ 31) (hb : b < 2 ^ 31) : (if nI a < nI b then nI a else nI b) = nI (min b a) := by
  by_cases e : a < b
  · rw [if_pos (by rw [pn_lt ha hb]; exact e)]; exact congrArg nI (by omega)
  · rw [if_neg (by rw [pn_lt ha hb]; exact e)]; exact congrArg nI (by omega)
theorem place_ok {Q : Int32 → St → Prop} {r c a : Nat} (hq : Q (nI ((r * 10 + c) * 4 + a)) τ) : wp_X5_place (nI r) (nI c) (nI a) Q τ := by
  unfold wp_X5_place
  rw [show (10 : Int32) = nI 10 from rfl, show (4 : Int32) = nI 4 from rfl, pk_mul, nI_add, pk_mul, nI_add]
  exact hq
theorem vX_b {u s B : Nat} (h : u = 100000 ∨ u ≤ B) (hs : s < 4) (hB : B < 50000) : vX u s ≤ 1000000 := by
  unfold vX; split <;> omega
theorem restX_ok {Q : Int32 → St → Prop} {r k c a s : Nat} (hd : IDim g σ) (hP : Prep g h o τ) (hr : r + 1 + k = g.gH - 1) (hc : c < g.gW) (ha : a < 4) (hs : s < 3)
    (tab : ∀ c' a', c' < g.gW → a' < 4 → τ.1 47 (((r + 1) * 10 + c') * 4 + a') = nI (xV o g.gW (g.gH - 1) k c' a'))
    (hq : Q (nI (vX (cdV (dV o g.gW (g.gH - 1) k) g.gW (o (r + 1)) c a s) s)) τ) : wp_X5_restBy (nI r + 1) ((nI c + nI s) - 1) (nI a) (nI s) Q τ := by
  have hd' := hd.1
  unfold wp_X5_restBy
  rw [na1, nI_add]
  refine openX_ok hd hP (by omega) ?_
  rw [nm1_n (by omega)]
  refine i2_eq (fun z => ?_) (fun z => ?_)
  · obtain ⟨z1, z2⟩ := z
    rw [nm1_pW (by omega)] at z1
    have db := dV_b o g.gW (g.gH - 1) k (c + s - 1) s
    have s3 := stV_3 o g.gW (g.gH - 1) k (c + s - 1) s
    rw [ns1 (by omega)]
    refine place_ok ?_
    rw [pn_in (by omega) (by omega), pn_cl (by omega), tab _ _ z1.2 (by omega)]
    have xb : xV o g.gW (g.gH - 1) k (c + s - 1) s ≤ 1000000 := by unfold xV; split <;> omega
    rw [show (1000000 : Int32) = nI 1000000 from rfl, pn_lt (by omega) (by omega), show (3 : Int32) = nI 3 from rfl, pn_eq (by omega) (by omega), pn_eq (by omega) (by omega)]
    refine ⟨by omega, fun q => ?_, fun q => ?_⟩
    · have hlt : dV o g.gW (g.gH - 1) k (c + s - 1) s < 100000 := by
        unfold xV at q; split at q <;> omega
      have ex : xV o g.gW (g.gH - 1) k (c + s - 1) s = 4 * dV o g.gW (g.gH - 1) k (c + s - 1) s + stV o g.gW (g.gH - 1) k (c + s - 1) s := by unfold xV; rw [if_pos hlt]
      have ec : cdV (dV o g.gW (g.gH - 1) k) g.gW (o (r + 1)) c a s = dV o g.gW (g.gH - 1) k (c + s - 1) s + (if a ≠ 3 ∧ a ≠ s then 100 else 0) + (if s = 1 then 0 else 1) := by
        unfold cdV; rw [if_pos ⟨z1.1, z1.2, z2, hlt⟩]
      have fin : ∀ s0 : Nat, s0 = (if a ≠ 3 ∧ a ≠ s then 100 else 0) → wp_X5_restBy_b53 Q (nI s) (nI (xV o g.gW (g.gH - 1) k (c + s - 1) s)) (nI s0) τ := by
        intro s0 h0
        have h1 : s0 ≤ 100 := by rw [h0]; split <;> omega
        unfold wp_X5_restBy_b53 wp_X5_restBy_b66
        rw [show (4 : Int32) = nI 4 from rfl, pk_div (by omega) (by omega) (by omega), nI_add, ex, show (4 * dV o g.gW (g.gH - 1) k (c + s - 1) s + stV o g.gW (g.gH - 1) k (c + s - 1) s) / 4 = dV o g.gW (g.gH - 1) k (c + s - 1) s by omega]
        rw [ec, ← h0] at hq
        unfold vX at hq
        have n4 : ¬ nI 4 = 0 := by decide
        refine ⟨fun e => ⟨n4, ?_⟩, fun e => ⟨n4, ?_⟩⟩
        · have : s = 1 := (nI_eq (b := 1) (by omega) (by omega)).mp e
          rw [if_pos this, if_pos (by omega)] at hq
          rw [na0, pk_mul, nI_add]
          rwa [show (dV o g.gW (g.gH - 1) k (c + s - 1) s + s0) * 4 + s = 4 * (dV o g.gW (g.gH - 1) k (c + s - 1) s + s0 + 0) + s by omega]
        · have : ¬ s = 1 := fun z => e (by rw [z]; rfl)
          rw [if_neg this, if_pos (by omega)] at hq
          rw [na1, pk_mul, nI_add]
          rwa [show (dV o g.gW (g.gH - 1) k (c + s - 1) s + s0 + 1) * 4 + s = 4 * (dV o g.gW (g.gH - 1) k (c + s - 1) s + s0 + 1) + s by omega]
      unfold wp_X5_restBy_b52
      exact ⟨fun e => fin 0 (by rw [if_neg (by omega)]), fun e => ⟨fun e2 => fin 0 (by rw [if_neg (by omega)]), fun e2 => fin 100 (by rw [if_pos (by omega)])⟩⟩
    · have hn : ¬ dV o g.gW (g.gH - 1) k (c + s - 1) s < 100000 := by
        intro z
        unfold xV at q; rw [if_pos z] at q; omega
      have ec : cdV (dV o g.gW (g.gH - 1) k) g.gW (o (r + 1)) c a s = 100000 := by unfold cdV; rw [if_neg (fun y => hn y.2.2.2)]
      rw [ec] at hq
      exact hq
  · have ec : cdV (dV o g.gW (g.gH - 1) k) g.gW (o (r + 1)) c a s = 100000 := by
      unfold cdV
      rw [if_neg (fun y => z ⟨(nm1_pW (by omega)).mpr ⟨y.1, y.2.1⟩, y.2.2.1⟩)]
    rw [ec] at hq
    exact hq
theorem leastX_ok {Q : Int32 → St → Prop} {r c a : Nat} (hd : IDim g σ) (hP : Prep g h o τ) (hr : r < g.gH) (hc : c < g.gW) (ha : a < 4)
    (tab : r + 1 < g.gH → ∀ c' a', c' < g.gW → a' < 4 → τ.1 47 (((r + 1) * 10 + c') * 4 + a') = nI (xV o g.gW (g.gH - 1) (g.gH - 1 - (r + 1)) c' a'))
    (hq : Q (nI (xV o g.gW (g.gH - 1) (g.gH - 1 - r) c a)) τ) : wp_X5_leastRest (nI r) (nI c) (nI a) Q τ := by
  have hd' := hd.1
  unfold wp_X5_leastRest
  rw [hP.2.2.1, pn_eq (by omega) (by omega)]
  refine ⟨fun e => ?_, fun e => ?_⟩
  · rw [show g.gH - 1 - r = 0 by omega] at hq
    exact hq
  · obtain ⟨k, hk⟩ : ∃ k, g.gH - 1 - r = k + 1 := ⟨g.gH - 1 - r - 1, by omega⟩
    have tab := tab (by omega)
    rw [show g.gH - 1 - (r + 1) = k by omega] at tab
    rw [hk, xV_s (by omega), show g.gH - 1 - k = r + 1 by omega] at hq
    have vb : ∀ s, s < 3 → vX (cdV (dV o g.gW (g.gH - 1) k) g.gW (o (r + 1)) c a s) s ≤ 1000000 := fun s hs => vX_b (cdV_b (dV_b o g.gW (g.gH - 1) k)) (by omega) (by omega)
    have v0 := vb 0 (by omega)
    have v1 := vb 1 (by omega)
    have v2 := vb 2 (by omega)
    refine ⟨4, ?_⟩
    show wp_X5_leastRest_b17 _ _ _ _ _ _ _ _
    unfold wp_X5_leastRest_b17
    refine ⟨fun q => absurd q (by decide), fun _ => restX_ok (s := 0) hd hP (by omega) hc ha (by omega) tab ?_⟩
    rw [show (1000000 : Int32) = nI 1000000 from rfl, mn_nI (by omega) (by omega)]
    show wp_X5_leastRest_b17 _ _ _ _ _ _ _ _
    unfold wp_X5_leastRest_b17
    refine ⟨fun q => absurd q (by decide), fun _ => restX_ok (s := 1) hd hP (by omega) hc ha (by omega) tab ?_⟩
    rw [mn_nI (by omega) (by omega)]
    show wp_X5_leastRest_b17 _ _ _ _ _ _ _ _
    unfold wp_X5_leastRest_b17
    refine ⟨fun q => absurd q (by decide), fun _ => restX_ok (s := 2) hd hP (by omega) hc ha (by omega) tab ?_⟩
    rw [mn_nI (by omega) (by omega)]
    show wp_X5_leastRest_b17 _ _ _ _ _ _ _ _
    unfold wp_X5_leastRest_b17
    exact ⟨fun _ => hq, fun q => absurd (by decide) q⟩
def TBX (g : Geo) (o : Nat → Nat) (τ : St) (r c a : Nat) : Prop := ∀ r' c' a', r' < g.gH → c' < g.gW → a' < 4 → (r < r' ∨ (r' = r ∧ (c' < c ∨ (c' = c ∧ a' < a)))) → τ.1 47 ((r' * 10 + c') * 4 + a') = nI (xV o g.gW (g.gH - 1) (g.gH - 1 - r') c' a')
theorem sub_add (m : Nat) (hm : 1 ≤ m) : nI m - 1 + (-1) = nI (m - 1) - 1 := by
  rw [ns1 hm, pm1]
theorem findX_ok {Q : Int32 → St → Prop} (hI : Inv g σ) (hn : h < g.gN) (hc : Cor σ τ) (hP : Prep g h o τ)
    (hq0 : ∀ υ, Cor σ υ → ¬ (bitP (o (g.co h)) (g.cl h) ∧ dV o g.gW (g.gH - 1) (g.gH - 1 - g.co h) (g.cl h) 3 < 100000) → Q 0 υ)
    (hq1 : ∀ υ, Cor σ υ → bitP (o (g.co h)) (g.cl h) → dV o g.gW (g.gH - 1) (g.gH - 1 - g.co h) (g.cl h) 3 < 100000 → υ.1 43 9 = nI (dV o g.gW (g.gH - 1) (g.gH - 1 - g.co h) (g.cl h) 3 / 100) → υ.1 43 10 = nI (dV o g.gW (g.gH - 1) (g.gH - 1 - g.co h) (g.cl h) 3 % 100) → (∀ j, g.co h + j ≤ g.gH - 1 → υ.1 48 (g.co h + j) = nI (pth o g.gW (g.gH - 1) (g.co h) (g.cl h) j).1) → Q 1 υ) : wp_X5_findFewestBends Q τ := by
  have hd := hI.1
  have hd' := hd.1
  obtain ⟨⟨a1, -, a3⟩, ⟨b1, -, b3⟩, -⟩ := hI.2.2.1 h hn
  have s43 : ∀ i, Scr 43 i := fun i => by unfold Scr; omega
  have s47 : ∀ i, Scr 47 i := fun i => by unfold Scr; omega
  have s48 : ∀ i, Scr 48 i := fun i => by unfold Scr; omega
  have ec : (nI (g.cl h)).toInt.toNat = g.cl h := by rw [tI_n (by omega)]; omega
  have pc : pW g (nI (g.cl h)) := ⟨by rw [tI_n (by omega)]; omega, by rw [tI_n (by omega)]; omega⟩
  unfold wp_X5_findFewestBends
  rw [hP.2.1, hP.2.2.2.1]
  refine openX_ok hd hP (by omega) ?_
  rw [ec]
  refine i2_eq (fun z => ?_) (fun z => hq0 τ hc (fun y => z ⟨pc, y.1⟩))
  have hb := z.2
  rw [hP.2.2.1]
  refine ⟨(g.gH - g.co h) + 1, ?_⟩
  have e0 : nI (g.gH - 1) = nI (g.co h + (g.gH - g.co h)) - 1 := by
    rw [show g.co h + (g.gH - g.co h) = g.gH by omega, ns1 (by omega)]
  rw [e0]
  refine pk_loopD (fun n j υ => wp_X5_findFewestBends_l22 Q n (nI (g.co h + j) - 1) υ) (fun j υ => j ≤ g.gH - g.co h ∧ Cor σ υ ∧ Prep g h o υ ∧ ∀ r' c' a', g.co h + j ≤ r' → r' < g.gH → c' < g.gW → a' < 4 → υ.1 47 ((r' * 10 + c') * 4 + a') = nI (xV o g.gW (g.gH - 1) (g.gH - 1 - r') c' a')) (fun n υ hυ => ?_) (fun n j υ hυ hk => ?_) (g.gH - g.co h) τ ⟨Nat.le_refl _, hc, hP, fun r' c' a' h1 h2 => by omega⟩
  · show wp_X5_findFewestBends_b22 _ _ _ _
    unfold wp_X5_findFewestBends_b22
    obtain ⟨-, u1, u2, u3⟩ := hυ
    rw [u2.2.1, u2.2.2.2.1, tI_lt, Nat.add_zero, nI_m1 _ (by omega), tI_n (by omega)]
    refine ⟨fun _ => ?_, fun q => absurd (by omega) q⟩
    have db := dV_b o g.gW (g.gH - 1) (g.gH - 1 - g.co h) (g.cl h) 3
    have s3 := stV_3 o g.gW (g.gH - 1) (g.gH - 1 - g.co h) (g.cl h) 3
    have xb : xV o g.gW (g.gH - 1) (g.gH - 1 - g.co h) (g.cl h) 3 ≤ 1000000 := by unfold xV; split <;> omega
    rw [show (3 : Int32) = nI 3 from rfl]
    refine place_ok ?_
    rw [show (4 : Int32) = nI 4 from rfl, pn_in (by omega) (by omega), pn_cl (by omega), u3 _ _ _ (by omega) (by omega) b3 (by omega), show (1000000 : Int32) = nI 1000000 from rfl, pn_lt (by omega) (by omega)]
    refine ⟨by omega, fun q => ?_, fun q => hq0 υ u1 (fun y => q (by unfold xV; rw [if_pos y.2]; omega))⟩
    have hlt : dV o g.gW (g.gH - 1) (g.gH - 1 - g.co h) (g.cl h) 3 < 100000 := by
      unfold xV at q; split at q <;> omega
    have ex : xV o g.gW (g.gH - 1) (g.gH - 1 - g.co h) (g.cl h) 3 / 4 = dV o g.gW (g.gH - 1) (g.gH - 1 - g.co h) (g.cl h) 3 := by
      unfold xV; rw [if_pos hlt]; omega
    rw [pk_div (by omega) (by omega) (by omega), ex, show (100 : Int32) = nI 100 from rfl, pk_rem (by omega) (by omega) (by omega), pk_div (by omega) (by omega) (by omega)]
    refine ⟨by decide, by decide, by decide, by decide, ?_⟩
    generalize hφ : sI (sI υ 43 9 (nI (dV o g.gW (g.gH - 1) (g.gH - 1 - g.co h) (g.cl h) 3 / 100))) 43 10 (nI (dV o g.gW (g.gH - 1) (g.gH - 1 - g.co h) (g.cl h) 3 % 100)) = φ
    have f9 : φ.1 43 9 = nI (dV o g.gW (g.gH - 1) (g.gH - 1 - g.co h) (g.cl h) 3 / 100) := by rw [← hφ, sI_1, if_neg (by omega), sI_1, if_pos ⟨rfl, rfl⟩]
    have f10 : φ.1 43 10 = nI (dV o g.gW (g.gH - 1) (g.gH - 1 - g.co h) (g.cl h) 3 % 100) := by rw [← hφ, sI_1, if_pos ⟨rfl, rfl⟩]
    have pφ : Prep g h o φ := by rw [← hφ]; exact (u2.s (by omega) (by omega)).s (by omega) (by omega)
    have cφ : Cor σ φ := by rw [← hφ]; exact (u1.sI (s43 _) _).sI (s43 _) _
    have tφ : ∀ r' c' a', g.co h ≤ r' → r' < g.gH → c' < g.gW → a' < 4 → φ.1 47 ((r' * 10 + c') * 4 + a') = nI (xV o g.gW (g.gH - 1) (g.gH - 1 - r') c' a') := fun r' c' a' h1 h2 h3 h4 => by
      rw [← hφ, sI_1, if_neg (by omega), sI_1, if_neg (by omega)]; exact u3 r' c' a' h1 h2 h3 h4
    unfold wp_X5_walk
    rw [pφ.2.1, pφ.2.2.2.1, pn_in (by omega) (by omega), pn_cl (by omega)]
    refine ⟨by omega, fun v hv => ?_⟩
    rw [sI_1, if_neg (by omega), pφ.2.1] at hv
    subst hv
    have ok := pth_ok (o := o) (W := g.gW) (last := g.gH - 1) (co := g.co h) b3 hb hlt
    refine pk_loop (fun n i (s : (Int32 × Int32) × St) => wp_X5_walk_l22 (fun σ130 => Q 1 σ130) n s.1.1 s.1.2 (nI i) s.2) (fun i s => ∃ j, i = g.co h + j ∧ s.1.1 = nI (pth o g.gW (g.gH - 1) (g.co h) (g.cl h) j).1 ∧ s.1.2 = nI (pth o g.gW (g.gH - 1) (g.co h) (g.cl h) j).2 ∧ Cor σ s.2 ∧ Prep g h o s.2 ∧ s.2.1 43 = φ.1 43 ∧ s.2.1 47 = φ.1 47 ∧ ∀ j', j' ≤ j → s.2.1 48 (g.co h + j') = nI (pth o g.gW (g.gH - 1) (g.co h) (g.cl h) j').1) (g.gH - 1) (g.co h) ((nI (g.cl h), nI 3), sI φ 48 (g.co h) (nI (g.cl h))) (by omega) ⟨0, rfl, rfl, rfl, cφ.sI (s48 _) _, pφ.s (by omega) (by omega), rfl, rfl, fun j' hj => by
      have : j' = 0 := by omega
      subst this
      rw [sI_1, if_pos ⟨rfl, rfl⟩]; rfl⟩ (fun n s hs => ?_) (fun n i s hi hs hk => ?_)
    · show wp_X5_walk_b22 _ _ _ _ _ _
      unfold wp_X5_walk_b22
      obtain ⟨j, ej, -, -, c2, p2, e43, -, w⟩ := hs
      rw [p2.2.2.1]
      refine ⟨fun _ => hq1 _ c2 hb hlt (by rw [e43]; exact f9) (by rw [e43]; exact f10) (fun j' hj' => w j' (by omega)), fun q => absurd (nI_le (Nat.le_refl _) (by omega)) q⟩
    · show wp_X5_walk_b22 _ _ _ _ _ _
      unfold wp_X5_walk_b22
      obtain ⟨j, rfl, ec1, ea1, c2, p2, e43, e47, w⟩ := hs
      obtain ⟨o1, o2, o3, o4⟩ := ok j (by omega)
      rw [p2.2.2.1, ec1, ea1]
      refine ⟨fun q => absurd q (nI_ge hi (by omega)), fun _ => openX_ok hd p2 (by omega) ?_⟩
      have ecj : (nI (pth o g.gW (g.gH - 1) (g.co h) (g.cl h) j).1).toInt.toNat = (pth o g.gW (g.gH - 1) (g.co h) (g.cl h) j).1 := by rw [tI_n (by omega)]; omega
      rw [ecj]
      refine g_t ⟨⟨by rw [tI_n (by omega)]; omega, by rw [tI_n (by omega)]; omega⟩, o3⟩ ?_
      refine place_ok ?_
      have s3j := stV_3 o g.gW (g.gH - 1) (g.gH - 1 - (g.co h + j)) (pth o g.gW (g.gH - 1) (g.co h) (g.cl h) j).1 (pth o g.gW (g.gH - 1) (g.co h) (g.cl h) j).2
      have dbj := dV_b o g.gW (g.gH - 1) (g.gH - 1 - (g.co h + j)) (pth o g.gW (g.gH - 1) (g.co h) (g.cl h) j).1 (pth o g.gW (g.gH - 1) (g.co h) (g.cl h) j).2
      have st := stV_ok (o := o) (W := g.gW) (last := g.gH - 1) (k := g.gH - 1 - (g.co h + j) - 1) (c := (pth o g.gW (g.gH - 1) (g.co h) (g.cl h) j).1) (a := (pth o g.gW (g.gH - 1) (g.co h) (g.cl h) j).2) (by rw [show g.gH - 1 - (g.co h + j) - 1 + 1 = g.gH - 1 - (g.co h + j) by omega]; exact o4) _ rfl
      rw [show g.gH - 1 - (g.co h + j) - 1 + 1 = g.gH - 1 - (g.co h + j) by omega] at st
      have st3 := st.2.2.1
      rw [show (4 : Int32) = nI 4 from rfl, pn_in (by omega) (by omega), pn_cl (by omega), e47, tφ _ _ _ (by omega) (by omega) o1 o2]
      have exj : xV o g.gW (g.gH - 1) (g.gH - 1 - (g.co h + j)) (pth o g.gW (g.gH - 1) (g.co h) (g.cl h) j).1 (pth o g.gW (g.gH - 1) (g.co h) (g.cl h) j).2 = 4 * dV o g.gW (g.gH - 1) (g.gH - 1 - (g.co h + j)) (pth o g.gW (g.gH - 1) (g.co h) (g.cl h) j).1 (pth o g.gW (g.gH - 1) (g.co h) (g.cl h) j).2 + stV o g.gW (g.gH - 1) (g.gH - 1 - (g.co h + j)) (pth o g.gW (g.gH - 1) (g.co h) (g.cl h) j).1 (pth o g.gW (g.gH - 1) (g.co h) (g.cl h) j).2 := by unfold xV; rw [if_pos o4]
      rw [pk_rem (by rw [exj]; omega) (by omega) (by omega), show xV o g.gW (g.gH - 1) (g.gH - 1 - (g.co h + j)) (pth o g.gW (g.gH - 1) (g.co h) (g.cl h) j).1 (pth o g.gW (g.gH - 1) (g.co h) (g.cl h) j).2 % 4 = stV o g.gW (g.gH - 1) (g.gH - 1 - (g.co h + j)) (pth o g.gW (g.gH - 1) (g.co h) (g.cl h) j).1 (pth o g.gW (g.gH - 1) (g.co h) (g.cl h) j).2 by omega, na1]
      refine ⟨by omega, by decide, fun v hv => ?_⟩
      subst hv
      have eN : nI (pth o g.gW (g.gH - 1) (g.co h) (g.cl h) j).1 + (nI (stV o g.gW (g.gH - 1) (g.gH - 1 - (g.co h + j)) (pth o g.gW (g.gH - 1) (g.co h) (g.cl h) j).1 (pth o g.gW (g.gH - 1) (g.co h) (g.cl h) j).2) - 1) = nI (pth o g.gW (g.gH - 1) (g.co h) (g.cl h) (j + 1)).1 := by
        have : ∀ a b : Int32, a + (b - 1) = (a + b) - 1 := fun a b => by grind
        rw [this, nI_add, ns1 st3]
        rfl
      rw [eN, pn_in (by omega) (by omega), pn_cl (show g.co h + j + 1 < 2 ^ 31 by omega)]
      refine ⟨by omega, hk ((nI (pth o g.gW (g.gH - 1) (g.co h) (g.cl h) (j + 1)).1, nI (stV o g.gW (g.gH - 1) (g.gH - 1 - (g.co h + j)) (pth o g.gW (g.gH - 1) (g.co h) (g.cl h) j).1 (pth o g.gW (g.gH - 1) (g.co h) (g.cl h) j).2)), sI s.2 48 (g.co h + j + 1) (nI (pth o g.gW (g.gH - 1) (g.co h) (g.cl h) (j + 1)).1)) ⟨j + 1, by omega, rfl, rfl, c2.sI (s48 _) _, p2.s (by omega) (by omega), ?_, ?_, fun j' hj' => ?_⟩⟩
      · exact e43
      · exact e47
      · rw [sI_1]
        by_cases e : j' = j + 1
        · rw [if_pos ⟨rfl, by omega⟩, e]
        · rw [if_neg (by omega)]
          exact w j' (by omega)
  · show wp_X5_findFewestBends_b22 _ _ _ _
    unfold wp_X5_findFewestBends_b22
    obtain ⟨u0, u1, u2, u3⟩ := hυ
    rw [u2.2.1, tI_lt, nI_m1 _ (by omega), tI_n (by omega)]
    refine ⟨fun q => absurd q (by omega), fun _ => ?_⟩
    have er : nI (g.co h + (j + 1)) - 1 = nI (g.co h + j) := by rw [ns1 (by omega)]; rfl
    rw [er]
    refine pk_loop (fun n c υ => wp_X5_findFewestBends_l32 Q _ n (nI (g.co h + j)) (nI c) υ) (fun c υ => Cor σ υ ∧ Prep g h o υ ∧ TBX g o υ (g.co h + j) c 0) g.gW 0 υ (by omega) ⟨u1, u2, fun r' c' a' h1 h2 h3 h4 => u3 r' c' a' (by omega) h1 h2 h3⟩ (fun n φ hφ => ?_) (fun n c φ hcW hφ hk2 => ?_)
    · show wp_X5_findFewestBends_b32 _ _ _ _ _ _
      unfold wp_X5_findFewestBends_b32
      obtain ⟨w1, w2, w3⟩ := hφ
      rw [w2.1]
      refine ⟨fun _ => ?_, fun q => absurd (nI_le (Nat.le_refl _) (by omega)) q⟩
      rw [pm1]
      exact hk _ ⟨by omega, w1, w2, fun r' c' a' h0 h1 h2 h3 => w3 r' c' a' h1 h2 h3 (by omega)⟩
    · show wp_X5_findFewestBends_b32 _ _ _ _ _ _
      unfold wp_X5_findFewestBends_b32
      obtain ⟨w1, w2, w3⟩ := hφ
      rw [w2.1]
      refine ⟨fun q => absurd q (nI_ge hcW (by omega)), fun _ => ?_⟩
      refine pk_loop (fun n a φ => wp_X5_findFewestBends_l42 Q _ _ n (nI (g.co h + j)) (nI c) (nI a) φ) (fun a φ => Cor σ φ ∧ Prep g h o φ ∧ TBX g o φ (g.co h + j) c a) 4 0 φ (by omega) ⟨w1, w2, w3⟩ (fun n ψ hψ => ?_) (fun n a ψ ha hψ hk3 => ?_)
      · show wp_X5_findFewestBends_b42 _ _ _ _ _ _ _ _
        unfold wp_X5_findFewestBends_b42
        obtain ⟨x1, x2, x3⟩ := hψ
        rw [na1]
        exact ⟨fun _ => hk2 _ ⟨x1, x2, fun r' c' a' h1 h2 h3 h4 => x3 r' c' a' h1 h2 h3 (by omega)⟩, fun q => absurd (by decide) q⟩
      · show wp_X5_findFewestBends_b42 _ _ _ _ _ _ _ _
        unfold wp_X5_findFewestBends_b42
        obtain ⟨x1, x2, x3⟩ := hψ
        refine ⟨fun q => absurd q (nI_ge (b := 4) ha (by omega)), fun _ => ?_⟩
        refine place_ok ?_
        refine leastX_ok hd x2 (by omega) hcW ha (fun hr c' a' hc' ha' => x3 _ _ _ hr hc' ha' (by omega)) ?_
        rw [pn_in (by omega) (by omega), pn_cl (by omega), na1]
        refine ⟨by omega, hk3 _ ⟨x1.sI (s47 _) _, x2.s (by omega) (by omega), fun r' c' a' h1 h2 h3 h4 => ?_⟩⟩
        rw [sI_1]
        by_cases e : r' = g.co h + j ∧ c' = c ∧ a' = a
        · obtain ⟨rfl, rfl, rfl⟩ := e
          rw [if_pos ⟨rfl, rfl⟩]
        · rw [if_neg (by omega)]
          exact x3 r' c' a' h1 h2 h3 (by omega)
end OX
