/-! the best ways, course by course -/
def BestC (q : Prm) (k : Nat) (s : Nat → Nat) (b l : Nat) : Prop := Can q k s b l ∧ ∀ b' l', Can q k s b' l' → 100 * b + l ≤ 100 * b' + l'
/-- from s to t; k courses are above -/
def StepC (q : Prm) (k : Nat) (s t : Nat → Nat) (b l : Nat) : Prop := nxt q (q.la - k) s t ∧ BestC q k t b l ∧ BestC q (k + 1) s b (l + lnP q (q.la - k) s t) ∧ ∀ t' l', nxt q (q.la - k) s t' → Can q k t' b l' → l' + lnP q (q.la - k) s t' = l + lnP q (q.la - k) s t → cod3 t ≤ cod3 t'
theorem least_nat {P : Nat → Prop} : ∀ n : Nat, P n → ∃ m, P m ∧ ∀ i, P i → m ≤ i := by
  intro n
  induction n using Nat.strongRecOn with
  | _ n ih =>
    intro h
    by_cases e : ∃ i, i < n ∧ P i
    · obtain ⟨i, hi, hp⟩ := e
      exact ih i hi hp
    · exact ⟨n, h, fun i hi => Nat.le_of_not_lt (fun z => e ⟨i, z, hi⟩)⟩
section PT
variable {p q : Prm} {k b l : Nat} {s t : Nat → Nat} {π : Nat → Nat}
theorem step_ex (H : BestC q (k + 1) s b l) : ∃ t l', StepC q k s t b l' := by
  obtain ⟨⟨t0, n0, l0, c0, e0⟩, hm⟩ := H
  obtain ⟨m, ⟨t, l', n1, c1, e1, ec⟩, hl⟩ := least_nat (P := fun m => ∃ t l', nxt q (q.la - k) s t ∧ Can q k t b l' ∧ l = l' + lnP q (q.la - k) s t ∧ cod3 t = m) (cod3 t0) ⟨t0, l0, n0, c0, e0, rfl⟩
  refine ⟨t, l', n1, ⟨c1, fun b' l2 h2 => ?_⟩, ⟨⟨t, n1, l', c1, rfl⟩, fun b' l2 h2 => ?_⟩, fun t' l2 n2 c2 e2 => ?_⟩
  · have := hm b' (l2 + lnP q (q.la - k) s t) ⟨t, n1, l2, h2, rfl⟩
    omega
  · have := hm b' l2 h2
    omega
  · have := hl (cod3 t') ⟨t', l2, n2, c2, by omega, rfl⟩
    omega
theorem path_ex : ∀ (k : Nat) {s : Nat → Nat} {b l : Nat}, BestC q k s b l → ∃ P : Nat → Nat → Nat, P 0 = s ∧ ∀ j, j < k → ∃ l', StepC q (k - 1 - j) (P j) (P (j + 1)) b l' := by
  intro k
  induction k with
  | zero => intro s b l _; exact ⟨fun _ => s, rfl, fun j hj => by omega⟩
  | succ k ih =>
    intro s b l H
    obtain ⟨t, l', st⟩ := step_ex H
    obtain ⟨P, p0, ps⟩ := ih st.2.1
    refine ⟨fun j => if j = 0 then s else P (j - 1), rfl, fun j hj => ?_⟩
    by_cases e : j = 0
    · subst e
      refine ⟨l', ?_⟩
      show StepC q (k + 1 - 1 - 0) s (P 0) b l'
      rw [p0]; exact st
    · obtain ⟨i, rfl⟩ : ∃ i, j = i + 1 := ⟨j - 1, by omega⟩
      obtain ⟨l2, h2⟩ := ps i (by omega)
      refine ⟨l2, ?_⟩
      show StepC q (k + 1 - 1 - (i + 1)) (if i + 1 = 0 then s else P i) (P (i + 1)) b l2
      rw [if_neg (by omega), show k + 1 - 1 - (i + 1) = k - 1 - i by omega]
      exact h2
theorem step_l (hs : ∀ h, h < 3 → s h < 10) (hk : k ≤ 15) (H : StepC p k s t b l) : l + lnP p (p.la - k) s t ≤ 48 := by
  have := Can_b (nxt_lt H.1) H.2.1.1
  have := ln_3 p (p.la - k) s t
  omega
theorem xv_step {v : Nat} (hs : ∀ h, h < 3 → s h < 10) (hk : k ≤ 15) (H : StepC p k s t b l) (hv : XV false p (k + 1) s v) : v < FAR ∧ v % 1000 = cod3 t := by
  obtain ⟨n1, ⟨c1, m1⟩, ⟨c2, m2⟩, m3⟩ := H
  have lt := code_lt (nxt_lt n1)
  have cb := Can_b (nxt_lt n1) c1
  have l3 := ln_3 p (p.la - k) s t
  rcases hv with ⟨h1, h2⟩ | ⟨t1, b1, l1, h1, h2, h3, h4⟩
  · exact absurd c1 (h2 t b l n1)
  · have lt1 := code_lt (nxt_lt h1)
    have cb1 := Can_b (nxt_lt h1) h2
    have l31 := ln_3 p (p.la - k) s t1
    have a1 := h4 rfl t b l n1 c1
    have a2 := m2 b1 (l1 + lnP p (p.la - k) s t1) ⟨t1, h1, l1, h2, rfl⟩
    unfold cV at a1 h3
    have eb : b1 = b := by omega
    subst eb
    have a3 := m3 t1 l1 h1 h2 (by omega)
    unfold FAR
    constructor <;> omega
theorem ls_step {r v : Nat} {be : Int32} (hr : q.la - k = r + 1) (hk : k ≤ 15) (H : StepC q k s t b l) (hv : LsM q b k r s (fun _ => True) v be) : be = nI (mcod t) := by
  obtain ⟨n1, ⟨c1, m1⟩, ⟨c2, m2⟩, m3⟩ := H
  rw [hr] at n1 m2 m3
  have cb := Can_b (nxt_lt n1) c1
  have l3 := ln_3 q (r + 1) s t
  obtain ⟨h0, h1, h2⟩ := hv
  have a := h1 t l n1 trivial c1
  rcases h2 with ⟨h2, _⟩ | ⟨t1, l1, d1, _, d2, d3, d4, d5⟩
  · omega
  · have a2 := m2 b (l1 + lnP q (r + 1) s t1) ⟨t1, by rw [hr]; exact d1, l1, d2, by rw [hr]⟩
    have e : l1 + lnP q (r + 1) s t1 = l + lnP q (r + 1) s t := by omega
    have a3 := m3 t1 l1 d1 d2 e
    have a4 := d5 t l n1 trivial c1 (by omega)
    have x0 := nxt_lt n1 0 (by omega)
    have x1 := nxt_lt n1 1 (by omega)
    have x2 := nxt_lt n1 2 (by omega)
    have y0 := nxt_lt d1 0 (by omega)
    have y1 := nxt_lt d1 1 (by omega)
    have y2 := nxt_lt d1 2 (by omega)
    unfold cod3 at a3 a4
    rw [d4]
    refine congrArg nI ?_
    unfold mcod
    omega
theorem step_ext {s' : Nat → Nat} (e : Eq3 s s') (H : StepC q k s t b l) : StepC q k s' t b l := by
  obtain ⟨n1, c1, ⟨c2, m2⟩, m3⟩ := H
  have el : ∀ t, lnP q (q.la - k) s' t = lnP q (q.la - k) s t := fun t => ln_ext e.sy Eq3.rf
  refine ⟨nxt_ext e Eq3.rf n1, c1, ⟨?_, fun b' l' h => ?_⟩, fun t' l' n' c' e' => ?_⟩
  · rw [el]; exact Can_ext e c2
  · rw [el]; exact m2 b' l' (Can_ext e.sy h)
  · rw [el, el] at e'
    exact m3 t' l' (nxt_ext e.sy Eq3.rf n') c' e'
theorem step_perm (h : Bij π) (hk : k ≤ q.la) (hv : Vd q (q.la - k) s) (hm : ∀ t t', nxt q (q.la - k) s t → nxt q (q.la - k) s t' → cod3 t ≤ cod3 t' → cod3 (fun i => t (π i)) ≤ cod3 (fun i => t' (π i))) (H : StepC q k s t b l) : StepC (permP π q) k (fun i => s (π i)) (fun i => t (π i)) b l := by
  obtain ⟨ρ, r1, r2⟩ := h.inv
  obtain ⟨n1, ⟨c1, m1⟩, ⟨c2, m2⟩, m3⟩ := H
  have er2 : q.la + 1 - k = q.la - k + 1 := by omega
  have hv2 : Vd (permP π q) (q.la - k) (fun i => s (π i)) := fun i j hi hj hne a b => hv (π i) (π j) (h.lt hi) (h.lt hj) (h.inj hi hj hne) a b
  have n2 : nxt (permP π q) (q.la - k) (fun i => s (π i)) (fun i => t (π i)) := (nxA_iff hv2).mpr ((nxA_perm h).mpr ((nxA_iff hv).mp n1))
  have ck : ∀ t : Nat → Nat, nxt q (q.la - k) s t → ∀ b l, Can (permP π q) k (fun i => t (π i)) b l ↔ Can q k t b l := fun t n b l => can_perm h (by omega) (by rw [er2]; exact nxt_vd n)
  have cs : ∀ b l, Can (permP π q) (k + 1) (fun i => s (π i)) b l ↔ Can q (k + 1) s b l := fun b l => can_perm h (by omega) (by rw [show q.la + 1 - (k + 1) = q.la - k by omega]; exact hv)
  refine ⟨n2, ⟨(ck t n1 b l).mpr c1, fun b' l' z => m1 b' l' ((ck t n1 b' l').mp z)⟩, ⟨?_, fun b' l' z => ?_⟩, fun t' l' n' c' e' => ?_⟩
  · show Can (permP π q) (k + 1) _ b (l + lnP (permP π q) (q.la - k) _ _)
    rw [ln_perm h]
    exact (cs _ _).mpr c2
  · show 100 * b + (l + lnP (permP π q) (q.la - k) _ _) ≤ _
    rw [ln_perm h]
    exact m2 b' l' ((cs _ _).mp z)
  · have n' : nxt (permP π q) (q.la - k) (fun i => s (π i)) t' := n'
    have e' : l' + lnP (permP π q) (q.la - k) (fun i => s (π i)) t' = l + lnP (permP π q) (q.la - k) (fun i => s (π i)) (fun i => t (π i)) := e'
    have e3 : Eq3 t' (fun i => t' (ρ (π i))) := fun i hi => by show t' i = t' (ρ (π i)); rw [r2 i hi]
    have n' := nxt_ext Eq3.rf e3 n'
    have c' := Can_ext e3 c'
    rw [ln_ext Eq3.rf e3, ln_perm (t := fun i => t' (ρ i)) h, ln_perm h] at e'
    have n3 : nxt q (q.la - k) s (fun i => t' (ρ i)) := (nxA_iff hv).mpr ((nxA_perm (t := fun i => t' (ρ i)) h).mp ((nxA_iff hv2).mp n'))
    have := hm t (fun i => t' (ρ i)) n1 n3 (m3 _ l' n3 ((ck (fun i => t' (ρ i)) n3 b l').mp c') e')
    rw [code_ext e3]; exact this
end PT
theorem mono_pi : ∀ S, S < 8 → ∀ t t' : Nat → Nat, (∀ i, i < 3 → t i < 10) → (∀ i, i < 3 → t' i < 10) → (∀ i, cB S 3 ≤ i → i < 3 → t i = 0) → (∀ i, cB S 3 ≤ i → i < 3 → t' i = 0) → cod3 t ≤ cod3 t' → cod3 (fun h => t (piS S h)) ≤ cod3 (fun h => t' (piS S h)) := by
  intro S hS t t' h1 h2 h3 h4 hc
  have a0 := h1 0 (by omega)
  have a1 := h1 1 (by omega)
  have a2 := h1 2 (by omega)
  have b0 := h2 0 (by omega)
  have b1 := h2 1 (by omega)
  have b2 := h2 2 (by omega)
  unfold cod3 at hc ⊢
  dsimp only
  have hS2 : S = 0 ∨ S = 1 ∨ S = 2 ∨ S = 3 ∨ S = 4 ∨ S = 5 ∨ S = 6 ∨ S = 7 := by omega
  rcases hS2 with rfl | rfl | rfl | rfl | rfl | rfl | rfl | rfl
  · rw [show piS 0 0 = 0 by decide, show piS 0 1 = 1 by decide, show piS 0 2 = 2 by decide]
    have u0 := h3 0 (by decide) (by omega)
    have w0 := h4 0 (by decide) (by omega)
    have u1 := h3 1 (by decide) (by omega)
    have w1 := h4 1 (by decide) (by omega)
    have u2 := h3 2 (by decide) (by omega)
    have w2 := h4 2 (by decide) (by omega)
    omega
  · rw [show piS 1 0 = 0 by decide, show piS 1 1 = 1 by decide, show piS 1 2 = 2 by decide]
    have u1 := h3 1 (by decide) (by omega)
    have w1 := h4 1 (by decide) (by omega)
    have u2 := h3 2 (by decide) (by omega)
    have w2 := h4 2 (by decide) (by omega)
    omega
  · rw [show piS 2 0 = 1 by decide, show piS 2 1 = 0 by decide, show piS 2 2 = 2 by decide]
    have u1 := h3 1 (by decide) (by omega)
    have w1 := h4 1 (by decide) (by omega)
    have u2 := h3 2 (by decide) (by omega)
    have w2 := h4 2 (by decide) (by omega)
    omega
  · rw [show piS 3 0 = 0 by decide, show piS 3 1 = 1 by decide, show piS 3 2 = 2 by decide]
    have u2 := h3 2 (by decide) (by omega)
    have w2 := h4 2 (by decide) (by omega)
    omega
  · rw [show piS 4 0 = 1 by decide, show piS 4 1 = 2 by decide, show piS 4 2 = 0 by decide]
    have u1 := h3 1 (by decide) (by omega)
    have w1 := h4 1 (by decide) (by omega)
    have u2 := h3 2 (by decide) (by omega)
    have w2 := h4 2 (by decide) (by omega)
    omega
  · rw [show piS 5 0 = 0 by decide, show piS 5 1 = 2 by decide, show piS 5 2 = 1 by decide]
    have u2 := h3 2 (by decide) (by omega)
    have w2 := h4 2 (by decide) (by omega)
    omega
  · rw [show piS 6 0 = 2 by decide, show piS 6 1 = 0 by decide, show piS 6 2 = 1 by decide]
    have u2 := h3 2 (by decide) (by omega)
    have w2 := h4 2 (by decide) (by omega)
    omega
  · rw [show piS 7 0 = 0 by decide, show piS 7 1 = 1 by decide, show piS 7 2 = 2 by decide]
    omega
/-! what the class writes into the plan -/
def TellR (p : Prm) (P : Nat → Nat → Nat) (n : Nat) (τ υ : St) : Prop := υ.2 = τ.2 ∧ (∀ h r, h < 3 → p.fs h ≤ r → r < n → υ.1 (22 + h) r = nI (P (r + 1) h)) ∧ ∀ k i, ¬ ((51 ≤ k ∧ k ≤ 67) ∨ (k = 49 ∧ i = 6)) → ¬ (22 ≤ k ∧ k < 25 ∧ p.fs (k - 22) ≤ i ∧ i < n) → υ.1 k i = τ.1 k i
section TL
variable {p : Prm} {τ υ : St} {Q : St → Prop} {P : Nat → Nat → Nat} {b : Nat}
theorem tell_ok (hX : ∀ i, p.fx i = false) (hP : SP p τ) (hT : TF false p τ) (h0 : P 0 = zz) (hst : ∀ j, j ≤ p.la → ∃ l, StepC p (p.la - j) (P j) (P (j + 1)) b l) (hq : ∀ υ, TellR p P (p.la + 1) τ υ → Q υ) : wp_X3_tell Q τ := by
  have la15 := hP.1
  have hlt : ∀ j, j ≤ p.la + 1 → ∀ h, h < 3 → P j h < 10 := by
    intro j hj
    by_cases e : j = 0
    · rw [e, h0]; intro h _; show 0 < 10; omega
    · obtain ⟨i, rfl⟩ : ∃ i, j = i + 1 := ⟨j - 1, by omega⟩
      obtain ⟨l, st⟩ := hst i (by omega)
      exact nxt_lt st.1
  have e0 : nI (cod3 (P 0)) = 0 := by rw [h0]; rfl
  unfold wp_X3_tell
  have H : ∃ n, wp_X3_tell_l4 Q n (nI (cod3 (P 0))) (nI 0) τ := by
    refine pk_loop (fun n i υ => wp_X3_tell_l4 Q n (nI (cod3 (P i))) (nI i) υ) (fun i υ => SP p υ ∧ TF false p υ ∧ TellR p P i τ υ) (p.la + 1) 0 τ (by omega) ⟨hP, hT, rfl, fun h r _ _ hr => by omega, fun _ _ _ _ => rfl⟩ (fun n υ hυ => ?_) (fun n i υ hi hυ hk => ?_)
    · show wp_X3_tell_b4 _ _ _ _ _
      unfold wp_X3_tell_b4
      obtain ⟨u1, u2, u3⟩ := hυ
      rw [u1.2.2.1, pn_lt (by omega) (by omega)]
      exact ⟨fun _ => hq υ u3, fun z => absurd (by omega) z⟩
    · show wp_X3_tell_b4 _ _ _ _ _
      unfold wp_X3_tell_b4
      obtain ⟨u1, u2, u3⟩ := hυ
      rw [u1.2.2.1, pn_lt (by omega) (by omega)]
      refine ⟨fun z => absurd z (by omega), fun _ => ?_⟩
      obtain ⟨l, st⟩ := hst i (by omega)
      have R : ∀ Q' : Int32 → St → Prop, (∀ w φ, XV false p (p.la + 1 - i) (P i) w → Fr υ φ → TF false p φ → Q' (nI w) φ) → wp_X3_restFrom (nI i) (nI (cod3 (P i))) Q' υ := by
        intro Q' h
        have := restN_ok false p (p.la + 1 - i) (by omega) 20 (by omega) (P i) Q' υ (hlt i (by omega)) (Rch.no hX) u1 u2 h
        rwa [show p.la + 1 - (p.la + 1 - i) = i by omega] at this
      refine R _ (fun v φ hv hf hT2 => ?_)
      rw [show p.la + 1 - i = p.la - i + 1 by omega] at hv
      obtain ⟨v1, v2⟩ := xv_step (hlt i (by omega)) (by omega) st hv
      unfold FAR at v1
      have c3 := code_lt (hlt (i + 1) (by omega))
      rw [show (1000000000 : Int32) = nI 1000000000 from rfl, show (1000 : Int32) = nI 1000 from rfl, pn_lt (by omega) (by omega), pk_rem (by omega) (by omega) (by omega), v2]
      refine ⟨fun _ => ⟨by decide, ?_⟩, fun z => absurd v1 z⟩
      have sφ := u1.fr hf
      refine pk_loop (fun n h ψ => wp_X3_tell_l38 Q _ n (nI (cod3 (P (i + 1)))) (nI i) (nI h) ψ) (fun h ψ => ψ.2 = φ.2 ∧ (∀ h', h' < h → p.fs h' ≤ i → ψ.1 (22 + h') i = nI (P (i + 1) h')) ∧ ∀ k j, ¬ (22 ≤ k ∧ k < 22 + h ∧ j = i ∧ p.fs (k - 22) ≤ i) → ψ.1 k j = φ.1 k j) 3 0 φ (by omega) ⟨rfl, fun h' hh => by omega, fun _ _ _ => rfl⟩ (fun n ψ hψ => ?_) (fun n h ψ hh hψ hk2 => ?_)
      · show wp_X3_tell_b38 _ _ _ _ _ _ _
        unfold wp_X3_tell_b38
        obtain ⟨w1, w2, w3⟩ := hψ
        rw [na1]
        refine ⟨fun _ => hk ψ ⟨sφ.wr (fun k j h => w3 k j (by omega)), ⟨by rw [w3 _ _ (by omega)]; exact hT2.1, fun k hk c hc => ?_⟩, by rw [w1, hf.2]; exact u3.1, fun h r h1 h2 h3 => ?_, fun k j n1 n2 => ?_⟩, fun z => absurd (by decide) z⟩
        · rw [w3 _ _ (by omega)]; exact hT2.2 k hk c hc
        · by_cases e : r = i
          · rw [e] at h2 ⊢
            exact w2 h h1 h2
          · rw [w3 _ _ (by omega), hf.1 _ _ (by omega)]
            exact u3.2.1 h r h1 h2 (by omega)
        · rw [w3 k j (by omega), hf.1 k j n1]
          exact u3.2.2 k j n1 (by omega)
      · show wp_X3_tell_b38 _ _ _ _ _ _ _
        unfold wp_X3_tell_b38
        obtain ⟨w1, w2, w3⟩ := hψ
        obtain ⟨a1, a2, -⟩ := sφ.2.2.2.2 h hh
        have a1' : ψ.1 68 h = nI (p.fs h) := by rw [w3 _ _ (by omega)]; exact a1
        rw [na1 h, pn_in (by omega) (by omega), pn_cl (by omega), a1', pn_lt (by omega) (by omega)]
        refine ⟨fun z => absurd z (nI_ge (b := 3) hh (by omega)), fun _ => ⟨hh, fun z => hk2 ψ ⟨w1, fun h' hh' hf' => ?_, fun k j n1 => w3 k j (by omega)⟩, fun z => ⟨hh, columnIn_ok c3 hh ?_⟩⟩⟩
        · by_cases e : h' = h
          · rw [e] at hf'; omega
          · exact w2 h' (by omega) hf'
        · rw [dec_code (hlt (i + 1) (by omega)) hh, pn_in (by omega) (by omega), pn_cl (by omega), show 21 + 1 + h = 22 + h by omega]
          refine ⟨by omega, hk2 _ ⟨w1, fun h' hh' hf' => ?_, fun k j n1 => ?_⟩⟩
          · rw [sI_1]
            by_cases e : h' = h
            · rw [if_pos ⟨by omega, rfl⟩, e]
            · rw [if_neg (by omega)]
              exact w2 h' (by omega) hf'
          · rw [sI_1, if_neg (fun z => n1 ⟨by omega, by omega, z.2, by rw [show k - 22 = h by omega]; omega⟩)]
            exact w3 k j (by omega)
  rw [e0] at H
  exact H
end TL
