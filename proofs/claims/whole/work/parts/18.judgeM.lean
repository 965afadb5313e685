def Flg (a : Int32) (p : Prop) : Prop := (a = 0 ∧ ¬ p) ∨ (a = 1 ∧ p)
theorem Flg.i {a : Int32} {p q : Prop} (h : Flg a p) (e : p ↔ q) : Flg a q := by
  rcases h with ⟨h, h2⟩ | ⟨h, h2⟩
  · exact Or.inl ⟨h, fun z => h2 (e.mpr z)⟩
  · exact Or.inr ⟨h, e.mp h2⟩
theorem ex_s {p : Nat → Prop} {i : Nat} : (∃ o, o < i + 1 ∧ p o) ↔ ((∃ o, o < i ∧ p o) ∨ p i) := by
  constructor
  · rintro ⟨o, ho, h⟩
    by_cases e : o = i
    · subst e; exact Or.inr h
    · exact Or.inl ⟨o, by omega, h⟩
  · rintro (⟨o, ho, h⟩ | h)
    · exact ⟨o, by omega, h⟩
    · exact ⟨i, by omega, h⟩
section JM
variable {g : Geo} {σ : St} {K : St → Prop} {F : Prop} {Q : Int32 → St → Prop}
theorem planM (hp : IPlan g 22 0 σ) {h r : Nat} (hn : h < g.gN) (hr : r < 16) : σ.1 95 (16 * h + r) = rowsP σ h r := by
  have := (hp h hn).1 r hr
  rw [show 0 + 16 * h + r = 16 * h + r by omega] at this
  exact this
theorem stepJ {K42 : Int32 → Int32 → Int32 → Int32 → Int32 → Int32 → St → Prop} {h r o : Nat} {a b : Int32} (hI : Inv g σ) (hn : h < g.gN) (hr : r < g.gH) (hc : g.co h ≤ r) (ho : o < h) (hw : 0 ≤ (rowsP σ h r).toInt ∧ (rowsP σ h r).toInt < 10)
    (fa : Flg a (∃ o', o' < o ∧ near g (rowsP σ) h r o')) (fb : Flg b (∃ o', o' < o ∧ cros g (rowsP σ) h r o'))
    (hk : ∀ a b, Flg a (∃ o', o' < o + 1 ∧ near g (rowsP σ) h r o') → Flg b (∃ o', o' < o + 1 ∧ cros g (rowsP σ) h r o') → K42 (nI h) (nI r) (rowsP σ h r) a b (nI (o + 1)) σ) :
    wp_X7_troubleAt_b42 Q K42 (nI h) (nI r) (rowsP σ h r) a b (nI o) σ := by
  have hd' := hI.1.1
  have hp := hI.2.2.2.2.2.1
  have t0 := hI.2.2.2.1 0 (by omega)
  rw [show tuM 0 = 3 from rfl] at t0
  obtain ⟨⟨-, h2, h3⟩, -⟩ := hI.2.2.1 h hn
  obtain ⟨⟨-, o2, o3⟩, -⟩ := hI.2.2.1 o (by omega)
  have z1 : ¬ (1 : Int32) = 0 := by decide
  unfold wp_X7_troubleAt_b42
  rw [pn_le (by omega) (by omega), pn_in (by omega) (by omega), pn_cl (by omega), o2, pn_lt (by omega) (by omega), nm16, nI_add, pn_in (by omega) (by omega), pn_cl (by omega), planM hp (by omega) (by omega), na1]
  refine ⟨fun q => absurd q (by omega), fun _ => ⟨by omega, fun q => ?_, fun q => ⟨by omega, fun d hd => ?_⟩⟩⟩
  · refine hk a b (fa.i ?_) (fb.i ?_)
    · rw [ex_s]; exact ⟨Or.inl, fun z => z.elim id (fun y => absurd y.1 (by omega))⟩
    · rw [ex_s]; exact ⟨Or.inl, fun z => z.elim id (fun y => absurd y.1 (by omega))⟩
  · have bo := pB2 hI (h := o) (r := r) (by omega) (by omega) hr
    have bo2 : -50 ≤ (rowsP σ o r).toInt ∧ (rowsP σ o r).toInt ≤ 50 := bo
    have ed : d.toInt = (rowsP σ h r).toInt - (rowsP σ o r).toInt := by rw [hd, sub_ti (by omega) (by omega) (by omega) (by omega)]
    have b210 : ∀ a' s0 : Int32, Flg a' (∃ o', o' < o + 1 ∧ near g (rowsP σ) h r o') → Flg s0 (∃ o', o' < o + 1 ∧ cros g (rowsP σ) h r o') → wp_X7_troubleAt_b210 Q K42 (nI h) (nI r) (rowsP σ h r) a' (nI o) s0 σ := by
      intro a' s0 f1 f2
      unfold wp_X7_troubleAt_b210
      rw [na1]
      exact hk a' s0 f1 f2
    have b175 : ∀ a' w : Int32, Flg a' (∃ o', o' < o + 1 ∧ near g (rowsP σ) h r o') → (¬ (d.toInt < 0 ↔ w.toInt < 0) ↔ cros g (rowsP σ) h r o) → wp_X7_troubleAt_b175 Q K42 (nI h) (nI r) (rowsP σ h r) a' b (nI o) d w σ := by
      intro a' w f1 hcr
      have yes : ((∃ o', o' < o ∧ cros g (rowsP σ) h r o') ∨ cros g (rowsP σ) h r o) → Flg 1 (∃ o', o' < o + 1 ∧ cros g (rowsP σ) h r o') := fun z => Or.inr ⟨rfl, by rw [ex_s]; exact z⟩
      unfold wp_X7_troubleAt_b175 wp_X7_troubleAt_b192 wp_X7_troubleAt_b202 wp_X7_troubleAt_b205
      rw [tI_le, tI_le, z0]
      refine ⟨fun q => ?_, fun q => b210 a' 1 f1 (yes (Or.inl ?_))⟩
      · have nb : ¬ ∃ o', o' < o ∧ cros g (rowsP σ) h r o' := by
          rcases fb with ⟨_, z⟩ | ⟨z, _⟩
          · exact z
          · rw [z] at q; exact absurd q z1
        have no : ¬ cros g (rowsP σ) h r o → Flg 0 (∃ o', o' < o + 1 ∧ cros g (rowsP σ) h r o') := fun z => Or.inl ⟨rfl, by rw [ex_s]; exact fun y => y.elim nb z⟩
        refine ⟨fun q1 => ⟨fun q2 => ⟨fun _ => b210 a' 0 f1 (no ?_), fun q3 => absurd rfl q3⟩, fun q2 => ⟨fun q3 => absurd q3 (by decide), fun _ => b210 a' 1 f1 (yes (Or.inr ?_))⟩⟩, fun q1 => ⟨fun q2 => ⟨fun q3 => absurd q3 (by decide), fun _ => b210 a' 1 f1 (yes (Or.inr ?_))⟩, fun q2 => ⟨fun _ => b210 a' 0 f1 (no ?_), fun q3 => absurd rfl q3⟩⟩⟩
        · intro z
          have := hcr.mpr z
          omega
        · exact hcr.mp (by omega)
        · exact hcr.mp (by omega)
        · intro z
          have := hcr.mpr z
          omega
      · rcases fb with ⟨z, _⟩ | ⟨_, z⟩
        · exact absurd z q
        · exact z
    have b107 : ∀ s0 : Int32, Flg s0 (∃ o', o' < o + 1 ∧ near g (rowsP σ) h r o') → wp_X7_troubleAt_b107 Q K42 (nI h) (nI r) (rowsP σ h r) b (nI o) d s0 σ := by
      intro s0 f1
      unfold wp_X7_troubleAt_b107 wp_X7_troubleAt_b134 wp_X7_troubleAt_b135
      rw [pn_in (by omega) (by omega), pn_cl (by omega), o2, pn_le (by omega) (by omega), pn_in (by omega) (by omega), pn_cl (show h < 2 ^ 31 by omega), h2, pn_le (by omega) (by omega)]
      refine ⟨by omega, fun q => ⟨fun _ => b175 s0 d f1 ⟨fun z => absurd Iff.rfl z, fun z => absurd z.1 (by omega)⟩, fun q3 => absurd rfl q3⟩, fun q => ⟨by omega, fun q2 => ⟨fun _ => b175 s0 d f1 ⟨fun z => absurd Iff.rfl z, fun z => absurd z.2.1 (by omega)⟩, fun q3 => absurd rfl q3⟩, fun q2 => ⟨fun q3 => absurd q3 z1, fun _ => ?_⟩⟩⟩
      have b1 := pB2 hI (h := h) (r := r - 1) hn (by omega) (by omega)
      have b2 := pB2 hI (h := o) (r := r - 1) (by omega) (by omega) (by omega)
      rw [nm16, nI_add, ns1 (by omega), nm16, nI_add, ns1 (by omega), pn_in (by omega) (by omega), pn_in (by omega) (by omega), pn_cl (by omega), pn_cl (by omega), show 16 * h + r - 1 = 16 * h + (r - 1) by omega, show 16 * o + r - 1 = 16 * o + (r - 1) by omega, planM hp hn (by omega), planM hp (by omega) (by omega)]
      have b1' : -50 ≤ (rowsP σ h (r - 1)).toInt ∧ (rowsP σ h (r - 1)).toInt ≤ 50 := b1
      have b2' : -50 ≤ (rowsP σ o (r - 1)).toInt ∧ (rowsP σ o (r - 1)).toInt ≤ 50 := b2
      refine ⟨by omega, by omega, b175 s0 _ f1 ?_⟩
      rw [sub_ti (by omega) (by omega) (by omega) (by omega), ed]
      unfold cros
      omega
    have b93 : ¬ (∃ o', o' < o ∧ near g (rowsP σ) h r o') → ∀ s0 : Int32, (s0.toInt = d.toInt ∧ 0 ≤ d.toInt ∨ s0.toInt = - d.toInt ∧ d.toInt < 0) → wp_X7_troubleAt_b93 Q K42 (nI h) (nI r) (rowsP σ h r) b (nI o) d s0 σ := by
      intro nn s0 hs
      unfold wp_X7_troubleAt_b93 wp_X7_troubleAt_b102
      rw [c0, t0.2.1, tI_lt, tI_n (by omega)]
      refine ⟨by unfold vp_in; decide, fun q => b107 0 (Or.inl ⟨rfl, ?_⟩), fun q => b107 1 (Or.inr ⟨rfl, ?_⟩)⟩
      · rw [ex_s]
        rintro (z | ⟨y1, y2, y3⟩)
        · exact nn z
        · omega
      · rw [ex_s]
        exact Or.inr ⟨by omega, by omega, by omega⟩
    refine ⟨fun q => ?_, fun q => ?_⟩
    · have nn : ¬ ∃ o', o' < o ∧ near g (rowsP σ) h r o' := by
        rcases fa with ⟨_, z⟩ | ⟨z, _⟩
        · exact z
        · rw [z] at q; exact absurd q z1
      have en : (-d).toInt = - d.toInt := by
        rw [Int32.toInt_neg]
        exact Int.bmod_eq_of_le (by omega) (by omega)
      rw [tI_le, z0]
      exact ⟨fun q2 => b93 nn d (Or.inl ⟨rfl, q2⟩), fun q2 => b93 nn _ (Or.inr ⟨en, by omega⟩)⟩
    · unfold wp_X7_troubleAt_b102
      refine b107 1 (Or.inr ⟨rfl, ?_⟩)
      rw [ex_s]
      rcases fa with ⟨z, _⟩ | ⟨_, z⟩
      · exact absurd z q
      · exact Or.inl z
theorem troubleM_ok {h r : Nat} (hI : Inv g σ) (hn : h < g.gN) (hr : r < g.gH) (hc : g.co h ≤ r) (hq : ∀ v, Tr g (rowsP σ) h r v → Q (if v = 0 then -9 else nI v) σ) : wp_X7_troubleAt (nI h) (nI r) Q σ := by
  have hd := hI.1
  have hd' := hd.1
  have hp := hI.2.2.2.2.2.1
  unfold wp_X7_troubleAt
  rw [nm16, nI_add, pn_in (by omega) (by omega), pn_cl (by omega), planM hp hn (by omega)]
  refine ⟨by omega, fun v hv => isIn_ok hd ?_⟩
  subst hv
  refine i2_eq (fun a => ?_) (fun a => hq 1 (Or.inl ⟨rfl, a⟩))
  obtain ⟨c, hcw, ec⟩ := of_pin a
  have ecn : (rowsP σ h r).toInt.toNat = c := by rw [ec, tI_n (by omega)]; omega
  have hB : ∀ {Q' : Int32 → St → Prop}, Q' (bI (bitP (g.bar r) c)) σ → wp_X7_isBarred (nI r) (rowsP σ h r) Q' σ := fun h => by rw [ec]; exact isBarred_ok hd hI.2.1 (by omega) (by omega) h
  refine hB (i2_eq (fun b => hq 2 (Or.inr ⟨a, Or.inl ⟨rfl, by rw [ecn]; exact b⟩⟩)) (fun b => ?_))
  have b' : ¬ bitP (g.bar r) (rowsP σ h r).toInt.toNat := by rw [ecn]; exact b
  refine pk_loop (fun n i (s : Int32 × Int32) => wp_X7_troubleAt_l42 Q n (nI h) (nI r) (rowsP σ h r) s.1 s.2 (nI i) σ) (fun i s => i ≤ h ∧ Flg s.1 (∃ o', o' < i ∧ near g (rowsP σ) h r o') ∧ Flg s.2 (∃ o', o' < i ∧ cros g (rowsP σ) h r o')) h 0 (0, 0) (by omega) ⟨Nat.zero_le _, Or.inl ⟨rfl, by rintro ⟨o, h, _⟩; omega⟩, Or.inl ⟨rfl, by rintro ⟨o, h, _⟩; omega⟩⟩ (fun n s hs => ?_) (fun n i s hi hs hk => ?_)
  · show wp_X7_troubleAt_b42 _ _ _ _ _ _ _ _ _
    unfold wp_X7_troubleAt_b42
    obtain ⟨-, f1, f2⟩ := hs
    refine ⟨fun _ => ⟨fun q => ?_, fun q => ?_⟩, fun q => absurd (nI_le (Nat.le_refl _) (by omega)) q⟩
    · have n1 : ∀ o, o < h → ¬ near g (rowsP σ) h r o := by
        rcases f1 with ⟨_, z⟩ | ⟨z, _⟩
        · exact fun o ho y => z ⟨o, ho, y⟩
        · rw [z] at q; exact absurd q (by decide)
      refine ⟨fun q2 => hq 0 (Or.inr ⟨a, Or.inr ⟨b', Or.inr ⟨n1, Or.inr ⟨rfl, ?_⟩⟩⟩⟩), fun q2 => hq 4 (Or.inr ⟨a, Or.inr ⟨b', Or.inr ⟨n1, Or.inl ⟨rfl, ?_⟩⟩⟩⟩)⟩
      · rcases f2 with ⟨_, z⟩ | ⟨z, _⟩
        · exact fun o ho y => z ⟨o, ho, y⟩
        · rw [z] at q2; exact absurd q2 (by decide)
      · rcases f2 with ⟨z, _⟩ | ⟨_, z⟩
        · exact absurd z q2
        · exact z
    · refine hq 3 (Or.inr ⟨a, Or.inr ⟨b', Or.inl ⟨rfl, ?_⟩⟩⟩)
      rcases f1 with ⟨z, _⟩ | ⟨_, z⟩
      · exact absurd z q
      · exact z
  · show wp_X7_troubleAt_b42 _ _ _ _ _ _ _ _ _
    exact stepJ hI hn hr hc hi ⟨a.1, by have := a.2; omega⟩ hs.2.1 hs.2.2 (fun a b f1 f2 => hk (a, b) ⟨by omega, f1, f2⟩)
theorem judgeM_ok {x : Nat} (hI : Inv g σ) (hx : x < 3) (hq : Clr g (rowsP σ) g.gH 0 → Q (-9) σ) (hq0 : ∀ r h v, Fst g (rowsP σ) r h v → Q (nI (if x = 0 then v else if x = 1 then h else r)) σ) : wp_X7_judge (nI x) Q σ := by
  have hd := hI.1
  have hd' := hd.1
  have e78 := hd.2.2.2.2.2.1
  have e79 := hd.2.2.2.2.2.2
  unfold wp_X7_judge
  refine in_ok (g_t (by rw [z0, t_2, tI_n (by omega)]; omega) ?_)
  refine pk_loop (fun n i (_ : Unit) => wp_X7_judge_l13 Q n (nI x) (nI i) σ) (fun i _ => Clr g (rowsP σ) i 0) g.gH 0 () (by omega) (fun r' h' _ _ _ q => by omega) (fun n _ hτ => ?_) (fun n i _ hi hτ hk => ?_)
  · show wp_X7_judge_b13 _ _ _ _ _
    unfold wp_X7_judge_b13
    rw [c0, e78]
    exact ⟨vin0_2, fun _ => hq hτ, fun q => absurd (nI_le (Nat.le_refl _) (by omega)) q⟩
  · show wp_X7_judge_b13 _ _ _ _ _
    unfold wp_X7_judge_b13
    rw [c0, e78]
    refine ⟨vin0_2, fun q => absurd q (nI_ge hi (by omega)), fun _ => ?_⟩
    refine pk_loop (fun n j (_ : Unit) => wp_X7_judge_l25 Q _ n (nI x) (nI i) (nI j) σ) (fun j _ => Clr g (rowsP σ) i j) g.gN 0 () (by omega) hτ (fun n _ hυ => ?_) (fun n j _ hj hυ hk2 => ?_)
    · show wp_X7_judge_b25 _ _ _ _ _ _ _
      unfold wp_X7_judge_b25
      rw [c0, e79, na1]
      exact ⟨vin0_2, fun _ => hk () (fun r' h' a1 a2 a3 a4 => hυ r' h' a1 a2 a3 (by omega)), fun q => absurd (nI_le (Nat.le_refl _) (by omega)) q⟩
    · show wp_X7_judge_b25 _ _ _ _ _ _ _
      unfold wp_X7_judge_b25
      obtain ⟨⟨-, h2, h3⟩, -⟩ := hI.2.2.1 j hj
      rw [c0, e79, pn_in (by omega) (by omega), pn_cl (by omega), h2, pn_lt (by omega) (by omega)]
      have fin : ∀ (K13 : Int32 → Int32 → St → Prop) (K25 : Int32 → Int32 → Int32 → St → Prop) (v : Nat), v < 5 → (v = 0 → Clr g (rowsP σ) i (j + 1)) → (v ≠ 0 → Fst g (rowsP σ) i j v) → (Clr g (rowsP σ) i (j + 1) → K25 (nI x) (nI i) (nI (j + 1)) σ) → wp_X7_judge_b56 Q K13 K25 (nI x) (nI i) (nI j) (if v = 0 then -9 else nI v) σ := by
        intro K13 K25 v hv v0 v1 hk3
        unfold wp_X7_judge_b56
        rw [na1]
        by_cases e : v = 0
        · rw [if_pos e]
          exact ⟨fun _ => hk3 (v0 e), fun q => absurd rfl q⟩
        · rw [if_neg e]
          have H := hq0 _ _ _ (v1 e)
          refine ⟨fun q => ?_, fun _ => ⟨fun q => ?_, fun q => ⟨fun q2 => ?_, fun q2 => ?_⟩⟩⟩
          · rw [tI_eq, tI_n (by omega), t_m9] at q; omega
          · have : x = 0 := (nI_eq (b := 0) (by omega) (by omega)).mp q
            rw [if_pos this] at H; exact H
          · have : x = 1 := (nI_eq (b := 1) (by omega) (by omega)).mp q2
            rw [if_neg (by omega), if_pos this] at H; exact H
          · have n0 : x ≠ 0 := fun z => q (by rw [z]; rfl)
            have n1 : x ≠ 1 := fun z => q2 (by rw [z]; rfl)
            rw [if_neg n0, if_neg n1] at H; exact H
      have ext : Tr g (rowsP σ) j i 0 ∨ ¬ g.co j ≤ i → Clr g (rowsP σ) i (j + 1) := by
        intro z r' h' a1 a2 a3 a4
        by_cases e : r' = i ∧ h' = j
        · obtain ⟨rfl, rfl⟩ := e
          rcases z with z | z
          · exact z
          · exact absurd a3 z
        · exact hυ r' h' a1 a2 a3 (by omega)
      refine ⟨vin0_2, fun q => absurd q (nI_ge hj (by omega)), fun _ => ⟨by omega, fun q => fin _ _ 0 (by omega) (fun _ => ext (Or.inr (by omega))) (fun q => absurd rfl q) (fun τ => hk2 () τ), fun q => troubleM_ok hI hj hi (by omega) (fun v hv => ?_)⟩⟩
      have v5 : v < 5 := by
        rcases hv with ⟨e, -⟩ | ⟨-, ⟨e, -⟩ | ⟨-, ⟨e, -⟩ | ⟨-, ⟨e, -⟩ | ⟨e, -⟩⟩⟩⟩ <;> omega
      exact fin _ _ v v5 (fun e => ext (Or.inl (by rw [← e]; exact hv))) (fun e => ⟨hi, hj, by omega, e, hv, hυ⟩) (fun τ => hk2 () τ)
theorem Clr.no {P : PL} {r h v : Nat} (a : Clr g P g.gH 0) (b : Fst g P r h v) : False := by
  obtain ⟨b1, b2, b3, b4, b5, b6⟩ := b
  exact b4 ((a r h b1 b2 b3 (Or.inl b1)).uq b5).symm
theorem rows_cor {τ : St} (hd : IDim g σ) (hc : Cor σ τ) {h r v : Nat} : Fst g (rowsP σ) r h v → Fst g (rowsP τ) r h v := by
  have hd' := hd.1
  have e : ∀ o, o < 3 → ∀ j, rowsP τ o j = rowsP σ o j := fun o ho j => hc.1 _ _ (by unfold Scr; omega)
  have T : ∀ h r v, h < g.gN → Tr g (rowsP σ) h r v → Tr g (rowsP τ) h r v := by
    intro h r v hn z
    have e1 : ∀ o, o < h → (near g (rowsP τ) h r o ↔ near g (rowsP σ) h r o) := fun o ho => by unfold near; rw [e h (by omega), e o (by omega)]
    have e2 : ∀ o, o < h → (cros g (rowsP τ) h r o ↔ cros g (rowsP σ) h r o) := fun o ho => by unfold cros; rw [e h (by omega), e o (by omega), e h (by omega), e o (by omega)]
    unfold Tr at z ⊢
    rw [e h (by omega)]
    rcases z with z | ⟨z1, z | ⟨z2, ⟨z3, o, ho, z4⟩ | ⟨z3, ⟨z4, o, ho, z5⟩ | ⟨z4, z5⟩⟩⟩⟩
    · exact Or.inl z
    · exact Or.inr ⟨z1, Or.inl z⟩
    · exact Or.inr ⟨z1, Or.inr ⟨z2, Or.inl ⟨z3, o, ho, (e1 o ho).mpr z4⟩⟩⟩
    · exact Or.inr ⟨z1, Or.inr ⟨z2, Or.inr ⟨fun o ho q => z3 o ho ((e1 o ho).mp q), Or.inl ⟨z4, o, ho, (e2 o ho).mpr z5⟩⟩⟩⟩
    · exact Or.inr ⟨z1, Or.inr ⟨z2, Or.inr ⟨fun o ho q => z3 o ho ((e1 o ho).mp q), Or.inr ⟨z4, fun o ho q => z5 o ho ((e2 o ho).mp q)⟩⟩⟩⟩
  rintro ⟨a1, a2, a3, a4, a5, a6⟩
  exact ⟨a1, a2, a3, a4, T _ _ _ a2 a5, fun r' h' b1 b2 b3 b4 => T _ _ _ b2 (a6 r' h' b1 b2 b3 b4)⟩
theorem clr_cor {τ : St} (hd : IDim g σ) (hc : Cor σ τ) {r h : Nat} (a : Clr g (rowsP σ) r h) : Clr g (rowsP τ) r h := by
  have hd' := hd.1
  intro r' h' b1 b2 b3 b4
  have e : ∀ o, o < 3 → ∀ j, rowsP τ o j = rowsP σ o j := fun o ho j => hc.1 _ _ (by unfold Scr; omega)
  have e1 : ∀ o, o < h' → (near g (rowsP τ) h' r' o ↔ near g (rowsP σ) h' r' o) := fun o ho => by unfold near; rw [e h' (by omega), e o (by omega)]
  have e2 : ∀ o, o < h' → (cros g (rowsP τ) h' r' o ↔ cros g (rowsP σ) h' r' o) := fun o ho => by unfold cros; rw [e h' (by omega), e o (by omega), e h' (by omega), e o (by omega)]
  have z := a r' h' b1 b2 b3 b4
  unfold Tr at z ⊢
  rw [e h' (by omega)]
  rcases z with z | ⟨z1, z | ⟨z2, ⟨z3, o, ho, z4⟩ | ⟨z3, ⟨z4, o, ho, z5⟩ | ⟨z4, z5⟩⟩⟩⟩
  · exact Or.inl z
  · exact Or.inr ⟨z1, Or.inl z⟩
  · exact Or.inr ⟨z1, Or.inr ⟨z2, Or.inl ⟨z3, o, ho, (e1 o ho).mpr z4⟩⟩⟩
  · exact Or.inr ⟨z1, Or.inr ⟨z2, Or.inr ⟨fun o ho q => z3 o ho ((e1 o ho).mp q), Or.inl ⟨z4, o, ho, (e2 o ho).mpr z5⟩⟩⟩⟩
  · exact Or.inr ⟨z1, Or.inr ⟨z2, Or.inr ⟨fun o ho q => z3 o ho ((e1 o ho).mp q), Or.inr ⟨z4, fun o ho q => z5 o ho ((e2 o ho).mp q)⟩⟩⟩⟩
theorem op_judge (hI : Inv g σ) (hK : ∀ τ, Inv g τ → K τ) (x : Int32) : wp_X6_judge x (fun r σ1 => wp_X7_judge x (fun r2 σ2 => (r = r2 → K σ2) ∧ (¬ r = r2 → F)) σ1) σ := by
  have hd := hI.1
  have hd' := hd.1
  have t0 := hI.2.2.2.1 0 (by omega)
  have bad : ¬ (0 ≤ x.toInt ∧ x.toInt ≤ 2) → wp_X7_judge x (fun r2 σ2 => ((-1 : Int32) = r2 → K σ2) ∧ (¬ (-1 : Int32) = r2 → F)) σ := by
    intro n
    unfold wp_X7_judge
    exact in_ok (g_f (by rw [z0, t_2]; exact n) (eq_k rfl (hK σ hI)))
  unfold wp_X6_judge
  rw [tI_lt, tI_le, z0, t_2]
  refine ⟨fun q => bad (by omega), fun q => ⟨fun q2 => ?_, fun q2 => bad (by omega)⟩⟩
  obtain ⟨k, hk, rfl⟩ := of_pin (x := x) (n := 3) ⟨by omega, by omega⟩
  rw [c0, t0.1]
  refine ⟨by unfold vp_in; decide, noneX_ok hI (fun τ hc hcl => ⟨fun q => absurd q (by decide), fun _ => judgeM_ok (hI.cor hc) hk (fun _ => eq_k rfl (hK _ (hI.cor hc))) (fun r h v hf => ((clr_cor hd hc hcl).no hf).elim)⟩) (fun τ r h v hc hf f0 f1 f2 => ⟨fun _ => ?_, fun q => absurd rfl q⟩)⟩
  have hf := rows_cor hd hc hf
  rw [f0, f1, f2, show (0 : Int32) = nI 0 from rfl, show (1 : Int32) = nI 1 from rfl, pn_eq (by omega) (by omega), pn_eq (by omega) (by omega)]
  have go : ∀ w : Nat, w = (if k = 0 then v else if k = 1 then h else r) → wp_X7_judge (nI k) (fun r2 σ2 => (nI w = r2 → K σ2) ∧ (¬ nI w = r2 → F)) τ := by
    intro w hw
    refine judgeM_ok (hI.cor hc) hk (fun hcl => (hcl.no hf).elim) (fun r' h' v' hf' => eq_k ?_ (hK _ (hI.cor hc)))
    obtain ⟨rfl, rfl, rfl⟩ := hf.uq hf'
    rw [hw]
  exact ⟨fun q => go v (by rw [if_pos q]), fun q => ⟨fun q2 => go h (by rw [if_neg q, if_pos q2]), fun q2 => go r (by rw [if_neg q, if_neg q2])⟩⟩
end JM
