theorem nar_b1 : vp_nar .boolean (1 : Int32) = 1 := by decide
theorem rcp_img {i k j : Nat} (hi : i < 2) (h : RCp (imK i) k j) : RImg k j := by
  have : i = 0 ∨ i = 1 := by omega
  rcases this with rfl | rfl
  · rw [show imK 0 = 28 from rfl] at h
    rcases h with h | h | h
    · exact Or.inr (Or.inl (Or.inl (by omega)))
    · exact Or.inr (Or.inr (Or.inr (Or.inl (Or.inr (Or.inl (by omega))))))
    · exact Or.inr (Or.inr (Or.inr (Or.inl (Or.inl (by omega)))))
  · rw [show imK 1 = 35 from rfl] at h
    rcases h with h | h | h
    · exact Or.inr (Or.inr (Or.inl (Or.inl (by omega))))
    · exact Or.inr (Or.inr (Or.inr (Or.inr (Or.inr (Or.inl (by omega))))))
    · exact Or.inr (Or.inr (Or.inr (Or.inr (Or.inl (by omega)))))
theorem rcm_img {i k j : Nat} (hi : i < 2) (h : RCm (1 + i) k j) : RImg k j := by
  have : i = 0 ∨ i = 1 := by omega
  rcases this with rfl | rfl
  · rcases h with h | h | h
    · exact Or.inr (Or.inl (Or.inr (by omega)))
    · exact Or.inr (Or.inr (Or.inr (Or.inl (Or.inr (Or.inr (Or.inl (by omega)))))))
    · exact Or.inr (Or.inr (Or.inr (Or.inl (Or.inr (Or.inr (Or.inr (by omega)))))))
  · rcases h with h | h | h
    · exact Or.inr (Or.inr (Or.inl (Or.inr (by omega))))
    · exact Or.inr (Or.inr (Or.inr (Or.inr (Or.inr (Or.inr (Or.inl (by omega)))))))
    · exact Or.inr (Or.inr (Or.inr (Or.inr (Or.inr (Or.inr (Or.inr (by omega)))))))
theorem rpl_cp {a m D b k j : Nat} (h1 : a + 3 ≤ D ∨ D + 7 ≤ a) (h2 : a + 3 ≤ 42) (h3 : m + 48 ≤ 48 * b ∨ 48 * b + 48 ≤ m) (h4 : D < 42) (h : RPlan a m k j) (q : RCp D k j ∨ RCm b k j) : False := by
  rcases h with h | h <;> rcases q with (q | q | q) | (q | q | q) <;> omega
theorem rma_cp {a m D b k j : Nat} (h1 : a + 7 ≤ D ∨ D + 7 ≤ a) (h2 : a + 7 ≤ 42) (h3 : m ≠ b) (h4 : D + 7 ≤ 42) (h : RMark a m k j) (q : RCp D k j ∨ RCm b k j) : False := by
  rcases h with h | h | h | h <;> rcases q with (q | q | q) | (q | q | q) <;> omega
section KB
variable {g : Geo} {σ : St} {K : St → Prop} {F : Prop}
theorem CpX.s42 {D S i : Nat} {v : Int32} {σ τ : St} (hD : D + 6 < 42) (h : CpX D S σ τ) : CpX D S (sI σ 42 i v) (sI τ 42 i v) ∨ True := Or.inr trivial
theorem keep_one (hI : Inv g σ) (hK : ∀ τ, Inv g τ → K τ) {i D : Nat} (hi : i < 2) (hD : D = imK i) {τ : St} (hX : CpX D 20 σ τ) : wp_X7_keep (nI i) (fun r2 σ2 => ((sI τ 42 i 1).1 20 3 = r2 → K σ2) ∧ (¬ (sI τ 42 i 1).1 20 3 = r2 → F)) (sI τ 42 i 1) := by
  have hd := hI.1
  have hh := hI.2.2.1
  have hD2 := imK_or i
  obtain ⟨M, -, m1, m2, -⟩ := hI.2.2.2.2.2.2.1
  unfold wp_X7_keep
  refine in_ok (g_t ?_ ?_)
  · rw [z0, t_1, tI_n (by omega)]; omega
  rw [show (1 : Int32) + nI i = nI (1 + i) from nI_add 1 i, show (0 : Int32) = nI 0 from rfl]
  refine cpM_ok (by omega) (by omega) (by omega) (fun υ hM => ?_)
  rw [pn_in (by omega) (by omega), pn_cl (by omega), pn_cl (by omega), nar_b1]
  have hX2 : CpX D 20 (sI σ 42 i 1) (sI τ 42 i 1) := by
    obtain ⟨x1, x2, x3, x4, x5⟩ := hX
    refine ⟨x1, fun k j h1 h2 h3 => ?_, fun j hj => ?_, ?_, fun k j n => ?_⟩
    · rw [sI_1, if_neg (by omega), sI_1, if_neg (by omega)]; exact x2 k j h1 h2 h3
    · rw [sI_1, if_neg (by omega), sI_1, if_neg (by omega), sI_1, if_neg (by omega), sI_1, if_neg (by omega)]; exact x3 j hj
    · rw [sI_1, if_neg (by omega), sI_1, if_neg (by omega)]; exact x4
    · rw [sI_1, sI_1]
      by_cases e : k = 42 ∧ j = i
      · rw [if_pos e, if_pos e]
      · rw [if_neg e, if_neg e]; exact x5 k j n
  have hM2 : CpM 0 (1 + i) (sI τ 42 i 1) υ := hM
  have off1 : Off (fun k j => k = 42 ∧ j = i) σ (sI σ 42 i 1) := offI σ 42 i 1
  have p0 : IPlan g 22 0 (sI σ 42 i 1) := hI.2.2.2.2.2.1.fr hd hh off1 (by unfold RPlan; omega)
  have q0 : IMark g 20 0 (sI σ 42 i 1) := hI.2.2.2.2.2.2.1.fr off1 (by unfold RMark; omega)
  have hd1 : IDim g (sI σ 42 i 1) := hd.fr off1 (by unfold RDim; omega)
  have hh1 : IHea g (sI σ 42 i 1) := hh.fr hd.1.2.2.2.2 off1 (by unfold RHea; omega)
  have pn := cp_plan (a := 0) hd1 hh1 hX2 hM2 (by omega) (by omega) p0
  have qn := cp_mark hX2 hM2 (by omega) (by omega) q0
  have offA : ∀ k j, ¬ (RCp D k j ∨ RCm (1 + i) k j ∨ (k = 42 ∧ j = i)) → υ.1 k j = σ.1 k j := by
    intro k j n
    rw [hM2.2.2.2.2 _ _ (fun z => n (Or.inr (Or.inl z))), sI_1, if_neg (fun z => n (Or.inr (Or.inr z)))]
    exact hX.2.2.2.2 _ _ (fun z => n (Or.inl z))
  refine ⟨by omega, vin0_3, ?_⟩
  have e42 : υ.1 42 i = 1 := by rw [hM2.2.2.2.2 _ _ (by unfold RCm; omega), sI_1, if_pos ⟨rfl, rfl⟩]
  have e20 : (sI τ 42 i 1).1 20 3 = nI M := by rw [sI_1, if_neg (by omega), hX.2.2.2.2 _ _ (by unfold RCp; omega), m1]
  refine eq_k ?_ (hK _ (hI.setImg (fun k j n => ?_) ?_ ?_))
  · rw [e20, sI_1, if_neg (by omega), offA _ _ (by unfold RCp RCm; omega), m2]
  · have n0 : ¬ (k = 99 ∧ j = i) := fun z => n (Or.inl (by omega))
    have n1 : ¬ (k = 42 ∧ j = i) := fun z => n (Or.inl (by omega))
    rw [sI_1, if_neg n0, offA _ _ (fun z => by
      rcases z with z | z | z
      · rw [hD] at z; exact n (rcp_img hi z)
      · exact n (rcm_img hi z)
      · exact n1 z)]
  · rw [sI_2, hM.1, sI_2]; exact hX.1
  · intro i' hi'
    have old := hI.2.2.2.2.2.2.2.1 i' hi'
    by_cases e : i' = i
    · subst e
      have pn2 : IPlan g (D + 2) (48 * (1 + i')) (sI υ 99 i' 1) := pn.fr (hd1.fr (τ := υ) (S := fun k j => RCp D k j ∨ RCm (1 + i') k j) (fun k j n => by rw [hM2.2.2.2.2 _ _ (fun z => n (Or.inr z))]; exact hX2.2.2.2.2 _ _ (fun z => n (Or.inl z))) (by unfold RDim RCp RCm; omega)) (hh1.fr hd.1.2.2.2.2 (τ := υ) (S := fun k j => RCp D k j ∨ RCm (1 + i') k j) (fun k j n => by rw [hM2.2.2.2.2 _ _ (fun z => n (Or.inr z))]; exact hX2.2.2.2.2 _ _ (fun z => n (Or.inl z))) (by unfold RHea RCp RCm; omega)) (offI υ 99 i' 1) (by unfold RPlan; omega)
      have qn2 : IMark g D (1 + i') (sI υ 99 i' 1) := qn.fr (offI υ 99 i' 1) (by unfold RMark; omega)
      rw [sI_1, if_neg (by omega), e42, sI_1, if_pos ⟨rfl, rfl⟩]
      rw [show 1 + i' = i' + 1 by omega, hD] at pn2 qn2
      exact ⟨Or.inr rfl, rfl, fun _ => ⟨pn2, qn2⟩⟩
    · have hD3 := imK_or i'
      have hne : imK i' ≠ D := by
        rw [hD]
        have h1 : i = 0 ∨ i = 1 := by omega
        have h2 : i' = 0 ∨ i' = 1 := by omega
        rcases h1 with rfl | rfl <;> rcases h2 with rfl | rfl <;> first | exact absurd rfl e | decide
      have offB : Off (fun k j => RCp D k j ∨ RCm (1 + i) k j ∨ (k = 42 ∧ j = i) ∨ (k = 99 ∧ j = i)) σ (sI υ 99 i 1) := by
        intro k j n
        rw [sI_1, if_neg (fun z => n (Or.inr (Or.inr (Or.inr z))))]
        exact offA k j (fun z => n (by rcases z with z | z | z <;> simp [z]))
      rw [offB 42 i' (by unfold RCp RCm; omega), offB 99 i' (by unfold RCp RCm; omega)]
      refine ⟨old.1, old.2.1, fun z => ⟨(old.2.2 z).1.fr hd hh offB ?_, (old.2.2 z).2.fr offB ?_⟩⟩
      · intro k j r q
        rcases q with q | q | q | q
        · exact rpl_cp (b := 1 + i) (by omega) (by omega) (by omega) (by omega) r (Or.inl q)
        · exact rpl_cp (D := D) (by omega) (by omega) (by omega) (by omega) r (Or.inr q)
        · rcases r with r | r <;> omega
        · rcases r with r | r <;> omega
      · intro k j r q
        rcases q with q | q | q | q
        · exact rma_cp (b := 1 + i) (by omega) (by omega) (by omega) (by omega) r (Or.inl q)
        · exact rma_cp (D := D) (by omega) (by omega) (by omega) (by omega) r (Or.inr q)
        · rcases r with r | r | r | r <;> omega
        · rcases r with r | r | r | r <;> omega
theorem op_keep (hI : Inv g σ) (hK : ∀ τ, Inv g τ → K τ) (x : Int32) : wp_X6_keep x (fun r σ1 => wp_X7_keep x (fun r2 σ2 => (r = r2 → K σ2) ∧ (¬ r = r2 → F)) σ1) σ := by
  have k0 := hK σ hI
  have bad : ¬ (0 ≤ x.toInt ∧ x.toInt ≤ 1) → wp_X7_keep x (fun r2 σ2 => ((-1 : Int32) = r2 → K σ2) ∧ (¬ (-1 : Int32) = r2 → F)) σ := by
    intro n
    unfold wp_X7_keep
    exact in_ok (g_f (by rw [z0, t_1]; exact n) (eq_k rfl k0))
  unfold wp_X6_keep
  rw [tI_lt, tI_lt, z0, t_2]
  refine ⟨fun a => bad (by omega), fun a => ⟨fun b => ?_, fun b => bad (by omega)⟩⟩
  obtain ⟨i, hi, rfl⟩ := of_pin (x := x) (n := 2) ⟨by omega, by omega⟩
  unfold wp_X6_imageOf
  rw [pn_in (by omega) (by omega), pn_cl (by omega), nar_b1, show (0 : Int32) = nI 0 from rfl, pn_eq (by omega) (by omega)]
  refine ⟨fun e => ⟨fun _ => cpX_28_20 (fun τ hX => ⟨by omega, keep_one hI hK hi (by rw [e]; rfl) hX⟩), fun q => absurd q (by omega), Or.inl rfl⟩, fun e => ⟨fun q => absurd q (by omega), fun _ => cpX_35_20 (fun τ hX => ⟨by omega, keep_one hI hK hi (by rw [show i = 1 by omega]; rfl) hX⟩), Or.inr rfl⟩⟩
theorem back_one (hI : Inv g σ) (hK : ∀ τ, Inv g τ → K τ) {i D : Nat} (hi : i < 2) (hD : D = imK i) (hk : σ.1 42 i = 1) {τ : St} (hX : CpX 20 D σ τ) : wp_X7_back (nI i) (fun r2 σ2 => (τ.1 20 3 = r2 → K σ2) ∧ (¬ τ.1 20 3 = r2 → F)) τ := by
  have hd := hI.1
  have hh := hI.2.2.1
  have hD2 := imK_or i
  obtain ⟨i1, i2, i3⟩ := hI.2.2.2.2.2.2.2.1 i hi
  have i3 := i3 hk
  rw [← hD] at i3
  unfold wp_X7_back
  refine in_ok (g_t ?_ ?_)
  · rw [z0, t_1, tI_n (by omega)]; omega
  rw [pn_in (by omega) (by omega), pn_cl (by omega), hX.2.2.2.2 99 i (by unfold RCp; omega), i2, hk]
  refine ⟨by omega, fun q => absurd q (by decide), fun _ => ?_⟩
  rw [show (1 : Int32) + nI i = nI (1 + i) from nI_add 1 i, show (0 : Int32) = nI 0 from rfl]
  refine cpM_ok (by omega) (by omega) (by omega) (fun υ hM => ?_)
  rw [pn_cl (by omega)]
  have pn := cp_plan (a := 1 + i) (b := 0) hd hh hX hM (by omega) (by omega) (by rw [show 1 + i = i + 1 by omega]; exact i3.1)
  have qn := cp_mark hX hM (by omega) (by omega) (by rw [show 1 + i = i + 1 by omega]; exact i3.2)
  refine ⟨vin0_3, eq_k ?_ (hK _ (hI.setBoth (fun k j n => ?_) ?_ pn qn))⟩
  · obtain ⟨M, -, m1, m2, -⟩ := qn
    rw [m2, ← m1, hM.2.2.2.2 _ _ (by unfold RCm; omega)]
  · rw [hM.2.2.2.2 _ _ (fun z => n (by
        rcases z with z | z | z
        · exact Or.inl (Or.inr (by omega))
        · exact Or.inr (Or.inr (Or.inr (Or.inl (by omega))))
        · exact Or.inr (Or.inr (Or.inr (Or.inr (by omega)))))), hX.2.2.2.2 _ _ (fun z => n (by
        rcases z with z | z | z
        · exact Or.inl (Or.inl (by omega))
        · exact Or.inr (Or.inr (Or.inl (by omega)))
        · exact Or.inr (Or.inl (by omega))))]
  · rw [hM.1, hX.1]
theorem op_back (hI : Inv g σ) (hK : ∀ τ, Inv g τ → K τ) (x : Int32) : wp_X6_back x (fun r σ1 => wp_X7_back x (fun r2 σ2 => (r = r2 → K σ2) ∧ (¬ r = r2 → F)) σ1) σ := by
  have k0 := hK σ hI
  have bad : ¬ (0 ≤ x.toInt ∧ x.toInt ≤ 1) → wp_X7_back x (fun r2 σ2 => ((-1 : Int32) = r2 → K σ2) ∧ (¬ (-1 : Int32) = r2 → F)) σ := by
    intro n
    unfold wp_X7_back
    exact in_ok (g_f (by rw [z0, t_1]; exact n) (eq_k rfl k0))
  unfold wp_X6_back
  rw [tI_lt, tI_lt, z0, t_2]
  refine ⟨fun a => bad (by omega), fun a => ⟨fun b => ?_, fun b => bad (by omega)⟩⟩
  obtain ⟨i, hi, rfl⟩ := of_pin (x := x) (n := 2) ⟨by omega, by omega⟩
  obtain ⟨i1, i2, i3⟩ := hI.2.2.2.2.2.2.2.1 i hi
  rw [pn_in (by omega) (by omega), pn_cl (by omega)]
  refine ⟨by omega, fun e => ?_, fun e => ?_⟩
  · unfold wp_X7_back
    refine in_ok (g_t (by rw [z0, t_1]; omega) ?_)
    rw [pn_in (by omega) (by omega), pn_cl (by omega), i2]
    exact ⟨by omega, fun _ => eq_k rfl k0, fun q => absurd e q⟩
  · have hk : σ.1 42 i = 1 := by rcases i1 with q | q; exact absurd q e; exact q
    unfold wp_X6_imageOf
    rw [show (0 : Int32) = nI 0 from rfl, pn_eq (by omega) (by omega)]
    refine ⟨fun e => ⟨fun _ => cpX_20_28 (fun τ hX => back_one hI hK hi (by rw [e]; rfl) hk hX), fun q => absurd q (by omega), Or.inl rfl⟩, fun e => ⟨fun q => absurd q (by omega), fun _ => cpX_20_35 (fun τ hX => back_one hI hK hi (by rw [show i = 1 by omega]; rfl) hk hX), Or.inr rfl⟩⟩
end KB
