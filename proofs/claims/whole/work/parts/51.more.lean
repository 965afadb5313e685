/-! more -/
theorem PutP.fr {g : Geo} {op : Nat → Nat} {τ υ : St} {fs st : Nat → Nat} (H : PutP g op fs st τ) (f : Fr τ υ) : PutP g op fs st υ := by
  obtain ⟨h1, h2, h3, h4⟩ := H
  refine ⟨by rw [f.1 _ _ (by omega)]; exact h1, by rw [f.1 _ _ (by omega)]; exact h2, fun r hr => by rw [f.1 _ _ (by omega)]; exact h3 r hr, fun i hi => ?_⟩
  obtain ⟨a1, a2, a3⟩ := h4 i hi
  exact ⟨by rw [f.1 _ _ (by omega)]; exact a1, a2, fun r hr => (a3 r hr).of (f.1 _ _ (by omega))⟩
/-- where a place begins matters up to its own course only -/
def Same (p p' : Prm) (r : Nat) : Prop := p'.1 = p.1 ∧ p'.2.2 = p.2.2 ∧ ∀ h, h < 3 → p'.st h = p.st h ∨ p.fs h < r
theorem Same.sy {p p' : Prm} {r : Nat} (H : Same p p' r) : Same p' p r := by
  obtain ⟨h1, h2, h3⟩ := H
  refine ⟨h1.symm, h2.symm, fun h hh => ?_⟩
  rcases h3 h hh with z | z
  · exact Or.inl z.symm
  · exact Or.inr (by show p'.1 h < r; rw [h1]; exact z)
theorem nxt_same {p p' : Prm} {r : Nat} {s t : Nat → Nat} (H : Same p p' r) (hn : nxt p r s t) : nxt p' r s t := by
  obtain ⟨h1, h2, h3⟩ := H
  have efs : ∀ h, p'.fs h = p.fs h := fun h => by show p'.1 h = p.1 h; rw [h1]
  have efx : ∀ h, p'.fx h = p.fx h := fun h => by show p'.2.2.1 h = p.2.2.1 h; rw [h2]
  have egv : ∀ h, p'.gv h = p.gv h := fun h => by show p'.2.2.2.1 h = p.2.2.2.1 h; rw [h2]
  have eop : p'.op = p.op := by show p'.2.2.2.2.1 = p.2.2.2.2.1; rw [h2]
  have egp : p'.gp = p.gp := by show p'.2.2.2.2.2.1 = p.2.2.2.2.2.1; rw [h2]
  obtain ⟨n1, n2, n3, n4⟩ := hn
  refine ⟨fun h hh => ?_, fun a b => ?_, fun a b => ?_, fun a b => ?_⟩
  · have := n1 h hh
    unfold oneOK loE hiE onlyC standP at this ⊢
    rw [efs, efx, egv, eop]
    rcases h3 h hh with z | z
    · rw [z]; exact this
    · by_cases f : p.fx h = true
      · rw [if_pos (Or.inl f), if_pos (Or.inl f), if_pos f] at this ⊢
        exact this
      · have nf : ¬ (p.fx h = true ∨ r ≤ p.fs h) := fun y => y.elim f (by omega)
        rw [if_neg nf, if_neg nf] at this ⊢
        exact this
  · rw [efs] at a b
    have := n2 a b
    rw [efs, efs, egp]; exact this
  · rw [efs] at a b
    have := n3 a b
    rw [efs, efs, egp]; exact this
  · rw [efs] at a b
    have := n4 a b
    rw [efs, efs, egp]; exact this
theorem ln_same {p p' : Prm} {r : Nat} {s t : Nat → Nat} (h1 : p'.1 = p.1) : lnP p' r s t = lnP p r s t := by
  have efs : ∀ h, p'.fs h = p.fs h := fun h => by show p'.1 h = p.1 h; rw [h1]
  unfold lnP lnH
  rw [efs, efs, efs]
theorem br_same {p p' : Prm} {s : Nat → Nat} (h1 : p'.1 = p.1) (h2 : p'.2.2 = p.2.2) : brP p' s = brP p s := by
  have efs : ∀ h, p'.fs h = p.fs h := fun h => by show p'.1 h = p.1 h; rw [h1]
  have ela : p'.la = p.la := by show p'.2.2.2.2.2.2 = p.2.2.2.2.2.2; rw [h2]
  unfold brP mxS mxS mxS mxS mnS mnS mnS mnS
  rw [efs, efs, efs, ela]
theorem can_same {p p' : Prm} : ∀ {k : Nat} {s : Nat → Nat} {b l r : Nat}, r + k = p.la + 1 → Same p p' r → Can p k s b l → Can p' k s b l := by
  intro k
  induction k with
  | zero =>
    intro s b l r _ H h
    exact ⟨h.1.trans (br_same H.1 H.2.1).symm, h.2⟩
  | succ k ih =>
    intro s b l r hr H h
    have ela : p'.la = p.la := by show p'.2.2.2.2.2.2 = p.2.2.2.2.2.2; rw [H.2.1]
    obtain ⟨t, h1, l', h2, h3⟩ := h
    have er : p.la - k = r := by omega
    refine ⟨t, ?_, l', ih (r := r + 1) (by omega) ⟨H.1, H.2.1, fun h hh => (H.2.2 h hh).imp id (fun z => by omega)⟩ h2, ?_⟩
    · rw [ela, er]; rw [er] at h1; exact nxt_same H h1
    · rw [ela, ln_same H.1]; exact h3
theorem xv_same {a : Bool} {p p' : Prm} {k : Nat} {s : Nat → Nat} {v r : Nat} (hr : r + k = p.la + 1) (H : Same p p' r) (h : XV a p k s v) : XV a p' k s v := by
  have ela : p'.la = p.la := by show p'.2.2.2.2.2.2 = p.2.2.2.2.2.2; rw [H.2.1]
  cases k with
  | zero =>
    have h : v = brP p s * 100 * 1000 := h
    show v = brP p' s * 100 * 1000
    rw [br_same H.1 H.2.1]
    exact h
  | succ k =>
    have er : p.la - k = r := by omega
    have H1 : Same p p' (r + 1) := ⟨H.1, H.2.1, fun h hh => (H.2.2 h hh).imp id (fun z => by omega)⟩
    have H2 := H1.sy
    have ecv : ∀ t b l, cV p' r s t b l = cV p r s t b l := fun t b l => by unfold cV; rw [ln_same H.1]
    rcases h with ⟨h1, h2⟩ | ⟨t, b, l, h1, h2, h3, h4⟩
    · refine Or.inl ⟨h1, fun t b l hn hc => ?_⟩
      rw [ela, er] at hn
      exact h2 t b l (by rw [er]; exact nxt_same H.sy hn) (can_same (r := r + 1) (by omega) H2 hc)
    · rw [er] at h1 h3
      refine Or.inr ⟨t, b, l, by rw [ela, er]; exact nxt_same H h1, can_same (r := r + 1) (by omega) H1 h2, by rw [ela, er, ecv]; exact h3, fun ha t' b' l' hn hc => ?_⟩
      rw [ela, er] at hn
      have := h4 ha t' b' l' (by rw [er]; exact nxt_same H.sy hn) (can_same (r := r + 1) (by omega) H2 hc)
      rw [er] at this
      rw [ela, er, ecv]
      exact this
def gF (g : Geo) (S r : Nat) : Nat → Nat := fun i => if i = cB S 3 then r else g.co (memS S i)
def gG (g : Geo) (S c : Nat) : Nat → Nat := fun i => if i = cB S 3 then c else g.cl (memS S i)
def qG (g : Geo) (S r c : Nat) (op : Nat → Nat) : Prm := qL (cB S 3 + 1) (gF g S r) (gG g S c) op (g.tu 0) (g.gH - 1)
def FeaG (g : Geo) (op : Nat → Nat) (S r c : Nat) : Prop := ∃ b l, Can (qG g S r c op) (g.gH - 1 + 1) zz b l
def besS (S : Nat) : Nat := if S % 2 = 0 then 0 else if S / 2 % 2 = 0 then 1 else 2
theorem bes_ok : ∀ S, S < 7 → besS S < 3 ∧ piS S (besS S) = cB S 3 ∧ S / 2 ^ besS S % 2 = 0 ∧ cB S 3 ≤ 2 ∧ ∀ h, h < 3 → h ≠ besS S → piS S h ≠ cB S 3 := by decide
theorem and2 : ∀ S, S < 8 → (nI S &&& 2 = 0 ↔ S / 2 % 2 = 0) := by decide +kernel
def FirR (f : Nat → Bool) (i W : Nat) (v : Int32) : Prop := (v = -9 ∧ ∀ c, i ≤ c → c < W → ¬ f c = true) ∨ ∃ c, i ≤ c ∧ c < W ∧ v = nI c ∧ f c = true ∧ ∀ c', i ≤ c' → c' < c → ¬ f c' = true
theorem FirR.uq {f : Nat → Bool} {i W : Nat} {v w : Int32} (a : FirR f i W v) (b : FirR f i W w) : v = w := by
  rcases a with ⟨a1, a2⟩ | ⟨c, a1, a2, a3, a4, a5⟩
  · rcases b with ⟨b1, b2⟩ | ⟨d, b1, b2, b3, b4, b5⟩
    · rw [a1, b1]
    · exact absurd b4 (a2 d b1 b2)
  · rcases b with ⟨b1, b2⟩ | ⟨d, b1, b2, b3, b4, b5⟩
    · exact absurd a4 (b2 c a1 a2)
    · have : ¬ c < d := fun z => b5 c a1 z a4
      have : ¬ d < c := fun z => a5 d b1 z b4
      have : c = d := by omega
      rw [a3, b3, this]
section MO
variable {g : Geo} {σ τ : St} {K : St → Prop} {F : Prop} {S : Nat} {op : Nat → Nat}
theorem moreX_ok {Q : Int32 → St → Prop} {r y : Nat} {f : Nat → Bool} (hI : Inv g σ) (hS : S < 2 ^ g.gN) (h7 : S < 7) (hr : r + 2 ≤ g.gH) (hop : OpOK g 0 op) (hf : ∀ c, c < g.gW → (f c = true ↔ FeaG g op S r c))
    (hq : ∀ υ v, Cor σ υ → FirR f 0 g.gW v → Q (if y = 0 then nI (cntB f 0 g.gW) else v) υ) (hy : y < 2) :
    wp_X6_putSet (nI S) (fun σ48 => wp_X6_placeBeside (nI S) (fun r52 σ52 => ∃ n : Nat, wp_X6_more_l67 Q n (nI r) (nI y) r52 0 (-9) 0 σ52) σ48) σ := by
  have hd' := hI.1.1
  obtain ⟨S8, Sn⟩ := bits_lt g.gN (by omega) S hS
  have t0 := hI.2.2.2.1 0 (by omega)
  rw [show tuM 0 = 3 from rfl] at t0
  have pin := pi_in S S8
  have bij := pi_bij S S8
  obtain ⟨e1, e2, e3, e4, e5⟩ := bes_ok S h7
  have slow : ∀ i, i < cB S 3 → memS S i < g.gN := by
    intro i hi
    obtain ⟨m1, m2, -⟩ := mem_in S S8 i hi
    by_cases z : memS S i < g.gN
    · exact z
    · exact absurd m2 (Sn _ m1 (by omega))
  refine putSet_ok hI hS (fun τ op' hc hop' hp => ?_)
  have hp := hp.op hop' hop
  have pb : wp_X6_placeBeside (nI S) (fun r52 σ52 => ∃ n : Nat, wp_X6_more_l67 Q n (nI r) (nI y) r52 0 (-9) 0 σ52) τ ↔ ∃ n : Nat, wp_X6_more_l67 Q n (nI r) (nI y) (nI (besS S)) 0 (-9) 0 τ := by
    unfold wp_X6_placeBeside
    rw [and1 (by omega)]
    unfold besS
    by_cases z : S % 2 = 0
    · rw [if_pos z, z]
      exact ⟨fun w => w.1 rfl, fun w => ⟨fun _ => w, fun n => absurd rfl n⟩⟩
    · have z1 : S % 2 = 1 := by omega
      rw [if_neg z, z1]
      by_cases z2 : S / 2 % 2 = 0
      · rw [if_pos z2]
        exact ⟨fun w => (w.2 (by decide)).1 ((and2 S S8).mpr z2), fun w => ⟨fun n => absurd n (by decide), fun _ => ⟨fun _ => w, fun n => absurd ((and2 S S8).mpr z2) n⟩⟩⟩
      · rw [if_neg z2]
        exact ⟨fun w => (w.2 (by decide)).2 (fun n => z2 ((and2 S S8).mp n)), fun w => ⟨fun n => absurd n (by decide), fun _ => ⟨fun n => absurd ((and2 S S8).mp n) z2, fun _ => w⟩⟩⟩
  rw [pb]
  have hsp : ∀ (c : Nat) (υ : St) (st : Nat → Nat), c < g.gW → PutP g op (fun h => if h = besS S then r else if S / 2 ^ h % 2 = 1 then g.co h else 16) st υ → st (besS S) = c → (∀ h, h < 3 → S / 2 ^ h % 2 = 1 → st h = g.cl h) → SP (permP (piS S) (qG g S r c op)) υ := by
    intro c υ st hcW hp hst hst2
    refine spP_of hI.1 t0.2.2.2 hp (fun h hh => ?_) (fun h hh hm => ?_)
    · by_cases e : h = besS S
      · rw [if_pos e, e, e2, if_pos (by omega)]
        unfold gF
        rw [if_pos rfl]
      · have ne := e5 h hh e
        rw [if_neg e]
        unfold gF
        by_cases z : S / 2 ^ h % 2 = 1
        · have := (pin h hh).1 z
          rw [if_pos z, if_pos (by omega), if_neg ne, this.2]
        · have := (pin h hh).2 z
          rw [if_neg z, if_neg (by omega)]
    · unfold gG
      by_cases e : h = besS S
      · rw [e, e2, if_pos rfl]
        exact ⟨hst, by omega⟩
      · have ne := e5 h hh e
        have z : S / 2 ^ h % 2 = 1 := by
          by_cases z : S / 2 ^ h % 2 = 1
          · exact z
          · have := (pin h hh).2 z; omega
        have := (pin h hh).1 z
        have hn : h < g.gN := by rw [← this.2]; exact slow _ this.1
        obtain ⟨-, ⟨-, -, b3⟩, -⟩ := hI.2.2.1 h hn
        rw [if_neg ne, this.2, hst2 h hh z]
        exact ⟨rfl, by omega⟩
  refine pk_loop (fun n i (s : (Nat × Int32) × St) => wp_X6_more_l67 Q n (nI r) (nI y) (nI (besS S)) (nI s.1.1) s.1.2 (nI i) s.2) (fun i s => Cor σ s.2 ∧ s.1.1 = cntB f 0 i ∧ FirR f 0 i s.1.2 ∧ (∃ fs st, PutP g op fs st s.2 ∧ r ≤ fs (besS S) ∧ (∀ h, h ≠ besS S → fs h = (if S / 2 ^ h % 2 = 1 then g.co h else 16)) ∧ ∀ h, h < 3 → S / 2 ^ h % 2 = 1 → st h = g.cl h) ∧ (∀ r', r' ≤ r → ∀ c, c < 1000 → s.2.1 (51 + r') c = 0) ∧ ∀ k, r < g.gH - 1 + 1 - k → k ≤ g.gH - 1 + 1 → ∀ c, c < 1000 → s.2.1 (51 + (g.gH - 1 + 1 - k)) c = 0 ∨ ∃ v c', s.2.1 (51 + (g.gH - 1 + 1 - k)) c = nI v ∧ XV true (permP (piS S) (qG g S r c' op)) k (dec c) v) g.gW 0 ((0, -9), τ) (by omega) ⟨hc, rfl, Or.inl ⟨rfl, fun c h1 h2 => by omega⟩, ?_, fun r' hr' => hp.2 r' (by omega), fun k h1 h2 c hc' => Or.inl (hp.2 _ (by omega) c hc')⟩ (fun n s hs => ?_) (fun n i s hi hs hk => ?_)
  · exact ⟨_, _, hp.1, by show r ≤ (if S / 2 ^ besS S % 2 = 1 then _ else 16); rw [if_neg (by omega)]; omega, fun h _ => rfl, fun h _ _ => rfl⟩
  · show wp_X6_more_b67 _ _ _ _ _ _ _ _ _
    unfold wp_X6_more_b67
    obtain ⟨s1, s2, s3, -⟩ := hs
    rw [(hI.cor s1).1.2.1, s2]
    have Z := hq s.2 s.1.2 s1 s3
    refine ⟨fun _ => ⟨fun z => ?_, fun z => ?_⟩, fun z => absurd (nI_le (Nat.le_refl _) (by omega)) z⟩
    · have : y = 0 := (nI_eq (b := 0) (by omega) (by omega)).mp z
      rw [if_pos this] at Z; exact Z
    · rw [if_neg (fun w => z (by rw [w]; rfl))] at Z; exact Z
  · show wp_X6_more_b67 _ _ _ _ _ _ _ _ _
    unfold wp_X6_more_b67
    obtain ⟨⟨num, fir⟩, υ⟩ := s
    obtain ⟨s1, s2, s3, ⟨fs, st, q1, q1b, q2, q3⟩, s5, s6⟩ := hs
    have s2 : num = cntB f 0 i := s2
    rw [(hI.cor s1).1.2.1]
    refine ⟨fun z => absurd z (nI_ge hi (by omega)), fun _ => ?_⟩
    refine putP_ok (f := r) (s := i) ⟨by omega, hd'.2.2.2.1⟩ e1 (by omega) (by omega) q1 q1b (fun υ2 hυ2 q4 => ?_)
    have cυ2 : Cor σ υ2 := s1.tr (hυ2.cor e1)
    have tab2 : ∀ k j, 51 ≤ k → k ≤ 67 → υ2.1 k j = υ.1 k j := fun k j h1 h2 => hυ2.1 k j (by omega) (by omega)
    have hfs : (fun i_1 => if i_1 = besS S then r else fs i_1) = (fun h => if h = besS S then r else if S / 2 ^ h % 2 = 1 then g.co h else 16) := by
      funext h
      by_cases e : h = besS S
      · rw [if_pos e, if_pos e]
      · rw [if_neg e, if_neg e, q2 h e]
    rw [hfs] at q4
    have sp := hsp i υ2 _ hi q4 (by rw [if_pos rfl]) (fun h hh z => by
      by_cases e : h = besS S
      · rw [e] at z; omega
      · rw [if_neg e]; exact q3 h hh z)
    have hT : Tab true (permP (piS S) (qG g S r i op)) υ2 := by
      intro k hk c hc'
      have hk : k ≤ g.gH - 1 + 1 := hk
      show υ2.1 (51 + (g.gH - 1 + 1 - k)) c = 0 ∨ ∃ v, υ2.1 (51 + (g.gH - 1 + 1 - k)) c = nI v ∧ _
      rw [tab2 _ _ (by omega) (by omega)]
      by_cases e : g.gH - 1 + 1 - k ≤ r
      · exact Or.inl (s5 _ e c hc')
      · rcases s6 k (by omega) hk c hc' with z | ⟨v, c', z1, z2⟩
        · exact Or.inl z
        · refine Or.inr ⟨v, z1, xv_same (p := permP (piS S) (qG g S r c' op)) (p' := permP (piS S) (qG g S r i op)) (r := g.gH - 1 + 1 - k) (by show g.gH - 1 + 1 - k + k = g.gH - 1 + 1; omega) ⟨rfl, rfl, fun h hh => ?_⟩ z2⟩
          by_cases w : piS S h = cB S 3
          · right
            show (if piS S h < cB S 3 + 1 then gF g S r (piS S h) else 16) < g.gH - 1 + 1 - k
            rw [if_pos (by omega)]
            unfold gF
            rw [if_pos w]
            omega
          · left
            show gG g S i (piS S h) = gG g S c' (piS S h)
            unfold gG
            rw [if_neg w, if_neg w]
    have cp : ∀ b l, Can (permP (piS S) (qG g S r i op)) (g.gH - 1 + 1) zz b l ↔ Can (qG g S r i op) (g.gH - 1 + 1) zz b l := fun b l => can0_perm (q := qG g S r i op) bij
    have nxtI : ∀ (φ : St) (num' : Nat) (fir' : Int32), Fr υ2 φ → Tab true (permP (piS S) (qG g S r i op)) φ → num' = cntB f 0 (i + 1) → FirR f 0 (i + 1) fir' → wp_X3_forgetUpTo (nI r) (fun σ125 => wp_X6_more_l67 Q n (nI r) (nI y) (nI (besS S)) (nI num') fir' (nI (i + 1)) σ125) φ := by
      intro φ num' fir' ff tT h1 h2
      refine forget_ok (by omega) (fun ψ w1 w2 w3 => ?_)
      have fψ : Fr φ ψ := ⟨fun k j n => w1 k j (by omega), w2⟩
      refine hk ((num', fir'), ψ) ⟨cυ2.tr (ff.tr fψ).cor, h1, h2, ⟨_, _, q4.fr (ff.tr fψ), by rw [if_pos rfl]; exact Nat.le_refl _, fun h e => by rw [if_neg e], fun h hh z => ?_⟩, w3, fun k hk1 hk2 c hc' => ?_⟩
      · by_cases e : h = besS S
        · rw [e] at z; omega
        · rw [if_neg e]; exact q3 h hh z
      · show ψ.1 (51 + (g.gH - 1 + 1 - k)) c = 0 ∨ _
        rw [w1 _ _ (by omega)]
        rcases tT k hk2 c hc' with z | ⟨v, z1, z2⟩
        · exact Or.inl z
        · exact Or.inr ⟨v, i, z1, z2⟩
    have c1 : cntB f 0 (i + 1) = cntB f 0 i + (if f i = true then 1 else 0) := by
      show cntB f 0 i + (if f (0 + i) then 1 else 0) = _
      rw [Nat.zero_add]
    refine any_ok sp hT (fun φ b l ff _ tT c1' => ⟨fun z => absurd z (by decide), fun _ => ?_⟩) (fun φ ff _ tT c1' => ⟨fun _ => ?_, fun z => absurd rfl z⟩)
    · have fi : f i = true := (hf i hi).mpr ⟨b, l, (cp b l).mp c1'⟩
      rw [if_pos fi] at c1
      unfold wp_X6_more_b118 wp_X6_more_b120
      rw [na1, na1]
      rcases s3 with ⟨z1, z2⟩ | ⟨c, z1, z2, z3, z4, z5⟩
      · have z1 : fir = -9 := z1
        refine ⟨fun _ => nxtI φ _ _ ff tT (by rw [s2, c1]) (Or.inr ⟨i, Nat.zero_le _, by omega, rfl, fi, fun c' h1 h2 => z2 c' h1 h2⟩), fun z => absurd z1 z⟩
      · have z3 : fir = nI c := z3
        refine ⟨fun z => ?_, fun _ => nxtI φ _ _ ff tT (by rw [s2, c1]) (Or.inr ⟨c, z1, by omega, z3, z4, z5⟩)⟩
        rw [z3, tI_eq, t_m9, tI_n (by omega)] at z
        omega
    · have fi : ¬ f i = true := fun z => by
        obtain ⟨b, l, w⟩ := (hf i hi).mp z
        exact c1' b l ((cp b l).mpr w)
      rw [if_neg fi] at c1
      unfold wp_X6_more_b120
      rw [na1]
      refine nxtI φ num fir ff tT (by rw [s2, c1]; rfl) ?_
      rcases s3 with ⟨z1, z2⟩ | ⟨c, z1, z2, z3, z4, z5⟩
      · refine Or.inl ⟨z1, fun c h1 h2 => ?_⟩
        by_cases e : c = i
        · rw [e]; exact fi
        · exact z2 c h1 (by omega)
      · exact Or.inr ⟨c, z1, by omega, z3, z4, z5⟩
theorem moreM_ok {Q : Int32 → St → Prop} {r y : Nat} {f : Nat → Bool} (hI : Inv g σ) (hS : S < 2 ^ g.gN) (h7 : S < 7) (hr : r + 2 ≤ g.gH) (hop : OpOK g 0 op) (hf : ∀ c, c < g.gW → (f c = true ↔ FeaG g op S r c))
    (hq : ∀ υ v, Cor σ υ → FirR f 0 g.gW v → Q (if y = 0 then nI (cntB f 0 g.gW) else v) υ) (hy : y < 2) :
    ∃ n : Nat, wp_X7_more_l70 Q n (nI S) (nI r) (nI y) 0 (-9) (nI g.gW - 1) σ := by
  have hd' := hI.1.1
  obtain ⟨S8, Sn⟩ := bits_lt g.gN (by omega) S hS
  obtain ⟨e1, e2, e3, e4, e5⟩ := bes_ok S h7
  have hF := qs_F hI hS
  refine ⟨g.gW + 1, ?_⟩
  refine pk_loopD (fun n i (s : (Nat × Int32) × St) => wp_X7_more_l70 Q n (nI S) (nI r) (nI y) (nI s.1.1) s.1.2 (nI i - 1) s.2) (fun i s => i ≤ g.gW ∧ Cor σ s.2 ∧ cntB f 0 i + s.1.1 = cntB f 0 g.gW ∧ FirR f i g.gW s.1.2) (fun n s hs => ?_) (fun n i s hs hk => ?_) g.gW ((0, -9), σ) ⟨Nat.le_refl _, Cor.rf, rfl, Or.inl ⟨rfl, fun c h1 h2 => by omega⟩⟩
  · show wp_X7_more_b70 _ _ _ _ _ _ _ _ _
    unfold wp_X7_more_b70
    obtain ⟨s0, s1, s2, s3⟩ := hs
    have Z := hq s.2 s.1.2 s1 s3
    have e0 : s.1.1 = cntB f 0 g.gW := by
      have : cntB f 0 0 = 0 := rfl
      omega
    rw [e0]
    refine ⟨fun _ => ⟨fun z => ?_, fun z => ?_⟩, fun z => absurd (by decide) z⟩
    · have : y = 0 := (nI_eq (b := 0) (by omega) (by omega)).mp z
      rw [if_pos this] at Z; exact Z
    · rw [if_neg (fun w => z (by rw [w]; rfl))] at Z; exact Z
  · show wp_X7_more_b70 _ _ _ _ _ _ _ _ _
    unfold wp_X7_more_b70
    obtain ⟨⟨num, fir⟩, υ⟩ := s
    obtain ⟨s0, s1, s2, s3⟩ := hs
    have s2 : cntB f 0 (i + 1) + num = cntB f 0 g.gW := s2
    have hIu := hI.cor s1
    have ei : nI (i + 1) - 1 = nI i := by rw [ns1 (by omega)]; rfl
    rw [ei]
    refine ⟨fun z => absurd z (nI_pos (by omega)), fun _ => gather_ok hIu hS (fun φ low hc hML h25 => ?_)⟩
    refine add_ok (m := cB S 3) (low := low) (by omega) hML.1 hML.2.1 hML.2.2.1 (by omega) (fun ψ hA => ?_)
    have hML2 : ML (cB S 3) (gF g S r) (gG g S i) (fun _ => -1) low φ := by
      obtain ⟨m1, m2, m3, m4⟩ := hML
      refine ⟨m1, m2, m3, fun j hj => ?_⟩
      unfold gF gG
      rw [if_neg (by omega), if_neg (by omega)]
      exact m4 j hj
    have hML3 := hML2.add (υ := ψ) (by
      have a1 : gF g S r (cB S 3) = r := if_pos rfl
      have a2 : gG g S i (cB S 3) = i := if_pos rfl
      rw [a1, a2]; exact hA)
    have h25' : ψ.1 75 25 = nI 0 := by rw [hA.2.2.2.2.2.1 _ _ (by omega) (by omega)]; exact h25
    have hM : MP (qG g S r i op) (cB S 3 + 1) (min (gF g S r (cB S 3)) low) (fun _ => 0) 0 g ψ := by
      refine mp_of _ (by omega) (by omega) hML3 h25' (fun j hj => ?_) (fun j hj => ?_) hop
      · unfold gF
        by_cases e : j = cB S 3
        · rw [if_pos e]; omega
        · rw [if_neg e]; exact hF.1 j (by omega)
      · unfold gG
        by_cases e : j = cB S 3
        · rw [if_pos e]; omega
        · rw [if_neg e]; exact hF.2 j (by omega)
    have cψ := s1.tr (hc.tr hA.cor)
    have c1 : cntB f 0 (i + 1) = cntB f 0 i + (if f i = true then 1 else 0) := by
      show cntB f 0 i + (if f (0 + i) then 1 else 0) = _
      rw [Nat.zero_add]
    refine goTogether_ok (hI.cor cψ) hM (by omega) (fun χ hχ hno => ?_) (fun b v' χ hχ a1 a2 a3 a4 a5 a6 a7 a8 => ?_)
    · have fi : ¬ f i = true := fun z => by
        obtain ⟨b, l, w⟩ := (hf i (by omega)).mp z
        exact hno b l w
      rw [if_neg fi] at c1
      rw [pm1]
      refine ⟨fun _ => hk ((num, fir), χ) ⟨by omega, cψ.tr hχ.cor, by show cntB f 0 i + num = _; omega, ?_⟩, fun z => absurd rfl z⟩
      rcases s3 with ⟨z1, z2⟩ | ⟨c, z1, z2, z3, z4, z5⟩
      · refine Or.inl ⟨z1, fun c h1 h2 => ?_⟩
        by_cases e : c = i
        · rw [e]; exact fi
        · exact z2 c (by omega) h2
      · refine Or.inr ⟨c, by omega, z2, z3, z4, fun c' h1 h2 => ?_⟩
        by_cases e : c' = i
        · rw [e]; exact fi
        · exact z5 c' (by omega) h2
    · have fi : f i = true := (hf i (by omega)).mpr ⟨b, v', a3⟩
      rw [if_pos fi] at c1
      rw [pm1, na1]
      refine ⟨fun z => ?_, fun _ => hk ((num + 1, nI i), χ) ⟨by omega, cψ.tr hχ.cor, by show cntB f 0 i + (num + 1) = _; omega, Or.inr ⟨i, Nat.le_refl _, by omega, rfl, fi, fun c' h1 h2 => by omega⟩⟩⟩
      rw [tI_eq, t_m9, tI_n (by omega)] at z
      omega
theorem op_more (hI : Inv g σ) (hK : ∀ τ, Inv g τ → K τ) (x y z : Int32) : wp_X6_more x y z (fun r σ1 => wp_X7_more x y z (fun r2 σ2 => (r = r2 → K σ2) ∧ (¬ r = r2 → F)) σ1) σ := by
  have hd := hI.1
  have hd' := hd.1
  obtain ⟨p1, p2, p3⟩ := p2N hd
  have cnt3 : ∀ S, S < 8 → (cB S 3 = 3 ↔ S = 7) := by decide
  have eH2 : (nI g.gH - 2).toInt = (g.gH : Int) - 2 := by rw [ns2 (by omega), tI_n (by omega)]; omega
  have bad : ¬ ((0 ≤ x.toInt ∧ x.toInt < ((2 ^ g.gN : Nat) : Int) ∧ x.toInt ≠ 7) ∧ (0 ≤ y.toInt ∧ y.toInt ≤ (g.gH : Int) - 2) ∧ 0 ≤ z.toInt ∧ z.toInt ≤ 1) → wp_X7_more x y z (fun r2 σ2 => ((-1 : Int32) = r2 → K σ2) ∧ (¬ (-1 : Int32) = r2 → F)) σ := by
    intro n
    have k0 := hK _ hI
    unfold wp_X7_more
    rw [c0, hd.2.2.2.2.2.2, p3]
    refine ⟨vin0_2, in_ok ?_⟩
    rw [hi_ok (by omega) (by omega), z0]
    refine i2_eq (fun a => ?_) (fun _ => eq_k rfl k0)
    obtain ⟨S, s1, rfl⟩ := of_pin (x := x) (n := 2 ^ g.gN) ⟨a.1, by omega⟩
    have c3 := cB_le S (by omega) 3 (by omega)
    refine bitsIn_ok (by omega) ?_
    rw [show (3 : Int32) = nI 3 from rfl, pn_eq (by omega) (by omega)]
    refine ⟨fun _ => eq_k rfl k0, fun w => ⟨vin0_2, in_ok ?_⟩⟩
    rw [hd.2.2.2.2.2.1, eH2, z0]
    refine i2_eq (fun a2 => in_ok ?_) (fun _ => eq_k rfl k0)
    rw [z0, t_1]
    refine g_f (fun a3 => n ⟨⟨a.1, by omega, ?_⟩, a2, a3⟩) (eq_k rfl k0)
    intro e7
    rw [tI_n (by omega)] at e7
    exact w ((cnt3 S (by omega)).mpr (by omega))
  have main : ∀ S r, S < 2 ^ g.gN → S < 7 → r + 2 ≤ g.gH → x = nI S → y = nI r → 0 ≤ z.toInt ∧ z.toInt ≤ 1 → wp_X6_putSet x (fun σ48 => wp_X6_placeBeside x (fun r52 σ52 => ∃ n : Nat, wp_X6_more_l67 (fun r σ1 => wp_X7_more x y z (fun r2 σ2 => (r = r2 → K σ2) ∧ (¬ r = r2 → F)) σ1) n y z r52 0 (-9) 0 σ52) σ48) σ := by
    intro S r hS h7 hr ex ey hz
    obtain ⟨w, hw, ez⟩ := of_pin (x := z) (n := 2) ⟨hz.1, by omega⟩
    obtain ⟨op, hop⟩ := op_ex (cl := 0) hI (by omega)
    obtain ⟨f, hf⟩ : ∃ f : Nat → Bool, ∀ c, f c = true ↔ FeaG g op S r c := ⟨fun c => @decide _ (Classical.propDecidable (FeaG g op S r c)), fun c => @decide_eq_true_iff _ (Classical.propDecidable _)⟩
    subst ex ey ez
    refine moreX_ok (y := w) hI hS h7 hr hop (fun c _ => hf c) (fun υ v hc hv => ?_) hw
    have hIu := hI.cor hc
    obtain ⟨S8, -⟩ := bits_lt g.gN (by omega) S hS
    have c3 := cB_le S S8 3 (by omega)
    unfold wp_X7_more
    rw [c0, hIu.1.2.2.2.2.2.2, p3]
    refine ⟨vin0_2, in_ok ?_⟩
    rw [hi_ok (by omega) (by omega), z0, tI_n (by omega)]
    refine g_t (by omega) (bitsIn_ok S8 ?_)
    rw [show (3 : Int32) = nI 3 from rfl, pn_eq (by omega) (by omega)]
    refine ⟨fun y => absurd ((cnt3 S S8).mp y) (by omega), fun _ => ⟨vin0_2, in_ok ?_⟩⟩
    rw [hIu.1.2.2.2.2.2.1, eH2, z0, tI_n (by omega)]
    refine g_t (by omega) (in_ok ?_)
    rw [z0, t_1]
    refine g_t hz ⟨vin0_2, fun u hu => ?_⟩
    rw [hIu.1.2.2.2.2.1] at hu
    subst hu
    refine moreM_ok (y := w) hIu hS h7 hr hop (fun c _ => hf c) (fun φ v' hφ hv' => eq_k ?_ (hK _ (hIu.cor hφ))) hw
    rw [hv.uq hv']
  have b12 : (x.toInt < ((2 ^ g.gN : Nat) : Int) ∧ 0 ≤ x.toInt) → wp_X6_more_b12 (fun r σ1 => wp_X7_more x y z (fun r2 σ2 => (r = r2 → K σ2) ∧ (¬ r = r2 → F)) σ1) x y z σ := by
    intro hx
    unfold wp_X6_more_b12
    rw [tI_eq, tI_lt, tI_lt, tI_lt, tI_le, hd.2.2.1, eH2, z0, t_1, show (7 : Int32).toInt = 7 from by decide]
    refine ⟨fun a => bad (by omega), fun a => ⟨fun b => bad (by omega), fun b => ⟨fun c => bad (by omega), fun c => ⟨fun d => bad (by omega), fun d => ⟨fun e => ?_, fun e => bad (by omega)⟩⟩⟩⟩⟩
    obtain ⟨S, s1, es⟩ := of_pin (x := x) (n := 2 ^ g.gN) ⟨hx.2, hx.1⟩
    obtain ⟨r, r1, er⟩ := of_pin (x := y) (n := g.gH - 1) ⟨by omega, by omega⟩
    rw [es, tI_n (by omega)] at a
    exact main S r s1 (by omega) (by omega) es er ⟨by omega, e⟩
  unfold wp_X6_more
  refine ⟨fun a => b12 ?_, fun a => isSetX_ok hd (i2_eq (fun b => b12 (by omega)) (fun b => bad (fun c => ?_)))⟩
  · rw [a, z0]; omega
  · have : x.toInt ≠ 0 := fun w => a (by rw [tI_eq, z0]; exact w)
    exact b (by omega)
end MO
