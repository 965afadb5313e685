/-! both searches over one set of hearths -/
def ML (m : Nat) (F G : Nat → Nat) (KV : Nat → Int32) (low : Nat) (τ : St) : Prop := τ.1 75 21 = nI m ∧ τ.1 75 26 = nI low ∧ low ≤ 16 ∧ ∀ i, i < m → τ.1 90 i = nI (F i) ∧ low ≤ F i ∧ τ.1 91 i = nI (G i) ∧ τ.1 92 i = KV i
theorem ML.add {m low : Nat} {F G : Nat → Nat} {KV : Nat → Int32} {τ υ : St} (H : ML m F G KV low τ) (A : AddR m (F m) low (nI (G m)) (KV m) τ υ) : ML (m + 1) F G KV (min (F m) low) υ := by
  obtain ⟨h1, h2, h3, h4⟩ := H
  obtain ⟨a1, a2, a3, a4, a5, a6, a7⟩ := A
  refine ⟨a4, a5, by omega, fun i hi => ?_⟩
  by_cases e : i = m
  · rw [e]
    exact ⟨a1, by omega, a2, a3⟩
  · obtain ⟨b1, b2, b3, b4⟩ := h4 i (by omega)
    exact ⟨by rw [a6 _ _ (by omega) (by omega)]; exact b1, by omega, by rw [a6 _ _ (by omega) (by omega)]; exact b3, by rw [a6 _ _ (by omega) (by omega)]; exact b4⟩
theorem mp_of {g : Geo} {m low cl : Nat} {F G : Nat → Nat} {op : Nat → Nat} {τ : St} (kp : Nat → Nat) (hm : m ≤ 3) (hcl : cl < 1024) (H : ML m F G (fun _ => -1) low τ) (h25 : τ.1 75 25 = nI cl) (hF : ∀ i, i < m → F i ≤ g.gH - 1) (hG : ∀ i, i < m → G i < 10) (hop : OpOK g cl op) : MP (qL m F G op (g.tu 0) (g.gH - 1)) m low kp cl g τ := by
  obtain ⟨h1, h2, h3, h4⟩ := H
  refine ⟨⟨hm, h1, h2, h25, hcl⟩, fun i hi => ?_, fun i hi hi3 => ⟨?_, rfl⟩, rfl, rfl, fun r c hr hc => (hop r hr).2 c hc⟩
  · obtain ⟨b1, b2, b3, b4⟩ := h4 i hi
    have e : (qL m F G op (g.tu 0) (g.gH - 1)).fs i = F i := if_pos hi
    rw [e]
    exact ⟨b1, hF i hi, b2, b3, hG i hi, b4, fun z => absurd (show false = true from z) (by decide)⟩
  · exact if_neg (by omega)
theorem op_uq {g : Geo} {cl : Nat} {op op' : Nat → Nat} (h : OpOK g cl op) (h' : OpOK g cl op') : ∀ r, r ≤ g.gH - 1 → op r = op' r := by
  intro r hr
  obtain ⟨a1, a2⟩ := h r hr
  obtain ⟨b1, b2⟩ := h' r hr
  apply Nat.eq_of_testBit_eq
  intro i
  by_cases e : i < 10
  · rw [tb, tb]
    have := (a2 i e).trans (b2 i e).symm
    exact decide_eq_decide.mpr this
  · have p : 2 ^ 10 ≤ 2 ^ i := Nat.pow_le_pow_right (by omega) (by omega)
    rw [Nat.testBit_lt_two_pow (by omega), Nat.testBit_lt_two_pow (by omega)]
theorem op_ex {g : Geo} {σ : St} {cl : Nat} (hI : Inv g σ) (hcl : cl < 1024) : ∃ op, OpOK g cl op := by
  have hd' := hI.1.1
  have pw := pow_le hd'.2.1
  have : ∀ n, n ≤ g.gH → ∃ op : Nat → Nat, ∀ r, r < n → op r < 1024 ∧ ∀ c, c < 10 → (bitP (op r) c ↔ (c < g.gW ∧ ¬ bitP (g.bar r) c ∧ ¬ bitP cl c)) := by
    intro n
    induction n with
    | zero => intro _; exact ⟨fun _ => 0, fun r hr => by omega⟩
    | succ n ih =>
      intro hn
      obtain ⟨op, h⟩ := ih (by omega)
      have bi := (hI.2.1.1 n (by omega)).2.2
      obtain ⟨v, v1, v2, v3⟩ := andn (2 ^ g.gW - (g.bar n + 1)) cl (by omega) hcl
      refine ⟨fun r => if r = n then v else op r, fun r hr => ?_⟩
      dsimp only
      by_cases e : r = n
      · rw [if_pos e]
        refine ⟨v1, fun c hc => ?_⟩
        rw [v3 c hc, fr_bit2 bi, e]
        exact ⟨fun z => ⟨z.1.1, z.1.2, z.2⟩, fun z => ⟨⟨z.1, z.2.1⟩, z.2.2⟩⟩
      · rw [if_neg e]
        exact h r (by omega)
  obtain ⟨op, h⟩ := this g.gH (Nat.le_refl _)
  exact ⟨op, fun r hr => h r (by omega)⟩
theorem PutX.op {g : Geo} {cl : Nat} {op op' fs st : Nat → Nat} {τ : St} (h : OpOK g cl op) (h' : OpOK g cl op') (H : PutX g op fs st τ) : PutX g op' fs st τ := by
  obtain ⟨⟨h1, h2, h3, h4⟩, h5⟩ := H
  refine ⟨⟨h1, h2, fun r hr => by rw [← op_uq h h' r hr]; exact h3 r hr, fun i hi => ?_⟩, h5⟩
  obtain ⟨a1, a2, a3⟩ := h4 i hi
  refine ⟨a1, a2, fun r hr => (a3 r hr).i (fun c _ => ?_)⟩
  unfold oneF
  rw [op_uq h h' r hr]
def qS (g : Geo) (S : Nat) (op : Nat → Nat) : Prm := qL (cB S 3) (fun i => g.co (memS S i)) (fun i => g.cl (memS S i)) op (g.tu 0) (g.gH - 1)
section BO
variable {g : Geo} {σ τ : St} {K : St → Prop} {F : Prop} {S : Nat} {op : Nat → Nat}
theorem gather_ok {Q : St → Prop} (hI : Inv g σ) (hS : S < 2 ^ g.gN) (hq : ∀ τ low, Cor σ τ → ML (cB S 3) (fun i => g.co (memS S i)) (fun i => g.cl (memS S i)) (fun _ => -1) low τ → τ.1 75 25 = 0 → Q τ) : wp_X7_gather (nI S) Q σ := by
  have hd' := hI.1.1
  obtain ⟨S8, Sn⟩ := bits_lt g.gN (by omega) S hS
  have s75 : ∀ i, i ≠ 2 → Scr 75 i := fun i h => by unfold Scr; omega
  unfold wp_X7_gather
  generalize h3 : sI (sI (sI σ 75 21 (0 : Int32)) 75 26 (16 : Int32)) 75 25 (0 : Int32) = σ3
  have c3 : Cor σ σ3 := by rw [← h3]; exact ((Cor.rf.sI (s75 _ (by omega)) _).sI (s75 _ (by omega)) _).sI (s75 _ (by omega)) _
  have f21 : σ3.1 75 21 = nI 0 := by rw [← h3, sI_1, if_neg (by omega), sI_1, if_neg (by omega), sI_1, if_pos ⟨rfl, rfl⟩]; rfl
  have f26 : σ3.1 75 26 = nI 16 := by rw [← h3, sI_1, if_neg (by omega), sI_1, if_pos ⟨rfl, rfl⟩]; rfl
  have f25 : σ3.1 75 25 = 0 := by rw [← h3, sI_1, if_pos ⟨rfl, rfl⟩]
  refine pk_loop (fun n i τ => wp_X7_gather_l18 Q n (nI S) (nI i) τ) (fun i τ => Cor σ τ ∧ τ.1 75 25 = 0 ∧ ∃ low, ML (cB S i) (fun i => g.co (memS S i)) (fun i => g.cl (memS S i)) (fun _ => -1) low τ) 3 0 σ3 (by omega) ⟨c3, f25, 16, f21, f26, Nat.le_refl _, fun i hi => absurd hi (by have : cB S 0 = 0 := rfl; omega)⟩ (fun n τ hτ => ?_) (fun n i τ hi hτ hk => ?_)
  · show wp_X7_gather_b18 _ _ _ _ _
    unfold wp_X7_gather_b18
    obtain ⟨t1, t2, low, t3⟩ := hτ
    exact ⟨fun _ => hq τ low t1 t3 t2, fun z => absurd (by decide) z⟩
  · show wp_X7_gather_b18 _ _ _ _ _
    unfold wp_X7_gather_b18
    obtain ⟨t1, t2, low, t3⟩ := hτ
    have hIt := hI.cor t1
    have bv : (nI S >>> (nI i &&& 31)) &&& 1 = nI (S / 2 ^ i % 2) := bit_val (by omega) (by omega)
    have cs := cB_s S S8 i hi
    have cl3 := cB_le S S8 (i + 1) (by omega)
    have e1 : (nI (S / 2 ^ i % 2) = (1 : Int32)) = (S / 2 ^ i % 2 = 1) := pn_eq (b := 1) (by omega) (by omega)
    rw [bv, e1, na1, pn_in (by omega) (by omega), pn_cl (by omega)]
    refine ⟨fun z => absurd z (nI_ge (b := 3) hi (by omega)), fun _ => ⟨fun z => ⟨by omega, by omega, ?_⟩, fun z => hk τ ⟨t1, t2, low, ?_⟩⟩⟩
    · have hn : i < g.gN := by
        by_cases y : i < g.gN
        · exact y
        · exact absurd z (Sn i hi (by omega))
      obtain ⟨⟨-, a2, a3⟩, ⟨-, b2, b3⟩, -⟩ := hIt.2.2.1 i hn
      rw [a2, b2]
      refine add_ok (m := cB S i) (low := low) (by omega) t3.1 t3.2.1 t3.2.2.1 (by omega) (fun υ hA => hk υ ⟨t1.tr hA.cor, ?_, min (g.co i) low, ?_⟩)
      · rw [hA.2.2.2.2.2.1 _ _ (by omega) (by omega)]; exact t2
      · rw [cs, z]
        have em := mem_c S S8 i hi z
        have := t3.add (υ := υ) (by
          show AddR (cB S i) (g.co (memS S (cB S i))) low (nI (g.cl (memS S (cB S i)))) (-1) τ υ
          rw [em]; exact hA)
        rw [em] at this
        exact this
    · rw [cs, show S / 2 ^ i % 2 = 0 by omega, Nat.add_zero]
      exact t3
theorem qs_F (hI : Inv g σ) (hS : S < 2 ^ g.gN) : (∀ i, i < cB S 3 → g.co (memS S i) ≤ g.gH - 1) ∧ ∀ i, i < cB S 3 → g.cl (memS S i) < 10 := by
  have hd' := hI.1.1
  obtain ⟨S8, Sn⟩ := bits_lt g.gN (by omega) S hS
  have hn : ∀ i, i < cB S 3 → memS S i < g.gN := by
    intro i hi
    obtain ⟨m1, m2, -⟩ := mem_in S S8 i hi
    by_cases y : memS S i < g.gN
    · exact y
    · exact absurd m2 (Sn _ m1 (by omega))
  refine ⟨fun i hi => ?_, fun i hi => ?_⟩
  · obtain ⟨⟨-, -, a3⟩, -⟩ := hI.2.2.1 _ (hn i hi)
    omega
  · obtain ⟨-, ⟨-, -, b3⟩, -⟩ := hI.2.2.1 _ (hn i hi)
    omega
theorem togM_ok {Q : Int32 → St → Prop} (hI : Inv g σ) (hS : S < 2 ^ g.gN) (h1 : 1 ≤ S) (hop : OpOK g 0 op)
    (hno : ∀ υ, Cor σ υ → (∀ b l, ¬ Can (qS g S op) (g.gH - 1 + 1) zz b l) → Q (-9) υ)
    (hyes : ∀ b v υ low, Cor σ υ → MP (qS g S op) (cB S 3) low (fun _ => 0) 0 g υ → 1 ≤ b → b ≤ g.gW → Can (qS g S op) (g.gH - 1 + 1) zz b v → (∀ l, Can (qS g S op) (g.gH - 1 + 1) zz b l → v ≤ l) → (∀ b' l, Can (qS g S op) (g.gH - 1 + 1) zz b' l → b ≤ b') → (∀ r, low ≤ r → r ≤ g.gH - 1 → Row (qS g S op) b (g.gH - 1 - r) (cB S 3) r υ) → υ.1 93 (1000 * low + mcod (fsp (qS g S op) (cB S 3) low)) = nI v → v < 100000 → Q (nI b) υ) :
    wp_X7_gather (nI S) (fun σ21 => wp_X7_goTogether Q σ21) σ := by
  have hd' := hI.1.1
  obtain ⟨S8, Sn⟩ := bits_lt g.gN (by omega) S hS
  have hF := qs_F hI hS
  refine gather_ok hI hS (fun τ low hc hML h25 => ?_)
  have hM : MP (qS g S op) (cB S 3) low (fun _ => 0) 0 g τ := mp_of _ (cB_le S S8 3 (by omega)) (by omega) hML h25 hF.1 hF.2 hop
  exact goTogether_ok (hI.cor hc) hM (cB_pos S S8 h1) (fun υ f h => hno υ (hc.tr f.cor) h) (fun b v υ f a1 a2 a3 a4 a5 a6 a7 a8 => hyes b v υ low (hc.tr f.cor) (hM.fr f) a1 a2 a3 a4 a5 a6 a7 a8)
theorem Fr.cor {υ : St} (f : Fr τ υ) : Cor τ υ := ⟨fun k i n => f.1 k i (fun z => n (by unfold Scr; omega)), by rw [f.2], by rw [f.2]⟩
theorem Fr.m {v : Int32} : Fr τ (sI τ 49 6 v) := ⟨fun k i n => by rw [sI_1, if_neg (by omega)], rfl⟩
theorem TF.m {a : Bool} {p : Prm} {v : Int32} (hv : v = if a = true then 1 else 0) (hT : Tab a p τ) (hp : p.la ≤ 15) : TF a p (sI τ 49 6 v) := by
  refine ⟨by rw [sI_1, if_pos ⟨rfl, rfl⟩]; exact hv, fun k hk c hc => ?_⟩
  rw [sI_1, if_neg (by omega)]
  exact hT k hk c hc
theorem best_ok {p : Prm} {Q : Int32 → St → Prop} (hP : SP p τ) (hT : Tab false p τ) (h1 : ∀ υ b l, Fr τ υ → SP p υ → TF false p υ → Can p (p.la + 1) zz b l → (∀ b' l', Can p (p.la + 1) zz b' l' → 100 * b + l ≤ 100 * b' + l') → Q 1 υ) (h0 : ∀ υ, Fr τ υ → SP p υ → TF false p υ → (∀ b l, ¬ Can p (p.la + 1) zz b l) → Q 0 υ) : wp_X3_findsBest Q τ := by
  have la := hP.1
  unfold wp_X3_findsBest
  refine rest0_ok (a := false) (hP.fr Fr.m) (TF.m rfl hT la) (fun v υ hv hf hT2 => ?_)
  have vb := XV_b (by omega) (fun _ _ => by show 0 < 10; omega) hv
  have vc := XV_c (s := fun _ => 0) (fun _ _ => by show 0 < 10; omega) (by omega) hv
  have ff := Fr.m.tr hf
  unfold FAR at vb vc
  rw [show (1000000000 : Int32) = nI 1000000000 from rfl, pn_le (by omega) (by omega)]
  refine ⟨fun z => ?_, fun z => ?_⟩
  · rcases vc with ⟨_, w⟩ | ⟨w, _⟩
    · exact h0 υ ff (hP.fr ff) hT2 w
    · omega
  · rcases vc with ⟨w, _⟩ | ⟨_, b, l, w1, _, w3⟩
    · omega
    · exact h1 υ b l ff (hP.fr ff) hT2 w1 (w3 rfl)
theorem any_ok {p : Prm} {Q : Int32 → St → Prop} (hP : SP p τ) (hT : Tab true p τ) (h1 : ∀ υ b l, Fr τ υ → SP p υ → Tab true p υ → Can p (p.la + 1) zz b l → Q 1 υ) (h0 : ∀ υ, Fr τ υ → SP p υ → Tab true p υ → (∀ b l, ¬ Can p (p.la + 1) zz b l) → Q 0 υ) : wp_X3_findsAny Q τ := by
  have la := hP.1
  unfold wp_X3_findsAny
  refine rest0_ok (a := true) (hP.fr Fr.m) (TF.m rfl hT la) (fun v υ hv hf hT2 => ?_)
  have vb := XV_b (by omega) (fun _ _ => by show 0 < 10; omega) hv
  have vc := XV_c (s := fun _ => 0) (fun _ _ => by show 0 < 10; omega) (by omega) hv
  have ff := Fr.m.tr hf
  unfold FAR at vb vc
  rw [show (1000000000 : Int32) = nI 1000000000 from rfl, pn_le (by omega) (by omega)]
  refine ⟨fun z => ?_, fun z => ?_⟩
  · rcases vc with ⟨_, w⟩ | ⟨w, _⟩
    · exact h0 υ ff (hP.fr ff) hT2.2 w
    · omega
  · rcases vc with ⟨w, _⟩ | ⟨_, b, l, w1, _, w3⟩
    · omega
    · exact h1 υ b l ff (hP.fr ff) hT2.2 w1
theorem bl_uq {p : Prm} {b l b' l' : Nat} (hk : p.la ≤ 15) (h1 : Can p (p.la + 1) zz b l) (h2 : ∀ b' l', Can p (p.la + 1) zz b' l' → 100 * b + l ≤ 100 * b' + l') (h3 : Can p (p.la + 1) zz b' l') (h4 : ∀ b l, Can p (p.la + 1) zz b l → 100 * b' + l' ≤ 100 * b + l) : b = b' ∧ l = l' := by
  have a := (Can_b (fun _ _ => by show 0 < 10; omega) h1).2.2
  have c := (Can_b (fun _ _ => by show 0 < 10; omega) h3).2.2
  have := h2 b' l' h3
  have := h4 b l h1
  omega
theorem value_ok {p : Prm} {b l : Nat} {Q : Int32 → St → Prop} (hP : SP p τ) (hT : TF false p τ) (hc : Can p (p.la + 1) zz b l) (hb : ∀ b' l', Can p (p.la + 1) zz b' l' → 100 * b + l ≤ 100 * b' + l') : (∀ Q : Int32 → St → Prop, (∀ υ, Fr τ υ → Q (nI b) υ) → wp_X3_breadth Q τ) ∧ ∀ Q : Int32 → St → Prop, (∀ υ, Fr τ υ → Q (nI l) υ) → wp_X3_leans Q τ := by
  have la := hP.1
  have l45 := (Can_b (fun _ _ => by show 0 < 10; omega) hc).2.2
  have key : ∀ v, XV false p (p.la + 1) (fun _ => 0) v → v < 1000000000 ∧ v / 1000 = 100 * b + l := by
    intro v hv
    have vc := XV_c (s := fun _ => 0) (fun _ _ => by show 0 < 10; omega) (by omega) hv
    unfold FAR at vc
    rcases vc with ⟨_, w⟩ | ⟨w, b', l', w1, w2, w3⟩
    · exact absurd hc (w b l)
    · have := bl_uq la hc hb w1 (w3 rfl)
      exact ⟨w, by omega⟩
  refine ⟨fun Q hq => ?_, fun Q hq => ?_⟩
  · unfold wp_X3_breadth
    refine rest0_ok hP hT (fun v υ hv hf hT2 => ?_)
    obtain ⟨k1, k2⟩ := key v hv
    rw [show (1000 : Int32) = nI 1000 from rfl, show (100 : Int32) = nI 100 from rfl, pk_div (by omega) (by omega) (by omega), k2, pk_div (by omega) (by omega) (by omega), show (100 * b + l) / 100 = b by omega]
    exact ⟨by decide, by decide, hq υ hf⟩
  · unfold wp_X3_leans
    refine rest0_ok hP hT (fun v υ hv hf hT2 => ?_)
    obtain ⟨k1, k2⟩ := key v hv
    rw [show (1000 : Int32) = nI 1000 from rfl, show (100 : Int32) = nI 100 from rfl, pk_div (by omega) (by omega) (by omega), k2, pk_rem (by omega) (by omega) (by omega), show (100 * b + l) % 100 = l by omega]
    exact ⟨by decide, by decide, hq υ hf⟩
theorem setX_ok {Q : St → Prop} (hI : Inv g σ) (hS : S < 2 ^ g.gN) (hop : OpOK g 0 op) (hq : ∀ τ, Cor σ τ → SP (permP (piS S) (qS g S op)) τ → (∀ a, Tab a (permP (piS S) (qS g S op)) τ) → Q τ) : wp_X6_putSet (nI S) Q σ := by
  have hd' := hI.1.1
  obtain ⟨S8, Sn⟩ := bits_lt g.gN (by omega) S hS
  have t0 := hI.2.2.2.1 0 (by omega)
  rw [show tuM 0 = 3 from rfl] at t0
  have pin := pi_in S S8
  refine putSet_ok hI hS (fun τ op' hc hop' hp => ?_)
  have hp := hp.op hop' hop
  have sp : SP (permP (piS S) (qS g S op)) τ ∧ ∀ a, Tab a (permP (piS S) (qS g S op)) τ := by
    refine sp_of hI.1 t0.2.2.2 hp (fun h hh => ?_) (fun h hh hm => ?_)
    · by_cases e : S / 2 ^ h % 2 = 1
      · have := (pin h hh).1 e
        rw [if_pos e, if_pos this.1, this.2]
      · have := (pin h hh).2 e
        rw [if_neg e, if_neg (by omega)]
    · have e : S / 2 ^ h % 2 = 1 := by
        by_cases e : S / 2 ^ h % 2 = 1
        · exact e
        · have := (pin h hh).2 e; omega
      have hn : h < g.gN := by
        by_cases y : h < g.gN
        · exact y
        · exact absurd e (Sn h hh (by omega))
      obtain ⟨-, ⟨-, -, b3⟩, -⟩ := hI.2.2.1 h hn
      refine ⟨by show g.cl h = g.cl (memS S (piS S h)); rw [((pin h hh).1 e).2], by omega⟩
  exact hq τ hc sp.1 sp.2
theorem togX_ok {Q : Int32 → St → Prop} (hI : Inv g σ) (hS : S < 2 ^ g.gN) (hop : OpOK g 0 op)
    (h1 : ∀ τ b l, Cor σ τ → SP (permP (piS S) (qS g S op)) τ → TF false (permP (piS S) (qS g S op)) τ → Can (qS g S op) (g.gH - 1 + 1) zz b l → (∀ b' l', Can (qS g S op) (g.gH - 1 + 1) zz b' l' → 100 * b + l ≤ 100 * b' + l') → Q 1 τ)
    (h0 : ∀ τ, Cor σ τ → SP (permP (piS S) (qS g S op)) τ → TF false (permP (piS S) (qS g S op)) τ → (∀ b l, ¬ Can (qS g S op) (g.gH - 1 + 1) zz b l) → Q 0 τ) :
    wp_X6_putSet (nI S) (fun σ21 => wp_X3_findsBest Q σ21) σ := by
  have hd' := hI.1.1
  obtain ⟨S8, Sn⟩ := bits_lt g.gN (by omega) S hS
  have bij := pi_bij S S8
  have cp : ∀ b l, Can (permP (piS S) (qS g S op)) (g.gH - 1 + 1) zz b l ↔ Can (qS g S op) (g.gH - 1 + 1) zz b l := fun b l => can0_perm (q := qS g S op) bij
  refine setX_ok hI hS hop (fun τ hc sp tb => ?_)
  refine best_ok sp (tb false) (fun υ b l f s t c1 c2 => h1 υ b l (hc.tr f.cor) s t ((cp b l).mp c1) (fun b' l' h => c2 b' l' ((cp b' l').mpr h))) (fun υ f s t c => h0 υ (hc.tr f.cor) s t (fun b l h => c b l ((cp b l).mpr h)))
theorem togA_ok {Q : Int32 → St → Prop} (hI : Inv g σ) (hS : S < 2 ^ g.gN) (hop : OpOK g 0 op)
    (h1 : ∀ τ b l, Cor σ τ → Can (qS g S op) (g.gH - 1 + 1) zz b l → Q 1 τ)
    (h0 : ∀ τ, Cor σ τ → (∀ b l, ¬ Can (qS g S op) (g.gH - 1 + 1) zz b l) → Q 0 τ) :
    wp_X6_putSet (nI S) (fun σ21 => wp_X3_findsAny Q σ21) σ := by
  have hd' := hI.1.1
  obtain ⟨S8, Sn⟩ := bits_lt g.gN (by omega) S hS
  have bij := pi_bij S S8
  have cp : ∀ b l, Can (permP (piS S) (qS g S op)) (g.gH - 1 + 1) zz b l ↔ Can (qS g S op) (g.gH - 1 + 1) zz b l := fun b l => can0_perm (q := qS g S op) bij
  refine setX_ok hI hS hop (fun τ hc sp tb => ?_)
  refine any_ok sp (tb true) (fun υ b l f s t c1 => h1 υ b l (hc.tr f.cor) ((cp b l).mp c1)) (fun υ f s t c => h0 υ (hc.tr f.cor) (fun b l h => c b l ((cp b l).mpr h)))
end BO
