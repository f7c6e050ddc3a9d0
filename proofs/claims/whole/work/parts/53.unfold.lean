/-! the showing, unfolded: the class -/
theorem okS.k1 {K P : Nat → Nat} {tb : Nat → Nat → Nat} {n l i c : Nat} {o : Bool} {s : SS} (hW : LW n K P tb) (hs : okS s) (hl : l < n) (hi : i < mny (K l)) (h1 : 1 ≤ c) (h3 : c ≤ 3) : okS (sk1 K tb l i o c s) ∧ s.2.length ≤ (sk1 K tb l i o c s).2.length := by
  have hk := (hW.2 l hl).1
  have hn := hW.1
  have hh : hlO K l i o < 12 := by
    unfold hlO
    cases o
    · exact fa_lt _ hk i hi
    · exact fb_lt _ hk i hi
  unfold sk1
  by_cases hp : ¬ emp s.1 ∧ (s.1 (hlO K l i o)).testBit (c - 1) = true ∧ ¬ gOn K tb l i o c s.1
  · rw [bP_t hp, cond_true]
    refine ⟨(hs.stk (by omega) hh h1 h3 hp.2.1).1, ?_⟩
    show _ ≤ (s.2 ++ [48 * l + 4 * (hlO K l i o) + c]).length
    rw [List.length_append]; omega
  · rw [bP_f hp, cond_false]
    exact ⟨hs, Nat.le_refl _⟩
theorem okS.skN {K P : Nat → Nat} {tb : Nat → Nat → Nat} {n l i : Nat} {o : Bool} {s : SS} (hW : LW n K P tb) (hs : okS s) (hl : l < n) (hi : i < mny (K l)) : ∀ k, k ≤ 3 → okS (skN K tb l i o s k) ∧ s.2.length ≤ (skN K tb l i o s k).2.length
  | 0, _ => ⟨hs, Nat.le_refl _⟩
  | k + 1, hk => by
    obtain ⟨a1, a2⟩ := okS.skN (o := o) hW hs hl hi k (by omega)
    obtain ⟨b1, b2⟩ := okS.k1 (o := o) (c := k + 1) hW a1 hl hi (by omega) hk
    exact ⟨b1, by show _ ≤ (sk1 K tb l i o (k + 1) _).2.length; omega⟩
noncomputable def caseS (K : Nat → Nat) (tb : Nat → Nat → Nat) (l i : Nat) (s : SS) : SS := bif pr (K l) then skN K tb l i true (skN K tb l i false s 3) 3 else skN K tb l i false s 3
noncomputable def lawS (K : Nat → Nat) (tb : Nat → Nat → Nat) (l : Nat) (s : SS) : Nat → SS
  | 0 => s
  | i + 1 => caseS K tb l i (lawS K tb l s i)
noncomputable def rndS (K : Nat → Nat) (tb : Nat → Nat → Nat) (st : Nat) (s : SS) : Nat → SS
  | 0 => s
  | l + 1 => bif st.testBit l then lawS K tb l (rndS K tb st s l) (mny (K l)) else rndS K tb st s l
def S0 : SS := (fun _ => 7, [])
noncomputable def RN (n : Nat) (K : Nat → Nat) (tb : Nat → Nat → Nat) (st : Nat) : Nat → SS
  | 0 => S0
  | k + 1 => rndS K tb st (RN n K tb st k) n
section UNF
variable {n l i c st : Nat} {K P : Nat → Nat} {tb : Nat → Nat → Nat} {M : IM} {s : SS}
theorem okS.case (hW : LW n K P tb) (hs : okS s) (hl : l < n) (hi : i < mny (K l)) : okS (caseS K tb l i s) ∧ s.2.length ≤ (caseS K tb l i s).2.length := by
  obtain ⟨a1, a2⟩ := okS.skN (o := false) hW hs hl hi 3 (by decide)
  unfold caseS
  cases pr (K l)
  · exact ⟨a1, a2⟩
  · obtain ⟨b1, b2⟩ := okS.skN (o := true) hW a1 hl hi 3 (by decide)
    exact ⟨b1, Nat.le_trans a2 b2⟩
theorem okS.law (hW : LW n K P tb) (hs : okS s) (hl : l < n) : ∀ i, i ≤ mny (K l) → okS (lawS K tb l s i) ∧ s.2.length ≤ (lawS K tb l s i).2.length
  | 0, _ => ⟨hs, Nat.le_refl _⟩
  | i + 1, hi => by
    obtain ⟨a1, a2⟩ := okS.law hW hs hl i (by omega)
    obtain ⟨b1, b2⟩ := okS.case hW a1 hl (show i < mny (K l) by omega)
    exact ⟨b1, Nat.le_trans a2 b2⟩
theorem okS.rnd (hW : LW n K P tb) (hs : okS s) : ∀ l, l ≤ n → okS (rndS K tb st s l) ∧ s.2.length ≤ (rndS K tb st s l).2.length
  | 0, _ => ⟨hs, Nat.le_refl _⟩
  | l + 1, hl => by
    obtain ⟨a1, a2⟩ := okS.rnd hW hs l (by omega)
    unfold rndS
    cases st.testBit l
    · exact ⟨a1, a2⟩
    · obtain ⟨b1, b2⟩ := okS.law hW a1 (show l < n by omega) (mny (K l)) (Nat.le_refl _)
      exact ⟨b1, Nat.le_trans a2 b2⟩
theorem okS0 : okS S0 := ⟨fun _ _ => by show 7 < 8; decide, rfl, fun x hx => by cases hx⟩
theorem okS.rn (hW : LW n K P tb) : ∀ k, okS (RN n K tb st k)
  | 0 => okS0
  | k + 1 => (okS.rnd hW (okS.rn hW k) n (Nat.le_refl _)).1
theorem case_emp (h : emp s.1) : caseS K tb l i s = s := by
  have z : ∀ o k, skN K tb l i o s k = s := fun o k => by
    have := skN_emp (K := K) (tb := tb) (l := l) (i := i) (o := o) (s := s) (k := 0) h k
    rw [Nat.zero_add] at this
    exact this
  unfold caseS
  cases pr (K l)
  · exact z _ _
  · show skN K tb l i true (skN K tb l i false s 3) 3 = s
    rw [z, z]
theorem law_emp {k : Nat} (h : emp (lawS K tb l s k).1) : ∀ j, lawS K tb l s (k + j) = lawS K tb l s k
  | 0 => rfl
  | j + 1 => by
    show caseS K tb l (k + j) (lawS K tb l s (k + j)) = _
    rw [law_emp h j]
    exact case_emp h
theorem law_emp0 (h : emp s.1) (j : Nat) : lawS K tb l s j = s := by
  have := law_emp (K := K) (tb := tb) (l := l) (s := s) (k := 0) h j
  rw [Nat.zero_add] at this
  exact this
theorem rnd_emp {k : Nat} (h : emp (rndS K tb st s k).1) : ∀ j, rndS K tb st s (k + j) = rndS K tb st s k
  | 0 => rfl
  | j + 1 => by
    show (bif st.testBit (k + j) then lawS K tb (k + j) (rndS K tb st s (k + j)) (mny (K (k + j))) else rndS K tb st s (k + j)) = _
    rw [rnd_emp h j]
    cases st.testBit (k + j)
    · rfl
    · exact law_emp0 h _
/-! when it stops -/
def stopS (n : Nat) (K : Nat → Nat) (tb : Nat → Nat → Nat) (st k : Nat) : Prop := emp (RN n K tb st k).1 ∨ (0 < k ∧ (RN n K tb st k).2.length = (RN n K tb st (k - 1)).2.length)
theorem p8_0 : ∀ x, x < 8 → p8 x = 0 → x = 0 := by decide
theorem tot0 {L : Nat → Nat} (h : ∀ k, k < 12 → L k < 8) (h0 : totL L = 0) : emp L := by
  refine ⟨0, by decide, ?_⟩
  apply p8_0 _ (h 0 (by decide))
  unfold totL at h0
  simp only [sumT] at h0
  omega
theorem stop_ex (hW : LW n K P tb) : ∃ k, k ≤ 36 ∧ stopS n K tb st k ∧ ∀ j, j < k → ¬ stopS n K tb st j := by
  have go : ∀ m, (∃ k, k < m ∧ stopS n K tb st k ∧ ∀ j, j < k → ¬ stopS n K tb st j) ∨ ((∀ j, j < m → ¬ stopS n K tb st j) ∧ (0 < m → m - 1 ≤ (RN n K tb st (m - 1)).2.length)) := by
    intro m
    induction m with
    | zero => exact Or.inr ⟨fun j hj => absurd hj (Nat.not_lt_zero _), fun z => absurd z (Nat.lt_irrefl _)⟩
    | succ m ih =>
      rcases ih with ⟨k, k1, k2, k3⟩ | ⟨h1, h2⟩
      · exact Or.inl ⟨k, by omega, k2, k3⟩
      · by_cases hs : stopS n K tb st m
        · exact Or.inl ⟨m, by omega, hs, h1⟩
        · refine Or.inr ⟨fun j hj => ?_, fun _ => ?_⟩
          · by_cases e : j = m
            · rw [e]; exact hs
            · exact h1 j (by omega)
          · show m + 1 - 1 ≤ (RN n K tb st (m + 1 - 1)).2.length
            rw [Nat.add_sub_cancel]
            by_cases e : m = 0
            · omega
            · have h4 := h2 (by omega)
              have h5 : (RN n K tb st (m - 1)).2.length ≤ (RN n K tb st (m - 1 + 1)).2.length := (okS.rnd (st := st) hW (okS.rn hW (m - 1)) n (Nat.le_refl _)).2
              rw [show m - 1 + 1 = m by omega] at h5
              have h6 : (RN n K tb st m).2.length ≠ (RN n K tb st (m - 1)).2.length := fun z => hs (Or.inr ⟨by omega, z⟩)
              omega
  rcases go 37 with ⟨k, k1, k2, k3⟩ | ⟨h1, h2⟩
  · exact ⟨k, by omega, k2, k3⟩
  · exfalso
    have h3 := h2 (by decide)
    have ho := okS.rn (st := st) hW 36
    rw [show 37 - 1 = 36 from rfl] at h3
    have h4 := ho.2.1
    exact h1 36 (by decide) (Or.inl (tot0 ho.1 (by omega)))
theorem ShC.fl (hs : ShC s M) : (M 62 3 = 0 ∧ ¬ emp s.1) ∨ (¬ M 62 3 = 0 ∧ emp s.1) := by
  rcases hs.2.2.2 with ⟨e1, e2⟩ | ⟨e1, e2⟩
  · exact Or.inr ⟨by rw [e1]; exact one_ne, e2⟩
  · exact Or.inl ⟨e1, e2⟩
theorem gt3 {c : Nat} (h : c ≤ 3) : ¬ (3 : Int32) < nI c := by
  rw [show (3 : Int32) = nI 3 from rfl, ni_lti (by decide) (by omega)]; omega
theorem l43 (hW : LW n K P tb) (hC : LC 1 n K P tb M) (hs : ShC s M) (ho : okS s) (hl : l < n) (hi : i < mny (K l)) (x5 : Int32) : ∃ y M', L_41_43 (1 + 5 + 2 * l) (nI l) (nI i) (nI (fa (K l) i)) x5 1 M = some (y, M') ∧ Chg 62 64 M M' ∧ ShC (skN K tb l i false s 3) M' := by
  have hk := (hW.2 l hl).1
  have hn := hW.1
  have f1 := fa_lt _ hk i hi
  have i1 : inb (nI (fa (K l) i)) 12 = true := (inb_nI (by omega)).mpr f1
  have i2 : (nI (fa (K l) i)).toNatClampNeg = fa (K l) i := ni_cl (by omega)
  obtain ⟨⟨y, M'⟩, g1, g2, g3⟩ := loopF (body := B_41_43 (1 + 5 + 2 * l) (nI l) (nI i) (nI (fa (K l) i)) x5) (fun k z => z.1 = nI (k + 1) ∧ Chg 62 64 M z.2 ∧ ShC (skN K tb l i false s k) z.2) (fun z => Chg 62 64 M z.2 ∧ ShC (skN K tb l i false s 3) z.2) 3 (by decide) (s := ((1 : Int32), M)) ⟨rfl, Chg.rf 62 64 M, hs⟩ (by
    rintro k ⟨x, Q⟩ hk3 ⟨rfl, q1, q2⟩
    unfold B_41_43 J_41_91_43
    dsimp only at q1 q2 ⊢
    by_cases hk2 : k < 3
    · obtain ⟨o1, -⟩ := okS.skN (o := false) hW ho hl hi k hk3
      rw [if_neg (gt3 (show k + 1 ≤ 3 by omega))]
      rcases q2.fl with ⟨e1, e2⟩ | ⟨e1, e2⟩
      · right
        refine ⟨hk2, ?_⟩
        have hQ := q1.LC (by decide) hn hC
        have hS : skN K tb l i false s (k + 1) = sk1 K tb l i false (k + 1) (skN K tb l i false s k) := rfl
        simp only [e1, if_true, i1, i2, q2.1 _ f1, holds_ok (m := (skN K tb l i false s k).1 (fa (K l) i)) (d := k + 1) (by have := o1.1 _ f1; omega) (by omega) (by omega), ni_add1]
        cases hb : ((skN K tb l i false s k).1 (fa (K l) i)).testBit (k + 1 - 1)
        · simp only [Bool.false_eq_true, Bool.true_eq_false, if_false, if_true]
          refine ⟨_, rfl, rfl, q1, ?_⟩
          rw [hS]; unfold sk1
          rw [bP_f (fun z => by have z2 := z.2.1; rw [show hlO K l i false = fa (K l) i from rfl, hb] at z2; cases z2), cond_false]
          exact q2
        · simp only [if_true, one_ne, if_false]
          rcases f42 (c := k + 1) hW hQ q2 o1 hl hi (by omega) (by omega) with ⟨a1, a2⟩ | ⟨a1, a2⟩
          · simp only [a1, if_true]
            refine ⟨_, rfl, rfl, q1, ?_⟩
            rw [hS]; unfold sk1
            rw [bP_f (fun z => z.2.2 a2), cond_false]
            exact q2
          · obtain ⟨M6, b1, b2, b3⟩ := f44 (l := l) (h := fa (K l) i) (c := k + 1) q2 o1 (by omega) f1 (by omega) (by omega) hb
            simp only [a1, one_ne, if_false, b1]
            refine ⟨_, rfl, rfl, q1.tr b2, ?_⟩
            rw [hS]; unfold sk1
            rw [bP_t ⟨e2, hb, a2⟩, cond_true]
            exact b3
      · left
        rw [if_neg e1]
        refine ⟨_, rfl, q1, ?_⟩
        have := skN_emp e2 (3 - k)
        rw [show k + (3 - k) = 3 by omega] at this
        rw [this]; exact q2
    · left
      obtain rfl : k = 3 := by omega
      exact ⟨_, if_pos (by decide), q1, q2⟩)
  exact ⟨y, M', g1, g2, g3⟩
theorem l100 (hW : LW n K P tb) (hC : LC 1 n K P tb M) (hs : ShC s M) (ho : okS s) (hl : l < n) (hi : i < mny (K l)) : ∃ y M', L_41_100 (1 + 5 + 2 * l) (nI l) (nI i) (nI (fb (K l) i)) 1 M = some (y, M') ∧ Chg 62 64 M M' ∧ ShC (bif pr (K l) then skN K tb l i true s 3 else s) M' := by
  have hk := (hW.2 l hl).1
  have hn := hW.1
  have f1 := fb_lt _ hk i hi
  have i1 : inb (nI (fb (K l) i)) 12 = true := (inb_nI (by omega)).mpr f1
  have i2 : (nI (fb (K l) i)).toNatClampNeg = fb (K l) i := ni_cl (by omega)
  obtain ⟨⟨y, M'⟩, g1, g2, g3⟩ := loopF (body := B_41_100 (1 + 5 + 2 * l) (nI l) (nI i) (nI (fb (K l) i))) (fun k z => z.1 = nI (k + 1) ∧ Chg 62 64 M z.2 ∧ ShC (bif pr (K l) then skN K tb l i true s k else s) z.2) (fun z => Chg 62 64 M z.2 ∧ ShC (bif pr (K l) then skN K tb l i true s 3 else s) z.2) 3 (by decide) (s := ((1 : Int32), M)) ⟨rfl, Chg.rf 62 64 M, by cases pr (K l) <;> exact hs⟩ (by
    rintro k ⟨x, Q⟩ hk3 ⟨rfl, q1, q2⟩
    unfold B_41_100 J_41_148_100
    dsimp only at q1 q2 ⊢
    by_cases hk2 : k < 3
    · rw [if_neg (gt3 (show k + 1 ≤ 3 by omega))]
      have hQ := q1.LC (by decide) hn hC
      cases hp : pr (K l)
      · rw [hp, cond_false] at q2
        rcases q2.fl with ⟨e1, e2⟩ | ⟨e1, e2⟩
        · right
          refine ⟨hk2, (nI (k + 2), Q), ?_, rfl, q1, q2⟩
          simp only [e1, if_true, i1, i2, ni_add1]
          by_cases hb : F_143 (Q 63 (fb (K l) i)) (nI (k + 1)) = 0
          · rw [if_pos hb]
          · rw [if_neg hb]
            rcases f43 (c := k + 1) hW hQ q2 ho hl hi (by omega) (by omega) with ⟨-, a1⟩ | ⟨a0, -⟩
            · simp only [a1, if_true]
            · rw [hp] at a0; cases a0
        · left
          rw [if_neg e1]
          exact ⟨_, rfl, q1, q2⟩
      · rw [hp, cond_true] at q2
        obtain ⟨o1, -⟩ := okS.skN (o := true) hW ho hl hi k hk3
        rcases q2.fl with ⟨e1, e2⟩ | ⟨e1, e2⟩
        · right
          refine ⟨hk2, ?_⟩
          have hS : skN K tb l i true s (k + 1) = sk1 K tb l i true (k + 1) (skN K tb l i true s k) := rfl
          simp only [e1, if_true, i1, i2, q2.1 _ f1, holds_ok (m := (skN K tb l i true s k).1 (fb (K l) i)) (d := k + 1) (by have := o1.1 _ f1; omega) (by omega) (by omega), ni_add1]
          cases hb : ((skN K tb l i true s k).1 (fb (K l) i)).testBit (k + 1 - 1)
          · simp only [Bool.false_eq_true, Bool.true_eq_false, if_false, if_true]
            refine ⟨_, rfl, rfl, q1, ?_⟩
            rw [cond_true, hS]; unfold sk1
            rw [bP_f (fun z => by have z2 := z.2.1; rw [show hlO K l i true = fb (K l) i from rfl, hb] at z2; cases z2), cond_false]
            exact q2
          · simp only [if_true, one_ne, if_false]
            rcases f43 (c := k + 1) hW hQ q2 o1 hl hi (by omega) (by omega) with ⟨a0, -⟩ | ⟨-, a3⟩
            · rw [hp] at a0; cases a0
            · rcases a3 with ⟨a1, a2⟩ | ⟨a1, a2⟩
              · simp only [a1, if_true]
                refine ⟨_, rfl, rfl, q1, ?_⟩
                rw [cond_true, hS]; unfold sk1
                rw [bP_f (fun z => z.2.2 a2), cond_false]
                exact q2
              · obtain ⟨M6, b1, b2, b3⟩ := f44 (l := l) (h := fb (K l) i) (c := k + 1) q2 o1 (by omega) f1 (by omega) (by omega) hb
                simp only [a1, one_ne, if_false, b1]
                refine ⟨_, rfl, rfl, q1.tr b2, ?_⟩
                rw [cond_true, hS]; unfold sk1
                rw [bP_t ⟨e2, hb, a2⟩, cond_true]
                exact b3
        · left
          rw [if_neg e1]
          refine ⟨_, rfl, q1, ?_⟩
          have := skN_emp e2 (3 - k)
          rw [show k + (3 - k) = 3 by omega] at this
          rw [cond_true, this]; exact q2
    · left
      obtain rfl : k = 3 := by omega
      exact ⟨_, if_pos (by decide), q1, q2⟩)
  exact ⟨y, M', g1, g2, g3⟩
theorem f41 (hW : LW n K P tb) (hC : LC 1 n K P tb M) (hs : ShC s M) (ho : okS s) (hl : l < n) : ∃ M', F_41 (1 + 5 + 2 * l) (nI l) M = some M' ∧ Chg 62 64 M M' ∧ ShC (lawS K tb l s (mny (K l))) M' := by
  have hk := (hW.2 l hl).1
  have hn := hW.1
  have hm := mny_lt hk
  obtain ⟨⟨y, M'⟩, g1, g2, g3⟩ := loopF (body := B_41_2 (1 + 5 + 2 * l) (nI l)) (fun k z => z.1 = nI k ∧ Chg 62 64 M z.2 ∧ ShC (lawS K tb l s k) z.2) (fun z => Chg 62 64 M z.2 ∧ ShC (lawS K tb l s (mny (K l))) z.2) (mny (K l)) (by omega) (s := ((0 : Int32), M)) ⟨rfl, Chg.rf 62 64 M, hs⟩ (by
    rintro k ⟨x, Q⟩ hkm ⟨rfl, q1, q2⟩
    unfold B_41_2 J_41_97_2 J_41_154_2
    dsimp only at q1 q2 ⊢
    have hQ := q1.LC (by decide) hn hC
    have c0 : Q (1 + 5 + 2 * l) 0 = nI (K l) := (hQ.2 l hl).1
    rw [c0, E_0 _ hk]
    dsimp only
    by_cases hk2 : k < mny (K l)
    · obtain ⟨o1, -⟩ := okS.law hW ho hl k hkm
      rw [if_neg (show ¬ nI (mny (K l)) ≤ nI k from nI_ge hk2 (by omega))]
      rcases q2.fl with ⟨e1, e2⟩ | ⟨e1, e2⟩
      · right
        refine ⟨hk2, ?_⟩
        obtain ⟨y1, M1, a1, a2, a3⟩ := l43 hW hQ q2 o1 hl hk2 (nI (fb (K l) k))
        have hM1 := a2.LC (by decide) hn hQ
        obtain ⟨o2, -⟩ := okS.skN (o := false) hW o1 hl hk2 3 (by decide)
        obtain ⟨y2, M2, b1, b2, b3⟩ := l100 hW hM1 a3 o2 hl hk2
        rw [if_pos e1, E_2 _ hk k hk2, E_3 _ hk k hk2]
        dsimp only
        rw [a1]
        dsimp only
        rw [b1]
        dsimp only
        refine ⟨_, rfl, ni_add1 k, (q1.tr a2).tr b2, ?_⟩
        show ShC (caseS K tb l k (lawS K tb l s k)) M2
        unfold caseS
        cases hp : pr (K l)
        · rw [hp] at b3; exact b3
        · rw [hp] at b3; exact b3
      · left
        rw [if_neg e1]
        refine ⟨_, rfl, q1, ?_⟩
        have := law_emp e2 (mny (K l) - k)
        rw [show k + (mny (K l) - k) = mny (K l) by omega] at this
        rw [this]; exact q2
    · left
      obtain rfl : k = mny (K l) := by omega
      exact ⟨_, if_pos (nI_le (Nat.le_refl _) (by omega)), q1, q2⟩)
  unfold F_41 L_41_2
  rw [g1]
  exact ⟨M', rfl, g2, g3⟩
theorem l39 (hW : LW n K P tb) (hC : LC 1 n K P tb M) (hst : st < 256) (hs : ShC s M) (ho : okS s) (x3 x4 : Int32) : ∃ y M', L_40_39 1 (nI st) x3 x4 0 M = some (y, M') ∧ Chg 62 64 M M' ∧ ShC (rndS K tb st s n) M' := by
  have hn := hW.1
  obtain ⟨⟨y, M'⟩, g1, g2, g3⟩ := loopF (body := B_40_39 1 (nI st) x3 x4) (fun k z => z.1 = nI k ∧ Chg 62 64 M z.2 ∧ ShC (rndS K tb st s k) z.2) (fun z => Chg 62 64 M z.2 ∧ ShC (rndS K tb st s n) z.2) n (by omega) (s := ((0 : Int32), M)) ⟨rfl, Chg.rf 62 64 M, hs⟩ (by
    rintro k ⟨x, Q⟩ hkm ⟨rfl, q1, q2⟩
    unfold B_40_39 J_40_78_39
    dsimp only at q1 q2 ⊢
    have hQ := q1.LC (by decide) hn hC
    rw [hQ.1]
    by_cases hk2 : k < n
    · obtain ⟨o1, -⟩ := okS.rnd (st := st) hW ho k hkm
      rw [if_neg (show ¬ nI n ≤ nI k from nI_ge hk2 (by omega))]
      rcases q2.fl with ⟨e1, e2⟩ | ⟨e1, e2⟩
      · right
        refine ⟨hk2, ?_⟩
        rw [if_pos e1, isOf_ok hn hst hQ.1 hk2]
        have hR : rndS K tb st s (k + 1) = bif st.testBit k then lawS K tb k (rndS K tb st s k) (mny (K k)) else rndS K tb st s k := rfl
        cases hb : st.testBit k
        · simp only [Bool.false_eq_true, Bool.true_eq_false, if_false, if_true]
          refine ⟨_, rfl, ni_add1 k, q1, ?_⟩
          rw [hR, hb]; exact q2
        · simp only [if_true, one_ne, if_false]
          obtain ⟨M1, a1, a2, a3⟩ := f41 hW hQ q2 o1 hk2
          rw [if_pos ((inb_nI (by omega)).mpr (by omega)), ni_cl (by omega), a1]
          dsimp only
          refine ⟨_, rfl, ni_add1 k, q1.tr a2, ?_⟩
          rw [hR, hb]; exact a3
      · left
        rw [if_neg e1]
        refine ⟨_, rfl, q1, ?_⟩
        have := rnd_emp e2 (n - k)
        rw [show k + (n - k) = n by omega] at this
        rw [this]; exact q2
    · left
      obtain rfl : k = n := by omega
      exact ⟨_, if_pos (nI_le (Nat.le_refl _) (by omega)), q1, q2⟩)
  exact ⟨y, M', g1, g2, g3⟩
theorem f39 : ∃ M', F_39 M = some M' ∧ Chg 62 64 M M' ∧ ShC S0 M' := by
  unfold F_39
  rw [fill_ok 63 7 M (by rw [ln63]; decide), ln63]
  refine ⟨_, rfl, (((Chg.rf 62 64 M).wr (by decide) (by decide)).set (by decide) (by decide)).set (by decide) (by decide), ?_, ?_, ?_, ?_⟩
  · intro h hh
    rw [iset_k (by decide), iset_k (by decide), wr_in (Nat.zero_le _) hh]; rfl
  · rw [iset_j (by decide), iset_same]; rfl
  · intro j hj; exact absurd hj (Nat.not_lt_zero _)
  · refine Or.inr ⟨by rw [iset_same], ?_⟩
    rintro ⟨h, -, h2⟩
    exact absurd h2 (by show ¬ 7 = 0; decide)
theorem f40 {k : Nat} (hW : LW n K P tb) (hC : LC 1 n K P tb M) (hst : st < 256) (h36 : k ≤ 36) (h1 : stopS n K tb st k) (h2 : ∀ j, j < k → ¬ stopS n K tb st j) : ∃ M', F_40 1 (nI st) M = some M' ∧ Chg 62 64 M M' ∧ ShC (RN n K tb st k) M' := by
  have hn := hW.1
  obtain ⟨M1, a1, a2, a3⟩ := f39 (M := M)
  obtain ⟨⟨y, z, M'⟩, g1, g2, g3⟩ := loopF (body := B_40_9 1 (nI st)) (fun j w => w.1 = (if j = 0 then -1 else nI (RN n K tb st (j - 1)).2.length) ∧ w.2.1 = nI j ∧ Chg 62 64 M w.2.2 ∧ ShC (RN n K tb st j) w.2.2) (fun w => Chg 62 64 M w.2.2 ∧ ShC (RN n K tb st k) w.2.2) k (by omega) (s := ((-1 : Int32), (0 : Int32), M1)) ⟨rfl, rfl, a2, a3⟩ (by
    rintro j ⟨x, y, Q⟩ hjk ⟨e0, rfl, q1, q2⟩
    dsimp only at e0 q1 q2
    unfold B_40_9 J_40_84_9
    dsimp only
    have hQ := q1.LC (by decide) hn hC
    have ho := okS.rn (st := st) hW j
    have hlen : (RN n K tb st j).2.length ≤ 36 := by have := ho.2.1; omega
    rw [if_neg (show ¬ (36 : Int32) < nI j by rw [show (36 : Int32) = nI 36 from rfl, ni_lti (by decide) (by omega)]; omega)]
    have hx : (Q 62 2 = x) ↔ (0 < j ∧ (RN n K tb st j).2.length = (RN n K tb st (j - 1)).2.length) := by
      rw [q2.2.1, e0]
      by_cases e : j = 0
      · rw [if_pos e]
        exact ⟨fun z => absurd z (by rw [ni_ne_neg (by omega) ni_neg1]; exact id), fun z => absurd z.1 (by omega)⟩
      · rw [if_neg e, ni_eqi (by omega) (by have := (okS.rn (st := st) hW (j - 1)).2.1; omega)]
        exact ⟨fun z => ⟨by omega, z⟩, fun z => z.2⟩
    by_cases hj : j < k
    · right
      have hns := h2 j hj
      have ne : ¬ emp (RN n K tb st j).1 := fun z => hns (Or.inl z)
      have e1 : Q 62 3 = 0 := by
        rcases q2.fl with ⟨e1, -⟩ | ⟨-, e2⟩
        · exact e1
        · exact absurd e2 ne
      obtain ⟨y', M8, b1, b2, b3⟩ := l39 hW hQ hst q2 ho (Q 62 2) (nI j)
      rw [if_pos e1, if_neg (fun z => hns (Or.inr (hx.mp z))), b1]
      dsimp only
      refine ⟨hj, _, rfl, ?_, ni_add1 j, q1.tr b2, b3⟩
      rw [if_neg (by omega), Nat.add_sub_cancel]
      exact q2.2.1
    · left
      obtain rfl : j = k := by omega
      rcases q2.fl with ⟨e1, e2⟩ | ⟨e1, e2⟩
      · rw [if_pos e1, if_pos (hx.mpr (by rcases h1 with z | z; · exact absurd z e2
                                          · exact z))]
        exact ⟨_, rfl, q1, q2⟩
      · rw [if_neg e1]
        exact ⟨_, rfl, q1, q2⟩)
  unfold F_40 L_40_9
  rw [a1]
  dsimp only
  rw [g1]
  exact ⟨M', rfl, g2, g3⟩
end UNF
