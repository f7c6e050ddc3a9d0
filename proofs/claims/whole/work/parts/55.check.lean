/-! show and check -/
theorem m2_le {b : Int32} (h : (-2 : Int32) ≤ b) (h1 : ¬ b = -1) (h2 : ¬ b = -2) : 0 ≤ b := by
  rw [Int32.le_iff_toInt_le] at h ⊢
  rw [← Int32.toInt_inj] at h1 h2
  have e1 : (-1 : Int32).toInt = -1 := by decide
  have e2 : (-2 : Int32).toInt = -2 := by decide
  have e0 : (0 : Int32).toInt = 0 := by decide
  rw [e1] at h1
  rw [e2] at h h2
  rw [e0]
  omega
theorem m2_a : (-2 : Int32) ≤ -1 ∧ ¬ (0 : Int32) ≤ -1 ∧ (-2 : Int32) ≤ -2 ∧ ¬ (0 : Int32) ≤ -2 ∧ ¬ (-2 : Int32) = -1 := by decide
theorem m2_n {j : Nat} (h : j < 2147483648) : (-2 : Int32) ≤ nI j := by
  have := ni_nn' h
  have h0 : (0 : Int32) ≤ nI j := by rw [this]; trivial
  rw [Int32.le_iff_toInt_le] at h0 ⊢
  have e2 : (-2 : Int32).toInt = -2 := by decide
  have e0 : (0 : Int32).toInt = 0 := by decide
  rw [e0] at h0; rw [e2]; omega
theorem B_show (a b : Int32) : Both (F_113 a b) (F_222 a b) := by
  intro M hI
  obtain ⟨n, K, P, tb, q, hV⟩ := id hI
  have hW := hV.1.1
  rcases ckS hV.1 a with ⟨s, hs, hs2, rfl, e1, e2⟩ | ⟨e1, e2⟩
  · by_cases h2 : (-2 : Int32) ≤ b
    · obtain ⟨k, k1, k2, k3⟩ := stop_ex (st := s) hW
      obtain ⟨M3, a1, a2, a3⟩ := f40 hW hV.1.2.1 hs2 k1 k2 k3
      have hV3 : Iv n K P tb q M3 := hV.a0 ((a2.wk (show 44 ≤ 62 by decide) (show 64 ≤ 64 by decide)).c)
      have hhi : ∀ k j, 77 ≤ k → M3 k j = M k j := a2.lo (by decide)
      have ho := okS.rn (st := s) hW k
      have hlen : (RN n K tb s k).2.length ≤ 36 := by have := ho.2.1; omega
      by_cases hb1 : b = -1
      · subst hb1
        obtain ⟨M4, b1, b2, b3⟩ := f221 hW hV3.1.2.2 hV3.2.2.2.2.2.2.2.2.2 hs2 k1 k2 k3
        refine ⟨nI (RN n K tb s k).2.length, M3, M4, ?_, ?_, n, K, P, tb, q, hV3.a0 b2.a⟩
        · simp only [F_113, e1, one_ne, if_false, h2, if_true, a1, a3.2.1]
        · simp only [F_222, e2 M3 hhi, one_ne, if_false, h2, if_true, b1, m2_a.2.1, b3.2.1]
      · by_cases hb2 : b = -2
        · subst hb2
          obtain ⟨M4, b1, b2, b3⟩ := f221 hW hV3.1.2.2 hV3.2.2.2.2.2.2.2.2.2 hs2 k1 k2 k3
          rcases a3.fl with ⟨g1, g2⟩ | ⟨g1, g2⟩
          · refine ⟨0, M3, M4, ?_, ?_, n, K, P, tb, q, hV3.a0 b2.a⟩
            · simp only [F_113, e1, one_ne, if_false, h2, if_true, a1, hb1, g1]
            · rcases f218 b3.1 ho with ⟨g3, g4⟩ | ⟨g3, g4⟩
              · exact absurd g4 g2
              · simp only [F_222, e2 M3 hhi, one_ne, if_false, h2, if_true, b1, m2_a.2.2.2.1, hb1, g3]
          · refine ⟨1, M3, M4, ?_, ?_, n, K, P, tb, q, hV3.a0 b2.a⟩
            · simp only [F_113, e1, one_ne, if_false, h2, if_true, a1, hb1, g1]
            · rcases f218 b3.1 ho with ⟨g3, g4⟩ | ⟨g3, g4⟩
              · simp only [F_222, e2 M3 hhi, one_ne, if_false, h2, if_true, b1, m2_a.2.2.2.1, hb1, g3]
              · exact absurd g2 g4
        · have h0 := m2_le h2 hb1 hb2
          have hbj := ni_of h0
          by_cases hc : nI (RN n K tb s k).2.length ≤ b
          · have hq := hV3.1.2.2.cg hW.1 (M' := iset M3 43 2 (M3 43 2 + 1)) (fun j _ => iset_k (by decide))
            have hq11 := hV3.2.2.2.2.2.2.2.2.2.cg (M' := iset M3 43 2 (M3 43 2 + 1)) (fun k j h1 h2 => iset_k (by omega))
            obtain ⟨M4, b1, b2, b3⟩ := f221 hW hq hq11 hs2 k1 k2 k3
            refine ⟨-1000002, iset M3 43 2 (M3 43 2 + 1), _, ?_, ?_, hV3.rfs (e := 2) (agx.rf 0 M3) b2.a (by decide)⟩
            · simp only [F_113, e1, one_ne, if_false, h2, if_true, a1, hb1, hb2, a3.2.1, hc, Rf2]
            · simp only [F_222, e2 _ (hi43 hhi 2 (M3 43 2 + 1)), one_ne, if_false, h2, if_true, b1, h0, b3.2.1, hc, Rg2]
          · obtain ⟨j, hj, rfl⟩ : ∃ j, j < (RN n K tb s k).2.length ∧ b = nI j := by
              rcases I_tri b (n := (RN n K tb s k).2.length) (by omega) with z | z | z
              · exact absurd h0 (Int32.not_le.mpr z)
              · exact absurd z hc
              · exact z
            obtain ⟨M4, b1, b2, b3⟩ := f221 hW hV3.1.2.2 hV3.2.2.2.2.2.2.2.2.2 hs2 k1 k2 k3
            have i1 : inb (nI j) 36 = true := (inb_nI (by omega)).mpr (by omega)
            have i2 : (nI j).toNatClampNeg = j := ni_cl (by omega)
            refine ⟨nI ((RN n K tb s k).2.getD j 0), M3, M4, ?_, ?_, n, K, P, tb, q, hV3.a0 b2.a⟩
            · simp only [F_113, e1, one_ne, if_false, h2, if_true, a1, hb1, hb2, a3.2.1, hc, i1, i2, a3.2.2.1 j hj]
            · simp only [F_222, e2 M3 hhi, one_ne, if_false, h2, if_true, b1, h0, b3.2.1, hc, i1, i2, b3.2.2 j hj]
    · refine rfu1 hI ?_ (fun M1 hM1 => ?_)
      · simp only [F_113, J_113_14, e1, one_ne, if_false, h2, Rf1]
      · simp only [F_222, J_222_14, e2 M1 hM1, one_ne, if_false, h2, Rg1]
  · refine rfu1 hI ?_ (fun M1 hM1 => ?_)
    · simp only [F_113, J_113_14, e1, if_true, Rf1]
    · simp only [F_222, J_222_14, e2 M1 hM1, if_true, Rg1]
def frc (K : Nat → Nat) (tb : Nat → Nat → Nat) (l h c : Nat) (L : Nat → Nat) (i : Nat) : Prop := (fa (K l) i = h ∧ ¬ gOn K tb l i false c L) ∨ (pr (K l) = true ∧ fb (K l) i = h ∧ ¬ gOn K tb l i true c L)
def TKp (n : Nat) (K : Nat → Nat) (tb : Nat → Nat → Nat) (st : Nat) (s : SS) (v : Int32) : Prop := 0 ≤ v ∧ v.toNatClampNeg % 4 ≠ 0 ∧ v.toNatClampNeg / 48 < n ∧ st.testBit (v.toNatClampNeg / 48) = true ∧ (s.1 (v.toNatClampNeg % 48 / 4)).testBit (v.toNatClampNeg % 4 - 1) = true ∧ ∃ i, i < mny (K (v.toNatClampNeg / 48)) ∧ frc K tb (v.toNatClampNeg / 48) (v.toNatClampNeg % 48 / 4) (v.toNatClampNeg % 4) s.1 i
def stv (s : SS) (v : Int32) : SS := stk s (v.toNatClampNeg / 48) (v.toNatClampNeg % 48 / 4) (v.toNatClampNeg % 4)
section CHK
variable {n l i c h st : Nat} {K P : Nat → Nat} {tb : Nat → Nat → Nat} {M : IM} {s : SS}
theorem f46 (hW : LW n K P tb) (hC : LC 1 n K P tb M) (hs : ShC s M) (ho : okS s) (hl : l < n) (hh : h < 12) (h1 : 1 ≤ c) (h3 : c ≤ 3) : (F_46 (1 + 5 + 2 * l) (nI h) (nI c) M = some 1 ∧ ∃ i, i < mny (K l) ∧ frc K tb l h c s.1 i) ∨ (F_46 (1 + 5 + 2 * l) (nI h) (nI c) M = some 0 ∧ ¬ ∃ i, i < mny (K l) ∧ frc K tb l h c s.1 i) := by
  have hk := (hW.2 l hl).1
  have hm := mny_lt hk
  have c0 : M (1 + 5 + 2 * l) 0 = nI (K l) := (hC.2 l hl).1
  obtain ⟨res, g1, g2⟩ := loopF (body := B_46_3 (1 + 5 + 2 * l) (nI h) (nI c) M) (fun k z => z = nI k ∧ ∀ i, i < k → ¬ frc K tb l h c s.1 i) (fun r => match r with | .inl _ => ¬ ∃ i, i < mny (K l) ∧ frc K tb l h c s.1 i | .inr x => x = 1 ∧ ∃ i, i < mny (K l) ∧ frc K tb l h c s.1 i) (mny (K l)) (by omega) (s := (0 : Int32)) ⟨rfl, fun i hi => absurd hi (Nat.not_lt_zero _)⟩ (by
    rintro k z hkm ⟨rfl, q⟩
    unfold B_46_3 J_46_41_3 J_46_67_3
    rw [c0, E_0 _ hk]
    dsimp only
    by_cases hk2 : k < mny (K l)
    · have f1 := fa_lt _ hk k hk2
      have f2 := fb_lt _ hk k hk2
      rw [if_neg (show ¬ nI (mny (K l)) ≤ nI k from nI_ge hk2 (by omega)), E_2 _ hk k hk2, E_3 _ hk k hk2]
      dsimp only
      have n1 : (nI (fa (K l) k) = nI h) = (fa (K l) k = h) := ni_eqi (by omega) (by omega)
      have n2 : (nI (fb (K l) k) = nI h) = (fb (K l) k = h) := ni_eqi (by omega) (by omega)
      simp only [n1, n2]
      have sec : (F_43 (1 + 5 + 2 * l) (nI k) (nI c) M = some 0 ∧ ¬ (pr (K l) = true ∧ ¬ gOn K tb l k true c s.1)) ∨ (F_43 (1 + 5 + 2 * l) (nI k) (nI c) M = some 1 ∧ (pr (K l) = true ∧ ¬ gOn K tb l k true c s.1)) := by
        rcases f43 (c := c) hW hC hs ho hl hk2 h1 h3 with ⟨p0, p1⟩ | ⟨p0, ⟨p1, p2⟩ | ⟨p1, p2⟩⟩
        · exact Or.inl ⟨p1, fun z => by rw [p0] at z; exact absurd z.1 (by decide)⟩
        · exact Or.inl ⟨p1, fun z => z.2 p2⟩
        · exact Or.inr ⟨p1, p0, p2⟩
      have rest : ¬ (fa (K l) k = h ∧ ¬ gOn K tb l k false c s.1) → (∃ r, (if fb (K l) k = h then (match F_43 (1 + 5 + 2 * l) (nI k) (nI c) M with | none => none | some c5 => (if c5 = 0 then (some (Sum.inl (nI k + 1))) else (some (Sum.inr (Sum.inr 1))))) else (some (Sum.inl (nI k + 1))) : Option (Int32 ⊕ (Int32 ⊕ Int32))) = some (.inr r) ∧ (match r with | .inl _ => ¬ ∃ i, i < mny (K l) ∧ frc K tb l h c s.1 i | .inr x => x = 1 ∧ ∃ i, i < mny (K l) ∧ frc K tb l h c s.1 i)) ∨ (k < mny (K l) ∧ ∃ s', (if fb (K l) k = h then (match F_43 (1 + 5 + 2 * l) (nI k) (nI c) M with | none => none | some c5 => (if c5 = 0 then (some (Sum.inl (nI k + 1))) else (some (Sum.inr (Sum.inr 1))))) else (some (Sum.inl (nI k + 1))) : Option (Int32 ⊕ (Int32 ⊕ Int32))) = some (.inl s') ∧ s' = nI (k + 1) ∧ ∀ i, i < k + 1 → ¬ frc K tb l h c s.1 i) := by
        intro hno
        by_cases hf : fb (K l) k = h
        · rw [if_pos hf]
          rcases sec with ⟨p1, p2⟩ | ⟨p1, p2⟩
          · right
            rw [p1]
            dsimp only
            rw [if_pos rfl]
            refine ⟨hk2, _, rfl, ni_add1 k, fun i hi => ?_⟩
            by_cases e : i = k
            · rw [e]
              rintro (z | z)
              · exact hno z
              · exact p2 ⟨z.1, z.2.2⟩
            · exact q i (by omega)
          · left
            rw [p1]
            dsimp only
            rw [if_neg one_ne]
            exact ⟨_, rfl, rfl, k, hk2, Or.inr ⟨p2.1, hf, p2.2⟩⟩
        · right
          rw [if_neg hf]
          refine ⟨hk2, _, rfl, ni_add1 k, fun i hi => ?_⟩
          by_cases e : i = k
          · rw [e]
            rintro (z | z)
            · exact hno z
            · exact hf z.2.1
          · exact q i (by omega)
      by_cases hf : fa (K l) k = h
      · rw [if_pos hf]
        rcases f42 (c := c) hW hC hs ho hl hk2 h1 h3 with ⟨p1, p2⟩ | ⟨p1, p2⟩
        · rw [p1]
          dsimp only
          rw [if_pos rfl]
          exact rest (fun z => z.2 p2)
        · left
          rw [p1]
          dsimp only
          rw [if_neg one_ne]
          exact ⟨_, rfl, rfl, k, hk2, Or.inl ⟨hf, p2⟩⟩
      · rw [if_neg hf]
        exact rest (fun z => hf z.1)
    · left
      obtain rfl : k = mny (K l) := by omega
      rw [if_pos (nI_le (Nat.le_refl _) (by omega))]
      exact ⟨_, rfl, fun ⟨i, i1, i2⟩ => q i i1 i2⟩)
  unfold F_46 L_46_3
  rw [g1]
  cases res with
  | inl y => exact Or.inr ⟨rfl, g2⟩
  | inr x => obtain ⟨rfl, g2⟩ := g2; exact Or.inl ⟨rfl, g2⟩
theorem vnum {v : Int32} (h0 : 0 ≤ v) : v / 48 = nI (v.toNatClampNeg / 48) ∧ v - v / 4 * 4 = nI (v.toNatClampNeg % 4) ∧ (v - v / 48 * 48) / 4 = nI (v.toNatClampNeg % 48 / 4) ∧ v.toNatClampNeg < 2147483648 := by
  have hv := ni_of h0
  have hb : v.toNatClampNeg < 2147483648 := by
    have := Int32.toInt_lt v
    have h : v.toNatClampNeg = v.toInt.toNat := rfl
    omega
  generalize v.toNatClampNeg = x at hv hb
  subst hv
  refine ⟨ni_div hb (by decide) (by decide), ni_rem hb (by decide) (by decide), ?_, hb⟩
  rw [show (48 : Int32) = nI 48 from rfl, ni_rem hb (by decide) (by decide)]
  exact ni_div (by omega) (by decide) (by decide)
theorem f45 (hW : LW n K P tb) (hC : LC 1 n K P tb M) (hst : st < 256) (hs : ShC s M) (ho : okS s) (v : Int32) : (∃ M', F_45 1 (nI st) v M = some (1, M') ∧ Chg 62 64 M M' ∧ TKp n K tb st s v ∧ ShC (stv s v) M' ∧ okS (stv s v)) ∨ (F_45 1 (nI st) v M = some (0, M) ∧ ¬ TKp n K tb st s v) := by
  have hn := hW.1
  unfold F_45
  by_cases h0 : 0 ≤ v
  · obtain ⟨v1, v2, v3, v4⟩ := vnum h0
    rw [if_pos h0, v3, v2, v1]
    unfold TKp stv
    generalize v.toNatClampNeg = x at v4
    by_cases h4 : x % 4 = 0
    · right
      rw [h4, if_pos (show nI 0 = 0 from rfl)]
      exact ⟨rfl, fun z => z.2.1 rfl⟩
    · rw [if_neg (nI_ne0 (by omega) (by omega))]
      by_cases hl : x / 48 < n
      · rw [isOf_ok hn hst hC.1 hl]
        cases hb : st.testBit (x / 48)
        · right
          simp only [Bool.false_eq_true, Bool.true_eq_false, if_false, if_true]
          exact ⟨trivial, fun z => z.2.2.2.1⟩
        · simp only [if_true, one_ne, if_false]
          have hh : x % 48 / 4 < 12 := by omega
          rw [if_pos ((inb_nI (by omega)).mpr hh), ni_cl (show x % 48 / 4 < 2147483648 by omega), hs.1 _ hh, holds_ok (by have := ho.1 _ hh; omega) (by omega) (by omega)]
          cases hb2 : (s.1 (x % 48 / 4)).testBit (x % 4 - 1)
          · right
            simp only [Bool.false_eq_true, Bool.true_eq_false, if_false, if_true]
            exact ⟨trivial, fun z => z.2.2.2.2.1⟩
          · simp only [if_true, one_ne, if_false]
            rw [if_pos ((inb_nI (by omega)).mpr (by omega)), ni_cl (show x / 48 < 2147483648 by omega)]
            rcases f46 hW hC hs ho hl hh (show 1 ≤ x % 4 by omega) (by omega) with ⟨p1, p2⟩ | ⟨p1, p2⟩
            · left
              obtain ⟨M6, b1, b2, b3⟩ := f44 (l := x / 48) (h := x % 48 / 4) (c := x % 4) hs ho (by omega) hh (by omega) (by omega) hb2
              rw [p1]
              dsimp only
              rw [if_neg one_ne, b1]
              exact ⟨M6, rfl, b2, ⟨h0, h4, hl, trivial, trivial, p2⟩, b3, (ho.stk (by omega) hh (by omega) (by omega) hb2).1⟩
            · right
              rw [p1]
              dsimp only
              rw [if_pos rfl]
              exact ⟨rfl, fun z => p2 z.2.2.2.2.2⟩
      · right
        have e83 : F_83 1 (nI st) (nI (x / 48)) M = 0 := by
          unfold F_83
          rw [hC.1, if_neg (nI_pos (by omega)), if_pos (nI_le (by omega) (by omega))]
        rw [e83, if_pos rfl]
        exact ⟨rfl, fun z => hl z.2.2.1⟩
  · right
    rw [if_neg h0]
    exact ⟨rfl, fun z => h0 z.1⟩
theorem f223 (hW : LW n K P tb) (hC : LC 1 n K P tb M) (hQ : LQ 78 n K P tb M) (hT : C11 M) (hst : st < 256) (hs : ShL s M) (ho : okS s) (v : Int32) : (F_223 (nI st) v M = some 1 ∧ TKp n K tb st s v) ∨ (F_223 (nI st) v M = some 0 ∧ ¬ TKp n K tb st s v) := by
  have hn := hW.1
  unfold F_223
  by_cases h0 : 0 ≤ v
  · obtain ⟨v1, v2, v3, v4⟩ := vnum h0
    rw [if_neg (Int32.not_lt.mpr h0), v3, v2, v1]
    unfold TKp
    generalize v.toNatClampNeg = x at v4
    rcases ck_133 hn hC.1 hQ.1 (nI (x / 48)) with ⟨l, hl, el, -, e1⟩ | ⟨e0, e1⟩
    · obtain rfl : x / 48 = l := ni_inj (by omega) (by omega) el
      rw [e1, if_neg one_ne, has_ok (by omega) (by omega)]
      cases hb : st.testBit (x / 48)
      · right
        simp only [Bool.false_eq_true, Bool.true_eq_false, if_false, if_true]
        exact ⟨trivial, fun z => z.2.2.2.1⟩
      · simp only [if_true, one_ne, if_false]
        by_cases h4 : x % 4 = 0
        · right
          rw [h4, if_pos (show nI 0 = 0 from rfl)]
          exact ⟨rfl, fun z => z.2.1 rfl⟩
        · have hh : x % 48 / 4 < 12 := by omega
          rw [if_neg (nI_ne0 (by omega) (by omega)), if_pos ((inb_nI (by omega)).mpr hh), ni_cl (show x % 48 / 4 < 2147483648 by omega), hs _ hh, has_ok (by have := ho.1 _ hh; omega) (by omega), tb2 _ _ (by omega)]
          cases hb2 : (s.1 (x % 48 / 4)).testBit (x % 4 - 1)
          · right
            simp only [Bool.false_eq_true, Bool.true_eq_false, if_false, if_true]
            exact ⟨trivial, fun z => z.2.2.2.2.1⟩
          · simp only [if_true, one_ne, if_false]
            have hk := (hW.2 _ hl).1
            have hm := mny_lt hk
            obtain ⟨⟨r, y⟩, g1, g2⟩ := loopF (body := B_223_66 (nI (x / 48)) (nI (x % 48 / 4)) (nI (x % 4)) M) (fun k z => z.2 = nI k ∧ ((z.1 = 1 ∧ ∃ i, i < k ∧ frc K tb (x / 48) (x % 48 / 4) (x % 4) s.1 i) ∨ (z.1 = 0 ∧ ¬ ∃ i, i < k ∧ frc K tb (x / 48) (x % 48 / 4) (x % 4) s.1 i))) (fun z => (z.1 = 1 ∧ ∃ i, i < mny (K (x / 48)) ∧ frc K tb (x / 48) (x % 48 / 4) (x % 4) s.1 i) ∨ (z.1 = 0 ∧ ¬ ∃ i, i < mny (K (x / 48)) ∧ frc K tb (x / 48) (x % 48 / 4) (x % 4) s.1 i)) (mny (K (x / 48))) (by omega) (s := ((0 : Int32), (0 : Int32))) ⟨rfl, Or.inr ⟨rfl, fun ⟨i, i1, _⟩ => absurd i1 (Nat.not_lt_zero _)⟩⟩ (by
              rintro k ⟨r, y⟩ hkm ⟨rfl, q⟩
              dsimp only at q
              unfold B_223_66 J_223_106_66 J_223_131_66 J_223_135_66 J_223_136_66
              dsimp only
              rw [cas_ok hW hQ hT hl]
              dsimp only
              by_cases hk2 : k < mny (K (x / 48))
              · right
                refine ⟨hk2, ?_⟩
                have f1 := fa_lt _ hk k hk2
                have f2 := fb_lt _ hk k hk2
                rw [if_neg (show ¬ nI (mny (K (x / 48))) ≤ nI k from nI_ge hk2 (by omega)), ni_add1]
                rcases q with ⟨rfl, i, i1, i2⟩ | ⟨rfl, q⟩
                · rw [if_neg one_ne]
                  exact ⟨_, rfl, rfl, Or.inl ⟨rfl, i, by omega, i2⟩⟩
                · rw [if_pos rfl, hal_ok hW hQ hT hl hk2, otr_ok hW hQ hT hl hk2]
                  dsimp only
                  have n1 : (nI (fa (K (x / 48)) k) = nI (x % 48 / 4)) = (fa (K (x / 48)) k = x % 48 / 4) := ni_eqi (by omega) (by omega)
                  simp only [n1]
                  have no : ¬ frc K tb (x / 48) (x % 48 / 4) (x % 4) s.1 k → ¬ ∃ i, i < k + 1 ∧ frc K tb (x / 48) (x % 48 / 4) (x % 4) s.1 i := by
                    rintro hno ⟨i, i1, i2⟩
                    by_cases e : i = k
                    · rw [e] at i2; exact hno i2
                    · exact q ⟨i, by omega, i2⟩
                  have rest : ¬ (fa (K (x / 48)) k = x % 48 / 4 ∧ ¬ gOn K tb (x / 48) k false (x % 4) s.1) → ∃ s' : Int32 × Int32, (if (if pr (K (x / 48)) = true then nI (fb (K (x / 48)) k) else -1) = nI (x % 48 / 4) then (match F_217 (nI (x / 48)) (nI k) (1 : Int32) (nI (x % 4)) M with | none => none | some c8 => (if c8 = 0 then (some (Sum.inl ((1 : Int32), nI (k + 1)))) else (some (Sum.inl (0, nI (k + 1)))))) else (some (Sum.inl (0, nI (k + 1)))) : Option ((Int32 × Int32) ⊕ (Int32 × Int32))) = some (.inl s') ∧ s'.2 = nI (k + 1) ∧ ((s'.1 = 1 ∧ ∃ i, i < k + 1 ∧ frc K tb (x / 48) (x % 48 / 4) (x % 4) s.1 i) ∨ (s'.1 = 0 ∧ ¬ ∃ i, i < k + 1 ∧ frc K tb (x / 48) (x % 48 / 4) (x % 4) s.1 i)) := by
                    intro hno
                    cases hp : pr (K (x / 48))
                    · rw [if_neg (show ¬ false = true by decide), if_neg (fun z => by rw [eq_comm, ni_ne_neg (by omega) ni_neg1] at z; exact z)]
                      refine ⟨_, rfl, rfl, Or.inr ⟨rfl, no ?_⟩⟩
                      rintro (z | z)
                      · exact hno z
                      · rw [hp] at z; exact absurd z.1 (by decide)
                    · have n2 : (nI (fb (K (x / 48)) k) = nI (x % 48 / 4)) = (fb (K (x / 48)) k = x % 48 / 4) := ni_eqi (by omega) (by omega)
                      rw [if_pos rfl]
                      simp only [n2]
                      by_cases hf : fb (K (x / 48)) k = x % 48 / 4
                      · rw [if_pos hf]
                        rcases f217 (c := x % 4) (o := true) hW hQ hT hs ho hl hk2 (fun _ => hp) (by omega) (by omega) with ⟨a1, a2⟩ | ⟨a1, a2⟩
                        · rw [cond_true] at a1
                          rw [a1]
                          dsimp only
                          rw [if_neg one_ne]
                          refine ⟨_, rfl, rfl, Or.inr ⟨rfl, no ?_⟩⟩
                          rintro (z | z)
                          · exact hno z
                          · exact z.2.2 a2
                        · rw [cond_true] at a1
                          rw [a1]
                          dsimp only
                          rw [if_pos rfl]
                          exact ⟨_, rfl, rfl, Or.inl ⟨rfl, k, by omega, Or.inr ⟨hp, hf, a2⟩⟩⟩
                      · rw [if_neg hf]
                        refine ⟨_, rfl, rfl, Or.inr ⟨rfl, no ?_⟩⟩
                        rintro (z | z)
                        · exact hno z
                        · exact hf z.2.1
                  by_cases hf : fa (K (x / 48)) k = x % 48 / 4
                  · rw [if_pos hf]
                    rcases f217 (c := x % 4) (o := false) hW hQ hT hs ho hl hk2 (fun z => absurd z (by decide)) (by omega) (by omega) with ⟨a1, a2⟩ | ⟨a1, a2⟩
                    · rw [cond_false] at a1
                      rw [a1]
                      dsimp only
                      rw [if_neg one_ne]
                      exact rest (fun z => z.2 a2)
                    · rw [cond_false] at a1
                      rw [a1]
                      dsimp only
                      rw [if_pos rfl]
                      exact ⟨_, rfl, rfl, Or.inl ⟨rfl, k, by omega, Or.inl ⟨hf, a2⟩⟩⟩
                  · rw [if_neg hf]
                    exact rest (fun z => hf z.1)
              · left
                obtain rfl : k = mny (K (x / 48)) := by omega
                rw [if_pos (nI_le (Nat.le_refl _) (by omega))]
                exact ⟨_, rfl, q⟩)
            unfold L_223_66
            rw [g1]
            rcases g2 with ⟨rfl, g2⟩ | ⟨rfl, g2⟩
            · exact Or.inl ⟨rfl, h0, h4, hl, trivial, trivial, g2⟩
            · exact Or.inr ⟨rfl, fun z => g2 z.2.2.2.2.2⟩
    · right
      rw [e1, if_pos rfl]
      refine ⟨rfl, fun z => ?_⟩
      rcases ck_133 hn hC.1 hQ.1 (nI (x / 48)) with ⟨l, hl, el, e2, e3⟩ | ⟨e2, e3⟩
      · rw [e1] at e3; exact absurd e3 (by decide)
      · have : F_133 (nI (x / 48)) M = 1 := by
          unfold F_133
          rw [hC.1]
          exact rn_in z.2.2.1 (by omega)
        rw [e2] at this; exact absurd this (by decide)
  · right
    rw [if_pos (Int32.not_le.mp h0)]
    exact ⟨rfl, fun z => h0 z.1⟩
noncomputable def CKs (v : Nat → Int32) : Nat → SS
  | 0 => S0
  | k + 1 => stv (CKs v k) (v k)
theorem okS.ck {v : Nat → Int32} (hn : n ≤ 8) : ∀ k, (∀ j, j < k → TKp n K tb st (CKs v j) (v j)) → okS (CKs v k)
  | 0, _ => okS0
  | k + 1, h => by
    have h1 := okS.ck hn k (fun j hj => h j (by omega))
    obtain ⟨-, h4, h5, -, h6, -⟩ := h k (by omega)
    exact (h1.stk (by omega) (by omega) (by omega) (by omega) h6).1
theorem l51 {v : Nat → Int32} {m t : Nat} (hW : LW n K P tb) (hC : LC 1 n K P tb M) (hst : st < 256) (hm : m ≤ 40) (ht : 64 < t) (h1 : M t 1 = nI m) (hv : ∀ j, j < m → M (t + 1) j = v j) (hs : ShC S0 M) : ∃ res, L_114_51 (nI st) t 0 M = some res ∧ ((∃ y M', res = .inl (y, M') ∧ (∀ j, j < m → TKp n K tb st (CKs v j) (v j)) ∧ Chg 62 64 M M' ∧ ShC (CKs v m) M') ∨ (∃ k M', res = .inr (nI (k + 1), M') ∧ k < m ∧ ¬ TKp n K tb st (CKs v k) (v k) ∧ (∀ j, j < k → TKp n K tb st (CKs v j) (v j)) ∧ Chg 62 64 M M')) := by
  have hn := hW.1
  refine loopF (body := B_114_51 (nI st) t) (fun k z => z.1 = nI k ∧ (∀ j, j < k → TKp n K tb st (CKs v j) (v j)) ∧ Chg 62 64 M z.2 ∧ ShC (CKs v k) z.2) (fun res => ((∃ y M', res = .inl (y, M') ∧ (∀ j, j < m → TKp n K tb st (CKs v j) (v j)) ∧ Chg 62 64 M M' ∧ ShC (CKs v m) M') ∨ (∃ k M', res = .inr (nI (k + 1), M') ∧ k < m ∧ ¬ TKp n K tb st (CKs v k) (v k) ∧ (∀ j, j < k → TKp n K tb st (CKs v j) (v j)) ∧ Chg 62 64 M M'))) m (by omega) (s := ((0 : Int32), M)) ⟨rfl, fun j hj => absurd hj (Nat.not_lt_zero _), Chg.rf 62 64 M, hs⟩ ?_
  rintro k ⟨x, Q⟩ hkm ⟨rfl, q0, q1, q2⟩
  dsimp only at q0 q1 q2
  unfold B_114_51
  dsimp only
  rw [q1 t 1 (by omega), h1]
  by_cases hk2 : k < m
  · rw [if_neg (show ¬ nI m ≤ nI k from nI_ge hk2 (by omega)), if_pos ((inb_nI (by omega)).mpr (by omega)), ni_cl (by omega), q1 (t + 1) k (by omega), hv k hk2]
    rcases f45 hW (q1.LC (by decide) hn hC) hst q2 (okS.ck hn k q0) (v k) with ⟨M6, b1, b2, b3, b4, -⟩ | ⟨b1, b2⟩
    · right
      rw [b1]
      dsimp only
      rw [if_neg one_ne]
      refine ⟨hk2, _, rfl, ni_add1 k, fun j hj => ?_, q1.tr b2, b4⟩
      by_cases e : j = k
      · rw [e]; exact b3
      · exact q0 j (by omega)
    · left
      rw [b1]
      dsimp only
      rw [if_pos rfl, ni_add1]
      exact ⟨_, rfl, Or.inr ⟨k, Q, rfl, hk2, b2, q0, q1⟩⟩
  · left
    obtain rfl : k = m := by omega
    rw [if_pos (nI_le (Nat.le_refl _) (by omega))]
    exact ⟨_, rfl, Or.inl ⟨_, Q, rfl, q0, q1, q2⟩⟩
theorem l44r {v : Nat → Int32} {m t : Nat} (hW : LW n K P tb) (hC : LC 1 n K P tb M) (hQ : LQ 78 n K P tb M) (hT : C11 M) (hst : st < 256) (hm : m ≤ 40) (ht : t < 4) (h1 : M 95 t = nI m) (hv : ∀ j, j < m → M 96 (40 * t + j) = v j) (hs : ShL S0 M) : ∃ res, L_224_44 (nI st) (nI t) 0 M = some res ∧ ((∃ y M', res = .inl (y, M') ∧ (∀ j, j < m → TKp n K tb st (CKs v j) (v j)) ∧ RF M M' ∧ ShL (CKs v m) M') ∨ (∃ k M', res = .inr (nI (k + 1), M') ∧ k < m ∧ ¬ TKp n K tb st (CKs v k) (v k) ∧ (∀ j, j < k → TKp n K tb st (CKs v j) (v j)) ∧ RF M M')) := by
  have hn := hW.1
  refine loopF (body := B_224_44 (nI st) (nI t)) (fun k z => z.1 = nI k ∧ (∀ j, j < k → TKp n K tb st (CKs v j) (v j)) ∧ RF M z.2 ∧ ShL (CKs v k) z.2) (fun res => ((∃ y M', res = .inl (y, M') ∧ (∀ j, j < m → TKp n K tb st (CKs v j) (v j)) ∧ RF M M' ∧ ShL (CKs v m) M') ∨ (∃ k M', res = .inr (nI (k + 1), M') ∧ k < m ∧ ¬ TKp n K tb st (CKs v k) (v k) ∧ (∀ j, j < k → TKp n K tb st (CKs v j) (v j)) ∧ RF M M'))) m (by omega) (s := ((0 : Int32), M)) ⟨rfl, fun j hj => absurd hj (Nat.not_lt_zero _), RF.rf M, hs⟩ ?_
  rintro k ⟨x, Q⟩ hkm ⟨rfl, q0, q1, q2⟩
  dsimp only at q0 q1 q2
  unfold B_224_44
  dsimp only
  rw [if_pos ((inb_nI (by omega)).mpr ht), ni_cl (show t < 2147483648 by omega), q1 95 t (by omega), h1]
  by_cases hk2 : k < m
  · have ix : (40 : Int32) * nI t + nI k = nI (40 * t + k) := by rw [show (40 : Int32) * nI t = nI (40 * t) from ni_mul 40 t, ni_add]
    rw [if_neg (show ¬ nI m ≤ nI k from nI_ge hk2 (by omega)), ix, if_pos ((inb_nI (by omega)).mpr (by omega)), ni_cl (by omega), q1 96 (40 * t + k) (by omega), hv k hk2]
    have hC2 : LC 1 n K P tb Q := hC.cg hn (fun k j hk => q1 k j (by omega))
    rcases f223 hW hC2 (q1.LQ hn hQ) (q1.C11 hT) hst q2 (okS.ck hn k q0) (v k) with ⟨b1, b2⟩ | ⟨b1, b2⟩
    · right
      obtain ⟨h0, h4, h5, -, h6, -⟩ := id b2
      obtain ⟨v1, v2, v3, v4⟩ := vnum h0
      have hh : (v k).toNatClampNeg % 48 / 4 < 12 := by omega
      obtain ⟨d1, d2⟩ := q2.stk (l := (v k).toNatClampNeg / 48) (okS.ck hn k q0) hh (c := (v k).toNatClampNeg % 4) (by omega) (by omega) h6
      rw [b1]
      dsimp only
      rw [if_neg one_ne, v3, v2, if_pos ((inb_nI (by omega)).mpr hh), if_pos ((inb_nI (by omega)).mpr hh), ni_cl (show (v k).toNatClampNeg % 48 / 4 < 2147483648 by omega), d1]
      refine ⟨hk2, _, rfl, ni_add1 k, fun j hj => ?_, q1.set (Or.inl rfl), d2⟩
      by_cases e : j = k
      · rw [e]; exact b2
      · exact q0 j (by omega)
    · left
      rw [b1]
      dsimp only
      rw [if_pos rfl, show (1 : Int32) + nI k = nI (k + 1) by rw [show (1 : Int32) = nI 1 from rfl, ni_add, Nat.add_comm]]
      exact ⟨_, rfl, Or.inr ⟨k, Q, rfl, hk2, b2, q0, q1⟩⟩
  · left
    obtain rfl : k = m := by omega
    rw [if_pos (nI_le (Nat.le_refl _) (by omega))]
    exact ⟨_, rfl, Or.inl ⟨_, Q, rfl, q0, q1, q2⟩⟩
end CHK
theorem bits_nI {b : Nat} (h : b = 0 ∨ b = 8 ∨ b = 16 ∨ b = 32) : (nI b = 0) = (b = 0) := by
  rcases h with rfl | rfl | rfl | rfl <;> decide
theorem B_check (a b : Int32) : Both (F_114 a b) (F_224 a b) := by
  intro M hI
  obtain ⟨n, K, P, tb, q, hV⟩ := id hI
  have hW := hV.1.1
  rcases ckS hV.1 a with ⟨s, hs, hs2, rfl, e1, e2⟩ | ⟨e1, e2⟩
  · rcases ck_136 b with ⟨t, ht, rfl, f1, f2⟩ | ⟨f1, f2⟩
    · obtain ⟨w, m, hw, hm, w1, w2, m1, m2, w3⟩ := hV.2.2.2.2.2.2.1 t ht
      have i1 : inb (nI t) 4 = true := (inb_nI (by omega)).mpr ht
      have i2 : (nI t).toNatClampNeg = t := ni_cl (by omega)
      by_cases hw0 : w = 0
      · subst hw0
        refine rfu2 hI ?_ (fun M1 hM1 => ?_)
        · have e34 : F_34 (69 + 2 * t) M = 1 := by unfold F_34; rw [w1]; rfl
          simp only [F_114, e1, f1, one_ne, if_false, i1, i2, if_true, e34, Rf2]
        · have e94 : M1 94 t = 0 := by rw [hM1 94 t (by decide), w2]; rfl
          simp only [F_224, e2 M1 hM1, f2, one_ne, if_false, i1, i2, if_true, e94, Rg2]
      · have hwn : ¬ (nI w = 0) := by rw [bits_nI hw]; exact hw0
        obtain ⟨M6, a1, a2, a3⟩ := f39 (M := M)
        have hM6 := a2.LC (by decide) hW.1 hV.1.2.1
        obtain ⟨res, b1, b2⟩ := l51 (v := fun j => M (70 + 2 * t) j) (m := m) (t := 69 + 2 * t) hW hM6 hs2 hm (by omega) (by rw [a2 _ _ (by omega)]; exact m1) (fun j hj => by rw [a2 _ _ (by omega), show 69 + 2 * t + 1 = 70 + 2 * t by omega]) a3
        have e34 : F_34 (69 + 2 * t) M = 0 := by unfold F_34; rw [w1, if_neg hwn]
        -- the class
        have cl : ∃ r M1, F_114 (nI s) (nI t) M = some (r, M1) ∧ Chg 62 64 M M1 ∧ (((∀ j, j < m → TKp n K tb s (CKs (fun j => M (70 + 2 * t) j) j) (M (70 + 2 * t) j)) ∧ ((r = 0 ∧ emp (CKs (fun j => M (70 + 2 * t) j) m).1) ∨ (r = nI (m + 1) ∧ ¬ emp (CKs (fun j => M (70 + 2 * t) j) m).1))) ∨ ∃ k, k < m ∧ r = nI (k + 1) ∧ ¬ TKp n K tb s (CKs (fun j => M (70 + 2 * t) j) k) (M (70 + 2 * t) k) ∧ ∀ j, j < k → TKp n K tb s (CKs (fun j => M (70 + 2 * t) j) j) (M (70 + 2 * t) j)) := by
          rcases b2 with ⟨y, M', rfl, c1, c2, c3⟩ | ⟨k, M', rfl, c1, c2, c3, c4⟩
          · rcases c3.fl with ⟨g1, g2⟩ | ⟨g1, g2⟩
            · refine ⟨nI (m + 1), M', ?_, a2.tr c2, Or.inl ⟨c1, Or.inr ⟨rfl, g2⟩⟩⟩
              have mm : M' (69 + 2 * t) 1 = nI m := by rw [c2 _ _ (by omega), a2 _ _ (by omega)]; exact m1
              simp only [F_114, e1, f1, one_ne, if_false, i1, i2, if_true, e34, a1, b1, J_114_93, g1, mm, ni_add1]
            · refine ⟨0, M', ?_, a2.tr c2, Or.inl ⟨c1, Or.inl ⟨rfl, g2⟩⟩⟩
              simp only [F_114, e1, f1, one_ne, if_false, i1, i2, if_true, e34, a1, b1, J_114_93, g1]
          · refine ⟨nI (k + 1), M', ?_, a2.tr c4, Or.inr ⟨k, c1, rfl, c2, c3⟩⟩
            simp only [F_114, e1, f1, one_ne, if_false, i1, i2, if_true, e34, a1, b1]
        obtain ⟨r, M1, d1, d2, d3⟩ := cl
        have hV1 : Iv n K P tb q M1 := hV.a0 ((d2.wk (show 44 ≤ 62 by decide) (show 64 ≤ 64 by decide)).c)
        have hhi : ∀ k j, 77 ≤ k → M1 k j = M k j := d2.lo (by decide)
        obtain ⟨M2, g1, g2, g3⟩ := f219 (M := M1)
        have hC2 : LC 1 n K P tb M2 := hV1.1.2.1.cg hW.1 (fun k j hk => g2 k j (by omega))
        obtain ⟨res2, k1, k2⟩ := l44r (v := fun j => M (70 + 2 * t) j) (m := m) (t := t) hW hC2 (g2.LQ hW.1 hV1.1.2.2) (g2.C11 hV1.2.2.2.2.2.2.2.2.2) hs2 hm ht (by rw [g2 _ _ (by omega), hhi _ _ (by omega)]; exact m2) (fun j hj => by rw [g2 _ _ (by omega), hhi _ _ (by omega), w3 j hj]) g3.1
        have e94 : ¬ (M1 94 t = 0) := by rw [hhi 94 t (by decide), w2]; exact hwn
        have m95 : ∀ M' : IM, RF M2 M' → M' 95 t = nI m := fun M' h => by rw [h _ _ (by omega), g2 _ _ (by omega), hhi _ _ (by omega)]; exact m2
        rcases k2 with ⟨y, M', rfl, c1, c2, c3⟩ | ⟨k, M', rfl, c1, c2, c3, c4⟩
        · refine ⟨r, M1, M', d1, ?_, n, K, P, tb, q, hV1.a0 (g2.tr c2).a⟩
          have ho := okS.ck (v := fun j => M (70 + 2 * t) j) hW.1 m c1
          rcases d3 with ⟨-, ⟨rfl, x2⟩ | ⟨rfl, x2⟩⟩ | ⟨k, x1, -, x3, -⟩
          · rcases f218 c3 ho with ⟨y1, y2⟩ | ⟨y1, y2⟩
            · simp only [F_224, e2 M1 hhi, f2, one_ne, if_false, i1, i2, if_true, e94, g1, k1, J_224_110, y1]
            · exact absurd x2 y2
          · rcases f218 c3 ho with ⟨y1, y2⟩ | ⟨y1, y2⟩
            · exact absurd y2 x2
            · simp only [F_224, e2 M1 hhi, f2, one_ne, if_false, i1, i2, if_true, e94, g1, k1, J_224_110, y1, m95 M' c2]
              rw [show (1 : Int32) + nI m = nI (m + 1) by rw [show (1 : Int32) = nI 1 from rfl, ni_add, Nat.add_comm]]
          · exact absurd (c1 k x1) x3
        · refine ⟨r, M1, M', d1, ?_, n, K, P, tb, q, hV1.a0 (g2.tr c4).a⟩
          rcases d3 with ⟨x1, -⟩ | ⟨k', x1, rfl, x3, x4⟩
          · exact absurd (x1 k c1) c2
          · have : k' = k := by
              rcases Nat.lt_trichotomy k' k with z | z | z
              · exact absurd (c3 k' z) x3
              · exact z
              · exact absurd (x4 k z) c2
            subst this
            simp only [F_224, e2 M1 hhi, f2, one_ne, if_false, i1, i2, if_true, e94, g1, k1]
    · refine rfu1 hI ?_ (fun M1 hM1 => ?_)
      · simp only [F_114, J_114_15, e1, f1, one_ne, if_false, if_true, Rf1]
      · simp only [F_224, J_224_15, e2 M1 hM1, f2, one_ne, if_false, if_true, Rg1]
  · refine rfu1 hI ?_ (fun M1 hM1 => ?_)
    · simp only [F_114, J_114_15, e1, if_true, Rf1]
    · simp only [F_224, J_224_15, e2 M1 hM1, if_true, Rg1]
