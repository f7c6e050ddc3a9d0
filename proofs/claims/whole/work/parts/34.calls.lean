/-! calls over laws, one at a time -/
theorem rfu1m {f g : IM → Option (Int32 × IM)} {M : IM} (hI : Inv M) (h1 : f M = some (-1000001, iset M 43 1 (M 43 1 + 1))) (h2 : g (iset M 43 1 (M 43 1 + 1)) = some (-1000001, iset (iset M 43 1 (M 43 1 + 1)) 80 1 ((iset M 43 1 (M 43 1 + 1)) 80 1 + 1))) : ∃ r M1 M2, f M = some (r, M1) ∧ g M1 = some (r, M2) ∧ Inv M2 := ⟨_, _, _, h1, h2, hI.rf0 (e := 1) (by decide)⟩
theorem C11.cg {M M' : IM} (h : C11 M) (e : ∀ k j, 81 ≤ k → k < 85 → M' k j = M k j) : C11 M' := by
  refine ⟨fun k hk => by rw [e _ _ (by omega) (by omega)]; exact h.1 k hk, fun k hk i hi => ?_⟩
  rw [e _ _ (by omega) (by omega), e _ _ (by omega) (by omega), e _ _ (by omega) (by omega)]
  exact h.2 k hk i hi
/-- a law's number, as both sides ask for it -/
theorem ckL {n : Nat} {K P : Nat → Nat} {tb : Nat → Nat → Nat} {M : IM} (hC : C1 n K P tb M) (x : Int32) : (∃ l, l < n ∧ x = nI l ∧ F_133 x M = 1 ∧ ∀ M1 : IM, (∀ k j, 77 ≤ k → M1 k j = M k j) → F_160 x M1 = 1) ∨ (F_133 x M = 0 ∧ ∀ M1 : IM, (∀ k j, 77 ≤ k → M1 k j = M k j) → F_160 x M1 = 0) := by
  have e : ∀ M1 : IM, (∀ k j, 77 ≤ k → M1 k j = M k j) → F_160 x M1 = F_160 x M := fun M1 h => by
    unfold F_160; rw [h _ _ (by omega)]
  rcases ck_133 hC.1.1 hC.2.1.1 hC.2.2.1 x with ⟨l, h1, h2, h3, h4⟩ | ⟨h3, h4⟩
  · exact Or.inl ⟨l, h1, h2, h3, fun M1 hM => by rw [e M1 hM]; exact h4⟩
  · exact Or.inr ⟨h3, fun M1 hM => by rw [e M1 hM]; exact h4⟩
theorem ckS {n : Nat} {K P : Nat → Nat} {tb : Nat → Nat → Nat} {M : IM} (hC : C1 n K P tb M) (x : Int32) : (∃ s, s < 2 ^ n ∧ s < 256 ∧ x = nI s ∧ F_135 x M = 1 ∧ ∀ M1 : IM, (∀ k j, 77 ≤ k → M1 k j = M k j) → F_161 x M1 = 1) ∨ (F_135 x M = 0 ∧ ∀ M1 : IM, (∀ k j, 77 ≤ k → M1 k j = M k j) → F_161 x M1 = 0) := by
  have e : ∀ M1 : IM, (∀ k j, 77 ≤ k → M1 k j = M k j) → F_161 x M1 = F_161 x M := fun M1 h => by
    unfold F_161; rw [h _ _ (by omega)]
  have hp := (pw_n n hC.1.1).2.2
  rcases ck_135 hC.1.1 hC.2.1.1 hC.2.2.1 x with ⟨l, h1, h2, h3, h4⟩ | ⟨h3, h4⟩
  · exact Or.inl ⟨l, h1, by omega, h2, h3, fun M1 hM => by rw [e M1 hM]; exact h4⟩
  · exact Or.inr ⟨h3, fun M1 hM => by rw [e M1 hM]; exact h4⟩
theorem B_price (a b : Int32) : Both (F_101 a b) (F_191 a b) := by
  intro M hI
  obtain ⟨n, K, P, tb, q, hV⟩ := id hI
  have hn := hV.1.1.1
  rcases ckL hV.1 a with ⟨l, hl, rfl, e1, e2⟩ | ⟨e1, e2⟩
  · rcases ck_138 b with ⟨p, hp, rfl, g1, g2⟩ | ⟨g1, g2⟩
    · have c1 : M (6 + 2 * l) 1 = nI (P l) := (hV.1.2.1.2 l hl).2.1
      have c2 := (hV.1.2.2.2 l hl).2.1
      refine ⟨nI (P l), iset M (6 + 2 * l) 1 (nI p), iset (iset M (6 + 2 * l) 1 (nI p)) 78 (30 + l) (nI p), ?_, ?_, n, K, updN P l p, tb, q, ?_⟩
      · simp only [F_101, e1, g1, one_ne, if_false]
        simp (disch := omega) only [lit_nI, ni_ofNat, ni_add, ni_lti, ni_lei, ni_eqi, ni_cl, inb_nI, if_pos, if_neg, if_true, if_false, c1]
      · have e2' := e2 (iset M (6 + 2 * l) 1 (nI p)) (fun k j hk => iset_k (by omega))
        simp only [F_191, e2', g2, one_ne, if_false]
        simp (disch := omega) only [lit_nI, ni_ofNat, ni_add, ni_lti, ni_lei, ni_eqi, ni_cl, inb_nI, if_pos, if_neg, if_true, if_false, iset_same, iset_k, iset_j, c2]
      · have hx : agx 1 M (iset (iset M (6 + 2 * l) 1 (nI p)) 78 (30 + l) (nI p)) := ((agx.rf 1 M).set (Or.inr (cid1 (by omega)))).set (Or.inr (cid1 (by omega)))
        obtain ⟨h1, h2, h3, h4, h5, h7, h8, h9, h10, h11⟩ := hV
        refine ⟨⟨⟨hn, fun l' hl' => ?_⟩, ⟨?_, fun l' hl' => ?_⟩, ⟨?_, fun l' hl' => ?_⟩⟩, C2.ag h2 (hx.to (by decide) (by decide)), C3.ag h3 (hx.to (by decide) (by decide)), C4.ag h4 (hx.to (by decide) (by decide)), h5.ag (hx.to (by decide) (by decide)), h7.ag (hx.to (by decide) (by decide)), h8.ag (hx.to (by decide) (by decide)), h9.ag (hx.to (by decide) (by decide)), h10.ag (hx.to (by decide) (by decide)), h11.ag (hx.to (by decide) (by decide))⟩
        · obtain ⟨a1, a2, a3⟩ := h1.1.2 l' hl'
          refine ⟨a1, ?_, a3⟩
          unfold updN; split <;> omega
        · simp (disch := omega) only [iset_same, iset_k, iset_j, h1.2.1.1]
        · obtain ⟨a1, a2, a3⟩ := h1.2.1.2 l' hl'
          refine ⟨?_, ?_, fun i hi => ?_⟩
          · simp (disch := omega) only [iset_same, iset_k, iset_j, a1]
          · by_cases e : l' = l
            · subst e
              simp (disch := omega) only [updN, if_pos, if_neg, if_true, if_false, iset_same, iset_k, iset_j]
            · simp (disch := omega) only [updN, if_pos, if_neg, if_true, if_false, iset_same, iset_k, iset_j, a2]
          · simp (disch := omega) only [iset_same, iset_k, iset_j, a3 i hi]
        · simp (disch := omega) only [iset_same, iset_k, iset_j, h1.2.2.1]
        · obtain ⟨a1, a2, a3⟩ := h1.2.2.2 l' hl'
          refine ⟨?_, ?_, fun i hi => ?_⟩
          · simp (disch := omega) only [iset_same, iset_k, iset_j, a1]
          · by_cases e : l' = l
            · subst e
              simp (disch := omega) only [updN, if_pos, if_neg, if_true, if_false, iset_same, iset_k, iset_j]
            · simp (disch := omega) only [updN, if_pos, if_neg, if_true, if_false, iset_same, iset_k, iset_j, a2]
          · simp (disch := omega) only [iset_same, iset_k, iset_j, a3 i hi]
    · refine rfu1 hI ?_ (fun M1 hM1 => ?_)
      · simp only [F_101, e1, g1, one_ne, if_false, if_true, J_101_15, Rf1]
      · simp only [F_191, e2 M1 hM1, g2, one_ne, if_false, if_true, J_191_18, Rg1]
  · refine rfu1 hI ?_ (fun M1 hM1 => ?_)
    · simp only [F_101, e1, if_true, J_101_15, Rf1]
    · simp only [F_191, e2 M1 hM1, if_true, J_191_18, Rg1]
theorem und_k : ∀ a, a < 6 → ∀ b, b < 6 → (F_141 (nI a) (nI b) = some 1 ∧ ∃ x, x < 6 ∧ L_193_30 0 (nI b) (fun _ _ => 0) (nI a) = some (nI x)) ∨ (F_141 (nI a) (nI b) = some 0 ∧ L_193_30 0 (nI b) (fun _ _ => 0) (nI a) = some (-1)) := by decide +kernel
theorem B_as (a b : Int32) : Both (F_102 a b) (F_193 a b) := by
  intro M hI
  obtain ⟨n, K, P, tb, q, hV⟩ := id hI
  have hn := hV.1.1.1
  rcases ckL hV.1 a with ⟨l, hl, rfl, e1, e2⟩ | ⟨e1, e2⟩
  · rcases ck_137 b with ⟨k, hk, rfl, g1, g2⟩ | ⟨g1, g2⟩
    · have c1 : M (6 + 2 * l) 0 = nI (K l) := (hV.1.2.1.2 l hl).1
      have hkl := (hV.1.1.2 l hl).1
      have hu : ∀ (M1 : IM) x, L_193_30 x (nI k) M1 (nI (K l)) = L_193_30 0 (nI k) (fun _ _ => 0) (nI (K l)) := fun _ _ => rfl
      rcases und_k (K l) hkl k hk with ⟨u1, x, hx, u2⟩ | ⟨u1, u2⟩
      · refine ⟨nI (mny (K l)), M, M, ?_, ?_, hI⟩
        · simp only [F_102, e1, g1, one_ne, if_false]
          simp (disch := omega) only [inb_nI, ni_cl, if_pos, if_neg, if_true, if_false, c1, u1, E_0 (K l) hkl, one_ne]
        · simp only [F_193, e2 M (fun _ _ _ => rfl), g2, one_ne, if_false, kd_ok hn hV.1.2.2 hl, hu, u2, J_193_47]
          simp (disch := omega) only [ni_nn', if_true, cas_ok hV.1.1 hV.1.2.2 hV.2.2.2.2.2.2.2.2.2 hl]
      · refine rfu5 hI ?_ (fun M1 hM1 => ?_)
        · simp only [F_102, e1, g1, one_ne, if_false]
          simp (disch := omega) only [inb_nI, ni_cl, if_pos, if_neg, if_true, if_false, c1, u1, Rf5]
        · have hq : LQ 78 n K P tb M1 := hV.1.2.2.cg hn (fun j _ => hM1 78 j (by decide))
          simp only [F_193, e2 M1 hM1, g2, one_ne, if_false, kd_ok hn hq hl, hu, u2, J_193_47, show ¬ ((0 : Int32) ≤ -1) by decide, Rg5]
    · refine rfu1 hI ?_ (fun M1 hM1 => ?_)
      · simp only [F_102, e1, g1, one_ne, if_false, if_true, J_102_15, Rf1]
      · simp only [F_193, e2 M1 hM1, g2, one_ne, if_false, if_true, J_193_17, Rg1]
  · refine rfu1 hI ?_ (fun M1 hM1 => ?_)
    · simp only [F_102, e1, if_true, J_102_15, Rf1]
    · simp only [F_193, e2 M1 hM1, if_true, J_193_17, Rg1]
/-- a case of a law -/
theorem ckC {n : Nat} {K P : Nat → Nat} {tb : Nat → Nat → Nat} {M : IM} (hC : C1 n K P tb M) (hT : C11 M) (x y : Int32) : (∃ l i, l < n ∧ i < mny (K l) ∧ x = nI l ∧ y = nI i ∧ F_134 x y M = some 1 ∧ ∀ M1 : IM, (∀ k j, 77 ≤ k → M1 k j = M k j) → F_194 x y M1 = some 1) ∨ (F_134 x y M = some 0 ∧ ∀ M1 : IM, (∀ k j, 77 ≤ k → M1 k j = M k j) → F_194 x y M1 = some 0) := by
  have hn := hC.1.1
  rcases ckL hC x with ⟨l, hl, rfl, e1, e2⟩ | ⟨e1, e2⟩
  · have hkl := (hC.1.2 l hl).1
    have hm := mny_lt hkl
    have c1 : M (6 + 2 * l) 0 = nI (K l) := (hC.2.1.2 l hl).1
    have hq : ∀ M1 : IM, (∀ k j, 77 ≤ k → M1 k j = M k j) → F_164 (nI l) M1 = some (nI (mny (K l))) := fun M1 hM1 =>
      cas_ok hC.1 (hC.2.2.cg hn (fun j _ => hM1 78 j (by decide))) (hT.cg (fun k j h1 h2 => hM1 k j (by omega))) hl
    obtain ⟨m, hmm⟩ : ∃ m, mny (K l) = m + 1 := ⟨mny (K l) - 1, by omega⟩
    have e3 : nI (mny (K l)) - 1 = nI m := by rw [hmm]; exact ni_sub (b := 1) (by omega)
    by_cases hy : rg y (mny (K l))
    · obtain ⟨i, hi, rfl⟩ := hy
      left
      refine ⟨l, i, hl, hi, rfl, rfl, ?_, fun M1 hM1 => ?_⟩
      · simp only [F_134, e1, one_ne, if_false]
        simp (disch := omega) only [inb_nI, ni_cl, ni_nn, if_pos, if_neg, if_true, if_false, c1, E_0 (K l) hkl, ni_lei]
      · simp only [F_194, e2 M1 hM1, one_ne, if_false, hq M1 hM1, e3, wn_in (show i ≤ m by omega) (show m < 2147483648 by omega)]
    · right
      refine ⟨?_, fun M1 hM1 => ?_⟩
      · simp only [F_134, e1, one_ne, if_false]
        simp (disch := omega) only [inb_nI, ni_cl, if_pos, if_neg, if_true, if_false, c1, E_0 (K l) hkl]
        rw [hmm] at hy ⊢
        rcases rg_lt (by omega) hy with h0 | ⟨h0, -, h1⟩
        · rw [if_pos h0]
        · rw [if_neg h0, if_pos h1]
      · rw [hmm] at hy
        simp only [F_194, e2 M1 hM1, one_ne, if_false, hq M1 hM1, e3, wn_out (by omega) hy, if_true]
  · right
    refine ⟨?_, fun M1 hM1 => ?_⟩
    · simp only [F_134, e1, if_true]
    · simp only [F_194, e2 M1 hM1, if_true]
theorem B_part (a b c : Int32) : Both (F_103 a b c) (F_197 a b c) := by
  intro M hI
  obtain ⟨n, K, P, tb, q, hV⟩ := id hI
  have hn := hV.1.1.1
  have hT := hV.2.2.2.2.2.2.2.2.2
  rcases ckC hV.1 hT a b with ⟨l, i, hl, hi, rfl, rfl, e1, e2⟩ | ⟨e1, e2⟩
  · have hkl := (hV.1.1.2 l hl).1
    have c1 : M (6 + 2 * l) 0 = nI (K l) := (hV.1.2.1.2 l hl).1
    by_cases c0 : c = 0
    · subst c0
      refine ⟨nI (fa (K l) i), M, M, ?_, ?_, hI⟩
      · simp only [F_103, e1, one_ne, if_false, if_true, show ¬ ((0 : Int32) < 0) by decide, show (0 : Int32) ≤ 1 by decide]
        simp (disch := omega) only [inb_nI, ni_cl, if_pos, if_neg, if_true, if_false, c1, E_2 (K l) hkl i hi]
      · simp only [F_197, e2 M (fun _ _ _ => rfl), one_ne, if_false, if_true, show ¬ F_157 0 0 1 = 0 by decide, hal_ok hV.1.1 hV.1.2.2 hT hl hi]
    by_cases c1' : c = 1
    · subst c1'
      cases hp : pr (K l)
      · refine rfu2 hI ?_ (fun M1 hM1 => ?_)
        · simp only [F_103, e1, one_ne, if_false, show ¬ ((1 : Int32) < 0) by decide, show (1 : Int32) ≤ 1 by decide, if_true]
          simp (disch := omega) only [inb_nI, ni_cl, if_pos, if_neg, if_true, if_false, c1, E_1 (K l) hkl, hp, Bool.false_eq_true, Bool.true_eq_false, Rf2]
        · have hq : LQ 78 n K P tb M1 := hV.1.2.2.cg hn (fun j _ => hM1 78 j (by decide))
          simp only [F_197, e2 M1 hM1, one_ne, if_false, show ¬ F_157 1 0 1 = 0 by decide, oth_ok hV.1.1 hq hl, hp, Bool.false_eq_true, Bool.true_eq_false, if_true, Rg2]
      · refine ⟨nI (fb (K l) i), M, M, ?_, ?_, hI⟩
        · simp only [F_103, e1, one_ne, if_false, show ¬ ((1 : Int32) < 0) by decide, show (1 : Int32) ≤ 1 by decide, if_true]
          simp (disch := omega) only [inb_nI, ni_cl, if_pos, if_neg, if_true, if_false, c1, E_1 (K l) hkl, hp, one_ne, E_3 (K l) hkl i hi]
        · simp only [F_197, e2 M (fun _ _ _ => rfl), one_ne, if_false, show ¬ F_157 1 0 1 = 0 by decide, oth_ok hV.1.1 hV.1.2.2 hl, hp, if_true, otr_ok hV.1.1 hV.1.2.2 hT hl hi]
    · have hr : ¬ rg c 2 := by
        rintro ⟨j, hj, rfl⟩
        have : j = 0 ∨ j = 1 := by omega
        rcases this with rfl | rfl
        · exact c0 rfl
        · exact c1' rfl
      have w := wn_out (m := 1) (by decide) hr
      refine rfu1 hI ?_ (fun M1 hM1 => ?_)
      · simp only [F_103, e1, one_ne, if_false]
        rcases rg_lt (m := 1) (by decide) hr with h0 | ⟨h0, h1, -⟩
        · rw [if_pos h0, J_103_18, Rf1]
        · rw [if_neg h0, if_neg (show ¬ c ≤ 1 from fun z => by
            rw [Int32.le_iff_toInt_le] at z; rw [Int32.lt_iff_toInt_lt] at h1
            exact absurd h1 (Int.not_lt.mpr z)), J_103_18, Rf1]
      · simp only [F_197, e2 M1 hM1, one_ne, if_false, show F_157 c 0 1 = 0 from w, if_true, J_197_18, Rg1]
  · refine rfu1 hI ?_ (fun M1 hM1 => ?_)
    · simp only [F_103, e1, if_true, J_103_18, Rf1]
    · simp only [F_197, e2 M1 hM1, if_true, J_197_18, Rg1]
theorem row_0 : ∀ b, b < 512 → ∀ c, 1 ≤ c → c ≤ 3 → (∀ d, 1 ≤ d → d ≤ 3 → b.testBit (3 * c + d - 4) = b.testBit (3 * c - 3)) → ((nI (b >>> (3 * (c - 1)) &&& 7) = 0) ↔ b.testBit (3 * c - 3) = false) := by
  intro b hb c hc1 hc3 h
  have h8 := and7 (b >>> (3 * (c - 1)))
  rw [show (0 : Int32) = nI 0 from rfl, ni_eqi (by omega) (by decide)]
  have t : ∀ x, x < 8 → (x = 0 ↔ (x.testBit 0 = false ∧ x.testBit 1 = false ∧ x.testBit 2 = false)) := by decide
  rw [t _ h8, show (b >>> (3 * (c - 1)) &&& 7).testBit 0 = _ from gw_bit (c := c) (d := 1) hc1 (by decide) (by decide), show (b >>> (3 * (c - 1)) &&& 7).testBit 1 = _ from gw_bit (c := c) (d := 2) hc1 (by decide) (by decide), show (b >>> (3 * (c - 1)) &&& 7).testBit 2 = _ from gw_bit (c := c) (d := 3) hc1 (by decide) (by decide), h 1 (by decide) (by decide), h 2 (by decide) (by decide), h 3 (by decide) (by decide)]
  exact ⟨fun z => z.1, fun z => ⟨z, z, z⟩⟩
theorem B_so (a b c d : Int32) : Both (F_104 a b c d) (F_199 a b c d) := by
  intro M hI
  obtain ⟨n, K, P, tb, q, hV⟩ := id hI
  have hn := hV.1.1.1
  have hT := hV.2.2.2.2.2.2.2.2.2
  rcases ckC hV.1 hT a b with ⟨l, i, hl, hi, rfl, rfl, e1, e2⟩ | ⟨e1, e2⟩
  · have hkl := (hV.1.1.2 l hl).1
    have c1 : M (6 + 2 * l) 0 = nI (K l) := (hV.1.2.1.2 l hl).1
    have hb := ((hV.1.1.2 l hl).2.2 i hi).1
    rcases ck_139 c with ⟨x, x1, x3, rfl, g1, g2⟩ | ⟨g1, g2⟩
    · have hgw := gw_ok hV.1.1 hV.1.2.1 hl hi x1 x3
      rw [show 1 + 5 + 2 * l = 6 + 2 * l by omega] at hgw
      cases hp : pr (K l)
      · have hu := ((hV.1.1.2 l hl).2.2 i hi).2 hp
        have r0 := row_0 _ hb x x1 x3 (fun d d1 d3 => hu x x1 x3 d d1 d3)
        refine ⟨if (tb l i).testBit (3 * x - 3) = true then 1 else 0, M, M, ?_, ?_, hI⟩
        · simp only [F_104, e1, g1, one_ne, if_false]
          simp (disch := omega) only [inb_nI, ni_cl, if_pos, if_neg, if_true, if_false, c1, E_1 (K l) hkl, hp, Bool.false_eq_true, Bool.true_eq_false, hgw]
          cases hx : (tb l i).testBit (3 * x - 3)
          · rw [if_pos (r0.mpr hx)]; rfl
          · rw [if_neg (fun z => by rw [r0.mp z] at hx; cases hx)]; rfl
        · simp only [F_199, e2 M (fun _ _ _ => rfl), g2, one_ne, if_false, oth_ok hV.1.1 hV.1.2.2 hl, hp, Bool.false_eq_true, Bool.true_eq_false, if_true, J_199_39, goes_n hV.1.1 hV.1.2.2 hl hi hp x1 x3]
          cases hx : (tb l i).testBit (3 * x - 3) <;> rfl
      · rcases ck_139 d with ⟨y, y1, y3, rfl, k1, k2⟩ | ⟨k1, k2⟩
        · refine ⟨if (tb l i).testBit (3 * x + y - 4) = true then 1 else 0, M, M, ?_, ?_, hI⟩
          · simp only [F_104, e1, g1, one_ne, if_false]
            simp (disch := omega) only [inb_nI, ni_cl, if_pos, if_neg, if_true, if_false, c1, E_1 (K l) hkl, hp, one_ne, k1, hgw]
            rw [holds_ok (Nat.lt_trans (and7 _) (by decide)) y1 (by omega), gw_bit x1 y1 y3]
            cases hx : (tb l i).testBit (3 * x + y - 4) <;> rfl
          · simp only [F_199, e2 M (fun _ _ _ => rfl), g2, one_ne, if_false, oth_ok hV.1.1 hV.1.2.2 hl, hp, if_true, k2, J_199_39, goes_p hV.1.1 hV.1.2.2 hl hi hp x1 x3 y1 y3]
            cases hx : (tb l i).testBit (3 * x + y - 4) <;> rfl
        · refine rfu1 hI ?_ (fun M1 hM1 => ?_)
          · simp only [F_104, e1, g1, one_ne, if_false]
            simp (disch := omega) only [inb_nI, ni_cl, if_pos, if_neg, if_true, if_false, c1, E_1 (K l) hkl, hp, one_ne, k1, Rf1]
          · have hq : LQ 78 n K P tb M1 := hV.1.2.2.cg hn (fun j _ => hM1 78 j (by decide))
            simp only [F_199, e2 M1 hM1, g2, one_ne, if_false, oth_ok hV.1.1 hq hl, hp, if_true, k2, J_199_32, Rg1]
    · refine rfu1 hI ?_ (fun M1 hM1 => ?_)
      · simp only [F_104, e1, g1, one_ne, if_false, if_true, J_104_16, Rf1]
      · simp only [F_199, e2 M1 hM1, g2, one_ne, if_false, if_true, J_199_32, Rg1]
  · refine rfu1 hI ?_ (fun M1 hM1 => ?_)
    · simp only [F_104, e1, if_true, J_104_16, Rf1]
    · simp only [F_199, e2 M1 hM1, if_true, J_199_32, Rg1]
theorem ln2 : ln 2 = 12 := by decide
theorem ln78 : ln 78 = 366 := by decide
theorem ln89 : ln 89 = 12 := by decide
theorem ln67 : ln 67 = 12 := by decide
theorem B_breach (a : Int32) : Both (F_105 a) (F_201 a) := by
  intro M hI
  obtain ⟨n, K, P, tb, q, hV⟩ := id hI
  have hn := hV.1.1.1
  have hT := hV.2.2.2.2.2.2.2.2.2
  rcases ckL hV.1 a with ⟨l, hl, rfl, e1, e2⟩ | ⟨e1, e2⟩
  · have hkl := (hV.1.1.2 l hl).1
    have hm := mny_lt hkl
    obtain ⟨x, hx, fx⟩ := brk_c (r := 2) hV.1.1 hV.1.2.1 hl ln2 (q := q) (fun h hh => ⟨(hV.2.1 h hh).1, (hV.2.1 h hh).2.1, (hV.2.1 h hh).2.2.1⟩)
    rw [show 1 + 5 + 2 * l = 6 + 2 * l by omega] at hx
    have hr : ∀ M1 : IM, (∀ k j, 77 ≤ k → M1 k j = M k j) → ∃ y, F_200 (nI l) 78 10 M1 = some y ∧ FBi (fun i => okL tb l i (q (fa (K l) i)) (q (fb (K l) i))) (mny (K l)) y := fun M1 hM1 => brk_r (f := 10) hV.1.1 (hV.1.2.2.cg hn (fun j _ => hM1 78 j (by decide))) (hT.cg (fun k j h1 h2 => hM1 k j (by omega))) hl (by rw [ln78]; decide) (by rw [ln78]; decide) (fun h hh => ⟨(hV.2.1 h hh).1, (hV.2.1 h hh).2.1, by rw [hM1 _ _ (by decide)]; exact (hV.2.1 h hh).2.2.2⟩)
    have hd : F_105 (nI l) M = (if x < 0 then (match F_132 (2 : Int32) M with | none => none | some (c2, M2) => some (c2, M2)) else some (x, M)) := by
      simp only [F_105, e1, one_ne, if_false]
      simp (disch := omega) only [inb_nI, ni_cl, if_pos, if_neg, if_true, if_false, hx]
      rcases fx.sg (by omega) with ⟨s1, s2, -⟩ | ⟨s1, s2, -⟩
      · simp only [s1, s2, if_true, if_false, Rf2]
      · simp only [s1, s2, if_true, if_false]
    rcases fx.sg (by omega) with ⟨s1, s2, -⟩ | ⟨s1, s2, -⟩
    · refine rfu2 hI (by rw [hd, if_pos s1, Rf2]) (fun M1 hM1 => ?_)
      obtain ⟨y, hy, fy⟩ := hr M1 hM1
      obtain rfl := fx.uq fy
      simp only [F_201, e2 M1 hM1, one_ne, if_false, hy, s2, Rg2]
    · refine ⟨x, M, M, by rw [hd, if_neg s1], ?_, hI⟩
      obtain ⟨y, hy, fy⟩ := hr M (fun _ _ _ => rfl)
      obtain rfl := fx.uq fy
      simp only [F_201, e2 M (fun _ _ _ => rfl), one_ne, if_false, hy, s2, if_true]
  · refine rfu1 hI ?_ (fun M1 hM1 => ?_)
    · simp only [F_105, e1, if_true, Rf1]
    · simp only [F_201, e2 M1 hM1, if_true, Rg1]
