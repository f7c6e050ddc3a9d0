/-! sheets -/
theorem ln_sh : ∀ s, s < 4 → ln (69 + 2 * s + 1) = 40 := by decide
theorem sh_c {s b m : Nat} (hs : s < 4) (M : IM) : J_123_81 (nI m) (nI b) (69 + 2 * s) M = some (1, wr (iset (iset M (69 + 2 * s) 0 (nI b)) (69 + 2 * s) 1 (nI m)) (70 + 2 * s) 0 40 (fun _ => 0)) := by
  unfold J_123_81 F_35
  rw [fill_ok _ _ _ (by rw [ln_sh s hs]; decide), ln_sh s hs, show 69 + 2 * s + 1 = 70 + 2 * s by omega]
theorem sh_r {s b m : Nat} (hs : s < 4) (M : IM) : J_243_90 (nI s) (nI m) (nI s) (iset M 94 s (nI b)) = some (1, wr (iset (iset M 94 s (nI b)) 95 s (nI m)) 96 (40 * s) (40 * s + 40) (fun _ => 0)) := by
  unfold J_243_90 L_243_94
  simp (disch := omega) only [inb_nI, ni_cl, if_pos, if_neg, if_true, if_false]
  have g := loopI (B := B_243_94 (nI s)) (fun k => (nI k, wr (iset (iset M 94 s (nI b)) 95 s (nI m)) 96 (40 * s) (40 * s + k) (fun _ => 0))) (r := (nI 40, wr (iset (iset M 94 s (nI b)) 95 s (nI m)) 96 (40 * s) (40 * s + 40) (fun _ => 0))) 40 (by decide) (fun k hk => by
    unfold B_243_94
    dsimp only
    rw [show (40 : Int32) * nI s = nI (40 * s) from ni_mul 40 s]
    simp (disch := omega) only [ni_add, inb_nI, ni_cl, ni_lei, lit_nI, if_pos, if_neg, if_true, if_false]
    rw [wr_s (by omega) rfl]
    rfl) rfl
  rw [show ((0 : Int32), iset (iset M 94 s (nI b)) 95 s (nI m)) = (nI 0, wr (iset (iset M 94 s (nI b)) 95 s (nI m)) 96 (40 * s) (40 * s + 0) (fun _ => 0)) by rw [Nat.add_zero, wr_0]; rfl, g]
theorem sh_both {s b m : Nat} {M : IM} (hI : Inv M) (hs : s < 4) (hb : b = 0 ∨ b = 8 ∨ b = 16 ∨ b = 32) (hm : m ≤ 40) : ∃ M1 M2, J_123_81 (nI m) (nI b) (69 + 2 * s) M = some (1, M1) ∧ (∀ k j, 77 ≤ k → M1 k j = M k j) ∧ J_243_90 (nI s) (nI m) (nI s) (iset M1 94 s (nI b)) = some (1, M2) ∧ Inv M2 := by
  obtain ⟨n, K, P, tb, q, hV⟩ := id hI
  refine ⟨_, _, sh_c hs M, fun k j hk => ?_, sh_r hs _, n, K, P, tb, q, hV.a8 (fun k j h1 h2 => ?_) (fun s' hs' => ?_)⟩
  · rw [wr_k (by omega), iset_k (by omega), iset_k (by omega)]
  · have h3 : ¬ ((69 ≤ k ∧ k < 77) ∨ (94 ≤ k ∧ k < 97)) := fun z => h2 (cid8 z)
    rw [wr_k (by omega), iset_k (by omega), iset_k (by omega), wr_k (by omega), iset_k (by omega), iset_k (by omega)]
  · by_cases e : s' = s
    · subst e
      refine ⟨b, m, hb, hm, ?_, ?_, ?_, ?_, fun j hj => ?_⟩
      · simp (disch := omega) only [wr_k, iset_same, iset_k, iset_j]
      · simp (disch := omega) only [wr_k, iset_same, iset_k, iset_j]
      · simp (disch := omega) only [wr_k, iset_same, iset_k, iset_j]
      · simp (disch := omega) only [wr_k, iset_same, iset_k, iset_j]
      · rw [wr_k (by omega), iset_k (by omega), iset_k (by omega), wr_in (by omega) (by omega), wr_in (by omega) (by omega)]
    · obtain ⟨b', m', h1, h2, h3, h4, h5, h6, h7⟩ := hV.2.2.2.2.2.2.1 s' hs'
      refine ⟨b', m', h1, h2, ?_, ?_, ?_, ?_, fun j hj => ?_⟩
      · simp (disch := omega) only [wr_k, iset_same, iset_k, iset_j, h3]
      · simp (disch := omega) only [wr_k, iset_same, iset_k, iset_j, h4]
      · simp (disch := omega) only [wr_k, iset_same, iset_k, iset_j, h5]
      · simp (disch := omega) only [wr_k, iset_same, iset_k, iset_j, h6]
      · have e1 : ¬ (40 * s ≤ 40 * s' + j ∧ 40 * s' + j < 40 * s + 40) := by omega
        rw [wr_k (by omega), iset_k (by omega), iset_k (by omega), wr_k (by omega), iset_k (by omega), iset_k (by omega), h7 j hj]
        symm
        rw [wr_eq, if_neg (fun z => e1 z.2)]
        simp (disch := omega) only [wr_k, iset_same, iset_k, iset_j]
theorem B_sheet (a b c : Int32) : Both (F_123 a b c) (F_243 a b c) := by
  intro M hI
  rcases ck_136 a with ⟨s, hs, rfl, e1, e2⟩ | ⟨e1, e2⟩
  · by_cases hb : b = 0 ∨ b = 8 ∨ b = 16 ∨ b = 32
    · have d1 : F_123 (nI s) b c M = J_123_35 (nI s) b c M := by
        simp only [F_123, e1, one_ne, if_false]
        rcases hb with rfl | rfl | rfl | rfl <;> rfl
      have d2 : ∀ M1 : IM, F_243 (nI s) b c M1 = J_243_36 (nI s) b c M1 := fun M1 => by
        simp only [F_243, e2, one_ne, if_false]
        rcases hb with rfl | rfl | rfl | rfl <;> rfl
      obtain ⟨x, hx, hbx⟩ : ∃ x, (x = 0 ∨ x = 8 ∨ x = 16 ∨ x = 32) ∧ b = nI x := by
        rcases hb with rfl | rfl | rfl | rfl
        · exact ⟨0, by decide, rfl⟩
        · exact ⟨8, by decide, rfl⟩
        · exact ⟨16, by decide, rfl⟩
        · exact ⟨32, by decide, rfl⟩
      by_cases hz : b = 0
      · subst hz
        obtain ⟨M1, M2, g1, g2, g3, g4⟩ := sh_both (s := s) (b := 0) (m := 0) hI hs (by decide) (by decide)
        refine ⟨1, M1, M2, ?_, ?_, g4⟩
        · rw [d1]
          simp (disch := omega) only [J_123_35, J_123_49, J_123_65, if_true, inb_nI, ni_cl, if_pos]
          exact g1
        · rw [d2]
          simp (disch := omega) only [J_243_36, J_243_52, J_243_69, if_true, inb_nI, ni_cl, if_pos]
          exact g3
      · by_cases hc : rg c 41
        · obtain ⟨m, hm, rfl⟩ := hc
          obtain ⟨M1, M2, g1, g2, g3, g4⟩ := sh_both (s := s) (b := x) (m := m) hI hs hx (by omega)
          have t1 : (0 : Int32) ≤ nI m := nI_pos' (by omega)
          have t2 : nI m ≤ 40 := nI_le (b := 40) (by omega) (by decide)
          refine ⟨1, M1, M2, ?_, ?_, g4⟩
          · rw [d1]
            simp only [J_123_35, J_123_49, J_123_65, hz, if_false, t1, t2, if_true]
            simp (disch := omega) only [inb_nI, ni_cl, if_pos]
            rw [hbx]
            exact g1
          · rw [d2]
            simp only [J_243_36, J_243_52, J_243_69, hz, if_false, t1, t2, if_true]
            simp (disch := omega) only [inb_nI, ni_cl, if_pos]
            rw [hbx]
            exact g3
        · rcases rg_lt (m := 40) (by decide) hc with h0 | ⟨h0, h1, -⟩
          · have t1 : ¬ (0 : Int32) ≤ c := Int32.not_le.mpr h0
            refine rfu3 hI ?_ (fun M1 hM1 => ?_)
            · rw [d1]; simp only [J_123_35, hz, t1, if_false, Rf3]
            · rw [d2]; simp only [J_243_36, hz, t1, if_false, Rg3]
          · have t1 : (0 : Int32) ≤ c := Int32.not_lt.mp h0
            have t2 : ¬ c ≤ 40 := fun z => by
              rw [Int32.le_iff_toInt_le] at z; rw [Int32.lt_iff_toInt_lt] at h1
              exact absurd h1 (Int.not_lt.mpr z)
            refine rfu1 hI ?_ (fun M1 hM1 => ?_)
            · rw [d1]; simp only [J_123_35, J_123_49, hz, t1, t2, if_false, if_true, Rf1]
            · rw [d2]; simp only [J_243_36, J_243_52, hz, t1, t2, if_false, if_true, Rg1]
    · have n0 : ¬ b = 0 := fun z => hb (Or.inl z)
      have n8 : ¬ b = 8 := fun z => hb (Or.inr (Or.inl z))
      have n16 : ¬ b = 16 := fun z => hb (Or.inr (Or.inr (Or.inl z)))
      have n32 : ¬ b = 32 := fun z => hb (Or.inr (Or.inr (Or.inr z)))
      refine rfu1 hI ?_ (fun M1 hM1 => ?_)
      · simp only [F_123, e1, one_ne, n0, n8, n16, n32, if_false, J_123_29, Rf1]
      · simp only [F_243, e2, one_ne, n0, n8, n16, n32, if_false, J_243_29, Rg1]
  · refine rfu1 hI ?_ (fun M1 hM1 => ?_)
    · simp only [F_123, e1, if_true, J_123_29, Rf1]
    · simp only [F_243, e2, if_true, J_243_29, Rg1]
theorem w_ne {b : Nat} (hb : b = 0 ∨ b = 8 ∨ b = 16 ∨ b = 32) (h0 : b ≠ 0) : ¬ (nI b = 0) := by
  rcases hb with rfl | rfl | rfl | rfl
  · exact absurd rfl h0
  · decide
  · decide
  · decide
theorem B_put (a b c : Int32) : Both (F_124 a b c) (F_244 a b c) := by
  intro M hI
  obtain ⟨n, K, P, tb, q, hV⟩ := id hI
  rcases ck_136 a with ⟨s, hs, rfl, e1, e2⟩ | ⟨e1, e2⟩
  · obtain ⟨w, m, hw, hm, h3, h4, h5, h6, h7⟩ := hV.2.2.2.2.2.2.1 s hs
    by_cases hw0 : w = 0
    · subst hw0
      refine rfu2 hI ?_ (fun M1 hM1 => ?_)
      · simp only [F_124, e1, one_ne, if_false]
        simp (disch := omega) only [inb_nI, ni_cl, if_pos, F_34, h3]
        rw [if_pos (show nI 0 = 0 from rfl), if_neg one_ne, Rf2]
      · simp only [F_244, e2, one_ne, if_false]
        simp (disch := omega) only [inb_nI, ni_cl, if_pos, hM1 94 s (by decide), h4]
        rw [if_pos (show nI 0 = 0 from rfl), Rg2]
    · have hz := w_ne hw hw0
      by_cases hb : rg b m
      · obtain ⟨i, hi, rfl⟩ := hb
        have e3 : nI m - 1 = nI (m - 1) := ni_sub (b := 1) (by omega)
        generalize hv : (if nI w = 8 then c.toInt8.toInt32 else (if nI w = 16 then c.toInt16.toInt32 else c)) = v
        refine ⟨1, iset M (70 + 2 * s) i v, iset (iset M (70 + 2 * s) i v) 96 (40 * s + i) v, ?_, ?_, n, K, P, tb, q, hV.a8 ?_ (fun s' hs' => ?_)⟩
        · simp only [F_124, e1, one_ne, if_false]
          simp (disch := omega) only [inb_nI, ni_cl, if_pos, F_34, h3, hz, if_false, h5, ni_nn, ni_lti, F_36, hv]
          rw [show 69 + 2 * s + 1 = 70 + 2 * s by omega]
          rfl
        · simp only [F_244, e2, one_ne, if_false]
          have y4 : (iset M (70 + 2 * s) i v) 94 s = nI w := by rw [iset_k (by omega), h4]
          have y5 : (iset M (70 + 2 * s) i v) 95 s = nI m := by rw [iset_k (by omega), h6]
          simp (disch := omega) only [inb_nI, ni_cl, if_pos, y4, y5, hz, if_false, e3, wn_in (show i ≤ m - 1 by omega) (show m - 1 < 2147483648 by omega), one_ne]
          have y6 : ∀ z : Int32, J_244_96 z (40 * nI s + nI i) (iset M (70 + 2 * s) i v) = some (1, iset (iset M (70 + 2 * s) i v) 96 (40 * s + i) z) := fun z => by
            unfold J_244_96
            rw [show (40 : Int32) * nI s = nI (40 * s) from ni_mul 40 s]
            simp (disch := omega) only [ni_add, inb_nI, ni_cl, if_pos]
          simp only [y6]
          rw [← hv]
          by_cases t8 : nI w = 8
          · rw [if_pos t8, if_pos t8]
          · rw [if_neg t8, if_neg t8]
            by_cases t16 : nI w = 16
            · rw [if_pos t16, if_pos t16]
            · rw [if_neg t16, if_neg t16]
        · exact ((agx.rf 8 M).set (Or.inr (cid8 (by omega)))).set (Or.inr (cid8 (by omega)))
        · obtain ⟨b', m', k1, k2, k3, k4, k5, k6, k7⟩ := hV.2.2.2.2.2.2.1 s' hs'
          refine ⟨b', m', k1, k2, ?_, ?_, ?_, ?_, fun j hj => ?_⟩
          · simp (disch := omega) only [iset_same, iset_k, iset_j, k3]
          · simp (disch := omega) only [iset_same, iset_k, iset_j, k4]
          · simp (disch := omega) only [iset_same, iset_k, iset_j, k5]
          · simp (disch := omega) only [iset_same, iset_k, iset_j, k6]
          · have := k7 j hj
            rw [iset_eq, iset_eq, iset_eq, iset_eq]
            by_cases e : s' = s ∧ j = i
            · obtain ⟨rfl, rfl⟩ := e
              rw [if_neg (by omega), if_pos ⟨rfl, rfl⟩, if_pos ⟨rfl, rfl⟩]
            · rw [if_neg (by omega), if_neg (by omega), if_neg (by omega), if_neg (by omega)]
              exact this
      · have hc : ∀ M1 : IM, F_157 b 0 (nI m - 1) = 0 ∧ (if b < 0 then J_124_48 M else (if b < nI m then (if inb b 40 = true then (some ((1, iset M ((69 + 2 * s) + 1) b.toNatClampNeg (F_36 (69 + 2 * s) c M)))) else none) else (J_124_48 M))) = J_124_48 M := fun M1 => by
          unfold F_157
          by_cases h0 : b < 0
          · rw [if_pos h0, if_pos h0]; exact ⟨rfl, rfl⟩
          · cases m with
            | zero =>
              have h1 : nI 0 ≤ b := Int32.not_lt.mp h0
              rw [if_neg h0, if_neg h0, if_neg (Int32.not_lt.mpr h1), if_pos (show nI 0 - 1 < b from Int32.lt_of_lt_of_le (by decide) h1)]
              exact ⟨rfl, rfl⟩
            | succ m =>
              rcases rg_lt (by omega) hb with h1 | ⟨-, h1, h2⟩
              · exact absurd h1 h0
              · rw [if_neg h0, if_neg h0, if_neg (Int32.not_lt.mpr h2), show nI (m + 1) - 1 = nI m from ni_sub (b := 1) (by omega), if_pos h1]
                exact ⟨rfl, rfl⟩
        refine rfu1 hI ?_ (fun M1 hM1 => ?_)
        · simp only [F_124, e1, one_ne, if_false]
          simp (disch := omega) only [inb_nI, ni_cl, if_pos, F_34, h3, hz, if_false, h5]
          rw [if_pos trivial, (hc M).2, J_124_48, Rf1]
        · simp only [F_244, e2, one_ne, if_false]
          simp (disch := omega) only [inb_nI, ni_cl, if_pos, hM1 94 s (by decide), h4, hz, if_false, hM1 95 s (by decide), h6, (hc M).1, if_true, Rg1]
  · refine rfu1 hI ?_ (fun M1 hM1 => ?_)
    · simp only [F_124, e1, if_true, Rf1]
    · simp only [F_244, e2, if_true, Rg1]
