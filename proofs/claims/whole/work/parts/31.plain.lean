/-! the plain calls -/
theorem one_ne : ¬ ((1 : Int32) = 0) := by decide
theorem rfu1 {f g : IM → Option (Int32 × IM)} {M : IM} (hI : Inv M) (h1 : f M = some (-1000001, iset M 43 1 (M 43 1 + 1))) (h2 : ∀ M1 : IM, (∀ k j, 77 ≤ k → M1 k j = M k j) → g M1 = some (-1000001, iset M1 80 1 (M1 80 1 + 1))) : ∃ r M1 M2, f M = some (r, M1) ∧ g M1 = some (r, M2) ∧ Inv M2 :=
  ⟨_, _, _, h1, h2 _ (fun k j hk => iset_k (by omega)), hI.rf0 (e := 1) (by decide)⟩
theorem rfu2 {f g : IM → Option (Int32 × IM)} {M : IM} (hI : Inv M) (h1 : f M = some (-1000002, iset M 43 2 (M 43 2 + 1))) (h2 : ∀ M1 : IM, (∀ k j, 77 ≤ k → M1 k j = M k j) → g M1 = some (-1000002, iset M1 80 2 (M1 80 2 + 1))) : ∃ r M1 M2, f M = some (r, M1) ∧ g M1 = some (r, M2) ∧ Inv M2 :=
  ⟨_, _, _, h1, h2 _ (fun k j hk => iset_k (by omega)), hI.rf0 (e := 2) (by decide)⟩
theorem rfu3 {f g : IM → Option (Int32 × IM)} {M : IM} (hI : Inv M) (h1 : f M = some (-1000003, iset M 43 3 (M 43 3 + 1))) (h2 : ∀ M1 : IM, (∀ k j, 77 ≤ k → M1 k j = M k j) → g M1 = some (-1000003, iset M1 80 3 (M1 80 3 + 1))) : ∃ r M1 M2, f M = some (r, M1) ∧ g M1 = some (r, M2) ∧ Inv M2 :=
  ⟨_, _, _, h1, h2 _ (fun k j hk => iset_k (by omega)), hI.rf0 (e := 3) (by decide)⟩
theorem rfu4 {f g : IM → Option (Int32 × IM)} {M : IM} (hI : Inv M) (h1 : f M = some (-1000004, iset M 43 4 (M 43 4 + 1))) (h2 : ∀ M1 : IM, (∀ k j, 77 ≤ k → M1 k j = M k j) → g M1 = some (-1000004, iset M1 80 4 (M1 80 4 + 1))) : ∃ r M1 M2, f M = some (r, M1) ∧ g M1 = some (r, M2) ∧ Inv M2 :=
  ⟨_, _, _, h1, h2 _ (fun k j hk => iset_k (by omega)), hI.rf0 (e := 4) (by decide)⟩
theorem rfu5 {f g : IM → Option (Int32 × IM)} {M : IM} (hI : Inv M) (h1 : f M = some (-1000005, iset M 43 5 (M 43 5 + 1))) (h2 : ∀ M1 : IM, (∀ k j, 77 ≤ k → M1 k j = M k j) → g M1 = some (-1000005, iset M1 80 5 (M1 80 5 + 1))) : ∃ r M1 M2, f M = some (r, M1) ∧ g M1 = some (r, M2) ∧ Inv M2 :=
  ⟨_, _, _, h1, h2 _ (fun k j hk => iset_k (by omega)), hI.rf0 (e := 5) (by decide)⟩
theorem B_hall (a b : Int32) : Both (F_93 a b) (F_167 a b) := by
  intro M hI
  rcases ck_5 a with ⟨h, hh, rfl, e1, e2⟩ | ⟨e1, e2⟩
  · by_cases b0 : b = 0
    · subst b0
      refine ⟨nI (hsz h), M, M, ?_, ?_, hI⟩
      · simp only [F_93, e1, one_ne, if_false, if_true, E_6 h hh]
      · simp only [F_167, J_167_34, e2, one_ne, if_false, if_true, E_151 h hh, show ¬ F_157 0 0 2 = 0 by decide]
    by_cases b1 : b = 1
    · subst b1
      refine ⟨nI (hcn h 0), M, M, ?_, ?_, hI⟩
      · simp only [F_93, e1, one_ne, if_false, if_true, E_10 h hh]
      · have := E_166 h hh 0 (by decide)
        simp only [F_167, J_167_34, e2, one_ne, if_false, show ¬ F_157 1 0 2 = 0 by decide, show ¬ (3 : Int32) ≤ 1 by decide, show (1 : Int32) - 1 = nI 0 by decide, this]
    by_cases b2 : b = 2
    · subst b2
      refine ⟨nI (hcn h 1), M, M, ?_, ?_, hI⟩
      · simp only [F_93, e1, one_ne, if_false, if_true, E_9 h hh, show ¬ (2 : Int32) = 0 by decide, show ¬ (2 : Int32) = 1 by decide]
      · have := E_166 h hh 1 (by decide)
        simp only [F_167, J_167_34, e2, one_ne, if_false, show ¬ F_157 2 0 2 = 0 by decide, show ¬ (3 : Int32) ≤ 2 by decide, show (2 : Int32) - 1 = nI 1 by decide, this, show ¬ (2 : Int32) = 0 by decide]
    by_cases bp : ∃ p, p < 3 ∧ b = nI (10 + p)
    · obtain ⟨p, hp, rfl⟩ := bp
      have hb : nI (10 + p) - 10 = nI p := by
        revert p; decide +kernel
      have h1 : ¬ F_158 (nI h) = 0 := by rw [e2]; decide
      have h2 : ∀ p, p < 3 → F_157 (nI (10 + p)) 0 2 = 0 ∧ ¬ F_157 (nI (10 + p)) 10 12 = 0 ∧ ¬ nI (10 + p) = 0 ∧ (3 : Int32) ≤ nI (10 + p) ∧ ¬ nI (10 + p) = 1 ∧ ¬ nI (10 + p) = 2 := by decide +kernel
      obtain ⟨g1, g2, g3, g4, g5, g6⟩ := h2 p hp
      refine ⟨nI (hwt h p), M, M, ?_, ?_, hI⟩
      · simp only [F_93, e1, one_ne, if_false, g3, g5, g6, hb, E_8 h hh p hp]
        have : p = 0 ∨ p = 1 ∨ p = 2 := by omega
        rcases this with rfl | rfl | rfl
        · exact if_pos rfl
        · exact (if_neg (by decide)).trans (if_pos rfl)
        · exact (if_neg (by decide)).trans ((if_neg (by decide)).trans (if_pos rfl))
      · simp only [F_167, J_167_34, h1, if_false, g1, if_true, g2, g3, g4, hb, E_152 h hh p hp]
    · have n10 : ¬ b = 10 := fun e => bp ⟨0, by decide, e⟩
      have n11 : ¬ b = 11 := fun e => bp ⟨1, by decide, e⟩
      have n12 : ¬ b = 12 := fun e => bp ⟨2, by decide, e⟩
      have w1 : F_157 b 0 2 = 0 := wn_out (m := 2) (by decide) (by
        rintro ⟨j, hj, rfl⟩
        have : j = 0 ∨ j = 1 ∨ j = 2 := by omega
        rcases this with rfl | rfl | rfl
        · exact b0 rfl
        · exact b1 rfl
        · exact b2 rfl)
      have w2 : F_157 b 10 12 = 0 := by
        by_cases hr : rg b 13
        · obtain ⟨j, hj, rfl⟩ := hr
          have : ∀ j, j < 10 → F_157 (nI j) 10 12 = 0 := by decide +kernel
          by_cases h9 : j < 10
          · exact this j h9
          · exact absurd ⟨j - 10, by omega, by rw [show 10 + (j - 10) = j by omega]⟩ bp
        · unfold F_157
          by_cases q : b < 10
          · rw [if_pos q]
          · rcases rg_lt (m := 12) (by decide) hr with h0 | ⟨-, h1, -⟩
            · exact absurd (Int32.lt_trans h0 (by decide)) q
            · rw [if_neg q, if_pos (show (12 : Int32) < b from h1)]
      refine rfu1 hI ?_ (fun M1 hM1 => ?_)
      · simp only [F_93, e1, one_ne, if_false, b0, b1, b2, n10, n11, n12, Rf1]
      · simp only [F_167, J_167_27, e2, one_ne, if_false, w1, w2, if_true, Rg1]
  · refine rfu1 hI ?_ (fun M1 hM1 => ?_)
    · simp only [F_93, e1, if_true, Rf1]
    · simp only [F_167, J_167_27, e2, if_true, Rg1]
theorem B_moved (a b : Int32) : Both (F_94 a b) (F_168 a b) := by
  intro M hI
  rcases ck_5 a with ⟨h, hh, rfl, e1, e2⟩ | ⟨e1, e2⟩
  · by_cases hb : rg b 3
    · obtain ⟨p, hp, rfl⟩ := hb
      have w : F_157 (nI p) 0 2 = 1 := wn_in (m := 2) (by omega) (by decide)
      have s1 := E_6 h hh
      have s2 := E_151 h hh
      have hs : hsz h ≤ 3 := by unfold hsz; split <;> omega
      by_cases hq : p < hsz h
      · refine ⟨nI (flp h p), M, M, ?_, ?_, hI⟩
        · simp only [F_94, e1, one_ne, if_false, s1, E_11 h hh p hq]
          simp (disch := omega) only [lit_nI, ni_ofNat, ni_add, ni_lti, ni_lei, ni_eqi, ni_cl, inb_nI, if_pos, if_neg, if_true, if_false]
        · simp only [F_168, e2, w, one_ne, if_false, s2, E_153 h hh p hq]
          simp (disch := omega) only [lit_nI, ni_ofNat, ni_add, ni_lti, ni_lei, ni_eqi, ni_cl, inb_nI, if_pos, if_neg, if_true, if_false]
      · refine rfu2 hI ?_ (fun M1 hM1 => ?_)
        · simp only [F_94, e1, one_ne, if_false, s1, Rf2]
          simp (disch := omega) only [lit_nI, ni_ofNat, ni_add, ni_lti, ni_lei, ni_eqi, ni_cl, inb_nI, if_pos, if_neg, if_true, if_false]
        · simp only [F_168, e2, w, one_ne, if_false, s2, Rg2]
          simp (disch := omega) only [lit_nI, ni_ofNat, ni_add, ni_lti, ni_lei, ni_eqi, ni_cl, inb_nI, if_pos, if_neg, if_true, if_false]
    · refine rfu1 hI ?_ (fun M1 hM1 => ?_)
      · have : F_94 (nI h) b M = J_94_16 M := by
          simp only [F_94, e1, one_ne, if_false]
          rcases rg_lt (m := 2) (by decide) hb with h0 | ⟨h0, -, h1⟩
          · rw [if_pos h0]
          · rw [if_neg h0, if_neg (show ¬ b < 3 from Int32.not_lt.mpr h1)]
        rw [this, J_94_16, Rf1]
      · simp only [F_168, e2, one_ne, if_false, wn_out (m := 2) (by decide) hb, show F_157 b 0 2 = 0 from wn_out (m := 2) (by decide) hb, if_true, J_168_16, Rg1]
  · refine rfu1 hI ?_ (fun M1 hM1 => ?_)
    · simp only [F_94, e1, if_true, J_94_16, Rf1]
    · simp only [F_168, e2, if_true, J_168_16, Rg1]
theorem B_choose (a b : Int32) : Both (F_95 a b) (F_169 a b) := by
  intro M hI
  rcases ck_5 a with ⟨h, hh, rfl, e1, e2⟩ | ⟨e1, e2⟩
  · rcases ck_139 b with ⟨c, hc1, hc3, rfl, g1, g2⟩ | ⟨g1, g2⟩
    · obtain ⟨n, K, P, tb, q, hV⟩ := hI
      obtain ⟨k1, k2, k3, k4⟩ := hV.2.1 h hh
      refine ⟨nI (q h), iset M 2 h (nI c), iset (iset M 2 h (nI c)) 78 (10 + h) (nI c), ?_, ?_, n, K, P, tb, updN q h c, ?_⟩
      · simp (disch := omega) only [F_95, e1, g1, one_ne, if_pos, if_neg, if_true, if_false, lit_nI, ni_ofNat, ni_add, ni_lti, ni_lei, ni_eqi, ni_cl, inb_nI, show M 2 h = nI (q h) from k3]
      · simp (disch := omega) only [F_169, e2, g2, one_ne, if_pos, if_neg, if_true, if_false, lit_nI, ni_ofNat, ni_add, ni_lti, ni_lei, ni_eqi, ni_cl, inb_nI, iset_same, iset_k, iset_j, k4]
      · refine hV.a2 (((agx.rf 2 M).set (Or.inr (cid2 (by omega)))).set (Or.inr (cid2 (by omega)))) (fun x hx => ?_)
        obtain ⟨q1, q2, q3, q4⟩ := hV.2.1 x hx
        by_cases e : x = h
        · subst e
          simp (disch := omega) only [updN, if_pos, if_neg, if_true, if_false, iset_same, iset_k, iset_j]
          exact ⟨hc1, hc3, trivial, trivial⟩
        · simp (disch := omega) only [updN, if_pos, if_neg, if_true, if_false, iset_same, iset_k, iset_j]
          exact ⟨q1, q2, q3, q4⟩
    · refine rfu1 hI ?_ (fun M1 hM1 => ?_)
      · simp only [F_95, e1, g1, one_ne, if_false, if_true, J_95_14, Rf1]
      · simp only [F_169, e2, g2, one_ne, if_false, if_true, J_169_14, Rg1]
  · refine rfu1 hI ?_ (fun M1 hM1 => ?_)
    · simp only [F_95, e1, if_true, J_95_14, Rf1]
    · simp only [F_169, e2, if_true, J_169_14, Rg1]
theorem B_chosen (a : Int32) : Both (F_96 a) (F_170 a) := by
  intro M hI
  rcases ck_5 a with ⟨h, hh, rfl, e1, e2⟩ | ⟨e1, e2⟩
  · obtain ⟨n, K, P, tb, q, hV⟩ := id hI
    obtain ⟨k1, k2, k3, k4⟩ := hV.2.1 h hh
    refine ⟨nI (q h), M, M, ?_, ?_, hI⟩
    · simp (disch := omega) only [F_96, e1, one_ne, if_pos, if_neg, if_true, if_false, lit_nI, ni_ofNat, ni_add, ni_lti, ni_lei, ni_eqi, ni_cl, inb_nI, show M 2 h = nI (q h) from k3]
    · simp (disch := omega) only [F_170, e2, one_ne, if_pos, if_neg, if_true, if_false, lit_nI, ni_ofNat, ni_add, ni_lti, ni_lei, ni_eqi, ni_cl, inb_nI, k4]
  · refine rfu1 hI ?_ (fun M1 hM1 => ?_)
    · simp only [F_96, e1, if_true, Rf1]
    · simp only [F_170, e2, if_true, Rg1]
