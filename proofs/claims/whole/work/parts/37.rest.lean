/-! kept, count, told, tell, trace, sheets, forms, the tape -/
theorem B_kept {M : IM} (hI : Inv M) : ∃ r, F_106 M = some r ∧ F_202 M = some r := by
  obtain ⟨n, K, P, tb, q, hV⟩ := hI
  exact ⟨_, kept_c hV.1 hV.2.1, kept_r hV.1 hV.2.1 hV.2.2.2.2.2.2.2.2.2⟩
def both (q : Nat → Nat) (n : Nat) : Nat := sumT n (fun h => if q h = 3 then 1 else 0)
theorem both_le (q : Nat → Nat) (n : Nat) : both q n ≤ n := by
  have : both q n ≤ n * 1 := sumT_le (fun k _ => by split <;> omega)
  omega
theorem both_c {t : Nat} {q : Nat → Nat} {M : IM} (hq : ∀ h, h < 12 → 1 ≤ q h ∧ q h ≤ 3 ∧ M (t + 1) h = nI (q h)) : F_85 t M = some (nI (both q 12)) := by
  unfold F_85 L_85_4
  have g := loopI (B := B_85_4 t M) (fun k => (nI (both q k), nI k)) (r := (nI (both q 12), nI 12)) 12 (by decide) (fun k hk => by
    obtain ⟨a1, a2, a3⟩ := hq k hk
    have e : both q (k + 1) = both q k + (if q k = 3 then 1 else 0) := rfl
    unfold B_85_4 J_85_23_4
    dsimp only
    rw [e]
    by_cases h3 : q k = 3
    · simp (disch := omega) only [lit_nI, ni_ofNat, ni_add, ni_lti, ni_lei, ni_eqi, ni_cl, inb_nI, if_pos, if_neg, if_true, if_false, a3]
    · simp (disch := omega) only [lit_nI, ni_ofNat, ni_add, ni_lti, ni_lei, ni_eqi, ni_cl, inb_nI, if_pos, if_neg, if_true, if_false, a3, Nat.add_zero]) rfl
  rw [show ((0 : Int32), (0 : Int32)) = (nI (both q 0), nI 0) from rfl, g]
theorem both_r {q : Nat → Nat} {M : IM} (hq : ∀ h, h < 12 → 1 ≤ q h ∧ q h ≤ 3 ∧ M 78 (10 + h) = nI (q h)) : ∃ y, L_250_64 M 0 0 = some (nI (both q 12), y) := by
  unfold L_250_64
  have g := loopI (B := B_250_64 M) (fun k => (nI (both q k), nI k)) (r := (nI (both q 12), nI 12)) 12 (by decide) (fun k hk => by
    obtain ⟨a1, a2, a3⟩ := hq k hk
    have e : both q (k + 1) = both q k + (if q k = 3 then 1 else 0) := rfl
    unfold B_250_64 J_250_89_64
    dsimp only
    rw [e]
    by_cases h3 : q k = 3
    · simp (disch := omega) only [lit_nI, ni_ofNat, ni_add, ni_lti, ni_lei, ni_eqi, ni_cl, inb_nI, if_pos, if_neg, if_true, if_false, a3]
    · simp (disch := omega) only [lit_nI, ni_ofNat, ni_add, ni_lti, ni_lei, ni_eqi, ni_cl, inb_nI, if_pos, if_neg, if_true, if_false, a3, Nat.add_zero]) rfl
  exact ⟨nI 12, by rw [show ((0 : Int32), (0 : Int32)) = (nI (both q 0), nI 0) from rfl, g]⟩
theorem full_n : ∀ n, n ≤ 8 → (1 : Int32) <<< (nI n &&& 31) - 1 = nI (2 ^ n - 1) := by decide +kernel
theorem B_count (a : Int32) : Both (F_130 a) (F_250 a) := by
  intro M hI
  obtain ⟨n, K, P, tb, q, hV⟩ := id hI
  have hn := hV.1.1.1
  have hp := pw_8 hn
  have z0 : M 78 (0 : Int32).toNatClampNeg = nI n := hV.1.2.2.1
  obtain ⟨m, m1, m2, m3, -⟩ := hV.2.2.1
  obtain ⟨w, w1, w2, w3, -⟩ := hV.2.2.2.1
  obtain ⟨t, t1, t2, t3, -⟩ := hV.2.2.2.2.2.2.2.1
  by_cases c0 : a = 0
  · subst c0
    exact ⟨nI n, M, M, by simp only [F_130, if_true, hV.1.2.1.1], by simp only [F_250, if_true, z0], hI⟩
  by_cases c1 : a = 1
  · subst c1
    refine ⟨nI (priceS n P (2 ^ n - 1)), M, M, ?_, ?_, hI⟩
    · simp only [F_130, if_true, c0, if_false, hV.1.2.1.1, full_n n hn, cost_c hV.1.1 (show 2 ^ n - 1 < 256 by omega) hV.1.2.1]
    · simp only [F_250, if_true, c0, if_false, z0, full_n n hn, cost_r hV.1.1 (show 2 ^ n - 1 < 256 by omega) hV.1.2.2]
  by_cases c2 : a = 2
  · subst c2
    obtain ⟨y, hy⟩ := both_r (q := q) (M := M) (fun h hh => ⟨(hV.2.1 h hh).1, (hV.2.1 h hh).2.1, (hV.2.1 h hh).2.2.2⟩)
    refine ⟨nI (both q 12), M, M, ?_, ?_, hI⟩
    · simp only [F_130, if_true, c0, c1, if_false, both_c (t := 1) (q := q) (M := M) (fun h hh => ⟨(hV.2.1 h hh).1, (hV.2.1 h hh).2.1, (hV.2.1 h hh).2.2.1⟩)]
    · simp only [F_250, if_true, c0, c1, if_false, hy]
  by_cases c3 : a = 3
  · subst c3
    exact ⟨nI m, M, M, by simp only [F_130, if_true, c0, c1, c2, if_false, m2], by simp only [F_250, if_true, c0, c1, c2, if_false]; rw [show M 78 (1 : Int32).toNatClampNeg = nI m from m3], hI⟩
  by_cases c4 : a = 4
  · subst c4
    exact ⟨nI w, M, M, by simp only [F_130, if_true, c0, c1, c2, c3, if_false, w2], by simp only [F_250, if_true, c0, c1, c2, c3, if_false]; rw [show M 78 (2 : Int32).toNatClampNeg = nI w from w3], hI⟩
  by_cases c5 : a = 5
  · subst c5
    exact ⟨nI t, M, M, by simp only [F_130, if_true, c0, c1, c2, c3, c4, if_false, t2], by simp only [F_250, if_true, c0, c1, c2, c3, c4, if_false, t3], hI⟩
  · refine rfu1 hI ?_ (fun M1 hM1 => ?_)
    · simp only [F_130, c0, c1, c2, c3, c4, c5, if_false, Rf1]
    · simp only [F_250, c0, c1, c2, c3, c4, c5, if_false, Rg1]
theorem B_told (a : Int32) : Both (F_131 a) (F_251 a) := by
  intro M hI
  obtain ⟨n, K, P, tb, q, hV⟩ := id hI
  have h7 : C7 M := hV.2.2.2.2.2.1
  by_cases hr : rg a 6
  · obtain ⟨j, hj, rfl⟩ := hr
    by_cases h1 : 1 ≤ j
    · have w : ∀ j, j < 6 → 1 ≤ j → ¬ F_157 (nI j) 1 5 = 0 := by decide +kernel
      refine ⟨M 43 j, M, M, ?_, ?_, hI⟩
      · simp (disch := omega) only [F_131, lit_nI, ni_ofNat, ni_add, ni_lti, ni_lei, ni_eqi, ni_cl, inb_nI, if_pos, if_neg, if_true, if_false]
      · simp only [F_251, w j hj h1, if_false]
        simp (disch := omega) only [lit_nI, ni_ofNat, ni_add, ni_lti, ni_lei, ni_eqi, ni_cl, inb_nI, if_pos, if_neg, if_true, if_false, h7 j hj]
    · obtain rfl : j = 0 := by omega
      exact rfu1 hI rfl (fun M1 hM1 => rfl)
  · have w : F_157 a 1 5 = 0 := by
      unfold F_157
      rcases rg_lt (m := 5) (by decide) hr with h0 | ⟨h0, h1, -⟩
      · rw [if_pos (Int32.lt_trans h0 (by decide))]
      · by_cases h2 : a < 1
        · rw [if_pos h2]
        · rw [if_neg h2, if_pos (show (5 : Int32) < a from h1)]
    have w2 : F_131 a M = J_131_19 M := by
      unfold F_157 at w
      unfold F_131
      by_cases h2 : a < 1
      · rw [if_pos h2]
      · rw [if_neg h2] at w ⊢
        by_cases h3 : (5 : Int32) < a
        · rw [if_pos h3]
        · rw [if_neg h3] at w; exact absurd w (by decide)
    refine rfu1 hI (by rw [w2, J_131_19, Rf1]) (fun M1 hM1 => ?_)
    simp only [F_251, w, if_true, Rg1]
theorem B_tell (a : Int32) : Both (F_128 a) (F_248 a) := by
  intro M hI
  obtain ⟨n, K, P, tb, q, hV⟩ := id hI
  obtain ⟨w, w1, w2, w3, w4⟩ := hV.2.2.2.1
  have w3' : M 78 (2 : Int32).toNatClampNeg = nI w := w3
  by_cases hw : w < 20
  · refine ⟨nI (w + 1), iset (iset M 5 w a) 1 6 (nI (w + 1)), iset (iset (iset (iset M 5 w a) 1 6 (nI (w + 1))) 78 (90 + w) a) 78 2 (nI (w + 1)), ?_, ?_, n, K, P, tb, q, hV.a4 ?_ ?_⟩
    · simp (disch := omega) only [F_128, w2, lit_nI, ni_ofNat, ni_add, ni_lti, ni_lei, ni_eqi, ni_cl, inb_nI, if_pos, if_neg, if_true, if_false, iset_same, iset_k, iset_j]
    · simp only [F_248]
      simp (disch := omega) only [lit_nI, ni_ofNat, ni_add, ni_lti, ni_lei, ni_eqi, ni_cl, inb_nI, if_pos, if_neg, if_true, if_false, iset_same, iset_k, iset_j, w3]
    · exact ((((agx.rf 4 M).set (Or.inr (cid4 (by omega)))).set (Or.inr (cid4 (by omega)))).set (Or.inr (cid4 (by omega)))).set (Or.inr (cid4 (by omega)))
    · refine ⟨w + 1, by omega, ?_, ?_, fun j hj => ?_⟩
      · simp (disch := omega) only [iset_same, iset_k, iset_j]
      · simp (disch := omega) only [iset_same, iset_k, iset_j]
      · by_cases e : j = w
        · subst e
          simp (disch := omega) only [iset_same, iset_k, iset_j, Nat.reduceAdd]
        · have := w4 j (by omega)
          simp (disch := omega) only [iset_same, iset_k, iset_j, Nat.reduceAdd] at this ⊢
          exact this
  · obtain rfl : w = 20 := by omega
    refine rfu4 hI ?_ (fun M1 hM1 => ?_)
    · simp only [F_128, w2, show ¬ (nI 20 < 20) by decide, if_false, Rf4]
    · have : M1 78 (2 : Int32).toNatClampNeg = 20 := (hM1 78 _ (by decide)).trans w3'
      simp only [F_248, this, if_true, Rg4]
theorem B_trace (a : Int32) : Both (F_122 a) (F_241 a) := by
  intro M hI
  obtain ⟨n, K, P, tb, q, hV⟩ := id hI
  obtain ⟨t, t1, t2, t3, t4⟩ := hV.2.2.2.2.2.2.2.1
  by_cases hr : rg a t
  · obtain ⟨j, hj, rfl⟩ := hr
    have e : nI t - 1 = nI (t - 1) := ni_sub (b := 1) (by omega)
    refine ⟨M 66 j, M, M, ?_, ?_, hI⟩
    · simp (disch := omega) only [F_122, t2, lit_nI, ni_ofNat, ni_add, ni_lti, ni_lei, ni_eqi, ni_cl, inb_nI, if_pos, if_neg, if_true, if_false]
    · simp only [F_241, t3, e, wn_in (show j ≤ t - 1 by omega) (show t - 1 < 2147483648 by omega), one_ne, if_false]
      simp (disch := omega) only [lit_nI, ni_ofNat, ni_add, ni_lti, ni_lei, ni_eqi, ni_cl, inb_nI, if_pos, if_neg, if_true, if_false, t4 j hj]
  · have hc : F_122 a M = J_122_27 M ∧ F_157 a 0 (nI t - 1) = 0 := by
      unfold F_122 F_157
      rw [t2]
      by_cases h0 : a < 0
      · rw [if_pos h0, if_pos h0]; exact ⟨rfl, rfl⟩
      · cases t with
        | zero =>
          have h1 : nI 0 ≤ a := Int32.not_lt.mp h0
          rw [if_neg h0, if_neg h0, if_pos h1, if_pos (show nI 0 - 1 < a from Int32.lt_of_lt_of_le (by decide) h1)]
          exact ⟨rfl, rfl⟩
        | succ m =>
          rcases rg_lt (by omega) hr with h1 | ⟨-, h1, h2⟩
          · exact absurd h1 h0
          · rw [if_neg h0, if_neg h0, if_pos h2, show nI (m + 1) - 1 = nI m from ni_sub (b := 1) (by omega), if_pos h1]
            exact ⟨rfl, rfl⟩
    refine rfu2 hI (by rw [hc.1, J_122_27, Rf2]) (fun M1 hM1 => ?_)
    simp only [F_241, hM1 77 27 (by decide), t3, hc.2, if_true, Rg2]
