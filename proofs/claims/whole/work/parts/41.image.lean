/-! image, restore -/
def CV (t0 t1 n : Nat) (M M' : IM) : Prop := M' t0 2 = M t1 2 ∧ M' t0 4 = M t1 4 ∧ M' t0 6 = M t1 6 ∧ (∀ j, j < 12 → M' (t0 + 1) j = M (t1 + 1) j) ∧ (∀ j, j < 50 → M' (t0 + 3) j = M (t1 + 3) j) ∧ (∀ j, j < 20 → M' (t0 + 4) j = M (t1 + 4) j) ∧ ∀ l, l < n → M' (t0 + 5 + 2 * l) 0 = M (t1 + 5 + 2 * l) 0 ∧ M' (t0 + 5 + 2 * l) 1 = M (t1 + 5 + 2 * l) 1 ∧ ∀ j, j < 32 → M' (t0 + 6 + 2 * l) j = M (t1 + 6 + 2 * l) j
theorem f17_eq (t0 t1 : Nat) (M : IM) : F_17 t0 t1 M = wr (iset (iset M t0 0 (M t1 0)) t0 1 ((iset M t0 0 (M t1 0)) t1 1)) (t0 + 1) 0 32 (fun j => (iset (iset M t0 0 (M t1 0)) t0 1 ((iset M t0 0 (M t1 0)) t1 1)) (t1 + 1) j) := by
  unfold F_17
  rw [show (0 : Int32).toNatClampNeg = 0 from rfl, show (32 : Int32).toNatClampNeg = 32 from rfl, icpy_wr]
  simp only [Nat.zero_add, Nat.sub_zero]
theorem like_ok {t0 t1 n : Nat} {M : IM} (hd : t0 + 21 ≤ t1 ∨ t1 + 21 ≤ t0) (hn : n ≤ 8) (h2 : M t1 2 = nI n) : ∃ M', F_82 t0 t1 M = some M' ∧ CV t0 t1 n M M' ∧ ∀ k j, ¬ (t0 ≤ k ∧ k < t0 + 21) → M' k j = M k j := by
  have z0 : (0 : Int32).toNatClampNeg = 0 := rfl
  have z12 : (12 : Int32).toNatClampNeg = 12 := rfl
  have z50 : (50 : Int32).toNatClampNeg = 50 := rfl
  have z20 : (20 : Int32).toNatClampNeg = 20 := rfl
  unfold F_82
  rw [z0, z12, icpy_wr]
  simp only [Nat.zero_add, Nat.sub_zero]
  generalize hA : iset (wr M (t0 + 1) 0 12 (fun j => M (t1 + 1) j)) t0 2 (wr M (t0 + 1) 0 12 (fun j => M (t1 + 1) j) t1 2) = A
  have a1 : ∀ k j, ¬ (k = t0 + 1 ∨ k = t0) → A k j = M k j := fun k j hk => by rw [← hA, iset_k (by omega), wr_k (by omega)]
  have a2 : A t0 2 = nI n := by rw [← hA, iset_same, wr_k (by omega), h2]
  have a3 : ∀ j, j < 12 → A (t0 + 1) j = M (t1 + 1) j := fun j hj => by rw [← hA, iset_k (by omega), wr_in (Nat.zero_le _) hj]
  obtain ⟨⟨y, B⟩, h1, b1, b2, b3⟩ := loopF (body := B_82_25 t0 t1) (fun k s => s.1 = nI k ∧ (∀ l, l < k → s.2 (t0 + 5 + 2 * l) 0 = M (t1 + 5 + 2 * l) 0 ∧ s.2 (t0 + 5 + 2 * l) 1 = M (t1 + 5 + 2 * l) 1 ∧ ∀ j, j < 32 → s.2 (t0 + 6 + 2 * l) j = M (t1 + 6 + 2 * l) j) ∧ ∀ k j, ¬ (t0 + 5 ≤ k ∧ k < t0 + 21) → s.2 k j = A k j) (fun r => r.1 = nI n ∧ (∀ l, l < n → r.2 (t0 + 5 + 2 * l) 0 = M (t1 + 5 + 2 * l) 0 ∧ r.2 (t0 + 5 + 2 * l) 1 = M (t1 + 5 + 2 * l) 1 ∧ ∀ j, j < 32 → r.2 (t0 + 6 + 2 * l) j = M (t1 + 6 + 2 * l) j) ∧ ∀ k j, ¬ (t0 + 5 ≤ k ∧ k < t0 + 21) → r.2 k j = A k j) n (by omega) (s := ((0 : Int32), A)) ⟨rfl, fun l hl => absurd hl (Nat.not_lt_zero _), fun _ _ _ => rfl⟩ (by
    rintro k ⟨x, Q⟩ hk ⟨rfl, c1, c2⟩
    dsimp only at c1 c2
    have q2 : Q t0 2 = nI n := by rw [c2 _ _ (by omega), a2]
    unfold B_82_25
    dsimp only
    rw [q2]
    by_cases hkn : k < n
    · right
      refine ⟨hkn, (nI (k + 1), F_17 (t0 + 5 + 2 * k) (t1 + 5 + 2 * k) Q), ?_, rfl, fun l hl => ?_, fun a j ha => ?_⟩
      · simp (disch := omega) only [ni_lei, inb_nI, ni_cl, if_pos, if_neg, if_true, if_false, ni_add1]
      · dsimp only
        rw [f17_eq]
        have qs : ∀ j, Q (t1 + 5 + 2 * k) j = M (t1 + 5 + 2 * k) j := fun j => by rw [c2 _ _ (by omega), a1 _ _ (by omega)]
        have qs2 : ∀ j, Q (t1 + 5 + 2 * k + 1) j = M (t1 + 6 + 2 * k) j := fun j => by rw [c2 _ _ (by omega), a1 _ _ (by omega), show t1 + 5 + 2 * k + 1 = t1 + 6 + 2 * k by omega]
        by_cases e : l = k
        · subst e
          refine ⟨?_, ?_, fun j hj => ?_⟩
          · rw [wr_k (by omega), iset_j (by omega), iset_same, qs]
          · rw [wr_k (by omega), iset_same, iset_k (by omega), qs]
          · rw [show t0 + 6 + 2 * l = t0 + 5 + 2 * l + 1 by omega, wr_in (Nat.zero_le _) hj, iset_k (by omega), iset_k (by omega), qs2]
        · obtain ⟨d1, d2, d3⟩ := c1 l (by omega)
          refine ⟨?_, ?_, fun j hj => ?_⟩
          · rw [wr_k (by omega), iset_k (by omega), iset_k (by omega), d1]
          · rw [wr_k (by omega), iset_k (by omega), iset_k (by omega), d2]
          · rw [wr_k (by omega), iset_k (by omega), iset_k (by omega), d3 j hj]
      · dsimp only
        rw [f17_eq, wr_k (by omega), iset_k (by omega), iset_k (by omega)]
        exact c2 a j ha
    · left
      obtain rfl : k = n := by omega
      refine ⟨(nI k, Q), ?_, rfl, c1, c2⟩
      simp (disch := omega) only [ni_lei, if_pos, if_neg, if_true, if_false])
  dsimp only at b1 b2 b3
  have hL : L_82_25 t0 t1 0 A = some (y, B) := h1
  rw [hL]
  dsimp only
  unfold J_82_54
  rw [z0, z50, z20, icpy_wr, icpy_wr]
  simp only [Nat.zero_add, Nat.sub_zero]
  have bs : ∀ k j, (t1 ≤ k ∧ k < t1 + 21) → B k j = M k j := fun k j hk => by rw [b3 _ _ (by omega), a1 _ _ (by omega)]
  refine ⟨_, rfl, ⟨?_, ?_, ?_, fun j hj => ?_, fun j hj => ?_, fun j hj => ?_, fun l hl => ?_⟩, fun k j hk => ?_⟩
  · rw [iset_j (by decide), wr_k (by omega), iset_j (by decide), wr_k (by omega), b3 _ _ (by omega), a2, h2]
  · rw [iset_j (by decide), wr_k (by omega), iset_same, wr_k (by omega), bs _ _ (by omega)]
  · rw [iset_same, wr_k (by omega), iset_k (by omega), wr_k (by omega), bs _ _ (by omega)]
  · rw [iset_k (by omega), wr_k (by omega), iset_k (by omega), wr_k (by omega), b3 _ _ (by omega), a3 j hj]
  · rw [iset_k (by omega), wr_k (by omega), iset_k (by omega), wr_in (Nat.zero_le _) hj, bs _ _ (by omega)]
  · rw [iset_k (by omega), wr_in (Nat.zero_le _) hj, iset_k (by omega), wr_k (by omega), bs _ _ (by omega)]
  · obtain ⟨d1, d2, d3⟩ := b2 l hl
    refine ⟨?_, ?_, fun j hj => ?_⟩
    · rw [iset_k (by omega), wr_k (by omega), iset_k (by omega), wr_k (by omega), d1]
    · rw [iset_k (by omega), wr_k (by omega), iset_k (by omega), wr_k (by omega), d2]
    · rw [iset_k (by omega), wr_k (by omega), iset_k (by omega), wr_k (by omega), d3 j hj]
  · rw [iset_k (by omega), wr_k (by omega), iset_k (by omega), wr_k (by omega), b3 _ _ (by omega), a1 _ _ (by omega)]
section VIMOVE
variable {t0 t1 r0 r1 n : Nat} {K P : Nat → Nat} {tb : Nat → Nat → Nat} {q : Nat → Nat} {M M' : IM}
theorem LC.mv (hc : CV t0 t1 n M M') (hW : LW n K P tb) (h : LC t1 n K P tb M) : LC t0 n K P tb M' := by
  obtain ⟨c2, c4, c6, cr, ct, cw, cl⟩ := hc
  refine ⟨by rw [c2]; exact h.1, fun l hl => ?_⟩
  obtain ⟨d1, d2, d3⟩ := cl l hl
  obtain ⟨e1, e2, e3⟩ := h.2 l hl
  have hm := mny_lt (hW.2 l hl).1
  exact ⟨by rw [d1]; exact e1, by rw [d2]; exact e2, fun i hi => by rw [d3 i (by omega)]; exact e3 i hi⟩
theorem LQ.mv (hc : ∀ j, j < 366 → M' r0 j = M r1 j) (hW : LW n K P tb) (h : LQ r1 n K P tb M) : LQ r0 n K P tb M' := by
  have hn := hW.1
  refine ⟨by rw [hc _ (by omega)]; exact h.1, fun l hl => ?_⟩
  obtain ⟨e1, e2, e3⟩ := h.2 l hl
  have hm := mny_lt (hW.2 l hl).1
  exact ⟨by rw [hc _ (by omega)]; exact e1, by rw [hc _ (by omega)]; exact e2, fun i hi => by rw [hc _ (by omega)]; exact e3 i hi⟩
theorem RU.mv (hc : CV t0 t1 n M M') (hr : ∀ j, j < 366 → M' r0 j = M r1 j) (h : RU t1 r1 q M) : RU t0 r0 q M' := fun a ha => by
  obtain ⟨h1, h2, h3, h4⟩ := h a ha
  exact ⟨h1, h2, by rw [hc.2.2.2.1 a ha]; exact h3, by rw [hr _ (by omega)]; exact h4⟩
theorem TP.mv (hc : CV t0 t1 n M M') (hr : ∀ j, j < 366 → M' r0 j = M r1 j) (h : TP t1 r1 M) : TP t0 r0 M' := by
  obtain ⟨m, h1, h2, h3, h4⟩ := h
  refine ⟨m, h1, by rw [hc.2.1]; exact h2, by rw [hr _ (by omega)]; exact h3, fun j hj => ?_⟩
  rw [hc.2.2.2.2.1 j (by omega), hr _ (by omega)]
  exact h4 j hj
theorem WT.mv (hc : CV t0 t1 n M M') (hr : ∀ j, j < 366 → M' r0 j = M r1 j) (h : WT t1 r1 M) : WT t0 r0 M' := by
  obtain ⟨m, h1, h2, h3, h4⟩ := h
  refine ⟨m, h1, by rw [hc.2.2.1]; exact h2, by rw [hr _ (by omega)]; exact h3, fun j hj => ?_⟩
  rw [hc.2.2.2.2.2.1 j (by omega), hr _ (by omega)]
  exact h4 j hj
end VIMOVE
theorem img_r (M : IM) : L_246_2 0 M = some (nI 366, wr M 79 0 366 (fun j => M 78 j)) := by
  unfold L_246_2
  have g := loopI (B := B_246_2) (fun k => (nI k, wr M 79 0 k (fun j => M 78 j))) (r := (nI 366, wr M 79 0 366 (fun j => M 78 j))) 366 (by decide) (fun k hk => by
    unfold B_246_2
    dsimp only
    simp (disch := omega) only [lit_nI, ni_lei, inb_nI, ni_cl, if_pos, if_neg, if_true, if_false, ni_add, wr_k]
    rw [wr_s (Nat.zero_le _) rfl]) rfl
  rw [show ((0 : Int32), M) = (nI 0, wr M 79 0 0 (fun j => M 78 j)) by rw [wr_0]; rfl, g]
theorem res_r (M : IM) : L_247_16 0 M = some (nI 366, wr M 78 0 366 (fun j => M 79 j)) := by
  unfold L_247_16
  have g := loopI (B := B_247_16) (fun k => (nI k, wr M 78 0 k (fun j => M 79 j))) (r := (nI 366, wr M 78 0 366 (fun j => M 79 j))) 366 (by decide) (fun k hk => by
    unfold B_247_16
    dsimp only
    simp (disch := omega) only [lit_nI, ni_lei, inb_nI, ni_cl, if_pos, if_neg, if_true, if_false, ni_add, wr_k]
    rw [wr_s (Nat.zero_le _) rfl]) rfl
  rw [show ((0 : Int32), M) = (nI 0, wr M 78 0 0 (fun j => M 79 j)) by rw [wr_0]; rfl, g]
theorem B_image : Both F_126 F_246 := by
  intro M hI
  obtain ⟨n, K, P, tb, q, hV⟩ := id hI
  have hW := hV.1.1
  obtain ⟨A, a1, a2, a3⟩ := like_ok (t0 := 22) (t1 := 1) (M := M) (by omega) hW.1 hV.1.2.1.1
  have e0 : A 0 2 = M 0 2 := a3 _ _ (by omega)
  have e77 : A 77 2 = M 0 2 := (a3 _ _ (by omega)).trans hV.2.2.2.2.1.1.symm
  refine ⟨M 0 2 + 1, iset A 0 2 (M 0 2 + 1), iset (wr (iset A 0 2 (M 0 2 + 1)) 79 0 366 (fun j => (iset A 0 2 (M 0 2 + 1)) 78 j)) 77 2 (M 0 2 + 1), ?_, ?_, n, K, P, tb, q, hV.a5 (fun k j u1 u2 => ?_) ⟨?_, fun _ => ⟨⟨n, K, P, tb, hW, ?_, ?_⟩, ⟨q, ?_⟩, ?_, ?_⟩⟩⟩
  · simp only [F_126, a1, e0, iset_same]
  · simp only [F_246, img_r, J_246_27, iset_same]
    rw [show (wr (iset A 0 2 (M 0 2 + 1)) 79 0 366 (fun j => (iset A 0 2 (M 0 2 + 1)) 78 j)) 77 2 = M 0 2 by rw [wr_k (by decide), iset_k (by decide), e77]]
  · have u3 : ¬ ((k = 0 ∧ j = 2) ∨ (22 ≤ k ∧ k < 43) ∨ (k = 77 ∧ j = 2) ∨ k = 79) := fun z => u2 (cid5 z)
    rw [iset_eq, if_neg (by omega), wr_k (by omega), iset_eq, if_neg (by omega), a3 _ _ (by omega)]
  · rw [iset_k (by decide), wr_k (by decide), iset_same, iset_same]
  all_goals
    have cr : ∀ j, j < 366 → (iset (wr (iset A 0 2 (M 0 2 + 1)) 79 0 366 (fun j => (iset A 0 2 (M 0 2 + 1)) 78 j)) 77 2 (M 0 2 + 1)) 79 j = M 78 j := fun j hj => by
      rw [iset_k (by decide), wr_in (Nat.zero_le _) hj, iset_k (by decide), a3 _ _ (by omega)]
    have cv : CV 22 1 n M (iset (wr (iset A 0 2 (M 0 2 + 1)) 79 0 366 (fun j => (iset A 0 2 (M 0 2 + 1)) 78 j)) 77 2 (M 0 2 + 1)) := by
      have hn := hW.1
      have nc : ∀ k j, 22 ≤ k → k < 43 → (iset (wr (iset A 0 2 (M 0 2 + 1)) 79 0 366 (fun j => (iset A 0 2 (M 0 2 + 1)) 78 j)) 77 2 (M 0 2 + 1)) k j = A k j := fun k j h1 h2 => by
        rw [iset_k (by omega), wr_k (by omega), iset_k (by omega)]
      obtain ⟨c2, c4, c6, c7, c8, c9, cl⟩ := a2
      refine ⟨by rw [nc _ _ (by omega) (by omega)]; exact c2, by rw [nc _ _ (by omega) (by omega)]; exact c4, by rw [nc _ _ (by omega) (by omega)]; exact c6, fun j hj => by rw [nc _ _ (by omega) (by omega)]; exact c7 j hj, fun j hj => by rw [nc _ _ (by omega) (by omega)]; exact c8 j hj, fun j hj => by rw [nc _ _ (by omega) (by omega)]; exact c9 j hj, fun l hl => ?_⟩
      obtain ⟨d1, d2, d3⟩ := cl l hl
      exact ⟨by rw [nc _ _ (by omega) (by omega)]; exact d1, by rw [nc _ _ (by omega) (by omega)]; exact d2, fun j hj => by rw [nc _ _ (by omega) (by omega)]; exact d3 j hj⟩
  · exact hV.1.2.1.mv cv hW
  · exact hV.1.2.2.mv cr hW
  · exact hV.2.1.mv cv cr
  · exact hV.2.2.1.mv cv cr
  · exact hV.2.2.2.1.mv cv cr
theorem ln68 : ln 68 = 256 := by decide
theorem cid_lo {k j : Nat} (h : (1 ≤ k ∧ k < 22) ∨ k = 78) : cid k j ≤ 4 := by
  have : k = 1 ∨ k = 2 ∨ k = 3 ∨ k = 4 ∨ k = 5 ∨ (6 ≤ k ∧ k < 22) ∨ k = 78 := by omega
  rcases this with rfl | rfl | rfl | rfl | rfl | ⟨h1, h2⟩ | rfl
  · simp (disch := omega) only [cid, if_pos, if_neg, if_true, if_false]
    by_cases e1 : j = 2
    · simp (disch := omega) only [if_pos, if_neg, Nat.reduceLeDiff]
    by_cases e2 : j = 4
    · simp (disch := omega) only [if_pos, if_neg, Nat.reduceLeDiff]
    by_cases e3 : j = 6
    · simp (disch := omega) only [if_pos, if_neg, Nat.reduceLeDiff]
    · simp (disch := omega) only [if_pos, if_neg, Nat.zero_le]
  · exact (show (2 : Nat) ≤ 4 by decide)
  · exact (show (0 : Nat) ≤ 4 by decide)
  · exact (show (3 : Nat) ≤ 4 by decide)
  · exact (show (4 : Nat) ≤ 4 by decide)
  · rw [cid1 (by omega)]; decide
  · by_cases e1 : j = 0 ∨ (22 ≤ j ∧ j < 38) ∨ 110 ≤ j
    · rw [cid1 (by omega)]; decide
    by_cases e2 : 10 ≤ j ∧ j < 22
    · rw [cid2 (by omega)]; decide
    by_cases e3 : j = 1 ∨ (40 ≤ j ∧ j < 90)
    · rw [cid3 (by omega)]; decide
    by_cases e4 : j = 2 ∨ (90 ≤ j ∧ j < 110)
    · rw [cid4 (by omega)]; decide
    · have : cid 78 j = 0 := by
        by_cases e5 : j < 10
        · simp (disch := omega) only [cid, if_pos, if_neg, if_true, if_false]
        · have e6 : 38 ≤ j ∧ j < 40 := by omega
          obtain ⟨e6, e7⟩ := e6
          simp (disch := omega) only [cid, if_pos, if_neg, if_true, if_false]
      omega
theorem cid_68 (j : Nat) : cid 68 j = 10 := cid10 rfl
theorem B_restore : Both F_127 F_247 := by
  intro M hI
  obtain ⟨n, K, P, tb, q, hV⟩ := id hI
  obtain ⟨i1, i2⟩ := hV.2.2.2.2.1
  by_cases hz : M 77 2 = 0
  · refine rfu2 hI ?_ (fun M1 hM1 => ?_)
    · simp only [F_127, i1, hz, if_true, Rf2]
    · simp only [F_247, hM1 77 2 (by decide), hz, if_true, Rg2]
  · obtain ⟨⟨n', K', P', tb', hW, v1, v2⟩, ⟨q', v3⟩, v4, v5⟩ := i2 hz
    obtain ⟨A, a1, a2, a3⟩ := like_ok (t0 := 1) (t1 := 22) (M := M) (by omega) hW.1 v1.1
    have hn := hW.1
    generalize hM1 : wr A 68 0 256 (fun _ => -2) = M1
    have n1 : ∀ k j, k ≠ 68 → M1 k j = A k j := fun k j hk => by rw [← hM1, wr_k hk]
    generalize hM2 : wr M1 78 0 366 (fun j => M1 79 j) = M2
    have n2 : ∀ k j, ¬ (k = 78 ∧ j < 366) → M2 k j = M1 k j := fun k j hk => by rw [← hM2, wr_eq, if_neg (by omega)]
    have cr : ∀ j, j < 366 → M2 78 j = M 79 j := fun j hj => by rw [← hM2, wr_in (Nat.zero_le _) hj, n1 _ _ (by decide), a3 _ _ (by omega)]
    have nc : ∀ k j, 1 ≤ k → k < 22 → M2 k j = A k j := fun k j h1 h2 => by rw [n2 _ _ (by omega), n1 _ _ (by omega)]
    have cv : CV 1 22 n' M M2 := by
      obtain ⟨c2, c4, c6, c7, c8, c9, cl⟩ := a2
      refine ⟨by rw [nc _ _ (by omega) (by omega)]; exact c2, by rw [nc _ _ (by omega) (by omega)]; exact c4, by rw [nc _ _ (by omega) (by omega)]; exact c6, fun j hj => by rw [nc _ _ (by omega) (by omega)]; exact c7 j hj, fun j hj => by rw [nc _ _ (by omega) (by omega)]; exact c8 j hj, fun j hj => by rw [nc _ _ (by omega) (by omega)]; exact c9 j hj, fun l hl => ?_⟩
      obtain ⟨d1, d2, d3⟩ := cl l hl
      exact ⟨by rw [nc _ _ (by omega) (by omega)]; exact d1, by rw [nc _ _ (by omega) (by omega)]; exact d2, fun j hj => by rw [nc _ _ (by omega) (by omega)]; exact d3 j hj⟩
    have so : ∀ k j, ¬ (1 ≤ k ∧ k < 22) → k ≠ 68 → k ≠ 78 → M2 k j = M k j := fun k j h1 h2 h3 => by
      rw [n2 _ _ (by omega), n1 _ _ h2, a3 _ _ (by omega)]
    obtain ⟨-, -, -, -, h5, h7, h8, h9, -, h11⟩ := hV
    refine ⟨nI n', M1, M2, ?_, ?_, n', K', P', tb', q', ⟨hW, v1.mv cv hW, v2.mv cr hW⟩, v3.mv cv cr, v4.mv cv cr, v5.mv cv cr, h5.ag (fun k j hk => ?_), h7.ag (fun k j hk => ?_), h8.ag (fun k j hk => ?_), h9.ag (fun k j hk => ?_), fun s hs => Or.inl (by rw [n2 _ _ (by omega), ← hM1, wr_in (Nat.zero_le _) hs]), h11.ag (fun k j hk => ?_)⟩
    · have : M1 1 2 = nI n' := by rw [n1 _ _ (by decide), a2.1, v1.1]
      simp only [F_127, i1, hz, if_false, a1, fill_ok 68 (-2) A (by rw [ln68]; decide), ln68, hM1, this]
    · have : M2 78 (0 : Int32).toNatClampNeg = nI n' := (cr 0 (by decide)).trans v2.1
      have h77 : M1 77 2 = M 77 2 := by rw [n1 _ _ (by decide), a3 _ _ (by omega)]
      simp only [F_247, h77, hz, if_false, res_r, J_247_41, hM2, this]
    all_goals
      refine so k j (fun z => ?_) (fun z => ?_) (fun z => ?_)
      · have := cid_lo (j := j) (Or.inl z)
        omega
      · subst z
        have := cid_68 j
        omega
      · have := cid_lo (k := k) (j := j) (Or.inr z)
        omega
