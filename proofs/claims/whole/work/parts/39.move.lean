/-! move, block, form, feed -/
theorem nI_l64 {n : Nat} (h : n < 2147483648) : (nI n).toInt64 = lN n := nI_l h
theorem lg_gt {a b : Nat} (ha : a < 2 ^ 63) (hb : b < 2 ^ 63) : (0 < lg_cmp (lN a) (lN b)) = (b < a) := by
  unfold lg_cmp
  by_cases h : b < a
  · rw [if_pos (show lN a > lN b from (pk_lLT hb ha).mpr h)]
    exact propext ⟨fun _ => h, fun _ => by decide⟩
  · rw [if_neg (show ¬ lN a > lN b from fun z => h ((pk_lLT hb ha).mp z))]
    split
    · exact propext ⟨fun z => absurd z (by decide), fun z => absurd z h⟩
    · exact propext ⟨fun z => absurd z (by decide), fun z => absurd z h⟩
theorem lg_le {a b : Nat} (ha : a < 2 ^ 63) (hb : b < 2 ^ 63) : (lg_cmp (lN a) (lN b) ≤ 0) = (a ≤ b) := by
  have := lg_gt ha hb
  by_cases h : b < a
  · have h1 : 0 < lg_cmp (lN a) (lN b) := by rw [this]; exact h
    exact propext ⟨fun z => absurd z (Int32.not_le.mpr h1), fun z => absurd h (Nat.not_lt.mpr z)⟩
  · have h1 : ¬ 0 < lg_cmp (lN a) (lN b) := by rw [this]; exact h
    exact propext ⟨fun _ => Nat.not_lt.mp h, fun _ => Int32.not_lt.mp h1⟩
theorem mv_r {s o i j m : Nat} (hs : s < 4) (ho : o < 4) (hi : i + m ≤ 40) (hj : j + m ≤ 40) (M : IM) : ∃ y, L_245_127 (nI s) (nI i) (nI o) (nI j) (nI m) 0 M = some (y, wr M 97 0 m (fun k => M 96 (40 * s + i + k))) ∧ J_245_161 (nI o) (nI j) (nI m) (wr M 97 0 m (fun k => M 96 (40 * s + i + k))) = some (nI m, wr (wr M 97 0 m (fun k => M 96 (40 * s + i + k))) 96 (40 * o + j) (40 * o + j + m) (fun k => M 96 (40 * s + i + (k - (40 * o + j))))) := by
  refine ⟨nI m, ?_, ?_⟩
  · unfold L_245_127
    have g := loopI (B := B_245_127 (nI s) (nI i) (nI o) (nI j) (nI m)) (fun k => (nI k, wr M 97 0 k (fun k => M 96 (40 * s + i + k)))) (r := (nI m, wr M 97 0 m (fun k => M 96 (40 * s + i + k)))) m (by omega) (fun k hk => by
      unfold B_245_127
      dsimp only
      rw [show (40 : Int32) * nI s = nI (40 * s) from ni_mul 40 s]
      simp (disch := omega) only [ni_add, inb_nI, ni_cl, ni_lei, ni_add1, if_pos, if_neg, if_true, if_false, wr_k]
      rw [wr_s (by omega) rfl]) (by
      unfold B_245_127
      dsimp only
      simp (disch := omega) only [ni_lei, if_pos, if_neg, if_true, if_false])
    rw [show ((0 : Int32), M) = (nI 0, wr M 97 0 0 (fun k => M 96 (40 * s + i + k))) by rw [wr_0]; rfl, g]
  · unfold J_245_161 L_245_164
    generalize hM : wr M 97 0 m (fun k => M 96 (40 * s + i + k)) = M1
    have g := loopI (B := B_245_164 (nI o) (nI j) (nI m)) (fun k => (nI k, wr M1 96 (40 * o + j) (40 * o + j + k) (fun k => M 96 (40 * s + i + (k - (40 * o + j)))))) (r := (nI m, wr M1 96 (40 * o + j) (40 * o + j + m) (fun k => M 96 (40 * s + i + (k - (40 * o + j)))))) m (by omega) (fun k hk => by
      unfold B_245_164
      dsimp only
      rw [show (40 : Int32) * nI o = nI (40 * o) from ni_mul 40 o]
      simp (disch := omega) only [ni_add, inb_nI, ni_cl, ni_lei, ni_add1, if_pos, if_neg, if_true, if_false, wr_k]
      rw [wr_s (by omega) (by rw [← hM, wr_in (Nat.zero_le _) hk, Nat.add_sub_cancel_left])]
      rfl) (by
      unfold B_245_164
      dsimp only
      simp (disch := omega) only [ni_lei, if_pos, if_neg, if_true, if_false])
    rw [show ((0 : Int32), M1) = (nI 0, wr M1 96 (40 * o + j) (40 * o + j + 0) (fun k => M 96 (40 * s + i + (k - (40 * o + j))))) by rw [Nat.add_zero, wr_0]; rfl, g]
theorem B_move (a b c d e : Int32) : Both (F_125 a b c d e) (F_245 a b c d e) := by
  intro M hI
  obtain ⟨n, K, P, tb, q, hV⟩ := id hI
  rcases ck_136 a with ⟨s, hs, rfl, e1, e2⟩ | ⟨e1, e2⟩
  · rcases ck_136 c with ⟨o, ho, rfl, f1, f2⟩ | ⟨f1, f2⟩
    · obtain ⟨w, m, hw, hm, h3, h4, h5, h6, h7⟩ := hV.2.2.2.2.2.2.1 s hs
      obtain ⟨w', m', hw', hm', k3, k4, k5, k6, k7⟩ := hV.2.2.2.2.2.2.1 o ho
      by_cases hz : nI w = 0
      · refine rfu2 hI ?_ (fun M1 hM1 => ?_)
        · simp only [F_125, e1, f1, one_ne, if_false]
          simp (disch := omega) only [inb_nI, ni_cl, if_pos, F_34, h3, hz, if_true, one_ne, if_false, J_125_52, Rf2]
        · simp only [F_245, e2, f2, one_ne, if_false]
          simp (disch := omega) only [inb_nI, ni_cl, if_pos, hM1 94 s (by decide), h4, hz, if_true, J_245_39, Rg2]
      by_cases hz' : nI w' = 0
      · refine rfu2 hI ?_ (fun M1 hM1 => ?_)
        · simp only [F_125, e1, f1, one_ne, if_false]
          simp (disch := omega) only [inb_nI, ni_cl, if_pos, F_34, h3, hz, k3, hz', if_true, one_ne, if_false, J_125_52, Rf2]
        · simp only [F_245, e2, f2, one_ne, if_false]
          simp (disch := omega) only [inb_nI, ni_cl, if_pos, hM1 94 s (by decide), h4, hz, if_false, hM1 94 o (by decide), k4, hz', if_true, J_245_39, Rg2]
      by_cases hww : nI w = nI w'
      · have dc : F_125 (nI s) b (nI o) d e M = (if F_37 (69 + 2 * s) b e M = 0 then J_125_100 M else (if F_37 (69 + 2 * o) d e M = 0 then J_125_100 M else (if cpok 40 b 40 d e = true then (some ((e, icpy M ((69 + 2 * s) + 1) b.toNatClampNeg ((69 + 2 * o) + 1) d.toNatClampNeg e.toNatClampNeg))) else none))) := by
          simp only [F_125, e1, f1, one_ne, if_false]
          simp (disch := omega) only [inb_nI, ni_cl, if_pos, F_34, h3, hz, k3, hz', if_true, if_false, hww]
        have dr : ∀ M1 : IM, (∀ k j, 77 ≤ k → M1 k j = M k j) → F_245 (nI s) b (nI o) d e M1 = (if e < 0 then J_245_117 M1 else (if b < 0 then J_245_117 M1 else (if d < 0 then J_245_117 M1 else (if (0 : Int32) < lg_cmp (b.toInt64 + e.toInt64) ((nI m).toInt64) then J_245_117 M1 else (if lg_cmp (d.toInt64 + e.toInt64) ((nI m').toInt64) ≤ 0 then (match L_245_127 (nI s) b (nI o) d e 0 M1 with | none => none | some (x6_9, M9) => (J_245_161 (nI o) d e M9)) else J_245_117 M1))))) := fun M1 hM1 => by
          simp only [F_245, e2, f2, one_ne, if_false]
          simp (disch := omega) only [inb_nI, ni_cl, if_pos, hM1 94 s (by decide), h4, hz, if_false, hM1 94 o (by decide), k4, hz', hww, hM1 95 s (by decide), h6, hM1 95 o (by decide), k6, if_true]
          all_goals rfl
        by_cases hall : ∃ i j x, i + x ≤ m ∧ j + x ≤ m' ∧ b = nI i ∧ d = nI j ∧ e = nI x
        · obtain ⟨i, j, x, hi, hj, rfl, rfl, rfl⟩ := hall
          have dc' : F_125 (nI s) (nI i) (nI o) (nI j) (nI x) M = some (nI x, wr M (70 + 2 * o) j (j + x) (fun y => M (70 + 2 * s) (i + (y - j)))) := by
            rw [dc]
            simp (disch := omega) only [F_37, h5, k5, ni_nn, ni_lti, ni_sub, if_pos, if_neg, if_true, if_false, one_ne, ni_cl]
            rw [if_pos (by
              unfold cpok
              simp (disch := omega) only [ni_nn, decide_false, ni_cl, Bool.not_false, Bool.true_and, Bool.and_eq_true, Nat.ble_eq]
              omega), icpy_wr, show 69 + 2 * s + 1 = 70 + 2 * s by omega, show 69 + 2 * o + 1 = 70 + 2 * o by omega]
          generalize hM1 : wr M (70 + 2 * o) j (j + x) (fun y => M (70 + 2 * s) (i + (y - j))) = M1 at dc'
          have hhi : ∀ k j, 77 ≤ k → M1 k j = M k j := fun k j hk => by rw [← hM1, wr_k (by omega)]
          obtain ⟨y, r1, r2⟩ := mv_r hs ho (show i + x ≤ 40 by omega) (show j + x ≤ 40 by omega) M1
          refine ⟨nI x, M1, wr (wr M1 97 0 x (fun k => M1 96 (40 * s + i + k))) 96 (40 * o + j) (40 * o + j + x) (fun k => M1 96 (40 * s + i + (k - (40 * o + j)))), dc', ?_, n, K, P, tb, q, hV.a8 (fun k z h1 h2 => ?_) (fun s' hs' => ?_)⟩
          · rw [dr M1 hhi]
            simp (disch := omega) only [ni_nn, if_false, nI_l64, lN_add, lg_gt, lg_le, if_pos, if_neg, if_true, if_false, r1, r2]
          · have h3 : ¬ ((69 ≤ k ∧ k < 77) ∨ (94 ≤ k ∧ k < 97)) := fun z => h2 (cid8 z)
            have h97 : k ≠ 97 := fun z => by subst z; exact h1 rfl
            rw [wr_k (by omega), wr_k h97, ← hM1, wr_k (by omega)]
          · obtain ⟨b', mm, t1, t2, t3, t4, t5, t6, t7⟩ := hV.2.2.2.2.2.2.1 s' hs'
            refine ⟨b', mm, t1, t2, ?_, ?_, ?_, ?_, fun z hz => ?_⟩
            · rw [wr_k (by omega), wr_k (by omega), ← hM1, wr_k (by omega), t3]
            · rw [wr_k (by omega), wr_k (by omega), ← hM1, wr_k (by omega), t4]
            · rw [wr_k (by omega), wr_k (by omega), ← hM1, wr_k (by omega), t5]
            · rw [wr_k (by omega), wr_k (by omega), ← hM1, wr_k (by omega), t6]
            · rw [wr_k (by omega), wr_k (by omega)]
              by_cases hin : s' = o ∧ j ≤ z ∧ z < j + x
              · obtain ⟨rfl, z1, z2⟩ := hin
                rw [wr_in (by omega) (by omega), ← hM1, wr_in z1 z2, wr_k (by omega), h7 _ (by omega)]
                congr 1
                omega
              · have : ¬ (40 * o + j ≤ 40 * s' + z ∧ 40 * s' + z < 40 * o + j + x) := by omega
                rw [wr_eq (t := 96), if_neg (fun z => this z.2), wr_k (by decide), ← hM1, wr_eq, if_neg (by omega), wr_k (by omega)]
                exact t7 z hz
        · have z37 : F_37 (69 + 2 * s) b e M = 0 ∨ F_37 (69 + 2 * o) d e M = 0 → F_125 (nI s) b (nI o) d e M = some (-1000001, iset M 43 1 (M 43 1 + 1)) := fun z => by
            rw [dc]
            by_cases g1 : F_37 (69 + 2 * s) b e M = 0
            · rw [if_pos g1, J_125_100, Rf1]
            · rcases z with z | z
              · exact absurd z g1
              · rw [if_neg g1, if_pos z, J_125_100, Rf1]
          have zr : ∀ M1 : IM, J_245_117 M1 = some (-1000001, iset M1 80 1 (M1 80 1 + 1)) := fun M1 => by rw [J_245_117, Rg1]
          by_cases e0 : e < 0
          · refine rfu1 hI (z37 (Or.inl ?_)) (fun M1 hM1 => ?_)
            · unfold F_37
              by_cases b0 : b < 0
              · rw [if_pos b0]
              · rw [if_neg b0, if_pos e0]
            · rw [dr M1 hM1, if_pos e0, zr]
          by_cases b0 : b < 0
          · refine rfu1 hI (z37 (Or.inl ?_)) (fun M1 hM1 => ?_)
            · unfold F_37
              rw [if_pos b0]
            · rw [dr M1 hM1, if_neg e0, if_pos b0, zr]
          by_cases d0 : d < 0
          · refine rfu1 hI (z37 (Or.inr ?_)) (fun M1 hM1 => ?_)
            · unfold F_37
              rw [if_pos d0]
            · rw [dr M1 hM1, if_neg e0, if_neg b0, if_pos d0, zr]
          have bl := Int32.toNatClampNeg_lt b
          have dl := Int32.toNatClampNeg_lt d
          have el := Int32.toNatClampNeg_lt e
          have eb := ni_of (Int32.not_lt.mp b0)
          have ed := ni_of (Int32.not_lt.mp d0)
          have ee := ni_of (Int32.not_lt.mp e0)
          generalize b.toNatClampNeg = i at bl eb
          generalize d.toNatClampNeg = j at dl ed
          generalize e.toNatClampNeg = x at el ee
          subst eb ed ee
          have f37 : ∀ t y v : Nat, y ≤ 40 → v < 2147483648 → M t 1 = nI y → F_37 t (nI v) (nI x) M = if v + x ≤ y then 1 else 0 := fun t y v hy hv ht => by
            unfold F_37
            rw [ht]
            by_cases q1 : v + x ≤ y
            · simp (disch := omega) only [ni_nn, ni_lti, ni_sub, if_pos, if_neg, if_true, if_false]
            · by_cases q2 : y < x
              · simp (disch := omega) only [ni_nn, ni_lti, if_pos, if_neg, if_true, if_false]
              · simp (disch := omega) only [ni_nn, ni_lti, ni_sub, if_pos, if_neg, if_true, if_false]
          by_cases q1 : i + x ≤ m
          · have q2 : ¬ j + x ≤ m' := fun z => hall ⟨i, j, x, q1, z, rfl, rfl, rfl⟩
            refine rfu1 hI (z37 (Or.inr ?_)) (fun M1 hM1 => ?_)
            · rw [f37 _ _ _ hm' dl k5, if_neg q2]
            · rw [dr M1 hM1]
              simp (disch := omega) only [ni_nn, if_false, nI_l64, lN_add, lg_gt, lg_le, if_pos, if_neg, if_true, if_false, zr]
          · refine rfu1 hI (z37 (Or.inl ?_)) (fun M1 hM1 => ?_)
            · rw [f37 _ _ _ hm bl h5, if_neg q1]
            · rw [dr M1 hM1]
              simp (disch := omega) only [ni_nn, if_false, nI_l64, lN_add, lg_gt, lg_le, if_pos, if_neg, if_true, if_false, zr]
      · refine rfu5 hI ?_ (fun M1 hM1 => ?_)
        · simp only [F_125, e1, f1, one_ne, if_false]
          simp (disch := omega) only [inb_nI, ni_cl, if_pos, F_34, h3, hz, k3, hz', if_true, if_false, hww, Rf5]
        · simp only [F_245, e2, f2, one_ne, if_false]
          simp (disch := omega) only [inb_nI, ni_cl, if_pos, hM1 94 s (by decide), h4, hz, if_false, hM1 94 o (by decide), k4, hz', hww, Rg5]
    · refine rfu1 hI ?_ (fun M1 hM1 => ?_)
      · simp only [F_125, e1, f1, one_ne, if_false, if_true, J_125_14, Rf1]
      · simp only [F_245, e2, f2, one_ne, if_false, if_true, J_245_14, Rg1]
  · refine rfu1 hI ?_ (fun M1 hM1 => ?_)
    · simp only [F_125, e1, if_true, J_125_14, Rf1]
    · simp only [F_245, e2, if_true, J_245_14, Rg1]
/-! block, form, feed, image -/
theorem cpok_ok {ns nd sp dp m : Nat} (h1 : sp + m ≤ ns) (h2 : dp + m ≤ nd) (h3 : ns < 2147483648) (h4 : nd < 2147483648) : cpok ns (nI sp) nd (nI dp) (nI m) = true := by
  unfold cpok
  simp (disch := omega) only [ni_nn, decide_false, ni_cl, Bool.not_false, Bool.true_and, Bool.and_eq_true, Nat.ble_eq]
  exact ⟨h1, h2⟩
theorem blk_c {t m : Nat} {M : IM} (hm : m ≤ 12) : (L_97_46 t (nI m) 0 M = some (.inl (nI m, M)) ∧ ∀ j, j < m → ∃ c, 1 ≤ c ∧ c ≤ 3 ∧ M (t + 1) j = nI c) ∨ (L_97_46 t (nI m) 0 M = some (.inr (-1000005, iset M 43 5 (M 43 5 + 1))) ∧ ¬ ∀ j, j < m → ∃ c, 1 ≤ c ∧ c ≤ 3 ∧ M (t + 1) j = nI c) := by
  rcases FBcase (fun j => ∃ c, 1 ≤ c ∧ c ≤ 3 ∧ M (t + 1) j = nI c) m with h | ⟨i, hi, h1, h2⟩
  · refine Or.inl ⟨loopI (B := B_97_46 t (nI m)) (fun k => (nI k, M)) m (by omega) (fun k hk => ?_) ?_, h⟩
    · obtain ⟨c, c1, c3, hc⟩ := h k hk
      have g : F_139 (nI c) = 1 := by
        rcases ck_139 (nI c) with ⟨_, _, _, _, g, _⟩ | ⟨g, _⟩
        · exact g
        · exfalso; revert g; have : ∀ c, c ≤ 3 → 1 ≤ c → ¬ F_139 (nI c) = 0 := by decide +kernel
          exact this c c3 c1
      unfold B_97_46
      dsimp only
      simp (disch := omega) only [ni_lei, inb_nI, ni_cl, if_pos, if_neg, if_true, if_false, hc, g, one_ne, ni_add1]
    · unfold B_97_46
      dsimp only
      simp (disch := omega) only [ni_lei, if_pos, if_neg, if_true, if_false]
  · refine Or.inr ⟨loopI (B := B_97_46 t (nI m)) (fun k => (nI k, M)) i (by omega) (fun k hk => ?_) ?_, fun z => h1 (z i hi)⟩
    · obtain ⟨c, c1, c3, hc⟩ := h2 k hk
      have g : F_139 (nI c) = 1 := by
        have : ∀ c, c ≤ 3 → 1 ≤ c → F_139 (nI c) = 1 := by decide +kernel
        exact this c c3 c1
      unfold B_97_46
      dsimp only
      simp (disch := omega) only [ni_lei, inb_nI, ni_cl, if_pos, if_neg, if_true, if_false, hc, g, one_ne, ni_add1]
    · have g : F_139 (M (t + 1) i) = 0 := by
        rcases ck_139 (M (t + 1) i) with ⟨c, c1, c3, hc, -, -⟩ | ⟨g, -⟩
        · exact absurd ⟨c, c1, c3, hc⟩ h1
        · exact g
      unfold B_97_46
      dsimp only
      simp (disch := omega) only [ni_lei, inb_nI, ni_cl, if_pos, if_neg, if_true, if_false, g, Rf5]
theorem blk_r {s m : Nat} {M : IM} (hs : s < 4) (hm : m ≤ 12) : (L_171_44 (nI s) (nI m) 0 M = some (.inl (nI m, M)) ∧ ∀ j, j < m → ∃ c, 1 ≤ c ∧ c ≤ 3 ∧ M 96 (40 * s + j) = nI c) ∨ (L_171_44 (nI s) (nI m) 0 M = some (.inr (-1000005, iset M 80 5 (M 80 5 + 1))) ∧ ¬ ∀ j, j < m → ∃ c, 1 ≤ c ∧ c ≤ 3 ∧ M 96 (40 * s + j) = nI c) := by
  have e40 : (40 : Int32) * nI s = nI (40 * s) := ni_mul 40 s
  rcases FBcase (fun j => ∃ c, 1 ≤ c ∧ c ≤ 3 ∧ M 96 (40 * s + j) = nI c) m with h | ⟨i, hi, h1, h2⟩
  · refine Or.inl ⟨loopI (B := B_171_44 (nI s) (nI m)) (fun k => (nI k, M)) m (by omega) (fun k hk => ?_) ?_, h⟩
    · obtain ⟨c, c1, c3, hc⟩ := h k hk
      have g : F_159 (nI c) = 1 := by
        have : ∀ c, c ≤ 3 → 1 ≤ c → F_159 (nI c) = 1 := by decide +kernel
        exact this c c3 c1
      unfold B_171_44
      dsimp only
      rw [e40]
      simp (disch := omega) only [ni_add, ni_lei, inb_nI, ni_cl, if_pos, if_neg, if_true, if_false, hc, g, one_ne, ni_add1]
    · unfold B_171_44
      dsimp only
      simp (disch := omega) only [ni_lei, if_pos, if_neg, if_true, if_false]
  · refine Or.inr ⟨loopI (B := B_171_44 (nI s) (nI m)) (fun k => (nI k, M)) i (by omega) (fun k hk => ?_) ?_, fun z => h1 (z i hi)⟩
    · obtain ⟨c, c1, c3, hc⟩ := h2 k hk
      have g : F_159 (nI c) = 1 := by
        have : ∀ c, c ≤ 3 → 1 ≤ c → F_159 (nI c) = 1 := by decide +kernel
        exact this c c3 c1
      unfold B_171_44
      dsimp only
      rw [e40]
      simp (disch := omega) only [ni_add, ni_lei, inb_nI, ni_cl, if_pos, if_neg, if_true, if_false, hc, g, one_ne, ni_add1]
    · have g : F_159 (M 96 (40 * s + i)) = 0 := by
        rcases ck_139 (M 96 (40 * s + i)) with ⟨c, c1, c3, hc, -, -⟩ | ⟨-, g⟩
        · exact absurd ⟨c, c1, c3, hc⟩ h1
        · exact g
      unfold B_171_44
      dsimp only
      rw [e40]
      simp (disch := omega) only [ni_add, ni_lei, inb_nI, ni_cl, if_pos, if_neg, if_true, if_false, g, Rg5]
theorem blk_r2 {s m : Nat} {M : IM} (hs : s < 4) (hm : m ≤ 12) : J_171_79 (nI s) (nI m) M = some (nI m, wr M 78 10 (10 + m) (fun j => M 96 (40 * s + (j - 10)))) := by
  have e40 : (40 : Int32) * nI s = nI (40 * s) := ni_mul 40 s
  unfold J_171_79 L_171_81
  have g := loopI (B := B_171_81 (nI s) (nI m)) (fun k => (nI k, wr M 78 10 (10 + k) (fun j => M 96 (40 * s + (j - 10))))) (r := (nI m, wr M 78 10 (10 + m) (fun j => M 96 (40 * s + (j - 10))))) m (by omega) (fun k hk => by
    unfold B_171_81
    dsimp only
    rw [e40]
    simp (disch := omega) only [lit_nI, ni_add, ni_lei, inb_nI, ni_cl, if_pos, if_neg, if_true, if_false, wr_k]
    rw [wr_s (by omega) (by rw [Nat.add_sub_cancel_left])]
    rfl) (by
    unfold B_171_81
    dsimp only
    simp (disch := omega) only [ni_lei, if_pos, if_neg, if_true, if_false])
  rw [show ((0 : Int32), M) = (nI 0, wr M 78 10 (10 + 0) (fun j => M 96 (40 * s + (j - 10)))) by rw [Nat.add_zero, wr_0]; rfl, g]
theorem min12 : ∀ m, m ≤ 40 → (bif decide ((12 : Int32) < nI m) then 12 else nI m) = nI (min m 12) ∧ (bif decide (nI m < 12) then nI m else 12) = nI (min m 12) := by decide +kernel
theorem B_block (a : Int32) : Both (F_97 a) (F_171 a) := by
  intro M hI
  obtain ⟨n, K, P, tb, q, hV⟩ := id hI
  rcases ck_136 a with ⟨s, hs, rfl, e1, e2⟩ | ⟨e1, e2⟩
  · obtain ⟨w, m, hw, hm, h3, h4, h5, h6, h7⟩ := hV.2.2.2.2.2.2.1 s hs
    by_cases hz : nI w = 0
    · refine rfu2 hI ?_ (fun M1 hM1 => ?_)
      · simp only [F_97, e1, one_ne, if_false]
        simp (disch := omega) only [inb_nI, ni_cl, if_pos, F_34, h3, hz, if_true, one_ne, if_false, Rf2]
      · simp only [F_171, e2, one_ne, if_false]
        simp (disch := omega) only [inb_nI, ni_cl, if_pos, hM1 94 s (by decide), h4, hz, if_true, Rg2]
    · have hx : min m 12 ≤ 12 := Nat.min_le_right _ _
      have hy : min m 12 ≤ m := Nat.min_le_left _ _
      generalize hmm : min m 12 = x at hx hy
      have m1 := (min12 m hm).1
      have m2 := (min12 m hm).2
      rw [hmm] at m1 m2
      have dc : F_97 (nI s) M = (match L_97_46 (69 + 2 * s) (nI x) 0 M with | none => none | some (.inl (x4_10, M10)) => (J_97_77 (69 + 2 * s) (nI x) M10) | some (.inr q) => some (q)) := by
        simp only [F_97, e1, one_ne, if_false]
        simp (disch := omega) only [inb_nI, ni_cl, if_pos, F_34, h3, hz, if_false, if_true, h5, m1]
        all_goals rfl
      have dr : ∀ M1 : IM, (∀ k j, 77 ≤ k → M1 k j = M k j) → F_171 (nI s) M1 = (match L_171_44 (nI s) (nI x) 0 M1 with | none => none | some (.inl (x3_9, M9)) => (J_171_79 (nI s) (nI x) M9) | some (.inr q) => some (q)) := fun M1 hM1 => by
        simp only [F_171, e2, one_ne, if_false]
        simp (disch := omega) only [inb_nI, ni_cl, if_pos, hM1 94 s (by decide), h4, hz, if_false, hM1 95 s (by decide), h6, m2]
        all_goals rfl
      have heq : ∀ j, j < x → M (69 + 2 * s + 1) j = M 96 (40 * s + j) := fun j hj => by
        rw [show 69 + 2 * s + 1 = 70 + 2 * s by omega]; exact h7 j (by omega)
      rcases blk_c (t := 69 + 2 * s) (M := M) hx with ⟨g1, g2⟩ | ⟨g1, g2⟩
      · generalize hM1 : wr M 2 0 x (fun j => M (69 + 2 * s + 1) j) = M1
        have hhi : ∀ k j, 77 ≤ k → M1 k j = M k j := fun k j hk => by rw [← hM1, wr_k (by omega)]
        have dc' : F_97 (nI s) M = some (nI x, M1) := by
          rw [dc, g1]
          dsimp only
          unfold J_97_77
          rw [if_pos (show cpok 40 0 12 0 (nI x) = true from cpok_ok (sp := 0) (dp := 0) (by omega) (by omega) (by decide) (by decide)), icpy_wr, ← hM1]
          simp (disch := omega) only [lit_nI, ni_cl, Nat.zero_add, Nat.sub_zero]
        rcases blk_r (M := M1) hs hx with ⟨k1, k2⟩ | ⟨k1, k2⟩
        · refine ⟨nI x, M1, wr M1 78 10 (10 + x) (fun j => M1 96 (40 * s + (j - 10))), dc', ?_, n, K, P, tb, fun h => if h < x then (M 96 (40 * s + h)).toNatClampNeg else q h, hV.a2 (fun k j u1 u2 => ?_) (fun h hh => ?_)⟩
          · rw [dr M1 hhi, k1]
            exact blk_r2 hs hx
          · have u3 : ¬ (k = 2 ∨ (k = 78 ∧ 10 ≤ j ∧ j < 22)) := fun z => u2 (cid2 z)
            rw [wr_eq, if_neg (by omega), ← hM1, wr_k (by omega)]
          · obtain ⟨r1, r2, r3, r4⟩ := hV.2.1 h hh
            by_cases hhx : h < x
            · obtain ⟨c, c1, c3, hc⟩ := g2 h hhx
              have hc' : M 96 (40 * s + h) = nI c := by rw [← heq h hhx]; exact hc
              simp (disch := omega) only [if_pos, if_neg, if_true, if_false, hc', ni_cl]
              refine ⟨c1, c3, ?_, ?_⟩
              · rw [wr_k (by decide), ← hM1, wr_in (by omega) hhx, hc]
              · rw [wr_in (by omega) (by omega), ← hM1, wr_k (by decide), Nat.add_sub_cancel_left, hc']
            · simp (disch := omega) only [if_pos, if_neg, if_true, if_false]
              refine ⟨r1, r2, ?_, ?_⟩
              · rw [wr_k (by decide), ← hM1, wr_hi (by omega)]; exact r3
              · rw [wr_hi (by omega), ← hM1, wr_k (by decide)]; exact r4
        · exact absurd (fun j hj => by
            obtain ⟨c, c1, c3, hc⟩ := g2 j hj
            exact ⟨c, c1, c3, by rw [hhi _ _ (by decide), ← heq j hj]; exact hc⟩) k2
      · refine rfu5 hI (by rw [dc, g1]) (fun M1 hM1 => ?_)
        rcases blk_r (M := M1) hs hx with ⟨k1, k2⟩ | ⟨k1, k2⟩
        · exact absurd (fun j hj => by
            obtain ⟨c, c1, c3, hc⟩ := k2 j hj
            exact ⟨c, c1, c3, by rw [heq j hj, ← hM1 _ _ (by decide)]; exact hc⟩) g2
        · rw [dr M1 hM1, k1]
  · refine rfu1 hI ?_ (fun M1 hM1 => ?_)
    · simp only [F_97, e1, if_true, Rf1]
    · simp only [F_171, e2, if_true, Rg1]
