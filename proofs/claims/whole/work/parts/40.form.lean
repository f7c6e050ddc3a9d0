/-! form, feed, image, restore -/
def frmD (q : Nat → Nat) (f n : Nat) : Nat := sumT n (fun h => if q h = frm f h then 0 else 1)
theorem frmD_le (q : Nat → Nat) (f n : Nat) : frmD q f n ≤ n := by
  have : frmD q f n ≤ n * 1 := sumT_le (fun k _ => by split <;> omega)
  omega
theorem B_form (a : Int32) : Both (F_98 a) (F_173 a) := by
  intro M hI
  obtain ⟨n, K, P, tb, q, hV⟩ := id hI
  by_cases hr : rg a 12
  · obtain ⟨f, hf, rfl⟩ := hr
    have w : F_157 (nI f) 0 11 = 1 := wn_in (m := 11) (by omega) (by decide)
    have lc : L_98_20 (nI f) 0 0 M = some (nI (frmD q f 12), nI 12, wr M 2 0 12 (fun h => nI (frm f h))) := by
      unfold L_98_20
      have g := loopI (B := B_98_20 (nI f)) (fun k => (nI (frmD q f k), nI k, wr M 2 0 k (fun h => nI (frm f h)))) (r := (nI (frmD q f 12), nI 12, wr M 2 0 12 (fun h => nI (frm f h)))) 12 (by decide) (fun k hk => by
        have e : frmD q f (k + 1) = frmD q f k + (if q k = frm f k then 0 else 1) := rfl
        obtain ⟨r1, r2, r3, r4⟩ := hV.2.1 k hk
        obtain ⟨v1, v2, v3⟩ := E_13 f hf k hk
        have hd := frmD_le q f k
        unfold B_98_20 J_98_50_20
        dsimp only
        rw [v1, e]
        simp (disch := omega) only [lit_nI, ni_lei, inb_nI, ni_cl, if_pos, if_neg, if_true, if_false, wr_hi, show M 2 k = nI (q k) from r3, ni_eqi, ni_add]
        by_cases h : q k = frm f k
        · simp (disch := omega) only [if_pos, if_neg, if_true, if_false, Nat.add_zero]
          rw [wr_s (Nat.zero_le k) rfl]
        · simp (disch := omega) only [if_pos, if_neg, if_true, if_false]
          rw [wr_s (Nat.zero_le k) rfl]) rfl
      rw [show ((0 : Int32), (0 : Int32), M) = (nI (frmD q f 0), nI 0, wr M 2 0 0 (fun h => nI (frm f h))) by rw [wr_0]; rfl, g]
    generalize hM1 : wr M 2 0 12 (fun h => nI (frm f h)) = M1 at lc
    have hhi : ∀ k j, 77 ≤ k → M1 k j = M k j := fun k j hk => by rw [← hM1, wr_k (by omega)]
    have lr : L_173_21 (nI f) 0 0 M1 = some (nI (frmD q f 12), nI 12, wr M1 78 10 (10 + 12) (fun h => nI (frm f (h - 10)))) := by
      unfold L_173_21
      have g := loopI (B := B_173_21 (nI f)) (fun k => (nI (frmD q f k), nI k, wr M1 78 10 (10 + k) (fun h => nI (frm f (h - 10))))) (r := (nI (frmD q f 12), nI 12, wr M1 78 10 (10 + 12) (fun h => nI (frm f (h - 10))))) 12 (by decide) (fun k hk => by
        have e : frmD q f (k + 1) = frmD q f k + (if q k = frm f k then 0 else 1) := rfl
        obtain ⟨r1, r2, r3, r4⟩ := hV.2.1 k hk
        obtain ⟨v1, v2, v3⟩ := E_13 f hf k hk
        have hd := frmD_le q f k
        have r4' : M1 78 (10 + k) = nI (q k) := by rw [hhi _ _ (by decide)]; exact r4
        unfold B_173_21 J_173_50_21
        dsimp only
        rw [E_172 f hf k hk, e]
        simp (disch := omega) only [lit_nI, ni_lei, inb_nI, ni_cl, ni_add, if_pos, if_neg, if_true, if_false, wr_hi, r4', ni_eqi]
        rw [wr_s (by omega) (by rw [Nat.add_sub_cancel_left])]
        by_cases h : q k = frm f k
        · simp (disch := omega) only [if_pos, if_neg, if_true, if_false]
          rfl
        · simp (disch := omega) only [if_pos, if_neg, if_true, if_false]
          rfl) rfl
      rw [show ((0 : Int32), (0 : Int32), M1) = (nI (frmD q f 0), nI 0, wr M1 78 10 (10 + 0) (fun h => nI (frm f (h - 10)))) by rw [Nat.add_zero, wr_0]; rfl, g]
    refine ⟨nI (frmD q f 12), M1, wr M1 78 10 22 (fun h => nI (frm f (h - 10))), ?_, ?_, n, K, P, tb, frm f, hV.a2 (fun k j u1 u2 => ?_) (fun h hh => ?_)⟩
    · simp only [F_98]
      rw [if_neg (nI_pos (by omega)), if_pos (show nI f < 12 from nI_lt (b := 12) hf (by decide)), lc]
    · simp only [F_173, w, one_ne, if_false, lr]
    · have u3 : ¬ (k = 2 ∨ (k = 78 ∧ 10 ≤ j ∧ j < 22)) := fun z => u2 (cid2 z)
      rw [wr_eq, if_neg (by omega), ← hM1, wr_k (by omega)]
    · obtain ⟨v1, v2, v3⟩ := E_13 f hf h hh
      refine ⟨v2, v3, ?_, ?_⟩
      · rw [wr_k (by decide), ← hM1, wr_in (by omega) hh]
      · rw [wr_in (by omega) (by omega), Nat.add_sub_cancel_left]
  · have w : F_157 a 0 11 = 0 := wn_out (m := 11) (by decide) hr
    refine rfu1 hI ?_ (fun M1 hM1 => ?_)
    · unfold F_98
      rcases rg_lt (m := 11) (by decide) hr with h0 | ⟨h0, -, h1⟩
      · rw [if_pos h0, J_98_10, Rf1]
      · rw [if_neg h0, if_neg (show ¬ a < 12 from Int32.not_lt.mpr h1), J_98_10, Rf1]
    · simp only [F_173, w, if_true, Rg1]
/-- byte i of a word, as both sides cut it out -/
def bytW (w : Int64) (i : Nat) : Nat := w.toBitVec.toNat / 2 ^ (8 * i) % 256
theorem byt_bit (w : Int64) (i j : Nat) : (BitVec.ofNat 32 (bytW w i)).getLsbD j = (decide (j < 8) && w.toBitVec.getLsbD (8 * i + j)) := by
  rw [BitVec.getLsbD_ofNat]
  unfold bytW
  rw [show (256 : Nat) = 2 ^ 8 from rfl, Nat.testBit_mod_two_pow, Nat.testBit_div_two_pow, Nat.add_comm j]
  by_cases h : j < 8
  · rw [decide_eq_true h, decide_eq_true (show j < 32 by omega)]; rfl
  · rw [decide_eq_false h, Bool.false_and, Bool.false_and, Bool.and_false]
theorem b255 (n j : Nat) (hn : 8 ≤ n) (hj : j < n) : (BitVec.ofNat n 255).getLsbD j = decide (j < 8) := by
  rw [BitVec.getLsbD_ofNat, show (255 : Nat) = 2 ^ 8 - 1 from rfl, Nat.testBit_two_pow_sub_one, decide_eq_true hj, Bool.true_and]
theorem s_c : ∀ i, i < 8 → (((8 * nI i : Int32).toInt64.toUInt64 &&& Int64.toUInt64 63).toBitVec % 64).toNat = 8 * i := by decide +kernel
theorem s_r : ∀ i, i < 8 → (((8 * nI i : Int32).toInt64 &&& 63).toBitVec.smod 64).toNat = 8 * i := by decide +kernel
theorem byt_c (w : Int64) {i : Nat} (hi : i < 8) : ((((w.toUInt64 >>> ((8 * nI i : Int32).toInt64.toUInt64 &&& Int64.toUInt64 63)).toInt64).toInt32) &&& 255) = nI (bytW w i) := by
  apply Int32.toBitVec_inj.1
  show (BitVec.signExtend 32 (w.toBitVec >>> (((8 * nI i : Int32).toInt64.toUInt64 &&& Int64.toUInt64 63).toBitVec % 64)) &&& 255#32) = BitVec.ofNat 32 (bytW w i)
  apply BitVec.eq_of_getLsbD_eq
  intro j hj
  rw [byt_bit, BitVec.getLsbD_and, b255 32 j (by decide) hj, BitVec.getLsbD_signExtend, decide_eq_true hj, if_pos (show j < 64 by omega), BitVec.ushiftRight_eq', BitVec.getLsbD_ushiftRight, s_c i hi, Bool.true_and, Bool.and_comm]
theorem byt_r (w : Int64) {i : Nat} (hi : i < 8) : ((w >>> ((8 * nI i : Int32).toInt64 &&& 63)) &&& 255).toInt32 = nI (bytW w i) := by
  apply Int32.toBitVec_inj.1
  show (BitVec.signExtend 32 (w.toBitVec.sshiftRight' (((8 * nI i : Int32).toInt64 &&& 63).toBitVec.smod 64) &&& 255#64)) = BitVec.ofNat 32 (bytW w i)
  apply BitVec.eq_of_getLsbD_eq
  intro j hj
  rw [byt_bit, BitVec.getLsbD_signExtend, decide_eq_true hj, if_pos (show j < 64 by omega), BitVec.getLsbD_and, b255 64 j (by decide) (by omega), BitVec.getLsbD_sshiftRight', s_r i hi, decide_eq_false (show ¬ 64 ≤ j by omega)]
  by_cases h : j < 8
  · rw [if_pos (by omega), decide_eq_true h]; simp
  · rw [decide_eq_false h]; simp
theorem bytW_lt (w : Int64) (i : Nat) : bytW w i < 256 := Nat.mod_lt _ (by decide)
theorem B_feed (w : Int64) (b : Int32) : Both (F_99 w b) (F_174 w b) := by
  intro M hI
  obtain ⟨n, K, P, tb, q, hV⟩ := id hI
  obtain ⟨m, m1, m2, m3, m4⟩ := hV.2.2.1
  have m3' : M 78 (1 : Int32).toNatClampNeg = nI m := m3
  by_cases hr : rg b 9
  · obtain ⟨x, hx, rfl⟩ := hr
    by_cases hx0 : x = 0
    · subst hx0
      exact rfu1 hI rfl (fun M1 hM1 => rfl)
    · have wq : F_157 (nI x) 1 8 = 1 := by
        have : ∀ x, x < 9 → x ≠ 0 → F_157 (nI x) 1 8 = 1 := by decide +kernel
        exact this x hx hx0
      by_cases hf : m + x ≤ 50
      · have lc : L_99_40 w (nI x) 0 M = some (nI x, iset (wr M 4 m (m + x) (fun j => nI (bytW w (j - m)))) 1 4 (nI (m + x))) := by
          unfold L_99_40
          have g := loopI (B := B_99_40 w (nI x)) (fun k => (nI k, iset (wr M 4 m (m + k) (fun j => nI (bytW w (j - m)))) 1 4 (nI (m + k)))) (r := (nI x, iset (wr M 4 m (m + x) (fun j => nI (bytW w (j - m)))) 1 4 (nI (m + x)))) x (by omega) (fun k hk => by
            unfold B_99_40
            dsimp only
            rw [byt_c w (show k < 8 by omega)]
            simp (disch := omega) only [ni_lei, inb_nI, ni_cl, if_pos, if_neg, if_true, if_false, iset_same, iset_k, iset_j, ni_add1]
            have : iset (iset (iset (wr M 4 m (m + k) (fun j => nI (bytW w (j - m)))) 1 4 (nI (m + k))) 4 (m + k) (nI (bytW w k))) 1 4 (nI (m + k + 1)) = iset (wr M 4 m (m + (k + 1)) (fun j => nI (bytW w (j - m)))) 1 4 (nI (m + (k + 1))) := by
              rw [show m + (k + 1) = m + k + 1 by omega, ← wr_s (x := nI (bytW w k)) (show m ≤ m + k by omega) (by rw [Nat.add_sub_cancel_left])]
              funext a j
              simp only [iset_eq]
              by_cases e1 : a = 1 ∧ j = 4
              · rw [if_pos e1, if_pos e1]
              · rw [if_neg e1, if_neg e1, if_neg e1]
            rw [this]) (by
            unfold B_99_40
            dsimp only
            simp (disch := omega) only [ni_lei, if_pos, if_neg, if_true, if_false])
          have e0 : iset (wr M 4 m (m + 0) (fun j => nI (bytW w (j - m)))) 1 4 (nI (m + 0)) = M := by
            rw [Nat.add_zero, wr_0]
            funext a j
            rw [iset_eq]
            by_cases e1 : a = 1 ∧ j = 4
            · rw [if_pos e1, e1.1, e1.2, m2]
            · rw [if_neg e1]
          rw [e0] at g
          exact g
        generalize hM1 : iset (wr M 4 m (m + x) (fun j => nI (bytW w (j - m)))) 1 4 (nI (m + x)) = M1 at lc
        have hhi : ∀ k j, 77 ≤ k → M1 k j = M k j := fun k j hk => by rw [← hM1, iset_k (by omega), wr_k (by omega)]
        have lr : L_174_40 w (nI x) 0 M1 = some (nI x, iset (wr M1 78 (40 + m) (40 + m + x) (fun j => nI (bytW w (j - (40 + m))))) 78 1 (nI (m + x))) := by
          unfold L_174_40
          have g := loopI (B := B_174_40 w (nI x)) (fun k => (nI k, iset (wr M1 78 (40 + m) (40 + m + k) (fun j => nI (bytW w (j - (40 + m))))) 78 1 (nI (m + k)))) (r := (nI x, iset (wr M1 78 (40 + m) (40 + m + x) (fun j => nI (bytW w (j - (40 + m))))) 78 1 (nI (m + x)))) x (by omega) (fun k hk => by
            unfold B_174_40
            dsimp only
            rw [byt_r w (show k < 8 by omega)]
            simp (disch := omega) only [lit_nI, ni_lei, inb_nI, ni_cl, if_pos, if_neg, if_true, if_false, iset_same, iset_k, iset_j, ni_add]
            have : iset (iset (iset (wr M1 78 (40 + m) (40 + m + k) (fun j => nI (bytW w (j - (40 + m))))) 78 1 (nI (m + k))) 78 (40 + (m + k)) (nI (bytW w k))) 78 1 (nI (m + k + 1)) = iset (wr M1 78 (40 + m) (40 + m + (k + 1)) (fun j => nI (bytW w (j - (40 + m))))) 78 1 (nI (m + (k + 1))) := by
              rw [show 40 + m + (k + 1) = 40 + m + k + 1 by omega, show 40 + (m + k) = 40 + m + k by omega, show m + (k + 1) = m + k + 1 by omega, ← wr_s (x := nI (bytW w k)) (show 40 + m ≤ 40 + m + k by omega) (by rw [Nat.add_sub_cancel_left])]
              funext a j
              simp only [iset_eq]
              by_cases e1 : a = 78 ∧ j = 1
              · rw [if_pos e1, if_pos e1]
              · rw [if_neg e1, if_neg e1, if_neg e1]
            rw [this]) (by
            unfold B_174_40
            dsimp only
            simp (disch := omega) only [ni_lei, if_pos, if_neg, if_true, if_false])
          have e0 : iset (wr M1 78 (40 + m) (40 + m + 0) (fun j => nI (bytW w (j - (40 + m))))) 78 1 (nI (m + 0)) = M1 := by
            rw [Nat.add_zero, wr_0]
            funext a j
            rw [iset_eq]
            by_cases e1 : a = 78 ∧ j = 1
            · rw [if_pos e1, e1.1, e1.2, hhi _ _ (by decide), m3]; rfl
            · rw [if_neg e1]
          rw [e0] at g
          exact g
        generalize hM2 : iset (wr M1 78 (40 + m) (40 + m + x) (fun j => nI (bytW w (j - (40 + m))))) 78 1 (nI (m + x)) = M2 at lr
        refine ⟨nI (m + x), M1, M2, ?_, ?_, n, K, P, tb, q, hV.a3 (fun k j u1 u2 => ?_) ?_⟩
        · have e14 : M1 1 4 = nI (m + x) := by rw [← hM1, iset_same]
          simp (disch := omega) only [F_99, m2, lit_nI, ni_lti, ni_lei, ni_add, if_pos, if_neg, if_true, if_false]
          rw [show L_99_40 w (nI x) (nI 0) M = _ from lc]
          simp only [J_99_92, e14]
        · have e14 : M2 78 1 = nI (m + x) := by rw [← hM2, iset_same]
          simp only [F_174, wq, one_ne, if_false, hhi 78 _ (by decide), m3']
          simp (disch := omega) only [ni_lei, ni_add, lit_nI, ni_cl, if_pos, if_neg, if_true, if_false]
          rw [show L_174_40 w (nI x) (nI 0) M1 = _ from lr]
          simp (disch := omega) only [J_174_88, lit_nI, ni_cl, e14]
        · have u3 : ¬ ((k = 1 ∧ j = 4) ∨ k = 4 ∨ (k = 78 ∧ (j = 1 ∨ (40 ≤ j ∧ j < 90)))) := fun z => u2 (cid3 z)
          rw [← hM2, iset_eq, if_neg (by omega), wr_eq, if_neg (by omega), ← hM1, iset_eq, if_neg (by omega), wr_k (by omega)]
        · refine ⟨m + x, hf, ?_, ?_, fun j hj => ?_⟩
          · rw [← hM2, iset_k (by decide), wr_k (by decide), ← hM1, iset_same]
          · rw [← hM2, iset_same]
          · rw [← hM2, iset_k (by decide), wr_k (by decide), iset_j (by omega), ← hM1, iset_k (by decide)]
            by_cases hjm : j < m
            · obtain ⟨b, b1, b2, b3⟩ := m4 j hjm
              refine ⟨b, b1, ?_, ?_⟩
              · rw [wr_lo hjm]; exact b2
              · rw [wr_lo (by omega), iset_k (by decide), wr_k (by decide)]; exact b3
            · refine ⟨bytW w (j - m), bytW_lt _ _, ?_, ?_⟩
              · rw [wr_in (by omega) hj]
              · rw [wr_in (by omega) (by omega), show 40 + j - (40 + m) = j - m by omega]
      · refine rfu4 hI ?_ (fun M1 hM1 => ?_)
        · simp only [F_99, m2, Rf4]
          simp (disch := omega) only [lit_nI, ni_lti, ni_lei, ni_add, if_pos, if_neg, if_true, if_false]
        · simp only [F_174, wq, one_ne, if_false, hM1 78 _ (by decide), m3', Rg4]
          simp (disch := omega) only [lit_nI, ni_lei, ni_add, if_pos, if_neg, if_true, if_false]
  · have wq : F_157 b 1 8 = 0 ∧ F_99 w b M = J_99_11 M := by
      unfold F_157 F_99
      by_cases h1 : b < 1
      · rw [if_pos h1, if_pos h1]; exact ⟨rfl, rfl⟩
      · rcases rg_lt (m := 8) (by decide) hr with h0 | ⟨h0, h2, -⟩
        · exact absurd (Int32.lt_trans h0 (by decide)) h1
        · rw [if_neg h1, if_neg h1, if_pos (show (8 : Int32) < b from h2), if_neg (show ¬ b ≤ 8 from fun z => by
            rw [Int32.le_iff_toInt_le] at z; rw [Int32.lt_iff_toInt_lt] at h2
            exact absurd h2 (Int.not_lt.mpr z))]
          exact ⟨rfl, rfl⟩
    refine rfu1 hI (by rw [wq.2, J_99_11, Rf1]) (fun M1 hM1 => ?_)
    simp only [F_174, wq.1, if_true, Rg1]
