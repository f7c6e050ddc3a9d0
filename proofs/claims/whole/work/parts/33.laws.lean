/-! laws: what both sides read of them, at one place -/
theorem cost_r {n s : Nat} {K P : Nat → Nat} {tb : Nat → Nat → Nat} {M : IM} (hW : LW n K P tb) (hs : s < 256) (h : LQ 78 n K P tb M) : F_228 (nI s) M = some (nI (priceS n P s)) := by
  have hn := hW.1
  unfold F_228 L_228_4
  have hle : ∀ k, k ≤ n → priceS k P s ≤ 800 := fun k hk => priceS_le (by omega) (fun l hl => (hW.2 l (by omega)).2.1)
  have h0 : M 78 (0 : Int32).toNatClampNeg = nI n := h.1
  have g := loopI (B := B_228_4 (nI s) M) (fun k => (nI (priceS k P s), nI k)) (r := (nI (priceS n P s), nI n)) n (by omega) (fun k hk => by
    obtain ⟨h1, h2, h3⟩ := h.2 k hk
    unfold B_228_4 J_228_36_4
    dsimp only
    have e : priceS (k + 1) P s = priceS k P s + (if s.testBit k = true then P k else 0) := rfl
    rw [h0, has_ok (by omega) (by omega), e]
    cases hb : s.testBit k
    · simp (disch := omega) only [lit_nI, ni_ofNat, ni_add, ni_lti, ni_lei, ni_eqi, ni_cl, inb_nI, if_pos, if_neg, if_true, if_false, Bool.false_eq_true, Bool.true_eq_false, Nat.add_zero]
    · simp (disch := omega) only [lit_nI, ni_ofNat, ni_add, ni_lti, ni_lei, ni_eqi, ni_cl, inb_nI, if_pos, if_neg, if_true, if_false, h2]) (by
    unfold B_228_4
    dsimp only
    rw [h0]
    simp (disch := omega) only [lit_nI, ni_ofNat, ni_add, ni_lti, ni_lei, ni_eqi, ni_cl, inb_nI, if_pos, if_neg, if_true, if_false])
  rw [show ((0 : Int32), (0 : Int32)) = (nI (priceS 0 P s), nI 0) from rfl, g]
section LAWS
variable {n l i c d : Nat} {K P : Nat → Nat} {tb : Nat → Nat → Nat} {M : IM}
theorem kd_ok (hn : n ≤ 8) (h : LQ 78 n K P tb M) (hl : l < n) : F_163 (nI l) M = some (nI (K l)) := by
  unfold F_163
  simp (disch := omega) only [lit_nI, ni_ofNat, ni_add, ni_lti, ni_lei, ni_eqi, ni_cl, inb_nI, if_pos, if_neg, if_true, if_false, (h.2 l hl).1]
theorem cas_ok (hW : LW n K P tb) (h : LQ 78 n K P tb M) (hT : C11 M) (hl : l < n) : F_164 (nI l) M = some (nI (mny (K l))) := by
  have hk := (hW.2 l hl).1
  unfold F_164
  rw [kd_ok hW.1 h hl]
  dsimp only
  have e1 := hT.1 (K l + 1) (by omega)
  have e2 := hT.1 (K l) (by omega)
  have e3 := fcs_add (K l) hk
  simp (disch := omega) only [lit_nI, ni_ofNat, ni_add, ni_lti, ni_lei, ni_eqi, ni_cl, inb_nI, if_pos, if_neg, if_true, if_false, e1, e2, ni_sub, e3]
  rw [Nat.add_sub_cancel_left]
theorem oth_ok (hW : LW n K P tb) (h : LQ 78 n K P tb M) (hl : l < n) : F_165 (nI l) M = some (if pr (K l) = true then 1 else 0) := by
  have hk := (hW.2 l hl).1
  unfold F_165
  rw [kd_ok hW.1 h hl]
  dsimp only
  have : ∀ k, k < 6 → (if nI k = 0 then (some (0 : Int32)) else (if nI k = 5 then (some (0)) else (some (1)))) = some (if pr k = true then 1 else 0) := by decide +kernel
  exact this _ hk
theorem hal_ok (hW : LW n K P tb) (h : LQ 78 n K P tb M) (hT : C11 M) (hl : l < n) (hi : i < mny (K l)) : F_195 (nI l) (nI i) M = some (nI (fa (K l) i)) := by
  have hk := (hW.2 l hl).1
  unfold F_195
  rw [kd_ok hW.1 h hl]
  dsimp only
  have e2 := hT.1 (K l) (by omega)
  have e3 := fcs_add (K l) hk
  have e4 := fcs_le (K l + 1) (by omega)
  simp (disch := omega) only [lit_nI, ni_ofNat, ni_add, ni_lti, ni_lei, ni_eqi, ni_cl, inb_nI, if_pos, if_neg, if_true, if_false, e2, (hT.2 (K l) hk i hi).1]
theorem otr_ok (hW : LW n K P tb) (h : LQ 78 n K P tb M) (hT : C11 M) (hl : l < n) (hi : i < mny (K l)) : F_196 (nI l) (nI i) M = some (if pr (K l) = true then nI (fb (K l) i) else -1) := by
  have hk := (hW.2 l hl).1
  unfold F_196
  rw [kd_ok hW.1 h hl]
  dsimp only
  have e2 := hT.1 (K l) (by omega)
  have e3 := fcs_add (K l) hk
  have e4 := fcs_le (K l + 1) (by omega)
  have e5 := (hT.2 (K l) hk i hi).2.1
  simp (disch := omega) only [ni_add, ni_lti, ni_lei, ni_eqi, ni_cl, inb_nI, if_pos, e2, e5]
theorem rtb_np : ∀ b, b < 512 → ∀ c, c < 3 → (b % 2 + 2 * (b / 8 % 2) + 4 * (b / 64 % 2)).testBit c = b.testBit (3 * c) := by decide +kernel
theorem rtb_lt {k b : Nat} (hb : b < 512) : rtb k b < 512 := by
  unfold rtb; split <;> omega
theorem okL_np (hW : LW n K P tb) (hl : l < n) (hi : i < mny (K l)) (hp : pr (K l) = false) (hc1 : 1 ≤ c) (hc3 : c ≤ 3) (hd1 : 1 ≤ d) (hd3 : d ≤ 3) : okL tb l i c d ↔ (tb l i).testBit (3 * c - 3) = true := by
  unfold okL
  rw [((hW.2 l hl).2.2 i hi).2 hp c hc1 hc3 d hd1 hd3]
/-- which answers a table gives, at c and d; without a second hall d is nothing -/
theorem goes_p (hW : LW n K P tb) (h : LQ 78 n K P tb M) (hl : l < n) (hi : i < mny (K l)) (hp : pr (K l) = true) (hc1 : 1 ≤ c) (hc3 : c ≤ 3) (hd1 : 1 ≤ d) (hd3 : d ≤ 3) : F_198 (nI l) (nI i) (nI c) (nI d) M = some (if (tb l i).testBit (3 * c + d - 4) = true then 1 else 0) := by
  have hn := hW.1
  have hk := (hW.2 l hl).1
  have hm := mny_lt hk
  have hb := ((hW.2 l hl).2.2 i hi).1
  have e := (h.2 l hl).2.2 i hi
  unfold F_198
  rw [oth_ok hW h hl, hp]
  have e1 : rtb (K l) (tb l i) = tb l i := by unfold rtb; rw [if_pos hp]
  rw [e1] at e
  simp (disch := omega) only [lit_nI, ni_ofNat, ni_add, ni_lti, ni_lei, ni_eqi, ni_cl, inb_nI, if_pos, if_neg, if_true, if_false, ni_mul, ni_sub, e]
  rw [has_ok (by omega) (by omega)]
  rfl
theorem goes_n (hW : LW n K P tb) (h : LQ 78 n K P tb M) (hl : l < n) (hi : i < mny (K l)) (hp : pr (K l) = false) (hc1 : 1 ≤ c) (hc3 : c ≤ 3) (x : Int32) : F_198 (nI l) (nI i) (nI c) x M = some (if (tb l i).testBit (3 * c - 3) = true then 1 else 0) := by
  have hn := hW.1
  have hk := (hW.2 l hl).1
  have hm := mny_lt hk
  have hb := ((hW.2 l hl).2.2 i hi).1
  have e := (h.2 l hl).2.2 i hi
  unfold F_198
  rw [oth_ok hW h hl, hp]
  have e1 : rtb (K l) (tb l i) = tb l i % 2 + 2 * (tb l i / 8 % 2) + 4 * (tb l i / 64 % 2) := by unfold rtb; rw [if_neg (by rw [hp]; decide)]
  rw [e1] at e
  simp (disch := omega) only [lit_nI, ni_ofNat, ni_add, ni_lti, ni_lei, ni_eqi, ni_cl, inb_nI, if_pos, if_neg, if_true, if_false, Bool.false_eq_true, Bool.true_eq_false, ni_mul, ni_sub, e]
  rw [has_ok (by omega) (by omega), rtb_np _ hb _ (by omega), show 3 * (c - 1) = 3 * c - 3 by omega]
  rfl
theorem holds_ok {m : Nat} (hm : m < 2147483648) (hd : 1 ≤ d) (hd3 : d ≤ 32) : F_143 (nI m) (nI d) = if m.testBit (d - 1) = true then 1 else 0 := by
  unfold F_143
  rw [show nI d - 1 = nI (d - 1) from ni_sub (b := 1) hd]
  simp only [bit0 hm (show d - 1 < 32 by omega)]
  cases m.testBit (d - 1) <;> simp
theorem and7 (b : Nat) : b &&& 7 < 8 := Nat.lt_of_le_of_lt Nat.and_le_right (by decide)
theorem gw_bit {b : Nat} (hc1 : 1 ≤ c) (hd1 : 1 ≤ d) (hd3 : d ≤ 3) : (b >>> (3 * (c - 1)) &&& 7).testBit (d - 1) = b.testBit (3 * c + d - 4) := by
  rw [Nat.testBit_and, Nat.testBit_shiftRight]
  have : (7 : Nat).testBit (d - 1) = true := by
    have : d = 1 ∨ d = 2 ∨ d = 3 := by omega
    rcases this with rfl | rfl | rfl <;> rfl
  rw [this, Bool.and_true]
  congr 1
  omega
theorem gw_ok {t : Nat} (hW : LW n K P tb) (h : LC t n K P tb M) (hl : l < n) (hi : i < mny (K l)) (hc1 : 1 ≤ c) (hc3 : c ≤ 3) : F_18 (t + 5 + 2 * l) (nI i) (nI c) M = some (nI (tb l i >>> (3 * (c - 1)) &&& 7)) := by
  have hn := hW.1
  have hk := (hW.2 l hl).1
  have hm := mny_lt hk
  have hb := ((hW.2 l hl).2.2 i hi).1
  have e := (h.2 l hl).2.2 i hi
  unfold F_18
  rw [show t + 5 + 2 * l + 1 = t + 6 + 2 * l by omega]
  have e3 : (3 : Int32) * (nI c - 1) = nI (3 * (c - 1)) := by
    rw [show nI c - 1 = nI (c - 1) from ni_sub (b := 1) hc1]
    exact ni_mul 3 (c - 1)
  simp (disch := omega) only [e3, inb_nI, ni_cl, if_pos, if_neg, if_true, if_false, e, ni_shr]
  rw [show (7 : Int32) = nI 7 from rfl, ni_and]
theorem FBcase (p : Nat → Prop) : ∀ N, (∀ i, i < N → p i) ∨ ∃ i, i < N ∧ ¬ p i ∧ ∀ j, j < i → p j := by
  intro N
  induction N with
  | zero => exact Or.inl (fun i hi => absurd hi (Nat.not_lt_zero _))
  | succ N ih =>
    rcases ih with h | ⟨i, hi, h1, h2⟩
    · by_cases e : p N
      · exact Or.inl (fun i hi => by
          by_cases q : i = N
          · rw [q]; exact e
          · exact h i (by omega))
      · exact Or.inr ⟨N, by omega, e, h⟩
    · exact Or.inr ⟨i, by omega, h1, h2⟩
/-- where a row of checks fails first: its place, or -1 -/
def FBi (p : Nat → Prop) (N : Nat) (x : Int32) : Prop := (x = -1 ∧ ∀ i, i < N → p i) ∨ ∃ i, i < N ∧ x = nI i ∧ ¬ p i ∧ ∀ j, j < i → p j
theorem FBi.uq {p : Nat → Prop} {N : Nat} {x y : Int32} (h : FBi p N x) (h2 : FBi p N y) : x = y := by
  rcases h with ⟨rfl, h⟩ | ⟨i, hi, rfl, hn, hj⟩
  · rcases h2 with ⟨rfl, h2⟩ | ⟨i, hi, rfl, hn, hj⟩
    · rfl
    · exact absurd (h i hi) hn
  · rcases h2 with ⟨rfl, h2⟩ | ⟨i2, hi2, rfl, hn2, hj2⟩
    · exact absurd (h2 i hi) hn
    · have : i = i2 := by
        rcases Nat.lt_trichotomy i i2 with e | e | e
        · exact absurd (hj2 i e) hn
        · exact e
        · exact absurd (hj i2 e) hn2
      rw [this]
theorem FBi.sg {p : Nat → Prop} {N : Nat} {x : Int32} (hN : N < 2147483648) (h : FBi p N x) : (x < 0 ∧ ¬ 0 ≤ x ∧ ∀ i, i < N → p i) ∨ (¬ x < 0 ∧ 0 ≤ x ∧ ¬ ∀ i, i < N → p i) := by
  rcases h with ⟨rfl, h⟩ | ⟨i, hi, rfl, hn, hj⟩
  · exact Or.inl ⟨by decide, by decide, h⟩
  · exact Or.inr ⟨nI_pos (by omega), nI_pos' (by omega), fun z => hn (z i hi)⟩
theorem brk_c {t r : Nat} {q : Nat → Nat} (hW : LW n K P tb) (h : LC t n K P tb M) (hl : l < n) (hr : ln r = 12) (hq : ∀ h, h < 12 → 1 ≤ q h ∧ q h ≤ 3 ∧ M r h = nI (q h)) : ∃ x, F_20 (t + 5 + 2 * l) r M = some x ∧ FBi (fun i => okL tb l i (q (fa (K l) i)) (q (fb (K l) i))) (mny (K l)) x := by
  have hk := (hW.2 l hl).1
  have hm := mny_lt hk
  have e0 := (h.2 l hl).1
  obtain ⟨res, h1, h2⟩ := loopF (body := B_20_2 (t + 5 + 2 * l) r M) (fun k s => s = nI k ∧ ∀ j, j < k → okL tb l j (q (fa (K l) j)) (q (fb (K l) j))) (fun res => match res with | .inl _ => ∀ i, i < mny (K l) → okL tb l i (q (fa (K l) i)) (q (fb (K l) i)) | .inr x => ∃ i, i < mny (K l) ∧ x = nI i ∧ ¬ okL tb l i (q (fa (K l) i)) (q (fb (K l) i)) ∧ ∀ j, j < i → okL tb l j (q (fa (K l) j)) (q (fb (K l) j))) (mny (K l)) (by omega) (s := (0 : Int32)) ⟨rfl, fun j hj => absurd hj (Nat.not_lt_zero _)⟩ (by
    rintro k s hk2 ⟨rfl, hok⟩
    unfold B_20_2
    rw [e0, E_0 _ hk]
    dsimp only
    by_cases hkm : k < mny (K l)
    · have f1 := fa_lt _ hk k hkm
      have f2 := fb_lt _ hk k hkm
      obtain ⟨a1, a2, a3⟩ := hq _ f1
      obtain ⟨b1, b2, b3⟩ := hq _ f2
      rw [E_2 _ hk k hkm, E_3 _ hk k hkm]
      simp (disch := omega) only [lit_nI, ni_ofNat, ni_add, ni_lti, ni_lei, ni_eqi, ni_cl, inb_nI, if_pos, if_neg, if_true, if_false, hr, a3, b3, gw_ok hW h hl hkm]
      rw [holds_ok (Nat.lt_trans (and7 _) (by decide)) b1 (by omega), gw_bit a1 b1 b2]
      cases ho : (tb l k).testBit (3 * q (fa (K l) k) + q (fb (K l) k) - 4)
      · left
        exact ⟨.inr (nI k), rfl, k, hkm, rfl, (by unfold okL; rw [ho]; decide), hok⟩
      · right
        refine ⟨hkm, nI (k + 1), rfl, rfl, ?_⟩
        intro j hj
        by_cases e : j = k
        · rw [e]; exact ho
        · exact hok j (by omega)
    · left
      refine ⟨.inl (nI k), ?_, ?_⟩
      · simp (disch := omega) only [lit_nI, ni_ofNat, ni_add, ni_lti, ni_lei, ni_eqi, ni_cl, inb_nI, if_pos, if_neg, if_true, if_false]
      · intro i hi
        exact hok i (by omega))
  unfold F_20 L_20_2
  rw [h1]
  cases res with
  | inl y => exact ⟨-1, rfl, Or.inl ⟨rfl, h2⟩⟩
  | inr x => exact ⟨x, rfl, Or.inr h2⟩
theorem brk_r {r f : Nat} {q : Nat → Nat} (hW : LW n K P tb) (h : LQ 78 n K P tb M) (hT : C11 M) (hl : l < n) (hr : f + 12 ≤ ln r) (hr2 : ln r < 1000) (hq : ∀ h, h < 12 → 1 ≤ q h ∧ q h ≤ 3 ∧ M r (f + h) = nI (q h)) : ∃ x, F_200 (nI l) r (nI f) M = some x ∧ FBi (fun i => okL tb l i (q (fa (K l) i)) (q (fb (K l) i))) (mny (K l)) x := by
  have hk := (hW.2 l hl).1
  have hm := mny_lt hk
  obtain ⟨res, h1, h2⟩ := loopF (body := B_200_3 (nI l) r (nI f) M) (fun k s => s = nI k ∧ ∀ j, j < k → okL tb l j (q (fa (K l) j)) (q (fb (K l) j))) (fun res => match res with | .inl _ => ∀ i, i < mny (K l) → okL tb l i (q (fa (K l) i)) (q (fb (K l) i)) | .inr x => ∃ i, i < mny (K l) ∧ x = nI i ∧ ¬ okL tb l i (q (fa (K l) i)) (q (fb (K l) i)) ∧ ∀ j, j < i → okL tb l j (q (fa (K l) j)) (q (fb (K l) j))) (mny (K l)) (by omega) (s := (0 : Int32)) ⟨rfl, fun j hj => absurd hj (Nat.not_lt_zero _)⟩ (by
    rintro k s hk2 ⟨rfl, hok⟩
    unfold B_200_3
    rw [cas_ok hW h hT hl]
    dsimp only
    by_cases hkm : k < mny (K l)
    · have f1 := fa_lt _ hk k hkm
      have f2 := fb_lt _ hk k hkm
      obtain ⟨a1, a2, a3⟩ := hq _ f1
      obtain ⟨b1, b2, b3⟩ := hq _ f2
      rw [otr_ok hW h hT hl hkm, hal_ok hW h hT hl hkm]
      dsimp only
      have hst : (if nI (mny (K l)) ≤ nI k then (some (Sum.inr (Sum.inl (nI k))) : Option ((Int32) ⊕ ((Int32) ⊕ (Int32)))) else (if inb (nI f + nI (fa (K l) k)) (ln r) = true then (if (0 : Int32) ≤ (if pr (K l) = true then nI (fb (K l) k) else -1) then (if inb (nI f + (if pr (K l) = true then nI (fb (K l) k) else -1)) (ln r) = true then (J_200_52_3 (nI l) r (nI f) (nI k) (M r (nI f + (if pr (K l) = true then nI (fb (K l) k) else -1)).toNatClampNeg) (M r (nI f + nI (fa (K l) k)).toNatClampNeg) (nI k) (nI l) M) else none) else (J_200_52_3 (nI l) r (nI f) (nI k) (0 : Int32) (M r (nI f + nI (fa (K l) k)).toNatClampNeg) (nI k) (nI l) M)) else none)) = (if (tb l k).testBit (3 * q (fa (K l) k) + q (fb (K l) k) - 4) = true then some (Sum.inl (nI (k + 1))) else some (Sum.inr (Sum.inr (nI k)))) := by
        cases hp : pr (K l)
        · simp (disch := omega) only [Bool.false_eq_true, Bool.true_eq_false, if_false, show ¬ ((0 : Int32) ≤ -1) by decide, inb_nI, ni_add, ni_lei, ni_cl, if_pos, if_neg, a3, J_200_52_3, goes_n hW h hl hkm hp a1 a2, ni_add1]
          rw [((hW.2 l hl).2.2 k hkm).2 hp _ a1 a2 _ b1 b2]
          cases (tb l k).testBit (3 * q (fa (K l) k) - 3) <;> rfl
        · simp (disch := omega) only [if_true, ni_nn', inb_nI, ni_add, ni_lei, ni_cl, if_pos, if_neg, a3, b3, J_200_52_3, goes_p hW h hl hkm hp a1 a2 b1 b2, ni_add1]
          cases (tb l k).testBit (3 * q (fa (K l) k) + q (fb (K l) k) - 4) <;> rfl
      rw [hst]
      by_cases ho : okL tb l k (q (fa (K l) k)) (q (fb (K l) k))
      · right
        unfold okL at ho
        refine ⟨hkm, nI (k + 1), ?_, rfl, ?_⟩
        · rw [if_pos ho]
        · intro j hj
          by_cases e : j = k
          · rw [e]; exact ho
          · exact hok j (by omega)
      · left
        have ho' := ho
        unfold okL at ho'
        refine ⟨.inr (nI k), ?_, k, hkm, rfl, ho, hok⟩
        rw [if_neg ho']
    · left
      refine ⟨.inl (nI k), ?_, ?_⟩
      · simp (disch := omega) only [lit_nI, ni_ofNat, ni_add, ni_lti, ni_lei, ni_eqi, ni_cl, inb_nI, if_pos, if_neg, if_true, if_false]
      · intro i hi
        exact hok i (by omega))
  unfold F_200 L_200_3
  rw [h1]
  cases res with
  | inl y => exact ⟨-1, rfl, Or.inl ⟨rfl, h2⟩⟩
  | inr x => exact ⟨x, rfl, Or.inr h2⟩
end LAWS
