/-! spare and same -/
theorem dif_lt2 {n s t : Nat} (hs : s < 2 ^ n) : dif s t < 2 ^ n := Nat.lt_of_le_of_lt (dif_le s t) hs
section SPARE
variable {n s : Nat} {K P : Nat → Nat} {tb : Nat → Nat → Nat} {q : Nat → Nat} {M : IM}
noncomputable def spB (n : Nat) (K : Nat → Nat) (tb : Nat → Nat → Nat) (s l : Nat) : Bool := bP (s.testBit l = true ∧ fol n K tb (dif s (1 <<< l)) l)
theorem and_bit : ∀ s, s < 256 → ∀ l, l < 8 → (nI s &&& nI (1 <<< l) = 0 ↔ s.testBit l = false) := by decide +kernel
theorem spare_c (hV : Iv n K P tb q M) (hs : s < 2 ^ n) : ∃ y M', L_119_18 (nI s) 0 0 M = some (nI (orT n (spB n K tb s)), y, M') ∧ KF M M' ∧ Iv n K P tb q M' := by
  have hW := hV.1.1
  have hn := hW.1
  have hs2 : s < 256 := Nat.lt_of_lt_of_le hs (pw_8 hn)
  obtain ⟨⟨x, y, M'⟩, g1, g2, g3, g4⟩ := loopF (body := B_119_18 (nI s)) (fun l z => z.1 = nI (orT l (spB n K tb s)) ∧ z.2.1 = nI l ∧ KF M z.2.2 ∧ Iv n K P tb q z.2.2) (fun z => z.1 = nI (orT n (spB n K tb s)) ∧ KF M z.2.2 ∧ Iv n K P tb q z.2.2) n (by omega) (s := ((0 : Int32), (0 : Int32), M)) ⟨rfl, rfl, KF.rf M, hV⟩ (by
    rintro l ⟨x, y, Q⟩ hl ⟨e1, e2, q1, q2⟩
    dsimp only at e1 e2 q1 q2
    subst e1 e2
    unfold B_119_18 J_119_60_18
    dsimp only
    rw [q2.1.2.1.1]
    by_cases hl2 : l < n
    · right
      rw [if_neg (show ¬ nI n ≤ nI l from nI_ge hl2 (by omega)), one_shl l (by omega), dif_nI, ni_add1]
      refine ⟨hl2, ?_⟩
      have eo : orT (l + 1) (spB n K tb s) = bif spB n K tb s l then orT l (spB n K tb s) ||| (1 <<< l) else orT l (spB n K tb s) := rfl
      cases hb : s.testBit l
      · rw [if_pos ((and_bit s hs2 l (by omega)).mpr hb)]
        refine ⟨_, rfl, ?_, rfl, q1, q2⟩
        rw [eo, show spB n K tb s l = false from bP_f (fun z => by rw [hb] at z; cases z.1)]; rfl
      · rw [if_neg (fun z => by rw [(and_bit s hs2 l (by omega)).mp z] at hb; cases hb)]
        obtain ⟨v, M1, a1, a2, a3, a4⟩ := f149 q2 (dif_lt2 (t := 1 <<< l) hs) hl2
        rw [a1]
        dsimp only
        rcases a4 with ⟨rfl, h1⟩ | ⟨rfl, h1⟩
        · rw [if_neg one_ne, ni_or]
          refine ⟨_, rfl, ?_, rfl, q1.tr a2, a3⟩
          rw [eo, show spB n K tb s l = true from bP_t ⟨hb, h1⟩]; rfl
        · rw [if_pos rfl]
          refine ⟨_, rfl, ?_, rfl, q1.tr a2, a3⟩
          rw [eo, show spB n K tb s l = false from bP_f (fun z => h1 z.2)]; rfl
    · left
      obtain rfl : l = n := by omega
      rw [if_pos (nI_le (Nat.le_refl _) (by omega))]
      exact ⟨_, rfl, rfl, q1, q2⟩)
  dsimp only at g2
  subst g2
  exact ⟨y, M', g1, g3, g4⟩
theorem spare_r (hW : LW n K P tb) (hQ : LQ 78 n K P tb M) (hT : C11 M) (hs : s < 256) : ∃ y M', L_232_19 (nI s) 0 0 M = some (nI (orT n (spB n K tb s)), y, M') ∧ Chg 87 89 M M' := by
  have hn := hW.1
  obtain ⟨⟨x, y, M'⟩, g1, g2, g3⟩ := loopF (body := B_232_19 (nI s)) (fun l z => z.1 = nI (orT l (spB n K tb s)) ∧ z.2.1 = nI l ∧ Chg 87 89 M z.2.2) (fun z => z.1 = nI (orT n (spB n K tb s)) ∧ Chg 87 89 M z.2.2) n (by omega) (s := ((0 : Int32), (0 : Int32), M)) ⟨rfl, rfl, Chg.rf 87 89 M⟩ (by
    rintro l ⟨x, y, Q⟩ hl ⟨e1, e2, q1⟩
    dsimp only at e1 e2 q1
    subst e1 e2
    unfold B_232_19 J_232_59_19 J_232_60_19
    dsimp only
    have hQQ := q1.LQ (Or.inr (by decide)) hn hQ
    have hTT := q1.C11 (Or.inr (by decide)) hT
    rw [show (0 : Int32).toNatClampNeg = 0 from rfl, hQQ.1]
    by_cases hl2 : l < n
    · right
      rw [if_neg (show ¬ nI n ≤ nI l from nI_ge hl2 (by omega)), one_shl l (by omega), dif_nI, ni_add1, has_ok (by omega) (by omega)]
      refine ⟨hl2, ?_⟩
      have eo : orT (l + 1) (spB n K tb s) = bif spB n K tb s l then orT l (spB n K tb s) ||| (1 <<< l) else orT l (spB n K tb s) := rfl
      have e0 : ∀ a, nI a ||| 0 = nI a := fun a => by show nI a ||| nI 0 = nI a; rw [ni_or, Nat.or_zero]
      simp only [e0]
      cases hb : s.testBit l
      · rw [if_neg (show ¬ false = true by decide), if_pos rfl]
        refine ⟨_, rfl, ?_, rfl, q1⟩
        rw [eo, show spB n K tb s l = false from bP_f (fun z => by rw [hb] at z; cases z.1)]; rfl
      · rw [if_pos rfl, if_neg one_ne]
        obtain ⟨v, M1, a1, a2, a4⟩ := f230 (s := dif s (1 <<< l)) hW hQQ hTT (by have := dif_le s (1 <<< l); omega) hl2
        rw [a1]
        dsimp only
        rcases a4 with ⟨rfl, h1⟩ | ⟨rfl, h1⟩
        · rw [if_neg one_ne, ni_or]
          refine ⟨_, rfl, ?_, rfl, q1.tr a2⟩
          rw [eo, show spB n K tb s l = true from bP_t ⟨hb, h1⟩]; rfl
        · rw [if_pos rfl]
          refine ⟨_, rfl, ?_, rfl, q1.tr a2⟩
          rw [eo, show spB n K tb s l = false from bP_f (fun z => h1 z.2)]; rfl
    · left
      obtain rfl : l = n := by omega
      rw [if_pos (nI_le (Nat.le_refl _) (by omega))]
      exact ⟨_, rfl, rfl, q1⟩)
  dsimp only at g2
  subst g2
  exact ⟨y, M', g1, g3⟩
def folS (n : Nat) (K : Nat → Nat) (tb : Nat → Nat → Nat) (s t : Nat) : Prop := ∀ l, l < n → t.testBit l = true → fol n K tb s l
theorem folS_iff {t : Nat} : folS n K tb s t ↔ ∀ r, PCn (UD n K tb s tt2) (AD n K tb s tt2) 4095 12 r → fitsS n K tb t r :=
  ⟨fun z r hr l hl hb => z l hl hb r hr, fun z l hl hb r hr => z r hr l hl hb⟩
theorem all_r {t : Nat} (hW : LW n K P tb) (hQ : LQ 78 n K P tb M) (hT : C11 M) (hs : s < 256) (ht : t < 256) : ∃ x M', F_233 (nI s) (nI t) M = some (x, M') ∧ Chg 87 89 M M' ∧ ((x = 1 ∧ folS n K tb s t) ∨ (x = 0 ∧ ¬ folS n K tb s t)) := by
  have hn := hW.1
  obtain ⟨⟨x, y, M'⟩, g1, g2, g3⟩ := loopF (body := B_233_5 (nI s) (nI t)) (fun l z => z.2.1 = nI l ∧ Chg 87 89 M z.2.2 ∧ ((z.1 = 1 ∧ ∀ l', l' < l → t.testBit l' = true → fol n K tb s l') ∨ (z.1 = 0 ∧ ¬ folS n K tb s t))) (fun z => Chg 87 89 M z.2.2 ∧ ((z.1 = 1 ∧ folS n K tb s t) ∨ (z.1 = 0 ∧ ¬ folS n K tb s t))) n (by omega) (s := ((1 : Int32), (0 : Int32), M)) ⟨rfl, Chg.rf 87 89 M, Or.inl ⟨rfl, fun l' hl' => absurd hl' (Nat.not_lt_zero _)⟩⟩ (by
    rintro l ⟨x, y, Q⟩ hl ⟨e2, q1, q2⟩
    dsimp only at e2 q1 q2
    subst e2
    unfold B_233_5 J_233_39_5 J_233_44_5
    dsimp only
    have hQQ := q1.LQ (Or.inr (by decide)) hn hQ
    have hTT := q1.C11 (Or.inr (by decide)) hT
    rw [show (0 : Int32).toNatClampNeg = 0 from rfl, hQQ.1]
    by_cases hl2 : l < n
    · rw [if_neg (show ¬ nI n ≤ nI l from nI_ge hl2 (by omega)), ni_add1, has_ok (by omega) (by omega)]
      rcases q2 with ⟨rfl, q2⟩ | ⟨rfl, q2⟩
      · right
        rw [if_neg one_ne]
        refine ⟨hl2, ?_⟩
        cases hb : t.testBit l
        · rw [if_neg (show ¬ false = true by decide), if_pos rfl]
          refine ⟨_, rfl, rfl, q1, Or.inl ⟨rfl, fun l' hl' hb' => ?_⟩⟩
          by_cases e : l' = l
          · rw [e, hb] at hb'; cases hb'
          · exact q2 l' (by omega) hb'
        · rw [if_pos rfl, if_neg one_ne]
          obtain ⟨v, M1, a1, a2, a4⟩ := f230 hW hQQ hTT hs hl2
          rw [a1]
          dsimp only
          rcases a4 with ⟨rfl, h1⟩ | ⟨rfl, h1⟩
          · rw [if_neg one_ne]
            refine ⟨_, rfl, rfl, q1.tr a2, Or.inl ⟨rfl, fun l' hl' hb' => ?_⟩⟩
            by_cases e : l' = l
            · rw [e]; exact h1
            · exact q2 l' (by omega) hb'
          · rw [if_pos rfl]
            exact ⟨_, rfl, rfl, q1.tr a2, Or.inr ⟨rfl, fun z => h1 (z l hl2 hb)⟩⟩
      · left
        rw [if_pos rfl]
        exact ⟨_, rfl, q1, Or.inr ⟨rfl, q2⟩⟩
    · left
      obtain rfl : l = n := by omega
      rw [if_pos (nI_le (Nat.le_refl _) (by omega))]
      exact ⟨_, rfl, q1, q2⟩)
  unfold F_233 L_233_5
  rw [g1]
  exact ⟨x, M', rfl, g2, g3⟩
end SPARE
theorem B_spare (a : Int32) : Both (F_119 a) (F_232 a) := by
  intro M hI
  obtain ⟨n, K, P, tb, q, hV⟩ := id hI
  have hW := hV.1.1
  rcases ckS hV.1 a with ⟨s, hs, hs2, rfl, e1, e2⟩ | ⟨e1, e2⟩
  · obtain ⟨y, M1, a1, a2, a3⟩ := spare_c hV hs
    obtain ⟨y', M2, b1, b2⟩ := spare_r hW a3.1.2.2 a3.2.2.2.2.2.2.2.2.2 hs2
    refine ⟨nI (orT n (spB n K tb s)), M1, M2, ?_, ?_, n, K, P, tb, q, a3.a0 ((b2.wk (show 85 ≤ 87 by decide) (show 89 ≤ 92 by decide)).r)⟩
    · simp only [F_119, e1, one_ne, if_false, a1]
    · simp only [F_232, e2 M1 a2.hi, one_ne, if_false, b1]
  · refine rfu1 hI ?_ (fun M1 hM1 => ?_)
    · simp only [F_119, e1, if_true, Rf1]
    · simp only [F_232, e2 M1 hM1, if_true, Rg1]
theorem B_same (a b : Int32) : Both (F_120 a b) (F_234 a b) := by
  intro M hI
  obtain ⟨n, K, P, tb, q, hV⟩ := id hI
  have hW := hV.1.1
  rcases ckS hV.1 a with ⟨s, hs, hs2, rfl, e1, e2⟩ | ⟨e1, e2⟩
  · rcases ckS hV.1 b with ⟨t, ht, ht2, rfl, f1, f2⟩ | ⟨f1, f2⟩
    · obtain ⟨M1, a1, a2, a3⟩ := f147 hV (or_lt2 hs ht)
      obtain ⟨M2, b1, b2, b3⟩ := f147 a3 hs
      obtain ⟨M3, c1, c2, c3⟩ := f147 b3 ht
      have l1 := cnt_lt n K tb s
      have l2 := cnt_lt n K tb t
      have l3 := cnt_lt n K tb (s ||| t)
      have k1 : cntS n K tb s = cntS n K tb (s ||| t) ↔ folS n K tb s t := by
        rw [cnt_eq hW (fun r hr => (fits_or.mp hr).1), folS_iff]
        exact ⟨fun z r hr => (fits_or.mp (z r hr)).2, fun z r hr => fits_or.mpr ⟨((sol_iff hW).mp hr).2, z r hr⟩⟩
      have k2 : cntS n K tb t = cntS n K tb (s ||| t) ↔ folS n K tb t s := by
        rw [cnt_eq hW (fun r hr => (fits_or.mp hr).2), folS_iff]
        exact ⟨fun z r hr => (fits_or.mp (z r hr)).1, fun z r hr => fits_or.mpr ⟨z r hr, ((sol_iff hW).mp hr).2⟩⟩
      have cl : ∃ x M4, F_120 (nI s) (nI t) M = some (x, M4) ∧ KF M M4 ∧ Iv n K P tb q M4 ∧ ((x = 1 ∧ folS n K tb s t ∧ folS n K tb t s) ∨ (x = 0 ∧ ¬ (folS n K tb s t ∧ folS n K tb t s))) := by
        by_cases h1 : cntS n K tb s = cntS n K tb (s ||| t)
        · by_cases h2 : cntS n K tb t = cntS n K tb (s ||| t)
          · refine ⟨1, M3, ?_, (a2.tr b2).tr c2, c3, Or.inl ⟨rfl, k1.mp h1, k2.mp h2⟩⟩
            have z1 : nI (cntS n K tb s) = nI (cntS n K tb (s ||| t)) := by rw [h1]
            have z2 : nI (cntS n K tb t) = nI (cntS n K tb (s ||| t)) := by rw [h2]
            simp only [F_120, e1, f1, one_ne, if_false, ni_or, a1, b1, c1, z1, z2, if_true]
          · refine ⟨0, M3, ?_, (a2.tr b2).tr c2, c3, Or.inr ⟨rfl, fun z => h2 (k2.mpr z.2)⟩⟩
            have z1 : nI (cntS n K tb s) = nI (cntS n K tb (s ||| t)) := by rw [h1]
            have z2 : ¬ (nI (cntS n K tb t) = nI (cntS n K tb (s ||| t))) := fun z => h2 (ni_inj (by omega) (by omega) z)
            simp only [F_120, e1, f1, one_ne, if_false, ni_or, a1, b1, c1, z1, z2, if_true]
        · refine ⟨0, M2, ?_, a2.tr b2, b3, Or.inr ⟨rfl, fun z => h1 (k1.mpr z.1)⟩⟩
          have z1 : ¬ (nI (cntS n K tb s) = nI (cntS n K tb (s ||| t))) := fun z => h1 (ni_inj (by omega) (by omega) z)
          simp only [F_120, e1, f1, one_ne, if_false, ni_or, a1, b1, z1]
      obtain ⟨x, M4, d1, d2, d3, d4⟩ := cl
      obtain ⟨y, M5, g1, g2, g3⟩ := all_r (s := s) (t := t) hW d3.1.2.2 d3.2.2.2.2.2.2.2.2.2 hs2 ht2
      have q5 := g2.LQ (Or.inr (by decide)) hW.1 d3.1.2.2
      have t5 := g2.C11 (Or.inr (by decide)) d3.2.2.2.2.2.2.2.2.2
      obtain ⟨y', M6, h1, h2, h3⟩ := all_r (s := t) (t := s) hW q5 t5 ht2 hs2
      have iv : ∀ M', Chg 87 89 M4 M' → Inv M' := fun M' z => ⟨n, K, P, tb, q, d3.a0 ((z.wk (show 85 ≤ 87 by decide) (show 89 ≤ 92 by decide)).r)⟩
      rcases g3 with ⟨rfl, g3⟩ | ⟨rfl, g3⟩
      · rcases h3 with ⟨rfl, h3⟩ | ⟨rfl, h3⟩
        · rcases d4 with ⟨rfl, -⟩ | ⟨rfl, z⟩
          · refine ⟨1, M4, M6, d1, ?_, iv M6 (g2.tr h2)⟩
            simp only [F_234, e2 M4 d2.hi, f2 M4 d2.hi, one_ne, if_false, g1, h1]
          · exact absurd ⟨g3, h3⟩ z
        · rcases d4 with ⟨rfl, z⟩ | ⟨rfl, -⟩
          · exact absurd z.2 h3
          · refine ⟨0, M4, M6, d1, ?_, iv M6 (g2.tr h2)⟩
            simp only [F_234, e2 M4 d2.hi, f2 M4 d2.hi, one_ne, if_false, g1, h1, if_true]
      · rcases d4 with ⟨rfl, z⟩ | ⟨rfl, -⟩
        · exact absurd z.1 g3
        · refine ⟨0, M4, M5, d1, ?_, iv M5 g2⟩
          simp only [F_234, e2 M4 d2.hi, f2 M4 d2.hi, one_ne, if_false, g1, if_true]
    · refine rfu1 hI ?_ (fun M1 hM1 => ?_)
      · simp only [F_120, J_120_16, e1, f1, one_ne, if_false, if_true, Rf1]
      · simp only [F_234, J_234_16, e2 M1 hM1, f2 M1 hM1, one_ne, if_false, if_true, Rg1]
  · refine rfu1 hI ?_ (fun M1 hM1 => ?_)
    · simp only [F_120, J_120_16, e1, if_true, Rf1]
    · simp only [F_234, J_234_16, e2 M1 hM1, if_true, Rg1]
