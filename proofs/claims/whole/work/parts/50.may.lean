/-! may -/
noncomputable def mayB (p : Nat → Prop) : Nat → Nat
  | 0 => 0
  | k + 1 => bif bP (p (k + 1)) then mayB p k ||| (1 <<< (k + 1)) else mayB p k
theorem mayB_0 {p : Nat → Prop} (h : ∀ c, ¬ p c) : ∀ k, mayB p k = 0
  | 0 => rfl
  | k + 1 => by
    unfold mayB
    rw [bP_f (h _), cond_false]
    exact mayB_0 h k
def Uat (U : Nat → Nat → Prop) (h c : Nat) : Nat → Nat → Prop := fun k d => U k d ∧ (k = h → d = c)
theorem Uat_iff {U : Nat → Nat → Prop} {A : Nat → Nat → Nat → Nat → Prop} {h c : Nat} {q : Nat → Nat} (hh : h < 12) : PCn (Uat U h c) A 4095 12 q ↔ PCn U A 4095 12 q ∧ q h = c := by
  constructor
  · intro z
    exact ⟨fun k hk hb => ⟨(z k hk hb).1, (z k hk hb).2.1, (z k hk hb).2.2.1.1, (z k hk hb).2.2.2⟩, (z h hh (t4095 h hh)).2.2.1.2 rfl⟩
  · rintro ⟨z, e⟩ k hk hb
    exact ⟨(z k hk hb).1, (z k hk hb).2.1, ⟨(z k hk hb).2.2.1, fun q1 => by rw [q1]; exact e⟩, (z k hk hb).2.2.2⟩
theorem bit_at : ∀ m, m < 8 → ∀ k, k < 3 → m &&& (1 <<< k) < 8 ∧ ∀ c, c < 3 → (m &&& (1 <<< k)).testBit c = (m.testBit c && decide (c = k)) := by decide
theorem bt3.at {m k : Nat} {p : Nat → Prop} (h : bt3 m p) (hk : k < 3) : bt3 (m &&& (1 <<< k)) (fun c => p c ∧ c = k + 1) := by
  obtain ⟨b1, b2⟩ := bit_at m h.1 k hk
  refine ⟨b1, fun c c1 c3 => ?_⟩
  rw [b2 (c - 1) (by omega), Bool.and_eq_true, h.2 c c1 c3, decide_eq_true_eq]
  exact ⟨fun z => ⟨z.1, by omega⟩, fun z => ⟨z.1, by omega⟩⟩
theorem f142 : ∀ k, k < 3 → F_142 (nI (k + 1)) = nI (1 <<< k) := by decide
theorem sh_c1 : ∀ k, k < 3 → (1 : Int32) <<< ((nI (k + 1) - 1) &&& 31) = nI (1 <<< k) := by decide
theorem sh_c2 : ∀ k, k < 4 → (1 : Int32) <<< (nI k &&& 31) = nI (1 <<< k) := by decide
theorem B_may (a b : Int32) : Both (F_110 a b) (F_213 a b) := by
  intro M hI
  obtain ⟨n, K, P, tb, q, hV⟩ := id hI
  have hW := hV.1.1
  have hn := hW.1
  rcases ckS hV.1 a with ⟨s, hs, hs2, rfl, e1, e2⟩ | ⟨e1, e2⟩
  · rcases ck_5 b with ⟨h, hh, rfl, f1, f2⟩ | ⟨f1, f2⟩
    · generalize hU : UD n K tb s tt2 = U
      generalize hA : AD n K tb s tt2 = A
      obtain ⟨x, M1, a1, a2, a3, a4⟩ := out_c hW hV.1.2.1 hV.2.2.2.2.2.2.2.2.1 hs
      have hV1 : Iv n K P tb q M1 := hV.kf a2 a3
      have pe : ∀ c, (∃ r, PCn U A 4095 12 r ∧ r h = c) → 0 < cntS n K tb s := fun c z => by
        obtain ⟨r, hr, -⟩ := z
        rw [← hU, ← hA] at hr
        exact (cnt_pos hW).mpr ⟨r, hr⟩
      have dc : ∃ M2, F_110 (nI s) (nI h) M = some (nI (mayB (fun c => ∃ r, PCn U A 4095 12 r ∧ r h = c) 3), M2) ∧ KF M M2 ∧ C10 n K tb M2 := by
        rcases a4 with ⟨rfl, h0⟩ | ⟨rfl, hpos⟩
        · refine ⟨M1, ?_, a2, a3⟩
          rw [mayB_0 (fun c z => by have := pe c z; omega)]
          simp only [F_110, e1, f1, one_ne, if_false, a1]
          rfl
        · obtain ⟨M2, b1, b2, b3, b4, b5⟩ := take_c (s := s) hW hV1.1.2.1 hs2
          rw [hA] at b3 b5
          rw [hU] at b4
          obtain ⟨m, m1, m2⟩ := b4 h (Nat.zero_le _) hh (t4095 h hh)
          rw [Nat.zero_mul, Nat.zero_add] at m1
          obtain ⟨⟨y, z, Q⟩, g1, g2, g3⟩ := loopF (body := B_110_59 (nI h) (nI m)) (fun k z => z.1 = nI (mayB (fun c => ∃ r, PCn U A 4095 12 r ∧ r h = c) k) ∧ z.2.1 = nI (k + 1) ∧ ∀ a j, ¬ ((a = 53 ∧ (j = h ∨ 12 ≤ j)) ∨ a = 54) → z.2.2 a j = M2 a j) (fun z => z.1 = nI (mayB (fun c => ∃ r, PCn U A 4095 12 r ∧ r h = c) 3) ∧ ∀ a j, ¬ ((a = 53 ∧ (j = h ∨ 12 ≤ j)) ∨ a = 54) → z.2.2 a j = M2 a j) 3 (by decide) (s := ((0 : Int32), (1 : Int32), M2)) ⟨rfl, rfl, fun _ _ _ => rfl⟩ (by
            rintro k ⟨y, z, Q⟩ hk ⟨rfl, rfl, c1⟩
            dsimp only at c1
            unfold B_110_59 J_110_100_59
            dsimp only
            by_cases hk3 : k < 3
            · right
              refine ⟨hk3, ?_⟩
              rw [if_neg (show ¬ (3 : Int32) < nI (k + 1) from nI_nlt (a := 3) (by omega) (by decide)), if_pos ((inb_nI (by omega)).mpr (by omega)), ni_cl (by omega), f142 k hk3, ni_and]
              obtain ⟨v, Q2, v1, v2, v3⟩ := fits_c (U := Uat U h (k + 1)) (A := A) (M := iset Q 53 h (nI (m &&& (1 <<< k)))) (b3.cg (fun j => by rw [iset_k (by decide), c1 _ _ (by omega)])) (fun k' h1 h2 h3 => by
                rw [Nat.zero_mul, Nat.zero_add]
                by_cases e : k' = h
                · subst e
                  exact ⟨_, iset_same _ _ _ _, (m2.at hk3).im (fun c _ _ => ⟨fun z => ⟨z.1, fun _ => z.2⟩, fun z => ⟨z.1, z.2 rfl⟩⟩)⟩
                · obtain ⟨m', u1, u2⟩ := b4 k' h1 h2 h3
                  rw [Nat.zero_mul, Nat.zero_add] at u1
                  exact ⟨m', by rw [iset_j e, c1 _ _ (by omega)]; exact u1, u2.im (fun c _ _ => ⟨fun z => ⟨z, fun q => absurd q e⟩, fun z => z.1⟩)⟩) (fun z => b5 (by rw [← c1 51 3 (by omega), ← iset_k (M := Q) (k := 53) (j := h) (x := nI (m &&& (1 <<< k))) (show 51 ≠ 53 by decide)]; exact z))
              rw [v1]
              dsimp only
              have c1' : ∀ a j, ¬ ((a = 53 ∧ (j = h ∨ 12 ≤ j)) ∨ a = 54) → Q2 a j = M2 a j := fun a j ha => by
                rw [v2 _ _ (by omega), iset_eq, if_neg (by omega)]; exact c1 a j ha
              rw [sh_c2 (k + 1) (by omega), ni_or]
              rcases v3 with ⟨rfl, r, hr, -⟩ | ⟨rfl, hno⟩
              · rw [if_neg one_ne]
                refine ⟨_, rfl, ?_, ni_add1 _, c1'⟩
                dsimp only
                conv => rhs; unfold mayB
                rw [bP_t ⟨r, (Uat_iff hh).mp hr.1⟩, cond_true]
              · rw [if_pos rfl]
                refine ⟨_, rfl, ?_, ni_add1 _, c1'⟩
                dsimp only
                conv => rhs; unfold mayB
                rw [bP_f (fun z => by obtain ⟨r, hr⟩ := z; exact hno r ((Uat_iff hh).mpr hr)), cond_false]
            · left
              obtain rfl : k = 3 := by omega
              exact ⟨_, rfl, rfl, c1⟩)
          have hL : L_110_59 (nI h) (nI m) 0 1 M2 = some (y, z, Q) := g1
          dsimp only at g2 g3
          subst g2
          refine ⟨Q, ?_, fun k j hk => ?_, fun s' hs' => ?_⟩
          · simp only [F_110, e1, f1, one_ne, if_false, a1, if_true, b1]
            simp (disch := omega) only [inb_nI, ni_cl, if_pos, if_neg, if_true, if_false, m1, hL]
          · rw [g3 _ _ (by omega), b2 _ _ (by omega), a2 _ _ hk]
          · rw [g3 _ _ (by omega), b2 _ _ (by omega)]; exact a3 s' hs'
      obtain ⟨M2, d1, d2, d3⟩ := dc
      have hV2 : Iv n K P tb q M2 := hV.kf d2 d3
      obtain ⟨M3, b1, b2, b3⟩ := gather_r (s := s) hW hV2.1.2.2 hV2.2.2.2.2.2.2.2.2.2 hs2
      rw [hU, hA] at b3
      obtain ⟨m, m1, m2⟩ := b3.1 h hh
      obtain ⟨⟨y, z, Q⟩, g1, g2, g3⟩ := loopF (body := B_213_40 (nI h) (nI m)) (fun k z => z.1 = nI (mayB (fun c => ∃ r, PCn U A 4095 12 r ∧ r h = c) k) ∧ z.2.1 = nI (k + 1) ∧ ∀ a j, ¬ ((a = 87 ∧ j = h) ∨ a = 89) → z.2.2 a j = M3 a j) (fun z => z.1 = nI (mayB (fun c => ∃ r, PCn U A 4095 12 r ∧ r h = c) 3) ∧ ∀ a j, ¬ ((a = 87 ∧ j = h) ∨ a = 89) → z.2.2 a j = M3 a j) 3 (by decide) (s := ((0 : Int32), (1 : Int32), M3)) ⟨rfl, rfl, fun _ _ _ => rfl⟩ (by
        rintro k ⟨y, z, Q⟩ hk ⟨rfl, rfl, c1⟩
        dsimp only at c1
        unfold B_213_40 J_213_81_40
        dsimp only
        by_cases hk3 : k < 3
        · right
          refine ⟨hk3, ?_⟩
          rw [if_neg (show ¬ (3 : Int32) < nI (k + 1) from nI_nlt (a := 3) (by omega) (by decide)), if_pos ((inb_nI (by omega)).mpr (by omega)), ni_cl (by omega), sh_c1 k hk3, ni_and]
          have hRR : RR (Uat U h (k + 1)) A (iset Q 87 h (nI (m &&& (1 <<< k)))) := by
            refine ⟨fun k' h2 => ?_, fun x y hxy hy => ?_⟩
            · by_cases e : k' = h
              · subst e
                exact ⟨_, iset_same _ _ _ _, (m2.at hk3).im (fun c _ _ => ⟨fun z => ⟨z.1, fun _ => z.2⟩, fun z => ⟨z.1, z.2 rfl⟩⟩)⟩
              · obtain ⟨m', u1, u2⟩ := b3.1 k' h2
                exact ⟨m', by rw [iset_j e, c1 _ _ (by omega)]; exact u1, u2.im (fun c _ _ => ⟨fun z => ⟨z, fun q => absurd q e⟩, fun z => z.1⟩)⟩
            · rw [iset_k (by decide), c1 _ _ (by omega)]
              exact b3.2 x y hxy hy
          obtain ⟨v, Q2, v1, v2, v3⟩ := sk0 (H := 4095) (by decide) hRR
          rw [show K_206 0 4095 (iset Q 87 h (nI (m &&& (1 <<< k)))) = _ from v1]
          dsimp only
          have c1' : ∀ a j, ¬ ((a = 87 ∧ j = h) ∨ a = 89) → Q2 a j = M3 a j := fun a j ha => by
            rw [v2 _ _ (by omega), iset_eq, if_neg (by omega)]; exact c1 a j ha
          rw [sh_c2 (k + 1) (by omega), ni_or]
          rcases v3 with ⟨rfl, r, hr, -⟩ | ⟨rfl, hno⟩
          · rw [if_neg one_ne]
            refine ⟨_, rfl, ?_, ni_add1 _, c1'⟩
            dsimp only
            conv => rhs; unfold mayB
            rw [bP_t ⟨r, (Uat_iff hh).mp hr.1⟩, cond_true]
          · rw [if_pos rfl]
            refine ⟨_, rfl, ?_, ni_add1 _, c1'⟩
            dsimp only
            conv => rhs; unfold mayB
            rw [bP_f (fun z => by obtain ⟨r, hr⟩ := z; exact hno r ((Uat_iff hh).mpr hr)), cond_false, show (0 : Int32) = nI 0 from rfl, ni_or, Nat.or_zero]
        · left
          obtain rfl : k = 3 := by omega
          exact ⟨_, rfl, rfl, c1⟩)
      have hL : L_213_40 (nI h) (nI m) 0 1 M3 = some (y, z, Q) := g1
      dsimp only at g2 g3
      subst g2
      refine ⟨_, M2, Q, d1, ?_, n, K, P, tb, q, hV2.a0 (Chg.r (fun k j hk => ?_))⟩
      · simp only [F_213, e2 M2 d2.hi, f2, one_ne, if_false, b1]
        simp (disch := omega) only [inb_nI, ni_cl, if_pos, if_neg, if_true, if_false, m1, hL]
      · rw [g3 _ _ (by omega), b2 _ _ (by omega)]
    · refine rfu1 hI ?_ (fun M1 hM1 => ?_)
      · simp only [F_110, e1, f1, one_ne, if_false, if_true, J_110_15, Rf1]
      · simp only [F_213, e2 M1 hM1, f2, one_ne, if_false, if_true, J_213_15, Rg1]
  · refine rfu1 hI ?_ (fun M1 hM1 => ?_)
    · simp only [F_110, e1, if_true, J_110_15, Rf1]
    · simp only [F_213, e2 M1 hM1, if_true, J_213_15, Rg1]
