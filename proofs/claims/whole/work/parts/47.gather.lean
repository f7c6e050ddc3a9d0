/-! the laws of a set, gathered by the reference -/
def flN (b : Nat) : Nat := (match F_203 (nI b) with | some x => x.toNatClampNeg | none => 0)
set_option maxRecDepth 100000 in
theorem fl_k : ∀ b, b < 512 → F_203 (nI b) = some (nI (flN b)) ∧ flN b < 512 ∧ ∀ c, c < 3 → ∀ d, d < 3 → (flN b).testBit (3 * c + d) = b.testBit (3 * d + c) := by decide +kernel
theorem fl_b {b c d : Nat} (hb : b < 512) (h1 : 1 ≤ c) (h3 : c ≤ 3) (d1 : 1 ≤ d) (d3 : d ≤ 3) : (flN b).testBit (3 * c + d - 4) = b.testBit (3 * d + c - 4) := by
  have := (fl_k b hb).2.2 (c - 1) (by omega) (d - 1) (by omega)
  rw [show 3 * (c - 1) + (d - 1) = 3 * c + d - 4 by omega, show 3 * (d - 1) + (c - 1) = 3 * d + c - 4 by omega] at this
  exact this
theorem t511 : ∀ j, j < 9 → (511 : Nat).testBit j = true := by decide
theorem RR.im {U U' : Nat → Nat → Prop} {A A' : Nat → Nat → Nat → Nat → Prop} {M : IM} (h : RR U A M) (eU : ∀ k c, k < 12 → 1 ≤ c → c ≤ 3 → (U k c ↔ U' k c)) (eA : ∀ h k c d, h < k → k < 12 → 1 ≤ c → c ≤ 3 → 1 ≤ d → d ≤ 3 → (A h k c d ↔ A' h k c d)) : RR U' A' M := by
  refine ⟨fun a ha => ?_, fun a b hab hb => ?_⟩
  · obtain ⟨m, m1, m2⟩ := h.1 a ha
    exact ⟨m, m1, m2.im (fun c c1 c3 => eU a c ha c1 c3)⟩
  · obtain ⟨g, g1, g2, g3⟩ := h.2 a b hab hb
    exact ⟨g, g1, g2, fun c d c1 c3 d1 d3 => (g3 c d c1 c3 d1 d3).trans (eA a b c d hab hb c1 c3 d1 d3)⟩
theorem and512 : ∀ {a b : Nat}, a < 512 → a &&& b < 512 := fun h => Nat.lt_of_le_of_lt Nat.and_le_left h
section GATHER
variable {n s : Nat} {K P : Nat → Nat} {tb : Nat → Nat → Nat} {M : IM}
/-- one hall's row made narrower -/
theorem RR.u {U : Nat → Nat → Prop} {A : Nat → Nat → Nat → Nat → Prop} {h b : Nat} {q : Nat → Prop} (hR : RR U A M) (hh : h < 12) {m : Nat} (hm : M 87 h = nI m) (hbm : bt3 m (U h)) (hb : ∀ c, 1 ≤ c → c ≤ 3 → (b.testBit (c - 1) = true ↔ q c)) : RR (fun k c => U k c ∧ (k = h → q c)) A (iset M 87 h (nI (m &&& b))) := by
  refine ⟨fun a ha => ?_, fun a b hab hb => ?_⟩
  · by_cases e : a = h
    · subst e
      refine ⟨m &&& b, iset_same _ _ _ _, Nat.lt_of_le_of_lt Nat.and_le_left hbm.1, fun c c1 c3 => ?_⟩
      rw [Nat.testBit_and, Bool.and_eq_true, hbm.2 c c1 c3, hb c c1 c3]
      exact ⟨fun z => ⟨z.1, fun _ => z.2⟩, fun z => ⟨z.1, z.2 rfl⟩⟩
    · obtain ⟨m', m1, m2⟩ := hR.1 a ha
      exact ⟨m', by rw [iset_j e]; exact m1, m2.im (fun c _ _ => ⟨fun z => ⟨z, fun q => absurd q e⟩, fun z => z.1⟩)⟩
  · rw [iset_k (by decide)]
    exact hR.2 a b hab hb
theorem RR.a {U : Nat → Nat → Prop} {A : Nat → Nat → Nat → Nat → Prop} {h k b : Nat} {q : Nat → Nat → Prop} (hR : RR U A M) (hhk : h < k) (hk : k < 12) {m : Nat} (hm : M 88 (12 * h + k) = nI m) (hm5 : m < 512) (hbm : ∀ c d, 1 ≤ c → c ≤ 3 → 1 ≤ d → d ≤ 3 → (m.testBit (3 * c + d - 4) = true ↔ A h k c d)) (hb : ∀ c d, 1 ≤ c → c ≤ 3 → 1 ≤ d → d ≤ 3 → (b.testBit (3 * c + d - 4) = true ↔ q c d)) : RR U (fun x y c d => A x y c d ∧ (x = h → y = k → q c d)) (iset M 88 (12 * h + k) (nI (m &&& b))) := by
  refine ⟨fun a ha => ?_, fun x y hxy hy => ?_⟩
  · rw [iset_k (by decide)]
    exact hR.1 a ha
  · by_cases e : x = h ∧ y = k
    · obtain ⟨rfl, rfl⟩ := e
      refine ⟨m &&& b, and512 hm5, iset_same _ _ _ _, fun c d c1 c3 d1 d3 => ?_⟩
      rw [Nat.testBit_and, Bool.and_eq_true, hbm c d c1 c3 d1 d3, hb c d c1 c3 d1 d3]
      exact ⟨fun z => ⟨z.1, fun _ _ => z.2⟩, fun z => ⟨z.1, z.2 rfl rfl⟩⟩
    · obtain ⟨g, g1, g2, g3⟩ := hR.2 x y hxy hy
      refine ⟨g, g1, by rw [iset_j (by omega)]; exact g2, fun c d c1 c3 d1 d3 => (g3 c d c1 c3 d1 d3).trans ⟨fun z => ⟨z, fun q1 q2 => absurd ⟨q1, q2⟩ e⟩, fun z => z.1⟩⟩
theorem gather_r (hW : LW n K P tb) (hC : LQ 78 n K P tb M) (hT : C11 M) (hs : s < 256) : ∃ M', F_204 (nI s) M = some M' ∧ Chg 87 88 M M' ∧ RR (UD n K tb s tt2) (AD n K tb s tt2) M' := by
  have hn := hW.1
  obtain ⟨⟨y0, B⟩, p1, p2, p3, p4⟩ := loopF (body := B_204_2 (nI s)) (fun k s' => s'.1 = nI k ∧ Chg 87 88 M s'.2 ∧ (∀ j, j < k → s'.2 88 j = nI 511) ∧ ∀ j, 12 * j < k → s'.2 87 j = nI 7) (fun s' => Chg 87 88 M s'.2 ∧ (∀ j, j < 144 → s'.2 88 j = nI 511) ∧ ∀ j, j < 12 → s'.2 87 j = nI 7) 144 (by decide) (s := ((0 : Int32), M)) ⟨rfl, Chg.rf _ _ _, fun j hj => absurd hj (Nat.not_lt_zero _), fun j hj => absurd hj (Nat.not_lt_zero _)⟩ (by
    rintro k ⟨y, Q⟩ hk ⟨rfl, c1, c2, c3⟩
    dsimp only at c1 c2 c3
    unfold B_204_2
    dsimp only
    by_cases hk4 : k < 144
    · right
      refine ⟨hk4, (nI (k + 1), iset (iset Q 88 k (nI 511)) 87 (k / 12) (nI 7)), ?_, rfl, (c1.set (by decide) (by decide)).set (by decide) (by decide), fun j hj => ?_, fun j hj => ?_⟩
      · simp (disch := omega) only [lit_nI, ni_lei, inb_nI, ni_cl, ni_div, if_pos, if_neg, if_true, if_false, ni_add]
      · dsimp only
        rw [iset_k (by decide)]
        by_cases e : j = k
        · rw [e, iset_same]
        · rw [iset_j e]; exact c2 j (by omega)
      · dsimp only
        by_cases e : j = k / 12
        · rw [e, iset_same]
        · rw [iset_j e, iset_k (by decide)]; exact c3 j (by omega)
    · left
      obtain rfl : k = 144 := by omega
      exact ⟨(nI 144, Q), rfl, c1, c2, fun j hj => c3 j (by omega)⟩)
  have hL0 : L_204_2 (nI s) 0 M = some (y0, B) := p1
  dsimp only at p2 p3 p4
  have b0 : RR (UD n K tb s (Dn 0 0)) (AD n K tb s (Dn 0 0)) B := ⟨fun h hh => ⟨7, p4 h hh, bt7 _ (fun c _ _ l' i' hD => absurd hD (by unfold Dn; omega))⟩, fun h k hhk hk => ⟨511, by decide, p3 _ (by omega), fun c d c1 c3 d1 d3 => ⟨fun _ l' i' hD => absurd hD (by unfold Dn; omega), fun _ => t511 _ (by omega)⟩⟩⟩
  obtain ⟨⟨y1, R⟩, q1, q2, q3⟩ := loopF (body := B_204_37 (nI s)) (fun l s' => s'.1 = nI l ∧ Chg 87 88 M s'.2 ∧ RR (UD n K tb s (Dn l 0)) (AD n K tb s (Dn l 0)) s'.2) (fun s' => Chg 87 88 M s'.2 ∧ RR (UD n K tb s tt2) (AD n K tb s tt2) s'.2) n (by omega) (s := ((0 : Int32), B)) ⟨rfl, p2, b0⟩ (by
    rintro l ⟨y, Q⟩ hl ⟨rfl, c1, c2⟩
    dsimp only at c1 c2
    have hq0 : Q 78 (0 : Int32).toNatClampNeg = nI n := (c1 78 0 (by omega)).trans hC.1
    unfold B_204_37 J_204_173_37
    dsimp only
    rw [hq0]
    by_cases hln : l < n
    · right
      have hk := (hW.2 l hln).1
      have hm := mny_lt hk
      have inner : ∃ z, L_204_49 (nI s) (nI l) 0 Q = some z ∧ Chg 87 88 M z.2 ∧ RR (UD n K tb s (Dn (l + 1) 0)) (AD n K tb s (Dn (l + 1) 0)) z.2 := by
        obtain ⟨⟨y2, T⟩, r1, r2, r3⟩ := loopF (body := B_204_49 (nI s) (nI l)) (fun i s' => s'.1 = nI i ∧ Chg 87 88 M s'.2 ∧ RR (UD n K tb s (Dn l i)) (AD n K tb s (Dn l i)) s'.2) (fun s' => Chg 87 88 M s'.2 ∧ RR (UD n K tb s (Dn (l + 1) 0)) (AD n K tb s (Dn (l + 1) 0)) s'.2) (mny (K l)) (by omega) (s := ((0 : Int32), Q)) ⟨rfl, c1, c2⟩ (by
          rintro i ⟨y, T⟩ hi ⟨rfl, d1, d2⟩
          dsimp only at d1 d2
          have hCT : LQ 78 n K P tb T := d1.LQ (by omega) hn hC
          have hTT : C11 T := d1.C11 (by omega) hT
          unfold B_204_49 J_204_167_49
          dsimp only
          rw [has_ok (by omega) (by omega)]
          cases hb : s.testBit l
          · left
            have hi0 : RR (UD n K tb s (Dn (l + 1) 0)) (AD n K tb s (Dn (l + 1) 0)) T := d2.im (fun k c _ _ _ => by
              constructor
              · intro z l' i' hD h1 h2 h3 h4
                by_cases e : l' = l
                · subst e; rw [hb] at h2; cases h2
                · exact z l' i' (Or.inl (by rcases hD with q | q <;> omega)) h1 h2 h3 h4
              · intro z l' i' hD h1 h2 h3 h4
                exact z l' i' (Or.inl (by rcases hD with q | q <;> omega)) h1 h2 h3 h4) (fun h k c d _ _ _ _ _ _ => by
              constructor
              · intro z l' i' hD h1 h2 h3 h4
                by_cases e : l' = l
                · subst e; rw [hb] at h2; cases h2
                · exact z l' i' (Or.inl (by rcases hD with q | q <;> omega)) h1 h2 h3 h4
              · intro z l' i' hD h1 h2 h3 h4
                exact z l' i' (Or.inl (by rcases hD with q | q <;> omega)) h1 h2 h3 h4)
            exact ⟨(nI i, T), by simp only [Bool.false_eq_true, Bool.true_eq_false, if_false, if_true], d1, hi0⟩
          · simp only [if_true, one_ne, if_false]
            rw [cas_ok hW hCT hTT hln]
            dsimp only
            by_cases him : i < mny (K l)
            · right
              have f1 := fa_lt _ hk i him
              have f2 := fb_lt _ hk i him
              have hb5 := ((hW.2 l hln).2.2 i him).1
              have htb := (hCT.2 l hln).2.2 i him
              rw [hal_ok hW hCT hTT hln him, otr_ok hW hCT hTT hln him]
              dsimp only
              have x1 : (110 : Int32) + 32 * nI l + nI i = nI (110 + 32 * l + i) := by rw [show (32 : Int32) * nI l = nI (32 * l) from ni_mul 32 l, show (110 : Int32) + nI (32 * l) = nI (110 + 32 * l) from ni_add 110 _, ni_add]
              have x2 : inb (nI (110 + 32 * l + i)) 366 = true := (inb_nI (by omega)).mpr (by omega)
              have x3 : (nI (110 + 32 * l + i)).toNatClampNeg = 110 + 32 * l + i := ni_cl (by omega)
              have x0 : ¬ nI (mny (K l)) ≤ nI i := nI_ge him (by omega)
              simp only [x0, x1, x2, x3, if_false, if_true, htb]
              cases hp : pr (K l)
              · have ep : rtb (K l) (tb l i) = tb l i % 2 + 2 * (tb l i / 8 % 2) + 4 * (tb l i / 64 % 2) := by unfold rtb; rw [if_neg (by rw [hp]; decide)]
                obtain ⟨m, m1, m2⟩ := d2.1 (fa (K l) i) f1
                have x4 : inb (nI (fa (K l) i)) 12 = true := (inb_nI (by omega)).mpr f1
                have x5 : (nI (fa (K l) i)).toNatClampNeg = fa (K l) i := ni_cl (by omega)
                simp only [Bool.false_eq_true, Bool.true_eq_false, if_false, show ¬ ((0 : Int32) ≤ -1) by decide, x4, x5, if_true, m1, ni_and]
                refine ⟨him, _, by rw [ni_add1], rfl, ?_, ?_⟩
                · exact d1.set (by decide) (by decide)
                have hu := RR.u (b := rtb (K l) (tb l i)) (q := fun c => okL tb l i c c) d2 f1 m1 m2 (fun c c1 c3 => by
                  rw [ep, rtb_np _ hb5 (c - 1) (by omega), show 3 * (c - 1) = 3 * c - 3 by omega]
                  exact (okL_np hW hln him hp c1 c3 c1 c3).symm)
                exact hu.im (fun k c _ _ _ => by rw [UD_n hln hb hp him]; exact ⟨fun z => ⟨z.1, fun q => z.2 q.symm⟩, fun z => ⟨z.1, fun q => z.2 q.symm⟩⟩) (fun h k c d _ _ _ _ _ _ => (AD_n hp h k c d).symm)
              · have ep : rtb (K l) (tb l i) = tb l i := by unfold rtb; rw [if_pos hp]
                have hne := fab_ne _ hk hp i him
                rw [ep]
                have x4 : (0 : Int32) ≤ nI (fb (K l) i) := nI_pos' (by omega)
                simp only [x4, if_true]
                by_cases hlt : fa (K l) i < fb (K l) i
                · obtain ⟨m, m5, m1, m2⟩ := d2.2 _ _ hlt f2
                  have x5 : ¬ nI (fb (K l) i) ≤ nI (fa (K l) i) := nI_ge hlt (by omega)
                  have x6 : (12 : Int32) * nI (fa (K l) i) + nI (fb (K l) i) = nI (12 * fa (K l) i + fb (K l) i) := by rw [show (12 : Int32) * nI (fa (K l) i) = nI (12 * fa (K l) i) from ni_mul 12 _, ni_add]
                  have x7 : inb (nI (12 * fa (K l) i + fb (K l) i)) 144 = true := (inb_nI (by omega)).mpr (by omega)
                  have x8 : (nI (12 * fa (K l) i + fb (K l) i)).toNatClampNeg = 12 * fa (K l) i + fb (K l) i := ni_cl (by omega)
                  simp only [x5, x6, x7, x8, if_false, if_true, m1, ni_and]
                  refine ⟨him, _, by rw [ni_add1], rfl, ?_, ?_⟩
                  · exact d1.set (by decide) (by decide)
                  have hu := RR.a (b := tb l i) (q := fun c d => okL tb l i c d) d2 hlt f2 m1 m5 m2 (fun c d _ _ _ _ => Iff.rfl)
                  exact hu.im (fun k c _ _ _ => (UD_p hp k c).symm) (fun h k c d hhk _ _ _ _ _ => by
                    rw [AD_p hln hb hp him]
                    exact ⟨fun z => ⟨z.1, fun u v => z.2 u.symm v.symm, fun u v => absurd hlt (by omega)⟩, fun z => ⟨z.1, fun u v => z.2.1 u.symm v.symm⟩⟩)
                · have hgt : fb (K l) i < fa (K l) i := by omega
                  obtain ⟨m, m5, m1, m2⟩ := d2.2 _ _ hgt f1
                  have x5 : nI (fb (K l) i) ≤ nI (fa (K l) i) := nI_le (by omega) (by omega)
                  have x6 : (12 : Int32) * nI (fb (K l) i) + nI (fa (K l) i) = nI (12 * fb (K l) i + fa (K l) i) := by rw [show (12 : Int32) * nI (fb (K l) i) = nI (12 * fb (K l) i) from ni_mul 12 _, ni_add]
                  have x7 : inb (nI (12 * fb (K l) i + fa (K l) i)) 144 = true := (inb_nI (by omega)).mpr (by omega)
                  have x8 : (nI (12 * fb (K l) i + fa (K l) i)).toNatClampNeg = 12 * fb (K l) i + fa (K l) i := ni_cl (by omega)
                  simp only [x5, x6, x7, x8, if_true, (fl_k _ hb5).1, m1, ni_and]
                  refine ⟨him, _, by rw [ni_add1], rfl, ?_, ?_⟩
                  · exact d1.set (by decide) (by decide)
                  have hu := RR.a (b := flN (tb l i)) (q := fun c d => okL tb l i d c) d2 hgt f1 m1 m5 m2 (fun c d c1 c3 e1 e3 => by rw [fl_b hb5 c1 c3 e1 e3]; exact Iff.rfl)
                  exact hu.im (fun k c _ _ _ => (UD_p hp k c).symm) (fun h k c d hhk _ _ _ _ _ => by
                    rw [AD_p hln hb hp him]
                    exact ⟨fun z => ⟨z.1, fun u v => absurd hgt (by omega), fun u v => z.2 v.symm u.symm⟩, fun z => ⟨z.1, fun u v => z.2.2 v.symm u.symm⟩⟩)
            · left
              obtain rfl : i = mny (K l) := by omega
              refine ⟨(nI (mny (K l)), T), ?_, d1, d2.im (fun k c _ _ _ => UD_e k c) (fun h k c d _ _ _ _ _ _ => AD_e h k c d)⟩
              simp (disch := omega) only [ni_lei, if_pos, if_neg, if_true, if_false])
        exact ⟨(y2, T), r1, r2, r3⟩
      obtain ⟨⟨y2, T⟩, i1, i2, i3⟩ := inner
      refine ⟨hln, (nI (l + 1), T), ?_, rfl, i2, i3⟩
      simp (disch := omega) only [ni_lei, if_pos, if_neg, if_true, if_false, i1, ni_add1]
    · left
      obtain rfl : l = n := by omega
      refine ⟨(nI l, Q), ?_, c1, c2.im (fun k c _ _ _ => UD_t k c) (fun h k c d _ _ _ _ _ _ => AD_t h k c d)⟩
      simp (disch := omega) only [ni_lei, if_pos, if_neg, if_true, if_false])
  have hL1 : L_204_37 (nI s) 0 B = some (y1, R) := q1
  unfold F_204 J_204_35
  rw [hL0]
  dsimp only
  rw [hL1]
  exact ⟨R, rfl, q2, q3⟩
end GATHER
