/-! the showing, unfolded: the reference -/
def RF (M M' : IM) : Prop := ∀ k j, ¬ (k = 91 ∨ k = 92 ∨ (k = 77 ∧ j = 25)) → M' k j = M k j
theorem RF.rf (M : IM) : RF M M := fun _ _ _ => rfl
theorem RF.tr {M M1 M2 : IM} (h : RF M M1) (h2 : RF M1 M2) : RF M M2 := fun k j hk => (h2 k j hk).trans (h k j hk)
theorem RF.set {M M1 : IM} {k j : Nat} {x : Int32} (h : RF M M1) (hk : k = 91 ∨ k = 92 ∨ (k = 77 ∧ j = 25)) : RF M (iset M1 k j x) := fun k' j' h' => by
  rw [iset_eq, if_neg (fun z => h' (by rw [z.1, z.2]; exact hk))]
  exact h k' j' h'
theorem RF.a {M M' : IM} (h : RF M M') : agx 0 M M' := fun k j h1 _ => h k j (fun z => h1 (by
  rcases z with rfl | rfl | ⟨rfl, rfl⟩
  · exact cid0b (by decide) j
  · exact cid0b (by decide) j
  · decide))
theorem RF.LQ {n : Nat} {K P : Nat → Nat} {tb : Nat → Nat → Nat} {M M' : IM} (h : RF M M') (hn : n ≤ 8) (hC : LQ 78 n K P tb M) : LQ 78 n K P tb M' := hC.cg hn (fun j hk => h 78 j (by omega))
theorem RF.C11 {M M' : IM} (h : RF M M') (hC : C11 M) : C11 M' := hC.cg (fun k j h1 h2 => h k j (by omega))
theorem tb2 (m d : Nat) (h : 1 ≤ d) : (2 * m).testBit d = m.testBit (d - 1) := by
  obtain ⟨e, rfl⟩ : ∃ e, d = e + 1 := ⟨d - 1, by omega⟩
  rw [Nat.testBit_succ, Nat.mul_div_cancel_left _ (by decide), Nat.add_sub_cancel]
theorem ln91 : ln 91 = 12 := by decide
section UNR
variable {n l i c st : Nat} {K P : Nat → Nat} {tb : Nat → Nat → Nat} {M : IM} {s : SS}
theorem f218 (hs : ShL s M) (ho : okS s) : (F_218 M = some 1 ∧ emp s.1) ∨ (F_218 M = some 0 ∧ ¬ emp s.1) := by
  obtain ⟨⟨x, y⟩, g1, g2⟩ := loopF (body := B_218_4 M) (fun k z => z.2 = nI k ∧ ((z.1 = 1 ∧ ∃ h, h < k ∧ s.1 h = 0) ∨ (z.1 = 0 ∧ ¬ ∃ h, h < k ∧ s.1 h = 0))) (fun z => (z.1 = 1 ∧ emp s.1) ∨ (z.1 = 0 ∧ ¬ emp s.1)) 12 (by decide) (s := ((0 : Int32), (0 : Int32))) ⟨rfl, Or.inr ⟨rfl, fun ⟨h, h1, _⟩ => absurd h1 (Nat.not_lt_zero _)⟩⟩ (by
    rintro k ⟨x, y⟩ hk ⟨rfl, q⟩
    dsimp only at q
    unfold B_218_4 J_218_23_4 J_218_28_4
    dsimp only
    by_cases hk2 : k < 12
    · right
      rw [if_neg (show ¬ (12 : Int32) ≤ nI k from nI_ge (b := 12) hk2 (by decide)), ni_add1]
      refine ⟨hk2, ?_⟩
      rcases q with ⟨rfl, h, h1, h2⟩ | ⟨rfl, hq⟩
      · rw [if_neg one_ne]
        exact ⟨_, rfl, rfl, Or.inl ⟨rfl, h, by omega, h2⟩⟩
      · rw [if_pos rfl, if_pos ((inb_nI (by omega)).mpr hk2), ni_cl (by omega), hs k hk2]
        by_cases hz : s.1 k = 0
        · rw [hz, if_pos (show nI (2 * 0) = 0 from rfl)]
          exact ⟨_, rfl, rfl, Or.inl ⟨rfl, k, by omega, hz⟩⟩
        · rw [if_neg (nI_ne0 (by omega) (by have := ho.1 k hk2; omega))]
          refine ⟨_, rfl, rfl, Or.inr ⟨rfl, ?_⟩⟩
          rintro ⟨h, h1, h2⟩
          by_cases e : h = k
          · rw [e] at h2; exact hz h2
          · exact hq ⟨h, by omega, h2⟩
    · left
      obtain rfl : k = 12 := by omega
      exact ⟨_, rfl, q⟩)
  unfold F_218 L_218_4
  rw [g1]
  rcases g2 with ⟨rfl, g2⟩ | ⟨rfl, g2⟩
  · exact Or.inl ⟨rfl, g2⟩
  · exact Or.inr ⟨rfl, g2⟩
theorem f217 {o : Bool} (hW : LW n K P tb) (hQ : LQ 78 n K P tb M) (hT : C11 M) (hs : ShL s M) (ho : okS s) (hl : l < n) (hi : i < mny (K l)) (hpo : o = true → pr (K l) = true) (h1 : 1 ≤ c) (h3 : c ≤ 3) : (F_217 (nI l) (nI i) (bif o then 1 else 0) (nI c) M = some 1 ∧ gOn K tb l i o c s.1) ∨ (F_217 (nI l) (nI i) (bif o then 1 else 0) (nI c) M = some 0 ∧ ¬ gOn K tb l i o c s.1) := by
  have hk := (hW.2 l hl).1
  have f1 := fa_lt _ hk i hi
  have f2 := fb_lt _ hk i hi
  unfold F_217
  rw [oth_ok hW hQ hl]
  dsimp only
  cases hp : pr (K l)
  · simp only [Bool.false_eq_true, Bool.true_eq_false, if_false, if_true]
    rw [goes_n hW hQ hl hi hp h1 h3 0, gOn_n hp]
    dsimp only
    have ok := okL_np hW hl hi hp h1 h3 h1 h3
    cases hx : (tb l i).testBit (3 * c - 3)
    · exact Or.inr ⟨rfl, fun z => by have := ok.mp z; rw [hx] at this; cases this⟩
    · exact Or.inl ⟨rfl, ok.mpr hx⟩
  · simp only [if_true, one_ne, if_false]
    have key : ∀ (o' : Bool) (g : Nat) (ok : Nat → Prop), g < 12 → (∀ d, 1 ≤ d → d ≤ 3 → (if (bif o' then (1 : Int32) else 0) = 0 then F_198 (nI l) (nI i) (nI c) (nI d) M else F_198 (nI l) (nI i) (nI d) (nI c) M) = some (if bP (ok d) = true then 1 else 0)) → ∃ x, J_217_44 (nI l) (nI i) (bif o' then 1 else 0) (nI c) 0 (nI g) M = some x ∧ ((x = 1 ∧ ∃ d, 1 ≤ d ∧ d ≤ 3 ∧ ok d ∧ (s.1 g).testBit (d - 1) = true) ∨ (x = 0 ∧ ¬ ∃ d, 1 ≤ d ∧ d ≤ 3 ∧ ok d ∧ (s.1 g).testBit (d - 1) = true)) := by
      intro o' g ok hg hok
      obtain ⟨⟨x, y⟩, g1, g2⟩ := loopF (body := B_217_50 (nI l) (nI i) (bif o' then 1 else 0) (nI c) (nI (2 * s.1 g)) M) (fun k z => z.2 = nI (k + 1) ∧ ((z.1 = 1 ∧ ∃ d, 1 ≤ d ∧ d ≤ k ∧ ok d ∧ (s.1 g).testBit (d - 1) = true) ∨ (z.1 = 0 ∧ ¬ ∃ d, 1 ≤ d ∧ d ≤ k ∧ ok d ∧ (s.1 g).testBit (d - 1) = true))) (fun z => (z.1 = 1 ∧ ∃ d, 1 ≤ d ∧ d ≤ 3 ∧ ok d ∧ (s.1 g).testBit (d - 1) = true) ∨ (z.1 = 0 ∧ ¬ ∃ d, 1 ≤ d ∧ d ≤ 3 ∧ ok d ∧ (s.1 g).testBit (d - 1) = true)) 3 (by decide) (s := ((0 : Int32), (1 : Int32))) ⟨rfl, Or.inr ⟨rfl, fun ⟨d, d1, d2, _⟩ => by omega⟩⟩ (by
        rintro k ⟨x, y⟩ hk3 ⟨rfl, q⟩
        dsimp only at q
        unfold B_217_50 J_217_104_50 J_217_108_50 J_217_109_50
        dsimp only
        by_cases hk2 : k < 3
        · right
          rw [if_neg (gt3 (show k + 1 ≤ 3 by omega)), ni_add1]
          refine ⟨hk2, ?_⟩
          rcases q with ⟨rfl, d, d1, d2, d3⟩ | ⟨rfl, hq⟩
          · rw [if_neg one_ne]
            exact ⟨_, rfl, rfl, Or.inl ⟨rfl, d, d1, by omega, d3⟩⟩
          · rw [if_pos rfl, has_ok (by have := ho.1 g hg; omega) (by omega), tb2 _ _ (by omega)]
            cases hb : (s.1 g).testBit (k + 1 - 1)
            · simp only [Bool.false_eq_true, Bool.true_eq_false, if_false, if_true]
              refine ⟨_, rfl, rfl, Or.inr ⟨rfl, ?_⟩⟩
              rintro ⟨d, d1, d2, d3, d4⟩
              by_cases e : d = k + 1
              · rw [e, hb] at d4; cases d4
              · exact hq ⟨d, d1, by omega, d3, d4⟩
            · simp only [if_true, one_ne, if_false]
              have hok1 := hok (k + 1) (by omega) (by omega)
              by_cases hok2 : ok (k + 1)
              · rw [bP_t hok2] at hok1
                refine ⟨(1, nI (k + 1 + 1)), ?_, rfl, Or.inl ⟨rfl, k + 1, by omega, Nat.le_refl _, hok2, hb⟩⟩
                cases o'
                · simp only [cond_false, if_true] at hok1 ⊢
                  rw [hok1]; rfl
                · simp only [cond_true, one_ne, if_false, if_true] at hok1 ⊢
                  rw [hok1]; rfl
              · rw [bP_f hok2] at hok1
                refine ⟨(0, nI (k + 1 + 1)), ?_, rfl, Or.inr ⟨rfl, ?_⟩⟩
                · cases o'
                  · simp only [cond_false, if_true, Bool.false_eq_true, Bool.true_eq_false, if_false] at hok1 ⊢
                    rw [hok1]; rfl
                  · simp only [cond_true, one_ne, if_false, Bool.false_eq_true, Bool.true_eq_false] at hok1 ⊢
                    rw [hok1]; rfl
                · rintro ⟨d, d1, d2, d3, d4⟩
                  by_cases e : d = k + 1
                  · rw [e] at d3; exact hok2 d3
                  · exact hq ⟨d, d1, by omega, d3, d4⟩
        · left
          obtain rfl : k = 3 := by omega
          exact ⟨_, rfl, q⟩)
      unfold J_217_44
      rw [if_pos ((inb_nI (by omega)).mpr hg), ni_cl (by omega), hs g hg]
      unfold L_217_50
      rw [g1]
      exact ⟨x, rfl, g2⟩
    cases o
    · rw [gOn_f hp]
      simp only [cond_false, if_true]
      rw [otr_ok hW hQ hT hl hi, hp, if_pos rfl]
      dsimp only
      obtain ⟨x, x1, x2⟩ := key false (fb (K l) i) (fun d => okL tb l i c d) f2 (fun d d1 d3 => by
        rw [cond_false, if_pos rfl, goes_p hW hQ hl hi hp h1 h3 d1 d3]
        by_cases hz : (tb l i).testBit (3 * c + d - 4) = true
        · rw [bP_t (p := okL tb l i c d) hz, if_pos hz, if_pos rfl]
        · rw [bP_f (p := okL tb l i c d) hz, if_neg hz, if_neg (by decide)])
      rw [cond_false] at x1
      rw [x1]
      rcases x2 with ⟨rfl, x2⟩ | ⟨rfl, x2⟩
      · exact Or.inl ⟨rfl, x2⟩
      · exact Or.inr ⟨rfl, x2⟩
    · rw [gOn_t hp]
      simp only [cond_true, one_ne, if_false]
      rw [hal_ok hW hQ hT hl hi]
      dsimp only
      obtain ⟨x, x1, x2⟩ := key true (fa (K l) i) (fun d => okL tb l i d c) f1 (fun d d1 d3 => by
        rw [cond_true, if_neg one_ne, goes_p hW hQ hl hi hp d1 d3 h1 h3]
        by_cases hz : (tb l i).testBit (3 * d + c - 4) = true
        · rw [bP_t (p := okL tb l i d c) hz, if_pos hz, if_pos rfl]
        · rw [bP_f (p := okL tb l i d c) hz, if_neg hz, if_neg (by decide)])
      rw [cond_true] at x1
      rw [x1]
      rcases x2 with ⟨rfl, x2⟩ | ⟨rfl, x2⟩
      · exact Or.inl ⟨rfl, x2⟩
      · exact Or.inr ⟨rfl, x2⟩
/-- what a strike does to the row of what is left -/
theorem ShL.stk {h : Nat} (hs : ShL s M) (ho : okS s) (hh : h < 12) (h1 : 1 ≤ c) (h3 : c ≤ 3) (hb : (s.1 h).testBit (c - 1) = true) : M 91 h &&& (((1 : Int32) <<< (nI c &&& 31)) ^^^ (-1)) = nI (2 * (s.1 h - 2 ^ (c - 1))) ∧ ShL (stk s l h c) (iset M 91 h (nI (2 * (s.1 h - 2 ^ (c - 1))))) := by
  obtain ⟨p1, p2, -, p4⟩ := p8_strike (s.1 h) (ho.1 h hh) (c - 1) (by omega) hb
  rw [show c - 1 + 1 = c by omega] at p4
  refine ⟨by rw [hs h hh]; exact p4, fun k hk => ?_⟩
  show _ = nI (2 * updN s.1 h (s.1 h - 2 ^ (c - 1)) k)
  unfold updN
  by_cases e : k = h
  · rw [e, iset_same, if_pos rfl]
  · rw [iset_j e, if_neg e]; exact hs k hk
theorem f220 {o : Bool} (hW : LW n K P tb) (hQ : LQ 78 n K P tb M) (hT : C11 M) (hs : ShR s M) (ho : okS s) (hl : l < n) (hi : i < mny (K l)) (hpo : o = true → pr (K l) = true) : ∃ M', F_220 (nI l) (nI i) (bif o then 1 else 0) M = some M' ∧ RF M M' ∧ ShR (skN K tb l i o s 3) M' := by
  have hk := (hW.2 l hl).1
  have hn := hW.1
  have hh : hlO K l i o < 12 := by
    unfold hlO
    cases o
    · exact fa_lt _ hk i hi
    · exact fb_lt _ hk i hi
  have i1 : inb (nI (hlO K l i o)) 12 = true := (inb_nI (by omega)).mpr hh
  have i2 : (nI (hlO K l i o)).toNatClampNeg = hlO K l i o := ni_cl (by omega)
  obtain ⟨⟨y, M'⟩, g1, g2, g3⟩ := loopF (body := B_220_24 (nI l) (nI i) (bif o then 1 else 0) (nI (hlO K l i o))) (fun k z => z.1 = nI (k + 1) ∧ RF M z.2 ∧ ShR (skN K tb l i o s k) z.2) (fun z => RF M z.2 ∧ ShR (skN K tb l i o s 3) z.2) 3 (by decide) (s := ((1 : Int32), M)) ⟨rfl, RF.rf M, hs⟩ (by
    rintro k ⟨x, Q⟩ hk3 ⟨rfl, q1, q2⟩
    unfold B_220_24 J_220_111_24
    dsimp only at q1 q2 ⊢
    by_cases hk2 : k < 3
    · obtain ⟨o1, -⟩ := okS.skN (o := o) hW ho hl hi k hk3
      rw [if_neg (gt3 (show k + 1 ≤ 3 by omega))]
      rcases f218 q2.1 o1 with ⟨e1, e2⟩ | ⟨e1, e2⟩
      · left
        simp only [e1, one_ne, if_false]
        refine ⟨_, rfl, q1, ?_⟩
        have := skN_emp e2 (3 - k)
        rw [show k + (3 - k) = 3 by omega] at this
        rw [this]; exact q2
      · right
        refine ⟨hk2, ?_⟩
        have hQQ := q1.LQ hn hQ
        have hTT := q1.C11 hT
        have hS : skN K tb l i o s (k + 1) = sk1 K tb l i o (k + 1) (skN K tb l i o s k) := rfl
        simp only [e1, if_true, i1, i2, q2.1 _ hh, has_ok (s := 2 * (skN K tb l i o s k).1 (hlO K l i o)) (l := k + 1) (by have := o1.1 _ hh; omega) (by omega), tb2 _ (k + 1) (show 1 ≤ k + 1 by omega), ni_add1]
        cases hb : ((skN K tb l i o s k).1 (hlO K l i o)).testBit (k + 1 - 1)
        · simp only [Bool.false_eq_true, Bool.true_eq_false, if_false, if_true]
          refine ⟨_, rfl, rfl, q1, ?_⟩
          rw [hS]; unfold sk1
          rw [bP_f (fun z => by have z2 := z.2.1; rw [hb] at z2; cases z2), cond_false]
          exact q2
        · simp only [if_true, one_ne, if_false]
          rcases f217 (c := k + 1) (o := o) hW hQQ hTT q2.1 o1 hl hi hpo (by omega) (by omega) with ⟨a1, a2⟩ | ⟨a1, a2⟩
          · simp only [a1, one_ne, if_false]
            refine ⟨_, rfl, rfl, q1, ?_⟩
            rw [hS]; unfold sk1
            rw [bP_f (fun z => z.2.2 a2), cond_false]
            exact q2
          · obtain ⟨b1, b2⟩ := q2.1.stk (l := l) o1 hh (c := k + 1) (by omega) (by omega) hb
            obtain ⟨o2, o3⟩ := o1.stk (l := l) (show l < 8 by omega) hh (show 1 ≤ k + 1 by omega) (by omega) hb
            rw [q2.1 _ hh] at b1
            generalize hv : (skN K tb l i o s k).1 (hlO K l i o) - 2 ^ (k + 1 - 1) = v at b1 b2
            simp only [a1, if_true, b1]
            have k77 : (iset Q 91 (hlO K l i o) (nI (2 * v))) 77 25 = nI (skN K tb l i o s k).2.length := by rw [iset_k (by decide)]; exact q2.2.1
            have k77b : ∀ u, (iset (iset Q 91 (hlO K l i o) (nI (2 * v))) 92 (skN K tb l i o s k).2.length u) 77 25 = nI (skN K tb l i o s k).2.length := fun u => by rw [iset_k (by decide)]; exact k77
            have i3 : (48 : Int32) * nI l + 4 * nI (hlO K l i o) + nI (k + 1) = nI (48 * l + 4 * hlO K l i o + (k + 1)) := by
              rw [show (48 : Int32) * nI l = nI (48 * l) from ni_mul 48 l, show (4 : Int32) * nI (hlO K l i o) = nI (4 * hlO K l i o) from ni_mul 4 _, ni_add, ni_add]
            simp only [k77, (inb_nI (show (skN K tb l i o s k).2.length < 2147483648 by omega)).mpr o3, if_true, ni_cl (show (skN K tb l i o s k).2.length < 2147483648 by omega), k77b, i3, ni_add1]
            refine ⟨_, rfl, rfl, ((q1.set (Or.inl rfl)).set (Or.inr (Or.inl rfl))).set (Or.inr (Or.inr ⟨rfl, rfl⟩)), ?_⟩
            rw [hS]; unfold sk1
            rw [bP_t ⟨e2, hb, a2⟩, cond_true]
            dsimp only
            refine ⟨fun k' hk' => by rw [iset_k (by decide), iset_k (by decide)]; exact b2 k' hk', ?_, fun j hj => ?_⟩
            · rw [iset_same]
              show _ = nI ((skN K tb l i o s k).2 ++ [48 * l + 4 * hlO K l i o + (k + 1)]).length
              rw [List.length_append, List.length_singleton]
            · have hj : j < ((skN K tb l i o s k).2 ++ [48 * l + 4 * hlO K l i o + (k + 1)]).length := hj
              rw [List.length_append, List.length_singleton] at hj
              show _ = nI (((skN K tb l i o s k).2 ++ [48 * l + 4 * hlO K l i o + (k + 1)]).getD j 0)
              rw [iset_k (by decide), getD_app]
              by_cases e : j < (skN K tb l i o s k).2.length
              · rw [iset_j (by omega), iset_k (by decide), if_pos e]; exact q2.2.2 j e
              · obtain rfl : j = (skN K tb l i o s k).2.length := by omega
                rw [iset_same, if_neg e, if_pos rfl]
    · left
      obtain rfl : k = 3 := by omega
      exact ⟨_, if_pos (by decide), q1, q2⟩)
  have hJ : J_220_19 (nI l) (nI i) (bif o then 1 else 0) (nI (hlO K l i o)) M = some M' := by
    unfold J_220_19 L_220_24
    rw [g1]
  refine ⟨M', ?_, g2, g3⟩
  unfold F_220
  cases o
  · rw [cond_false, if_pos rfl, hal_ok hW hQ hT hl hi]
    exact hJ
  · rw [cond_true, if_neg one_ne, otr_ok hW hQ hT hl hi, hpo rfl, if_pos rfl]
    exact hJ
theorem f219 : ∃ M', F_219 M = some M' ∧ RF M M' ∧ ShR S0 M' := by
  unfold F_219 L_219_2 J_219_22
  have g := loopI (B := B_219_2) (fun k => (nI k, wr M 91 0 k (fun _ => 14))) (r := (nI 12, wr M 91 0 12 (fun _ => 14))) 12 (by decide) (fun k hk => by
    unfold B_219_2
    dsimp only
    rw [if_neg (show ¬ (12 : Int32) ≤ nI k from nI_ge (b := 12) hk (by decide)), if_pos ((inb_nI (by omega)).mpr hk), ni_cl (by omega), ni_add1, wr_s (Nat.zero_le _) rfl]) rfl
  rw [wr_0] at g
  rw [show (0 : Int32) = nI 0 from rfl, g]
  refine ⟨_, rfl, fun k j hk => ?_, fun h hh => ?_, ?_, fun j hj => absurd hj (Nat.not_lt_zero _)⟩
  · rw [iset_eq, if_neg (fun z => hk (Or.inr (Or.inr z))), wr_k (fun z => hk (Or.inl z))]
  · rw [iset_k (by decide), wr_in (Nat.zero_le _) hh]; rfl
  · rw [iset_same]; rfl
theorem l41r (hW : LW n K P tb) (hQ : LQ 78 n K P tb M) (hT : C11 M) (hst : st < 256) (hs : ShR s M) (ho : okS s) (hl : l < n) (x2 : Int32) : ∃ y M', L_221_41 (nI st) x2 (nI l) 0 M = some (y, M') ∧ RF M M' ∧ ShR (bif st.testBit l then lawS K tb l s (mny (K l)) else s) M' := by
  have hk := (hW.2 l hl).1
  have hn := hW.1
  have hm := mny_lt hk
  obtain ⟨⟨y, M'⟩, g1, g2, g3⟩ := loopF (body := B_221_41 (nI st) x2 (nI l)) (fun k z => z.1 = nI k ∧ RF M z.2 ∧ ShR (bif st.testBit l then lawS K tb l s k else s) z.2) (fun z => RF M z.2 ∧ ShR (bif st.testBit l then lawS K tb l s (mny (K l)) else s) z.2) (mny (K l)) (by omega) (s := ((0 : Int32), M)) ⟨rfl, RF.rf M, by cases st.testBit l <;> exact hs⟩ (by
    rintro k ⟨x, Q⟩ hkm ⟨rfl, q1, q2⟩
    unfold B_221_41 J_221_83_41
    dsimp only at q1 q2 ⊢
    have hQQ := q1.LQ hn hQ
    have hTT := q1.C11 hT
    rw [has_ok (by omega) (by omega)]
    cases hb : st.testBit l
    · left
      rw [hb] at q2
      rw [if_neg (show ¬ false = true by decide), if_pos rfl]
      exact ⟨_, rfl, q1, q2⟩
    · rw [hb, cond_true] at q2
      rw [if_pos rfl, if_neg one_ne, cas_ok hW hQQ hTT hl]
      dsimp only
      by_cases hk2 : k < mny (K l)
      · right
        obtain ⟨o1, -⟩ := okS.law hW ho hl k hkm
        rw [if_neg (show ¬ nI (mny (K l)) ≤ nI k from nI_ge hk2 (by omega))]
        refine ⟨hk2, ?_⟩
        obtain ⟨M1, a1, a2, a3⟩ := f220 (o := false) hW hQQ hTT q2 o1 hl hk2 (fun z => absurd z (by decide))
        have hQ1 := a2.LQ hn hQQ
        have hT1 := a2.C11 hTT
        rw [cond_false] at a1
        rw [a1]
        dsimp only
        rw [oth_ok hW hQ1 hl]
        dsimp only
        cases hp : pr (K l)
        · simp only [Bool.false_eq_true, Bool.true_eq_false, if_false, if_true]
          refine ⟨_, rfl, ni_add1 k, q1.tr a2, ?_⟩
          show ShR (caseS K tb l k (lawS K tb l s k)) M1
          unfold caseS
          rw [hp]; exact a3
        · simp only [if_true, one_ne, if_false]
          obtain ⟨o2, -⟩ := okS.skN (o := false) hW o1 hl hk2 3 (by decide)
          obtain ⟨M2, b1, b2, b3⟩ := f220 (o := true) hW hQ1 hT1 a3 o2 hl hk2 (fun _ => hp)
          rw [cond_true] at b1
          rw [b1]
          dsimp only
          refine ⟨_, rfl, ni_add1 k, (q1.tr a2).tr b2, ?_⟩
          show ShR (caseS K tb l k (lawS K tb l s k)) M2
          unfold caseS
          rw [hp]; exact b3
      · left
        obtain rfl : k = mny (K l) := by omega
        exact ⟨_, if_pos (nI_le (Nat.le_refl _) (by omega)), q1, q2⟩)
  exact ⟨y, M', g1, g2, g3⟩
theorem l28r (hW : LW n K P tb) (hQ : LQ 78 n K P tb M) (hT : C11 M) (hst : st < 256) (hs : ShR s M) (ho : okS s) (x2 : Int32) : ∃ y M', L_221_28 (nI st) x2 0 M = some (y, M') ∧ RF M M' ∧ ShR (rndS K tb st s n) M' := by
  have hn := hW.1
  obtain ⟨⟨y, M'⟩, g1, g2, g3⟩ := loopF (body := B_221_28 (nI st) x2) (fun k z => z.1 = nI k ∧ RF M z.2 ∧ ShR (rndS K tb st s k) z.2) (fun z => RF M z.2 ∧ ShR (rndS K tb st s n) z.2) n (by omega) (s := ((0 : Int32), M)) ⟨rfl, RF.rf M, hs⟩ (by
    rintro k ⟨x, Q⟩ hkm ⟨rfl, q1, q2⟩
    unfold B_221_28 J_221_89_28
    dsimp only at q1 q2 ⊢
    have hQQ := q1.LQ hn hQ
    have hTT := q1.C11 hT
    rw [show (0 : Int32).toNatClampNeg = 0 from rfl, hQQ.1]
    by_cases hk2 : k < n
    · right
      obtain ⟨o1, -⟩ := okS.rnd (st := st) hW ho k hkm
      obtain ⟨y, M1, a1, a2, a3⟩ := l41r hW hQQ hTT hst q2 o1 hk2 x2
      rw [if_neg (show ¬ nI n ≤ nI k from nI_ge hk2 (by omega)), a1]
      exact ⟨hk2, _, rfl, ni_add1 k, q1.tr a2, a3⟩
    · left
      obtain rfl : k = n := by omega
      exact ⟨_, if_pos (nI_le (Nat.le_refl _) (by omega)), q1, q2⟩)
  exact ⟨y, M', g1, g2, g3⟩
theorem f221 {k : Nat} (hW : LW n K P tb) (hQ : LQ 78 n K P tb M) (hT : C11 M) (hst : st < 256) (h36 : k ≤ 36) (h1 : stopS n K tb st k) (h2 : ∀ j, j < k → ¬ stopS n K tb st j) : ∃ M', F_221 (nI st) M = some M' ∧ RF M M' ∧ ShR (RN n K tb st k) M' := by
  have hn := hW.1
  obtain ⟨M1, a1, a2, a3⟩ := f219 (M := M)
  obtain ⟨⟨y, M'⟩, g1, g2, g3⟩ := loopF (body := B_221_6 (nI st)) (fun j w => w.1 = (if j = 0 then -1 else nI (RN n K tb st (j - 1)).2.length) ∧ RF M w.2 ∧ ShR (RN n K tb st j) w.2) (fun w => RF M w.2 ∧ ShR (RN n K tb st k) w.2) k (by omega) (s := ((-1 : Int32), M1)) ⟨rfl, a2, a3⟩ (by
    rintro j ⟨x, Q⟩ hjk ⟨e0, q1, q2⟩
    dsimp only at e0 q1 q2
    unfold B_221_6 J_221_95_6
    dsimp only
    have hQQ := q1.LQ hn hQ
    have hTT := q1.C11 hT
    have ho := okS.rn (st := st) hW j
    have hlen : (RN n K tb st j).2.length ≤ 36 := by have := ho.2.1; omega
    have hx : (x = Q 77 25) ↔ (0 < j ∧ (RN n K tb st j).2.length = (RN n K tb st (j - 1)).2.length) := by
      rw [q2.2.1, e0, eq_comm]
      by_cases e : j = 0
      · rw [if_pos e]
        exact ⟨fun z => absurd z (by rw [ni_ne_neg (by omega) ni_neg1]; exact id), fun z => absurd z.1 (by omega)⟩
      · rw [if_neg e, ni_eqi (by omega) (by have := (okS.rn (st := st) hW (j - 1)).2.1; omega)]
        exact ⟨fun z => ⟨by omega, z⟩, fun z => z.2⟩
    by_cases hj : j < k
    · right
      have hns := h2 j hj
      rw [if_neg (fun z => hns (Or.inr (hx.mp z)))]
      rcases f218 q2.1 ho with ⟨e1, e2⟩ | ⟨e1, e2⟩
      · exact absurd (Or.inl e2) hns
      · obtain ⟨y', M8, b1, b2, b3⟩ := l28r hW hQQ hTT hst q2 ho (Q 77 25)
        rw [e1]
        dsimp only
        rw [if_pos rfl, b1]
        dsimp only
        refine ⟨hj, _, rfl, ?_, q1.tr b2, b3⟩
        rw [if_neg (by omega), Nat.add_sub_cancel]
        exact q2.2.1
    · left
      obtain rfl : j = k := by omega
      by_cases hz : x = Q 77 25
      · rw [if_pos hz]
        exact ⟨_, rfl, q1, q2⟩
      · rw [if_neg hz]
        rcases f218 q2.1 ho with ⟨e1, e2⟩ | ⟨e1, e2⟩
        · rw [e1]
          dsimp only
          rw [if_neg one_ne]
          exact ⟨_, rfl, q1, q2⟩
        · exfalso
          rcases h1 with z | z
          · exact e2 z
          · exact hz (hx.mpr z))
  unfold F_221 L_221_6
  rw [a1]
  dsimp only
  rw [g1]
  exact ⟨M', rfl, g2, g3⟩
end UNR
