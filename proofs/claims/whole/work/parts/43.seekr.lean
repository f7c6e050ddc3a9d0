/-! a row of halls, what each may choose, what goes with what: search, on the reference's side -/
def PCn (U : Nat → Nat → Prop) (A : Nat → Nat → Nat → Nat → Prop) (H h : Nat) (r : Nat → Nat) : Prop := ∀ k, k < h → H.testBit k = true → 1 ≤ r k ∧ r k ≤ 3 ∧ U k (r k) ∧ ∀ j, j < k → H.testBit j = true → A j k (r j) (r k)
def LexLe (H : Nat) (r q : Nat → Nat) : Prop := (∀ k, k < 12 → H.testBit k = true → r k = q k) ∨ ∃ k, k < 12 ∧ H.testBit k = true ∧ (∀ j, j < k → H.testBit j = true → r j = q j) ∧ r k < q k
def Fst (U : Nat → Nat → Prop) (A : Nat → Nat → Nat → Nat → Prop) (H : Nat) (r : Nat → Nat) : Prop := PCn U A H 12 r ∧ ∀ q, PCn U A H 12 q → LexLe H r q
theorem LexLe.as {H : Nat} {r q : Nat → Nat} (h1 : LexLe H r q) (h2 : LexLe H q r) : ∀ k, k < 12 → H.testBit k = true → r k = q k := by
  rcases h1 with h1 | ⟨k, hk, hH, hj, hlt⟩
  · exact h1
  · rcases h2 with h2 | ⟨k2, hk2, hH2, hj2, hlt2⟩
    · exact fun a b c => (h2 a b c).symm
    · exfalso
      rcases Nat.lt_trichotomy k k2 with e | e | e
      · have := hj2 k e hH; omega
      · subst e; omega
      · have := hj k2 e hH2; omega
theorem Fst.uq {U : Nat → Nat → Prop} {A : Nat → Nat → Nat → Nat → Prop} {H : Nat} {r q : Nat → Nat} (h1 : Fst U A H r) (h2 : Fst U A H q) : ∀ k, k < 12 → H.testBit k = true → r k = q k := (h1.2 q h2.1).as (h2.2 r h1.1)
def bt3 (m : Nat) (p : Nat → Prop) : Prop := m < 8 ∧ ∀ c, 1 ≤ c → c ≤ 3 → (m.testBit (c - 1) = true ↔ p c)
def RR (U : Nat → Nat → Prop) (A : Nat → Nat → Nat → Nat → Prop) (M : IM) : Prop := (∀ h, h < 12 → ∃ m, M 87 h = nI m ∧ bt3 m (U h)) ∧ ∀ h k, h < k → k < 12 → ∃ b, b < 512 ∧ M 88 (12 * h + k) = nI b ∧ ∀ c d, 1 ≤ c → c ≤ 3 → 1 ≤ d → d ≤ 3 → (b.testBit (3 * c + d - 4) = true ↔ A h k c d)
theorem RR.cg {U : Nat → Nat → Prop} {A : Nat → Nat → Nat → Nat → Prop} {M M' : IM} (h : RR U A M) (e : ∀ k j, k = 87 ∨ k = 88 → M' k j = M k j) : RR U A M' := by
  refine ⟨fun a ha => ?_, fun a b hab hb => ?_⟩
  · rw [e _ _ (Or.inl rfl)]; exact h.1 a ha
  · rw [e _ _ (Or.inr rfl)]; exact h.2 a b hab hb
section SEEKR
variable {U : Nat → Nat → Prop} {A : Nat → Nat → Nat → Nat → Prop} {H : Nat} {M : IM}
theorem ahead_r {h c : Nat} {r : Nat → Nat} (hR : RR U A M) (hH : H < 4096) (hh : h < 12) (hc1 : 1 ≤ c) (hc3 : c ≤ 3) (hr : ∀ k, k < h → H.testBit k = true → 1 ≤ r k ∧ r k ≤ 3 ∧ M 89 k = nI (r k)) : (F_205 (nI h) (nI c) (nI H) M = some 1 ∧ (U h c ∧ ∀ k, k < h → H.testBit k = true → A k h (r k) c)) ∨ (F_205 (nI h) (nI c) (nI H) M = some 0 ∧ ¬ (U h c ∧ ∀ k, k < h → H.testBit k = true → A k h (r k) c)) := by
  obtain ⟨m, m1, m2, m3⟩ := hR.1 h hh
  have hs : nI c - 1 = nI (c - 1) := ni_sub (b := 1) hc1
  have h0 : F_162 (M 87 h) (nI c - 1) = if m.testBit (c - 1) = true then 1 else 0 := by
    rw [m1, hs, has_ok (by omega) (by omega)]
  obtain ⟨⟨x, y⟩, g1, g2⟩ := loopF (body := B_205_17 (nI h) (nI c) (nI H) M) (fun k s => s.2 = nI k ∧ ((s.1 = 1 ∧ U h c ∧ ∀ j, j < k → H.testBit j = true → A j h (r j) c) ∨ (s.1 = 0 ∧ ¬ (U h c ∧ ∀ k, k < h → H.testBit k = true → A k h (r k) c)))) (fun s => (s.1 = 1 ∧ (U h c ∧ ∀ k, k < h → H.testBit k = true → A k h (r k) c)) ∨ (s.1 = 0 ∧ ¬ (U h c ∧ ∀ k, k < h → H.testBit k = true → A k h (r k) c))) h (by omega) (s := (F_162 (M 87 h) (nI c - 1), (0 : Int32))) (by
    refine ⟨rfl, ?_⟩
    rw [h0]
    by_cases e : m.testBit (c - 1) = true
    · rw [if_pos e]; exact Or.inl ⟨rfl, (m3 c hc1 hc3).mp e, fun j hj => absurd hj (Nat.not_lt_zero _)⟩
    · rw [if_neg e]; exact Or.inr ⟨rfl, fun z => e ((m3 c hc1 hc3).mpr z.1)⟩) (by
    rintro k ⟨x, y⟩ hk ⟨rfl, hx⟩
    dsimp only at hx
    unfold B_205_17 J_205_68_17 J_205_73_17
    dsimp only
    by_cases hkh : k < h
    · rcases hx with ⟨rfl, hu, hok⟩ | ⟨rfl, hno⟩
      · right
        rw [has_ok (by omega) (by omega)]
        cases hb : H.testBit k
        · refine ⟨hkh, (1, nI (k + 1)), ?_, rfl, Or.inl ⟨rfl, hu, fun j hj hb2 => ?_⟩⟩
          · simp (disch := omega) only [ni_lei, one_ne, if_pos, if_neg, if_true, if_false, Bool.false_eq_true, Bool.true_eq_false, ni_add1]
          · by_cases e : j = k
            · rw [e, hb] at hb2; cases hb2
            · exact hok j (by omega) hb2
        · obtain ⟨r1, r3, r4⟩ := hr k hkh hb
          obtain ⟨b, b1, b2, b3⟩ := hR.2 k h hkh hh
          have e1 : (12 : Int32) * nI k + nI h = nI (12 * k + h) := by rw [show (12 : Int32) * nI k = nI (12 * k) from ni_mul 12 k, ni_add]
          have e2 : (3 : Int32) * nI (r k) + nI c - 4 = nI (3 * r k + c - 4) := by
            rw [show (3 : Int32) * nI (r k) = nI (3 * r k) from ni_mul 3 (r k), ni_add]
            exact ni_sub (b := 4) (by omega)
          by_cases ho : A k h (r k) c
          · refine ⟨hkh, (1, nI (k + 1)), ?_, rfl, Or.inl ⟨rfl, hu, fun j hj hb2 => ?_⟩⟩
            · simp (disch := omega) only [ni_lei, one_ne, if_pos, if_neg, if_true, if_false, e1, inb_nI, ni_cl, b2, r4, e2, has_ok, (b3 (r k) c r1 r3 hc1 hc3).mpr ho, ni_add1]
            · by_cases e : j = k
              · rw [e]; exact ho
              · exact hok j (by omega) hb2
          · have hb' : ¬ b.testBit (3 * r k + c - 4) = true := fun z => ho ((b3 (r k) c r1 r3 hc1 hc3).mp z)
            refine ⟨hkh, (0, nI (k + 1)), ?_, rfl, Or.inr ⟨rfl, fun z => ho (z.2 k hkh hb)⟩⟩
            simp (disch := omega) only [ni_lei, one_ne, if_pos, if_neg, if_true, if_false, e1, inb_nI, ni_cl, b2, r4, e2, has_ok, hb', Bool.false_eq_true, Bool.true_eq_false, ni_add1]
      · left
        refine ⟨(0, nI k), ?_, Or.inr ⟨rfl, hno⟩⟩
        simp (disch := omega) only [ni_lei, if_pos, if_neg, if_true, if_false]
    · left
      obtain rfl : k = h := by omega
      refine ⟨(x, nI k), ?_, ?_⟩
      · simp (disch := omega) only [ni_lei, if_pos, if_neg, if_true, if_false]
      · rcases hx with ⟨rfl, hu, hok⟩ | ⟨rfl, hno⟩
        · exact Or.inl ⟨rfl, hu, hok⟩
        · exact Or.inr ⟨rfl, hno⟩)
  have hL : L_205_17 (nI h) (nI c) (nI H) M (F_162 (M 87 h) (nI c - 1)) 0 = some (x, y) := g1
  have hF : F_205 (nI h) (nI c) (nI H) M = some x := by
    unfold F_205
    simp (disch := omega) only [inb_nI, ni_cl, if_pos, if_neg, if_true, if_false]
    rw [hL]
  dsimp only at g2
  rw [hF]
  rcases g2 with ⟨rfl, g2⟩ | ⟨rfl, g2⟩
  · exact Or.inl ⟨rfl, g2⟩
  · exact Or.inr ⟨rfl, g2⟩
/-- what a search from hall h on has found, or that there is nothing -/
def SkR (U : Nat → Nat → Prop) (A : Nat → Nat → Nat → Nat → Prop) (H h cell : Nat) (r : Nat → Nat) (x : Int32) (M' : IM) : Prop :=
  (x = 1 ∧ ∃ r', (∀ k, k < 12 → H.testBit k = true → M' cell k = nI (r' k)) ∧ (∀ k, k < h → H.testBit k = true → r' k = r k) ∧ PCn U A H 12 r' ∧ ∀ q, PCn U A H 12 q → (∀ k, k < h → H.testBit k = true → q k = r k) → LexLe H r' q) ∨
  (x = 0 ∧ (∀ k, k < h → H.testBit k = true → M' cell k = nI (r k)) ∧ ∀ q, PCn U A H 12 q → ¬ ∀ k, k < h → H.testBit k = true → q k = r k)
theorem PCn.step {h c : Nat} {r : Nat → Nat} (hp : PCn U A H h r) (hc1 : 1 ≤ c) (hc3 : c ≤ 3) (hu : U h c) (ha : ∀ k, k < h → H.testBit k = true → A k h (r k) c) : PCn U A H (h + 1) (updN r h c) := by
  intro k hk hb
  by_cases e : k = h
  · subst e
    refine ⟨by unfold updN; rw [if_pos rfl]; exact hc1, by unfold updN; rw [if_pos rfl]; exact hc3, by unfold updN; rw [if_pos rfl]; exact hu, fun j hj hbj => ?_⟩
    unfold updN
    rw [if_pos rfl, if_neg (by omega)]
    exact ha j hj hbj
  · obtain ⟨p1, p2, p3, p4⟩ := hp k (by omega) hb
    have e1 : updN r h c k = r k := by unfold updN; rw [if_neg e]
    rw [e1]
    refine ⟨p1, p2, p3, fun j hj hbj => ?_⟩
    have e2 : updN r h c j = r j := by unfold updN; rw [if_neg (by omega)]
    rw [e2]
    exact p4 j hj hbj
/-- no solution goes on with c at h: it isn't allowed there -/
theorem PCn.no {h c : Nat} {r : Nat → Nat} (hh : h < 12) (hb : H.testBit h = true) (hn : ¬ (U h c ∧ ∀ k, k < h → H.testBit k = true → A k h (r k) c)) (q : Nat → Nat) (hq : PCn U A H 12 q) (he : ∀ k, k < h → H.testBit k = true → q k = r k) : q h ≠ c := by
  intro e
  obtain ⟨p1, p2, p3, p4⟩ := hq h hh hb
  rw [e] at p3
  refine hn ⟨p3, fun k hk hbk => ?_⟩
  have := p4 k hk hbk
  rw [e, he k hk hbk] at this
  exact this
theorem seek_r (hH : H < 4096) : ∀ (f h : Nat) (M : IM) (r : Nat → Nat), h ≤ 12 → 12 - h < f → RR U A M → PCn U A H h r → (∀ k, k < h → H.testBit k = true → M 89 k = nI (r k)) → ∃ x M', KK_206 f (nI h) (nI H) M = some (x, M') ∧ Chg 89 89 M M' ∧ SkR U A H h 89 r x M' := by
  intro f
  induction f with
  | zero => intro h M r _ hf; exact absurd hf (Nat.not_lt_zero _)
  | succ f ih =>
    intro h M r hh hf hR hp hm
    show ∃ x M', F_206 (KK_206 f) (nI h) (nI H) M = some (x, M') ∧ Chg 89 89 M M' ∧ SkR U A H h 89 r x M'
    unfold F_206
    by_cases h12 : h = 12
    · subst h12
      refine ⟨1, M, by rw [if_pos (show nI 12 = 12 from rfl)], Chg.rf _ _ _, Or.inl ⟨rfl, r, hm, fun _ _ _ => rfl, hp, fun q _ he => Or.inl (fun k hk hb => (he k hk hb).symm)⟩⟩
    · have hh' : h < 12 := by omega
      rw [if_neg (show ¬ nI h = 12 from fun z => h12 (ni_inj (b := 12) (by omega) (by decide) z)), has_ok (by omega) (by omega)]
      cases hb : H.testBit h
      · obtain ⟨x, M', k1, k2, k3⟩ := ih (h + 1) M r (by omega) (by omega) hR (fun k hk hbk => by
          by_cases e : k = h
          · rw [e, hb] at hbk; cases hbk
          · exact hp k (by omega) hbk) (fun k hk hbk => by
          by_cases e : k = h
          · rw [e, hb] at hbk; cases hbk
          · exact hm k (by omega) hbk)
        have ex : ∀ P : Nat → Prop, (∀ k, k < h → H.testBit k = true → P k) ↔ ∀ k, k < h + 1 → H.testBit k = true → P k := fun P => ⟨fun z k hk hbk => by
          by_cases e : k = h
          · rw [e, hb] at hbk; cases hbk
          · exact z k (by omega) hbk, fun z k hk hbk => z k (by omega) hbk⟩
        refine ⟨x, M', ?_, k2, ?_⟩
        · simp only [Bool.false_eq_true, Bool.true_eq_false, if_false, if_true]
          rw [show nI h + 1 = nI (h + 1) from ni_add1 h, k1]
        · rcases k3 with ⟨k3, r', q1, q2, q3, q4⟩ | ⟨k3, q1, q2⟩
          · exact Or.inl ⟨k3, r', q1, (ex _).mpr q2, q3, fun q hq he => q4 q hq ((ex _).mp he)⟩
          · exact Or.inr ⟨k3, (ex _).mpr q1, fun q hq he => q2 q hq ((ex _).mp he)⟩
      · obtain ⟨res, g1, g2⟩ := loopF (body := B_206_27 (KK_206 f) (nI h) (nI H)) (fun k s => s.1 = nI (k + 1) ∧ Chg 89 89 M s.2 ∧ (∀ k, k < h → H.testBit k = true → s.2 89 k = nI (r k)) ∧ ∀ q, PCn U A H 12 q → (∀ k, k < h → H.testBit k = true → q k = r k) → k + 1 ≤ q h) (fun res => match res with | .inl s => Chg 89 89 M s.2 ∧ SkR U A H h 89 r 0 s.2 | .inr s => Chg 89 89 M s.2 ∧ SkR U A H h 89 r s.1 s.2) 3 (by decide) (s := ((1 : Int32), M)) ⟨rfl, Chg.rf _ _ _, hm, fun q hq _ => (hq h hh' hb).1⟩ (by
          rintro k ⟨y, Q⟩ hk ⟨rfl, c1, c2, c3⟩
          dsimp only at c1 c2 c3
          unfold B_206_27 J_206_62_27
          dsimp only
          by_cases hk3 : k < 3
          · have hRQ : RR U A Q := hR.cg (fun a j ha => c1 a j (by omega))
            have hah := ahead_r (h := h) (c := k + 1) (r := r) hRQ hH hh' (by omega) (by omega) (fun j hj hbj => ⟨(hp j hj hbj).1, (hp j hj hbj).2.1, c2 j hj hbj⟩)
            rcases hah with ⟨a1, a2, a3⟩ | ⟨a1, a2⟩
            · obtain ⟨x, M', k1, k2, k3⟩ := ih (h + 1) (iset Q 89 h (nI (k + 1))) (updN r h (k + 1)) (by omega) (by omega) (hRQ.cg (fun a j ha => iset_k (by omega))) (hp.step (by omega) (by omega) a2 a3) (fun j hj hbj => by
                by_cases e : j = h
                · subst e; rw [iset_same]; unfold updN; rw [if_pos rfl]
                · rw [iset_j e, c2 j (by omega) hbj]; unfold updN; rw [if_neg e])
              have kc : Chg 89 89 M M' := (c1.set (by decide) (by decide)).tr k2
              rcases k3 with ⟨rfl, r', q1, q2, q3, q4⟩ | ⟨rfl, q1, q2⟩
              · left
                refine ⟨.inr (1, M'), ?_, kc, Or.inl ⟨rfl, r', q1, fun j hj hbj => ?_, q3, fun q hq he => ?_⟩⟩
                · simp (disch := omega) only [lit_nI, ni_lti, if_pos, if_neg, if_true, if_false, a1, inb_nI, ni_cl, ni_add, k1]
                  simp (disch := omega) only [ni_eqi, if_pos, if_neg, if_true, if_false, a1, inb_nI, ni_cl, k1]
                · rw [q2 j (by omega) hbj]; unfold updN; rw [if_neg (by omega)]
                · have hge := c3 q hq he
                  by_cases e : q h = k + 1
                  · refine q4 q hq (fun j hj hbj => ?_)
                    by_cases ej : j = h
                    · subst ej; unfold updN; rw [if_pos rfl, e]
                    · unfold updN; rw [if_neg ej]; exact he j (by omega) hbj
                  · refine Or.inr ⟨h, hh', hb, fun j hj hbj => ?_, ?_⟩
                    · rw [q2 j (by omega) hbj, he j hj hbj]; unfold updN; rw [if_neg (by omega)]
                    · rw [q2 h (by omega) hb]; unfold updN; rw [if_pos rfl]; omega
              · right
                refine ⟨hk3, (nI (k + 1 + 1), M'), ?_, rfl, kc, fun j hj hbj => ?_, fun q hq he => ?_⟩
                · simp (disch := omega) only [lit_nI, ni_lti, if_pos, if_neg, if_true, if_false, a1, inb_nI, ni_cl, ni_add, k1]
                  simp (disch := omega) only [ni_eqi, if_pos, if_neg, if_true, if_false, a1, inb_nI, ni_cl, k1]
                · show M' 89 j = _
                  rw [q1 j (by omega) hbj]; unfold updN; rw [if_neg (by omega)]
                · have hge := c3 q hq he
                  have : q h ≠ k + 1 := fun e => q2 q hq (fun j hj hbj => by
                    by_cases ej : j = h
                    · subst ej; unfold updN; rw [if_pos rfl, e]
                    · unfold updN; rw [if_neg ej]; exact he j (by omega) hbj)
                  omega
            · right
              refine ⟨hk3, (nI (k + 1 + 1), Q), ?_, rfl, c1, c2, fun q hq he => ?_⟩
              · simp (disch := omega) only [ni_lti, a1, ni_add1, show ¬ ((3 : Int32) < nI (k + 1)) from nI_nlt (a := 3) (by omega) (by omega), if_false, if_true]
              · have hge := c3 q hq he
                have := PCn.no hh' hb a2 q hq he
                omega
          · left
            obtain rfl : k = 3 := by omega
            refine ⟨.inl (nI 4, Q), rfl, c1, Or.inr ⟨rfl, c2, fun q hq he => ?_⟩⟩
            have := c3 q hq he
            have := (hq h hh' hb).2.1
            omega)
        have hL : L_206_27 (KK_206 f) (nI h) (nI H) 1 M = some res := g1
        simp only [if_true, one_ne, if_false, hL]
        cases res with
        | inl s => obtain ⟨a, b⟩ := s; exact ⟨0, b, rfl, g2.1, g2.2⟩
        | inr s => obtain ⟨a, b⟩ := s; exact ⟨a, b, rfl, g2.1, g2.2⟩
end SEEKR
