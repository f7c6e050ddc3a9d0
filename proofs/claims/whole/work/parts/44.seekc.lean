/-! search, on the other side: what is left goes along in rows -/
theorem b8_0 : ∀ m, m < 8 → (m = 0 ↔ ∀ c, c < 3 → m.testBit c = false) := by decide
theorem b8_and : ∀ m, m < 8 → ∀ g, g < 8 → m &&& g < 8 := by decide
theorem bt3.and {m g : Nat} {p q : Nat → Prop} (h1 : bt3 m p) (h2 : bt3 g q) : bt3 (m &&& g) (fun c => p c ∧ q c) := by
  refine ⟨b8_and m h1.1 g h2.1, fun c c1 c3 => ?_⟩
  rw [Nat.testBit_and, Bool.and_eq_true, h1.2 c c1 c3, h2.2 c c1 c3]
theorem bt3.zero {m : Nat} {p : Nat → Prop} (h : bt3 m p) : m = 0 ↔ ∀ c, 1 ≤ c → c ≤ 3 → ¬ p c := by
  rw [b8_0 m h.1]
  constructor
  · intro z c c1 c3 hp
    have := z (c - 1) (by omega)
    rw [(h.2 c c1 c3).mpr hp] at this
    cases this
  · intro z c hc
    have := z (c + 1) (by omega) (by omega)
    cases e : m.testBit c
    · rfl
    · exact absurd ((h.2 (c + 1) (by omega) (by omega)).mp (by rw [Nat.add_sub_cancel]; exact e)) this
theorem bt3.im {m : Nat} {p q : Nat → Prop} (h : bt3 m p) (e : ∀ c, 1 ≤ c → c ≤ 3 → (p c ↔ q c)) : bt3 m q := ⟨h.1, fun c c1 c3 => (h.2 c c1 c3).trans (e c c1 c3)⟩
def RCgo (A : Nat → Nat → Nat → Nat → Prop) (M : IM) : Prop := ∀ h k c, h < 12 → k < 12 → 1 ≤ c → c ≤ 3 → ∃ g, M 52 ((h * 12 + k) * 4 + c) = nI g ∧ bt3 g (A h k c)
theorem RCgo.cg {A : Nat → Nat → Nat → Nat → Prop} {M M' : IM} (h : RCgo A M) (e : ∀ j, M' 52 j = M 52 j) : RCgo A M' := fun a b c h1 h2 h3 h4 => by
  rw [e]; exact h a b c h1 h2 h3 h4
def RowC (dp lo H : Nat) (p : Nat → Nat → Prop) (M : IM) : Prop := ∀ k, lo ≤ k → k < 12 → H.testBit k = true → ∃ m, M 53 (dp * 12 + k) = nI m ∧ bt3 m (p k)
theorem RowC.cg {dp lo H : Nat} {p : Nat → Nat → Prop} {M M' : IM} (h : RowC dp lo H p M) (e : ∀ k, k < 12 → M' 53 (dp * 12 + k) = M 53 (dp * 12 + k)) : RowC dp lo H p M' := fun k h1 h2 h3 => by
  rw [e k h2]; exact h k h1 h2 h3
section SEEKC
variable {U : Nat → Nat → Prop} {A : Nat → Nat → Nat → Nat → Prop} {H : Nat} {M : IM}
theorem go_ix {h k c : Nat} : ((nI h * 12) + nI k) * 4 + nI c = nI ((h * 12 + k) * 4 + c) := by
  rw [show nI h * 12 = nI (h * 12) from ni_mul h 12, ni_add, show nI (h * 12 + k) * 4 = nI ((h * 12 + k) * 4) from ni_mul _ 4, ni_add]
theorem narrow_c {dp h c : Nat} {p : Nat → Nat → Prop} (hH : H < 4096) (hdp : dp ≤ 11) (hh : h < 12) (hc1 : 1 ≤ c) (hc3 : c ≤ 3) (hG : RCgo A M) (hrow : RowC dp (h + 1) H p M) : ∃ x M', F_27 (nI dp) (nI h) (nI c) (nI H) M = some (x, M') ∧ (∀ k j, ¬ (k = 53 ∧ dp * 12 + 12 ≤ j) → M' k j = M k j) ∧ ((x = 1 ∧ RowC (dp + 1) (h + 1) H (fun k c' => p k c' ∧ A h k c c') M') ∨ (x = 0 ∧ ∃ k, h < k ∧ k < 12 ∧ H.testBit k = true ∧ ∀ c', 1 ≤ c' → c' ≤ 3 → ¬ (p k c' ∧ A h k c c'))) := by
  have e12 : nI dp * 12 = nI (dp * 12) := ni_mul dp 12
  obtain ⟨res, g1, g2⟩ := loopF (body := B_27_11 (nI h) (nI c) (nI H) (nI (dp * 12))) (fun k s => s.1 = nI (h + 1 + k) ∧ (∀ k j, ¬ (k = 53 ∧ dp * 12 + 12 ≤ j) → s.2 k j = M k j) ∧ ∀ a, h < a → a < h + 1 + k → H.testBit a = true → ∃ m, s.2 53 ((dp + 1) * 12 + a) = nI m ∧ bt3 m (fun c' => p a c' ∧ A h a c c')) (fun res => match res with | .inl s => (∀ k j, ¬ (k = 53 ∧ dp * 12 + 12 ≤ j) → s.2 k j = M k j) ∧ RowC (dp + 1) (h + 1) H (fun k c' => p k c' ∧ A h k c c') s.2 | .inr s => s.1 = 0 ∧ (∀ k j, ¬ (k = 53 ∧ dp * 12 + 12 ≤ j) → s.2 k j = M k j) ∧ ∃ k, h < k ∧ k < 12 ∧ H.testBit k = true ∧ ∀ c', 1 ≤ c' → c' ≤ 3 → ¬ (p k c' ∧ A h k c c')) (11 - h) (by omega) (s := (nI (h + 1), M)) ⟨rfl, fun _ _ _ => rfl, fun a h1 h2 => absurd h2 (by omega)⟩ (by
    rintro k ⟨y, Q⟩ hk ⟨rfl, c1, c2⟩
    dsimp only at c1 c2
    unfold B_27_11 J_27_79_11
    dsimp only
    by_cases hk2 : h + 1 + k < 12
    · have hb0 : ((nI H >>> (nI (h + 1 + k) &&& 31)) &&& 1 = 0) = (H.testBit (h + 1 + k) = false) := bit0 (by omega) (by omega)
      simp only [hb0]
      cases hb : H.testBit (h + 1 + k)
      · right
        refine ⟨by omega, (nI (h + 1 + (k + 1)), Q), ?_, rfl, c1, fun a h1 h2 h3 => ?_⟩
        · simp (disch := omega) only [lit_nI, ni_lei, if_pos, if_neg, if_true, if_false, ni_add]
          rfl
        · by_cases e : a = h + 1 + k
          · rw [e, hb] at h3; cases h3
          · exact c2 a h1 (by omega) h3
      · obtain ⟨m, m1, m2⟩ := hrow (h + 1 + k) (by omega) hk2 hb
        obtain ⟨g, g1, g2⟩ := hG h (h + 1 + k) c hh hk2 hc1 hc3
        have m1' : Q 53 (dp * 12 + (h + 1 + k)) = nI m := by rw [c1 _ _ (by omega), m1]
        have g1' : Q 52 ((h * 12 + (h + 1 + k)) * 4 + c) = nI g := by rw [c1 _ _ (by omega), g1]
        have hmg := m2.and g2
        have i1 : inb (nI (dp * 12) + nI (h + 1 + k)) 156 = true := by rw [ni_add, inb_nI (by omega)]; omega
        have i2 : inb (((nI h * 12) + nI (h + 1 + k)) * 4 + nI c) 576 = true := by rw [go_ix, inb_nI (by omega)]; omega
        have i3 : inb ((nI (dp * 12) + 12) + nI (h + 1 + k)) 156 = true := by rw [show nI (dp * 12) + 12 = nI (dp * 12 + 12) from ni_add _ 12, ni_add, inb_nI (by omega)]; omega
        have i4 : (nI (dp * 12) + nI (h + 1 + k)).toNatClampNeg = dp * 12 + (h + 1 + k) := by rw [ni_add, ni_cl (by omega)]
        have i5 : (((nI h * 12) + nI (h + 1 + k)) * 4 + nI c).toNatClampNeg = (h * 12 + (h + 1 + k)) * 4 + c := by rw [go_ix, ni_cl (by omega)]
        have i6 : ((nI (dp * 12) + 12) + nI (h + 1 + k)).toNatClampNeg = (dp + 1) * 12 + (h + 1 + k) := by rw [show nI (dp * 12) + 12 = nI (dp * 12 + 12) from ni_add _ 12, ni_add, ni_cl (by omega)]; omega
        have i0 : ¬ ((12 : Int32) ≤ nI (h + 1 + k)) := nI_ge (b := 12) hk2 (by decide)
        simp only [i0, i1, i2, i3, i4, i5, i6, if_false, if_true, Bool.false_eq_true, Bool.true_eq_false, m1', g1', ni_and]
        by_cases hz : m &&& g = 0
        · left
          refine ⟨.inr (0, Q), ?_, rfl, c1, h + 1 + k, by omega, hk2, hb, hmg.zero.mp hz⟩
          rw [hz, if_pos (show nI 0 = 0 from rfl)]
        · right
          have hz' : ¬ (nI (m &&& g) = 0) := fun z => hz (ni_inj (b := 0) (by have := hmg.1; omega) (by decide) z)
          refine ⟨by omega, (nI (h + 1 + (k + 1)), iset Q 53 ((dp + 1) * 12 + (h + 1 + k)) (nI (m &&& g))), ?_, rfl, fun a j ha => ?_, fun a h1 h2 h3 => ?_⟩
          · rw [if_neg hz', ni_add1]
            rfl
          · dsimp only
            rw [iset_eq, if_neg (by omega)]
            exact c1 a j ha
          · dsimp only
            by_cases e : a = h + 1 + k
            · subst e
              exact ⟨m &&& g, iset_same _ _ _ _, hmg⟩
            · rw [iset_j (by omega)]
              exact c2 a h1 (by omega) h3
    · left
      refine ⟨.inl (nI (h + 1 + k), Q), ?_, c1, fun a h1 h2 h3 => c2 a (by omega) (by omega) h3⟩
      simp (disch := omega) only [lit_nI, ni_lei, if_pos, if_neg, if_true, if_false])
  have hL : L_27_11 (nI h) (nI c) (nI H) (nI dp * 12) (nI h + 1) M = some res := by
    unfold L_27_11; rw [e12, ni_add1]; exact g1
  unfold F_27
  rw [hL]
  cases res with
  | inl s => obtain ⟨a, b⟩ := s; exact ⟨1, b, rfl, g2.1, Or.inl ⟨rfl, g2.2⟩⟩
  | inr s => obtain ⟨a, b⟩ := s; exact ⟨a, b, rfl, g2.2.1, Or.inr ⟨g2.1, g2.2.2⟩⟩
theorem nextH {rk : Int32 → Int32 → Int32 → IM → Option (Int32 × IM)} {x : Int32} {h : Nat} (hH : H < 4096) (hh : h ≤ 12) : ∃ g, L_26_3 rk x (nI H) M (nI h) = some (nI g) ∧ h ≤ g ∧ g ≤ 12 ∧ (∀ k, h ≤ k → k < g → H.testBit k = false) ∧ (g < 12 → H.testBit g = true) := by
  obtain ⟨y, g1, g, g2, g3⟩ := loopF (body := B_26_3 rk x (nI H) M) (fun k s => s = nI (h + k) ∧ ∀ a, h ≤ a → a < h + k → H.testBit a = false) (fun y => ∃ g, y = nI g ∧ h ≤ g ∧ g ≤ 12 ∧ (∀ k, h ≤ k → k < g → H.testBit k = false) ∧ (g < 12 → H.testBit g = true)) (12 - h) (by omega) (s := nI h) ⟨rfl, fun a h1 h2 => absurd h2 (by omega)⟩ (by
    rintro k s hk ⟨rfl, c1⟩
    unfold B_26_3
    by_cases hk2 : h + k < 12
    · have hb0 : ((nI H >>> (nI (h + k) &&& 31)) &&& 1 = 0) = (H.testBit (h + k) = false) := bit0 (by omega) (by omega)
      simp only [hb0]
      have i0 : ¬ ((12 : Int32) ≤ nI (h + k)) := nI_ge (b := 12) hk2 (by decide)
      simp only [i0, if_false]
      cases hb : H.testBit (h + k)
      · right
        refine ⟨by omega, nI (h + (k + 1)), ?_, rfl, fun a h1 h2 => ?_⟩
        · simp only [if_true, ni_add1]; rfl
        · by_cases e : a = h + k
          · rw [e]; exact hb
          · exact c1 a h1 (by omega)
      · left
        exact ⟨nI (h + k), by simp only [Bool.false_eq_true, Bool.true_eq_false, if_false], h + k, rfl, by omega, by omega, c1, fun _ => hb⟩
    · left
      refine ⟨nI (h + k), ?_, h + k, rfl, by omega, by omega, c1, fun z => absurd z hk2⟩
      simp (disch := omega) only [lit_nI, ni_lei, if_pos, if_neg, if_true, if_false])
  exact ⟨g, by unfold L_26_3; rw [g1, g2], g3⟩
theorem SkR.mv {h g cell : Nat} {r : Nat → Nat} {x : Int32} {M' : IM} (hn : ∀ k, h ≤ k → k < g → H.testBit k = false) (hg : h ≤ g) (k3 : SkR U A H g cell r x M') : SkR U A H h cell r x M' := by
  have ex : ∀ P : Nat → Prop, (∀ k, k < h → H.testBit k = true → P k) ↔ ∀ k, k < g → H.testBit k = true → P k := fun P => ⟨fun z k hk hbk => by
    by_cases e : k < h
    · exact z k e hbk
    · exact absurd ((hn k (by omega) hk).symm.trans hbk) (by decide), fun z k hk hbk => z k (by omega) hbk⟩
  rcases k3 with ⟨k3, r', q1, q2, q3, q4⟩ | ⟨k3, q1, q2⟩
  · exact Or.inl ⟨k3, r', q1, (ex _).mpr q2, q3, fun q hq he => q4 q hq ((ex _).mp he)⟩
  · exact Or.inr ⟨k3, (ex _).mpr q1, fun q hq he => q2 q hq ((ex _).mp he)⟩
theorem seek_c (hH : H < 4096) : ∀ (f dp h : Nat) (M : IM) (r : Nat → Nat), h ≤ 12 → dp ≤ h → 12 - h < f → RCgo A M → PCn U A H h r → (∀ k, k < h → H.testBit k = true → M 54 k = nI (r k)) → RowC dp h H (fun k c => U k c ∧ ∀ j, j < h → H.testBit j = true → A j k (r j) c) M → ∃ x M', KK_26 f (nI dp) (nI h) (nI H) M = some (x, M') ∧ (∀ k j, ¬ ((k = 53 ∧ dp * 12 + 12 ≤ j) ∨ (k = 54 ∧ H.testBit j = true)) → M' k j = M k j) ∧ SkR U A H h 54 r x M' := by
  intro f
  induction f with
  | zero => intro dp h M r _ _ hf; exact absurd hf (Nat.not_lt_zero _)
  | succ f ih =>
    intro dp h0 M r hh0 hdp0 hf hG hp0 hm0 hrow0
    obtain ⟨h, gL, hge, hh12, hgap, hbit⟩ := nextH (rk := KK_26 f) (x := nI dp) (M := M) hH hh0
    have ex : ∀ P : Nat → Prop, (∀ k, k < h0 → H.testBit k = true → P k) ↔ ∀ k, k < h → H.testBit k = true → P k := fun P => ⟨fun z k hk hbk => by
      by_cases e : k < h0
      · exact z k e hbk
      · exact absurd ((hgap k (by omega) hk).symm.trans hbk) (by decide), fun z k hk hbk => z k (by omega) hbk⟩
    have hp : PCn U A H h r := (ex _).mp hp0
    have hm : ∀ k, k < h → H.testBit k = true → M 54 k = nI (r k) := (ex _).mp hm0
    have hrow : RowC dp h H (fun k c => U k c ∧ ∀ j, j < h → H.testBit j = true → A j k (r j) c) M := fun k h1 h2 h3 => by
      obtain ⟨m, m1, m2⟩ := hrow0 k (by omega) h2 h3
      exact ⟨m, m1, m2.im (fun c c1 c3 => ⟨fun z => ⟨z.1, (ex _).mp z.2⟩, fun z => ⟨z.1, (ex _).mpr z.2⟩⟩)⟩
    show ∃ x M', F_26 (KK_26 f) (nI dp) (nI h0) (nI H) M = some (x, M') ∧ (∀ k j, ¬ ((k = 53 ∧ dp * 12 + 12 ≤ j) ∨ (k = 54 ∧ H.testBit j = true)) → M' k j = M k j) ∧ SkR U A H h0 54 r x M'
    unfold F_26
    rw [gL]
    dsimp only
    unfold J_26_25
    by_cases h12 : h = 12
    · subst h12
      refine ⟨1, M, by rw [if_pos (show (12 : Int32) ≤ nI 12 by decide)], fun _ _ _ => rfl, SkR.mv hgap hge (Or.inl ⟨rfl, r, hm, fun _ _ _ => rfl, hp, fun q _ he => Or.inl (fun k hk hb => (he k hk hb).symm)⟩)⟩
    · have hh' : h < 12 := by omega
      have hb := hbit hh'
      obtain ⟨m, m1, m2⟩ := hrow h (Nat.le_refl _) hh' hb
      have i1 : nI dp * 12 + nI h = nI (dp * 12 + h) := by rw [show nI dp * 12 = nI (dp * 12) from ni_mul dp 12, ni_add]
      rw [if_neg (show ¬ (12 : Int32) ≤ nI h from nI_ge (b := 12) hh' (by decide)), if_pos (show nI dp < 12 from nI_lt (b := 12) (by omega) (by decide)), i1, if_pos ((inb_nI (by omega)).mpr (by omega)), ni_cl (by omega), m1]
      obtain ⟨res, g1, g2⟩ := loopF (body := B_26_57 (KK_26 f) (nI dp) (nI H) (nI h) (nI m)) (fun k s => s.1 = nI (k + 1) ∧ (∀ k j, ¬ ((k = 53 ∧ dp * 12 + 12 ≤ j) ∨ (k = 54 ∧ H.testBit j = true)) → s.2 k j = M k j) ∧ (∀ k, k < h → H.testBit k = true → s.2 54 k = nI (r k)) ∧ ∀ q, PCn U A H 12 q → (∀ k, k < h → H.testBit k = true → q k = r k) → k + 1 ≤ q h) (fun res => match res with | .inl s => (∀ k j, ¬ ((k = 53 ∧ dp * 12 + 12 ≤ j) ∨ (k = 54 ∧ H.testBit j = true)) → s.2 k j = M k j) ∧ SkR U A H h 54 r 0 s.2 | .inr s => (∀ k j, ¬ ((k = 53 ∧ dp * 12 + 12 ≤ j) ∨ (k = 54 ∧ H.testBit j = true)) → s.2 k j = M k j) ∧ SkR U A H h 54 r s.1 s.2) 3 (by decide) (s := ((1 : Int32), M)) ⟨rfl, fun _ _ _ => rfl, hm, fun q hq _ => (hq h hh' hb).1⟩ (by
        rintro k ⟨y, Q⟩ hk ⟨rfl, c1, c2, c3⟩
        dsimp only at c1 c2 c3
        unfold B_26_57 J_26_112_57
        dsimp only
        by_cases hk3 : k < 3
        · have i3 : ¬ ((3 : Int32) < nI (k + 1)) := nI_nlt (a := 3) (by omega) (by decide)
          have hGQ : RCgo A Q := hG.cg (fun j => c1 _ _ (by omega))
          have hrowQ : RowC dp h H (fun k c => U k c ∧ ∀ j, j < h → H.testBit j = true → A j k (r j) c) Q := hrow.cg (fun a ha => c1 _ _ (by omega))
          simp only [i3, if_false]
          rw [holds_ok (by have := m2.1; omega) (by omega) (by omega)]
          by_cases hmask : m.testBit (k + 1 - 1) = true
          · obtain ⟨a2, a3⟩ := (m2.2 (k + 1) (by omega) (by omega)).mp hmask
            obtain ⟨x, M1, n1, n2, n3⟩ := narrow_c (dp := dp) (h := h) (c := k + 1) hH (by omega) hh' (by omega) (by omega) hGQ (fun a h1 h2 h3 => hrowQ a (by omega) h2 h3)
            simp only [hmask, if_true, one_ne, if_false, n1]
            have c1' : ∀ a j, ¬ ((a = 53 ∧ dp * 12 + 12 ≤ j) ∨ (a = 54 ∧ H.testBit j = true)) → M1 a j = M a j := fun a j ha => by rw [n2 _ _ (by omega)]; exact c1 a j ha
            have c2' : ∀ a, a < h → H.testBit a = true → M1 54 a = nI (r a) := fun a ha hba => by rw [n2 _ _ (by omega)]; exact c2 a ha hba
            rcases n3 with ⟨rfl, n3⟩ | ⟨rfl, kk, k1, k2, k3, k4⟩
            · obtain ⟨x, M', s1, s2, s3⟩ := ih (dp + 1) (h + 1) (iset M1 54 h (nI (k + 1))) (updN r h (k + 1)) (by omega) (by omega) (by omega) (hGQ.cg (fun j => by rw [iset_k (by decide), n2 _ _ (by omega)])) (hp.step (by omega) (by omega) a2 a3) (fun j hj hbj => by
                by_cases e : j = h
                · subst e; rw [iset_same]; unfold updN; rw [if_pos rfl]
                · rw [iset_j e, c2' j (by omega) hbj]; unfold updN; rw [if_neg e]) (fun a h1 h2 h3 => by
                obtain ⟨mm, e1, e2⟩ := n3 a h1 h2 h3
                refine ⟨mm, by rw [iset_k (by decide)]; exact e1, e2.im (fun c z1 z3 => ⟨fun z => ⟨z.1.1, fun j hj hbj => ?_⟩, fun z => ⟨⟨z.1, fun j hj hbj => ?_⟩, ?_⟩⟩)⟩
                · by_cases ej : j = h
                  · subst ej; unfold updN; rw [if_pos rfl]; exact z.2
                  · unfold updN; rw [if_neg ej]; exact z.1.2 j (by omega) hbj
                · have := z.2 j (by omega) hbj
                  unfold updN at this; rw [if_neg (by omega)] at this; exact this
                · have := z.2 h (by omega) hb
                  unfold updN at this; rw [if_pos rfl] at this; exact this)
              have kc : ∀ a j, ¬ ((a = 53 ∧ dp * 12 + 12 ≤ j) ∨ (a = 54 ∧ H.testBit j = true)) → M' a j = M a j := fun a j ha => by
                rw [s2 _ _ (fun z => ha (z.imp (fun y => ⟨y.1, by omega⟩) id)), iset_eq, if_neg (fun z => ha (Or.inr ⟨z.1, by rw [z.2]; exact hb⟩))]
                exact c1' a j ha
              have i4 : inb (nI h) 12 = true := (inb_nI (by omega)).mpr hh'
              have i5 : (nI h).toNatClampNeg = h := ni_cl (by omega)
              simp only [i4, i5, if_true, ni_add1, s1]
              rcases s3 with ⟨rfl, r', q1, q2, q3, q4⟩ | ⟨rfl, q1, q2⟩
              · left
                refine ⟨.inr (1, M'), rfl, kc, Or.inl ⟨rfl, r', q1, fun j hj hbj => ?_, q3, fun q hq he => ?_⟩⟩
                · rw [q2 j (by omega) hbj]; unfold updN; rw [if_neg (by omega)]
                · have hge := c3 q hq he
                  by_cases e : q h = k + 1
                  · refine q4 q hq (fun j hj hbj => ?_)
                    by_cases ej : j = h
                    · subst ej; unfold updN; rw [if_pos rfl, e]
                    · unfold updN; rw [if_neg ej]; exact he j (by omega) hbj
                  · refine Or.inr ⟨h, hh', hb, fun j hj hbj => ?_, ?_⟩
                    · rw [q2 j (by omega) hbj, he j hj hbj]; unfold updN; rw [if_neg (by omega)]
                    · rw [q2 h (by omega) hb]; unfold updN; rw [if_pos rfl]; omega
              · right
                refine ⟨hk3, (nI (k + 1 + 1), M'), rfl, rfl, kc, fun j hj hbj => ?_, fun q hq he => ?_⟩
                · show M' 54 j = _
                  rw [q1 j (by omega) hbj]; unfold updN; rw [if_neg (by omega)]
                · have hge := c3 q hq he
                  have : q h ≠ k + 1 := fun e => q2 q hq (fun j hj hbj => by
                    by_cases ej : j = h
                    · subst ej; unfold updN; rw [if_pos rfl, e]
                    · unfold updN; rw [if_neg ej]; exact he j (by omega) hbj)
                  omega
            · right
              refine ⟨hk3, (nI (k + 1 + 1), M1), by simp only [if_true, ni_add1], rfl, c1', c2', fun q hq he => ?_⟩
              have hge := c3 q hq he
              have : q h ≠ k + 1 := fun e => by
                obtain ⟨p1, p2, p3, p4⟩ := hq kk k2 k3
                refine k4 (q kk) p1 p2 ⟨⟨p3, fun j hj hbj => ?_⟩, ?_⟩
                · rw [← he j hj hbj]; exact p4 j (by omega) hbj
                · rw [← e]; exact p4 h k1 hb
              omega
          · right
            refine ⟨hk3, (nI (k + 1 + 1), Q), ?_, rfl, c1, c2, fun q hq he => ?_⟩
            · simp only [hmask, Bool.false_eq_true, Bool.true_eq_false, if_false, if_true, ni_add1]
            · have hge := c3 q hq he
              have := PCn.no (c := k + 1) hh' hb (fun z => hmask ((m2.2 (k + 1) (by omega) (by omega)).mpr z)) q hq he
              omega
        · left
          obtain rfl : k = 3 := by omega
          refine ⟨.inl (nI 4, Q), rfl, c1, Or.inr ⟨rfl, c2, fun q hq he => ?_⟩⟩
          have := c3 q hq he
          have := (hq h hh' hb).2.1
          omega)
      have hL : L_26_57 (KK_26 f) (nI dp) (nI H) (nI h) (nI m) 1 M = some res := g1
      rw [hL]
      cases res with
      | inl s => obtain ⟨a, b⟩ := s; exact ⟨0, b, rfl, g2.1, SkR.mv hgap hge g2.2⟩
      | inr s => obtain ⟨a, b⟩ := s; exact ⟨a, b, rfl, g2.1, SkR.mv hgap hge g2.2⟩
end SEEKC
