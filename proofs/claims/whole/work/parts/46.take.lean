/-! the laws of a set, gathered, on both sides -/
def cwX (b d : Nat) : Int32 := (((nI b >>> ((nI d - 1) &&& 31)) &&& 1) ||| (((nI b >>> ((nI d - 1) &&& 31)) >>> ((2 : Int32) &&& 31)) &&& 2)) ||| (((nI b >>> ((nI d - 1) &&& 31)) >>> ((4 : Int32) &&& 31)) &&& 4)
def cwN (b d : Nat) : Nat := (cwX b d).toNatClampNeg
set_option maxRecDepth 100000 in
theorem cw_k : ∀ b, b < 512 → ∀ d, d < 3 → cwX b (d + 1) = nI (cwN b (d + 1)) ∧ cwN b (d + 1) < 8 ∧ ∀ c, c < 3 → (cwN b (d + 1)).testBit c = b.testBit (3 * c + d) := by decide +kernel
theorem cw_b {b d : Nat} (hb : b < 512) (h1 : 1 ≤ d) (h3 : d ≤ 3) : cwX b d = nI (cwN b d) ∧ bt3 (cwN b d) (fun c => b.testBit (3 * c + d - 4) = true) := by
  obtain ⟨e, rfl⟩ : ∃ e, d = e + 1 := ⟨d - 1, by omega⟩
  obtain ⟨k1, k2, k3⟩ := cw_k b hb e (by omega)
  refine ⟨k1, k2, fun c c1 c3 => ?_⟩
  obtain ⟨c, rfl⟩ : ∃ e, c = e + 1 := ⟨c - 1, by omega⟩
  show _ ↔ b.testBit (3 * (c + 1) + (e + 1) - 4) = true
  rw [Nat.add_sub_cancel, k3 c (by omega), show 3 * (c + 1) + (e + 1) - 4 = 3 * c + e by omega]
theorem gw_b {b c : Nat} (h1 : 1 ≤ c) : bt3 (b >>> (3 * (c - 1)) &&& 7) (fun d => b.testBit (3 * c + d - 4) = true) := ⟨and7 _, fun d d1 d3 => by rw [gw_bit h1 d1 d3]⟩
theorem f19_ok {t i d b : Nat} {M : IM} (hi : i < 32) (h : M (t + 1) i = nI b) : F_19 t (nI i) (nI d) M = some (cwX b d) := by
  unfold F_19
  simp (disch := omega) only [inb_nI, ni_cl, if_pos, if_neg, if_true, if_false, h]
  rfl
theorem f18_ok {t i c b : Nat} {M : IM} (hi : i < 32) (hb : b < 512) (hc1 : 1 ≤ c) (hc3 : c ≤ 3) (h : M (t + 1) i = nI b) : F_18 t (nI i) (nI c) M = some (nI (b >>> (3 * (c - 1)) &&& 7)) := by
  unfold F_18
  have e3 : (3 : Int32) * (nI c - 1) = nI (3 * (c - 1)) := by
    rw [show nI c - 1 = nI (c - 1) from ni_sub (b := 1) hc1]
    exact ni_mul 3 (c - 1)
  simp (disch := omega) only [e3, inb_nI, ni_cl, if_pos, if_neg, if_true, if_false, h, ni_shr]
  rw [show (7 : Int32) = nI 7 from rfl, ni_and]
theorem RCgo.im {A A' : Nat → Nat → Nat → Nat → Prop} {M : IM} (h : RCgo A M) (e : ∀ h k c d, h < 12 → k < 12 → 1 ≤ c → c ≤ 3 → 1 ≤ d → d ≤ 3 → (A h k c d ↔ A' h k c d)) : RCgo A' M := fun a b c h1 h2 h3 h4 => by
  obtain ⟨g, g1, g2⟩ := h a b c h1 h2 h3 h4
  exact ⟨g, g1, g2.im (fun d d1 d3 => e a b c d h1 h2 h3 h4 d1 d3)⟩
theorem addPair_c {t i h k b : Nat} {A : Nat → Nat → Nat → Nat → Prop} {M : IM} (hi : i < 32) (hb : b < 512) (hh : h < 12) (hk : k < 12) (hne : h ≠ k) (ht : t + 1 ≠ 52) (hM : M (t + 1) i = nI b) (hG : RCgo A M) : ∃ M', F_24 t (nI i) (nI h) (nI k) M = some M' ∧ (∀ a j, a ≠ 52 → M' a j = M a j) ∧ RCgo (fun x y c d => A x y c d ∧ (h = x → k = y → b.testBit (3 * c + d - 4) = true) ∧ (h = y → k = x → b.testBit (3 * d + c - 4) = true)) M' := by
  obtain ⟨⟨y, Q⟩, g1, g2, g3⟩ := loopF (body := B_24_3 t (nI i) (nI h) (nI k)) (fun e s => s.1 = nI (e + 1) ∧ (∀ a j, a ≠ 52 → s.2 a j = M a j) ∧ ∀ x y c, x < 12 → y < 12 → 1 ≤ c → c ≤ 3 → ∃ g, s.2 52 ((x * 12 + y) * 4 + c) = nI g ∧ bt3 g (fun d => A x y c d ∧ (c ≤ e → (h = x → k = y → b.testBit (3 * c + d - 4) = true) ∧ (h = y → k = x → b.testBit (3 * d + c - 4) = true)))) (fun s => (∀ a j, a ≠ 52 → s.2 a j = M a j) ∧ RCgo (fun x y c d => A x y c d ∧ (h = x → k = y → b.testBit (3 * c + d - 4) = true) ∧ (h = y → k = x → b.testBit (3 * d + c - 4) = true)) s.2) 3 (by decide) (s := ((1 : Int32), M)) ⟨rfl, fun _ _ _ => rfl, fun x y c h1 h2 h3 h4 => by
    obtain ⟨g, g1, g2⟩ := hG x y c h1 h2 h3 h4
    exact ⟨g, g1, g2.im (fun d _ _ => ⟨fun z => ⟨z, fun q => absurd q (by omega)⟩, fun z => z.1⟩)⟩⟩ (by
    rintro e ⟨y, Q⟩ he ⟨rfl, c1, c2⟩
    dsimp only at c1 c2
    unfold B_24_3
    dsimp only
    by_cases he3 : e < 3
    · have i3 : ¬ ((3 : Int32) < nI (e + 1)) := nI_nlt (a := 3) (by omega) (by decide)
      have x1 : inb (((nI h * 12) + nI k) * 4 + nI (e + 1)) 576 = true := by rw [go_ix, inb_nI (by omega)]; omega
      have x2 : inb (((nI k * 12) + nI h) * 4 + nI (e + 1)) 576 = true := by rw [go_ix, inb_nI (by omega)]; omega
      have x3 : (((nI h * 12) + nI k) * 4 + nI (e + 1)).toNatClampNeg = (h * 12 + k) * 4 + (e + 1) := by rw [go_ix, ni_cl (by omega)]
      have x4 : (((nI k * 12) + nI h) * 4 + nI (e + 1)).toNatClampNeg = (k * 12 + h) * 4 + (e + 1) := by rw [go_ix, ni_cl (by omega)]
      have hQ : Q (t + 1) i = nI b := by rw [c1 _ _ ht]; exact hM
      obtain ⟨g1, p1, p2⟩ := c2 h k (e + 1) hh hk (by omega) (by omega)
      obtain ⟨g2, r1, r2⟩ := c2 k h (e + 1) hk hh (by omega) (by omega)
      obtain ⟨w1, w2⟩ := cw_b (d := e + 1) hb (by omega) (by omega)
      have gw := gw_b (b := b) (c := e + 1) (by omega)
      have hq2 : ∀ z, (iset Q 52 ((h * 12 + k) * 4 + (e + 1)) z) (t + 1) i = nI b := fun z => by rw [iset_k ht]; exact hQ
      have hne2 : (k * 12 + h) * 4 + (e + 1) ≠ (h * 12 + k) * 4 + (e + 1) := by omega
      simp only [i3, if_false, x1, x2, x3, x4, if_true, f18_ok hi hb (show 1 ≤ e + 1 by omega) (show e + 1 ≤ 3 by omega) hQ, p1, ni_and, f19_ok hi (hq2 _), w1, iset_j hne2, r1]
      right
      refine ⟨he3, _, by rw [ni_add1], rfl, fun a j ha => ?_, fun x y c h1 h2 h3 h4 => ?_⟩
      · dsimp only
        rw [iset_k ha, iset_k ha]; exact c1 a j ha
      · dsimp only
        by_cases q1 : x = k ∧ y = h ∧ c = e + 1
        · obtain ⟨rfl, rfl, rfl⟩ := q1
          refine ⟨g2 &&& cwN b (e + 1), iset_same _ _ _ _, (r2.and w2).im (fun d d1 d3 => ⟨fun z => ⟨z.1.1, fun _ => ⟨fun u _ => absurd u hne, fun _ _ => z.2⟩⟩, fun z => ⟨⟨z.1, fun q => absurd q (by omega)⟩, (z.2 (Nat.le_refl _)).2 rfl rfl⟩⟩)⟩
        · rw [iset_j (by omega)]
          by_cases q2 : x = h ∧ y = k ∧ c = e + 1
          · obtain ⟨rfl, rfl, rfl⟩ := q2
            refine ⟨g1 &&& (b >>> (3 * (e + 1 - 1)) &&& 7), iset_same _ _ _ _, (p2.and gw).im (fun d d1 d3 => ⟨fun z => ⟨z.1.1, fun _ => ⟨fun _ _ => z.2, fun u _ => absurd u hne⟩⟩, fun z => ⟨⟨z.1, fun q => absurd q (by omega)⟩, (z.2 (Nat.le_refl _)).1 rfl rfl⟩⟩)⟩
          · rw [iset_j (by omega)]
            obtain ⟨g, u1, u2⟩ := c2 x y c h1 h2 h3 h4
            refine ⟨g, u1, u2.im (fun d d1 d3 => ⟨fun z => ⟨z.1, fun q => ?_⟩, fun z => ⟨z.1, fun q => z.2 (by omega)⟩⟩)⟩
            by_cases q3 : c ≤ e
            · exact z.2 q3
            · exact ⟨fun u1 u2 => absurd ⟨u1.symm, u2.symm, by omega⟩ q2, fun u1 u2 => absurd ⟨u2.symm, u1.symm, by omega⟩ q1⟩
    · left
      obtain rfl : e = 3 := by omega
      refine ⟨(nI 4, Q), rfl, c1, fun x y c h1 h2 h3 h4 => ?_⟩
      obtain ⟨g, u1, u2⟩ := c2 x y c h1 h2 h3 h4
      exact ⟨g, u1, u2.im (fun d d1 d3 => ⟨fun z => ⟨z.1, z.2 h4⟩, fun z => ⟨z.1, fun _ => z.2⟩⟩)⟩)
  have hL : L_24_3 t (nI i) (nI h) (nI k) 1 M = some (y, Q) := g1
  unfold F_24
  rw [hL]
  exact ⟨Q, rfl, g2, g3⟩
/-- laws ahead of l, and cases of l ahead of i -/
def Dn (l i : Nat) : Nat → Nat → Prop := fun l' i' => l' < l ∨ (l' = l ∧ i' < i)
section DN
variable {n s l i : Nat} {K : Nat → Nat} {tb : Nat → Nat → Nat}
theorem AD_p (hl : l < n) (hs : s.testBit l = true) (hp : pr (K l) = true) (hi : i < mny (K l)) (h k c d : Nat) : AD n K tb s (Dn l (i + 1)) h k c d ↔ AD n K tb s (Dn l i) h k c d ∧ (fa (K l) i = h → fb (K l) i = k → okL tb l i c d) ∧ (fa (K l) i = k → fb (K l) i = h → okL tb l i d c) := by
  constructor
  · intro z
    exact ⟨fun l' i' hD => z l' i' (hD.imp id (fun q => ⟨q.1, by omega⟩)), z l i (Or.inr ⟨rfl, by omega⟩) hl hs hp hi⟩
  · rintro ⟨z1, z2⟩ l' i' hD h1 h2 h3 h4
    by_cases e : l' = l ∧ i' = i
    · obtain ⟨rfl, rfl⟩ := e; exact z2
    · exact z1 l' i' (hD.imp id (fun q => ⟨q.1, by omega⟩)) h1 h2 h3 h4
theorem AD_n (hp : pr (K l) = false) (h k c d : Nat) : AD n K tb s (Dn l (i + 1)) h k c d ↔ AD n K tb s (Dn l i) h k c d := by
  constructor
  · intro z l' i' hD
    exact z l' i' (hD.imp id (fun q => ⟨q.1, by omega⟩))
  · intro z l' i' hD h1 h2 h3 h4
    by_cases e : l' = l
    · subst e; rw [hp] at h3; cases h3
    · exact z l' i' (hD.imp id (fun q => absurd q.1 e)) h1 h2 h3 h4
theorem UD_n (hl : l < n) (hs : s.testBit l = true) (hp : pr (K l) = false) (hi : i < mny (K l)) (h c : Nat) : UD n K tb s (Dn l (i + 1)) h c ↔ UD n K tb s (Dn l i) h c ∧ (fa (K l) i = h → okL tb l i c c) := by
  constructor
  · intro z
    exact ⟨fun l' i' hD => z l' i' (hD.imp id (fun q => ⟨q.1, by omega⟩)), z l i (Or.inr ⟨rfl, by omega⟩) hl hs hp hi⟩
  · rintro ⟨z1, z2⟩ l' i' hD h1 h2 h3 h4
    by_cases e : l' = l ∧ i' = i
    · obtain ⟨rfl, rfl⟩ := e; exact z2
    · exact z1 l' i' (hD.imp id (fun q => ⟨q.1, by omega⟩)) h1 h2 h3 h4
theorem UD_p (hp : pr (K l) = true) (h c : Nat) : UD n K tb s (Dn l (i + 1)) h c ↔ UD n K tb s (Dn l i) h c := by
  constructor
  · intro z l' i' hD
    exact z l' i' (hD.imp id (fun q => ⟨q.1, by omega⟩))
  · intro z l' i' hD h1 h2 h3 h4
    by_cases e : l' = l
    · subst e; rw [hp] at h3; cases h3
    · exact z l' i' (hD.imp id (fun q => absurd q.1 e)) h1 h2 h3 h4
theorem AD_e (h k c d : Nat) : AD n K tb s (Dn l (mny (K l))) h k c d ↔ AD n K tb s (Dn (l + 1) 0) h k c d := by
  constructor
  · intro z l' i' hD h1 h2 h3 h4
    refine z l' i' ?_ h1 h2 h3 h4
    rcases hD with hD | hD
    · by_cases e : l' = l
      · subst e; exact Or.inr ⟨rfl, h4⟩
      · exact Or.inl (by omega)
    · omega
  · intro z l' i' hD h1 h2 h3 h4
    exact z l' i' (Or.inl (by rcases hD with q | q <;> omega)) h1 h2 h3 h4
theorem UD_e (h c : Nat) : UD n K tb s (Dn l (mny (K l))) h c ↔ UD n K tb s (Dn (l + 1) 0) h c := by
  constructor
  · intro z l' i' hD h1 h2 h3 h4
    refine z l' i' ?_ h1 h2 h3 h4
    rcases hD with hD | hD
    · by_cases e : l' = l
      · subst e; exact Or.inr ⟨rfl, h4⟩
      · exact Or.inl (by omega)
    · omega
  · intro z l' i' hD h1 h2 h3 h4
    exact z l' i' (Or.inl (by rcases hD with q | q <;> omega)) h1 h2 h3 h4
theorem AD_o (hs : s.testBit l = false) (h k c d : Nat) : AD n K tb s (Dn l 0) h k c d ↔ AD n K tb s (Dn (l + 1) 0) h k c d := by
  constructor
  · intro z l' i' hD h1 h2 h3 h4
    by_cases e : l' = l
    · subst e; rw [hs] at h2; cases h2
    · exact z l' i' (Or.inl (by rcases hD with q | q <;> omega)) h1 h2 h3 h4
  · intro z l' i' hD h1 h2 h3 h4
    exact z l' i' (Or.inl (by rcases hD with q | q <;> omega)) h1 h2 h3 h4
theorem UD_o (hs : s.testBit l = false) (h c : Nat) : UD n K tb s (Dn l 0) h c ↔ UD n K tb s (Dn (l + 1) 0) h c := by
  constructor
  · intro z l' i' hD h1 h2 h3 h4
    by_cases e : l' = l
    · subst e; rw [hs] at h2; cases h2
    · exact z l' i' (Or.inl (by rcases hD with q | q <;> omega)) h1 h2 h3 h4
  · intro z l' i' hD h1 h2 h3 h4
    exact z l' i' (Or.inl (by rcases hD with q | q <;> omega)) h1 h2 h3 h4
theorem AD_t (h k c d : Nat) : AD n K tb s (Dn n 0) h k c d ↔ AD n K tb s tt2 h k c d := by
  constructor
  · intro z l' i' _ h1; exact z l' i' (Or.inl h1) h1
  · intro z l' i' _ h1; exact z l' i' trivial h1
theorem UD_t (h c : Nat) : UD n K tb s (Dn n 0) h c ↔ UD n K tb s tt2 h c := by
  constructor
  · intro z l' i' _ h1; exact z l' i' (Or.inl h1) h1
  · intro z l' i' _ h1; exact z l' i' trivial h1
end DN
theorem RowC.im {dp lo H : Nat} {p q : Nat → Nat → Prop} {M : IM} (h : RowC dp lo H p M) (e : ∀ k c, k < 12 → 1 ≤ c → c ≤ 3 → (p k c ↔ q k c)) : RowC dp lo H q M := fun k a b c => by
  obtain ⟨m, m1, m2⟩ := h k a b c
  exact ⟨m, m1, m2.im (fun c c1 c3 => e k c b c1 c3)⟩
theorem side4 : ∀ k, k < 6 → pr k = true → k ≠ 4 → ∀ i, i < mny k → (fa k i < 4 ↔ fb k i < 4) := by decide +kernel
section TAKE
variable {n s : Nat} {K P : Nat → Nat} {tb : Nat → Nat → Nat} {M : IM}
theorem add_c {l : Nat} (hW : LW n K P tb) (hC : LC 1 n K P tb M) (hl : l < n) (hs : s.testBit l = true) (hG : RCgo (AD n K tb s (Dn l 0)) M) (hU : RowC 0 0 4095 (UD n K tb s (Dn l 0)) M) (h50 : M 51 3 = 0 ∨ M 51 3 = 1) : ∃ M', F_23 (1 + 5 + 2 * l) M = some M' ∧ (∀ a j, ¬ (a = 52 ∨ (a = 53 ∧ j < 12) ∨ (a = 51 ∧ j = 3)) → M' a j = M a j) ∧ RCgo (AD n K tb s (Dn (l + 1) 0)) M' ∧ RowC 0 0 4095 (UD n K tb s (Dn (l + 1) 0)) M' ∧ (M' 51 3 = 0 ∨ M' 51 3 = 1) ∧ (M' 51 3 = 0 → M 51 3 = 0 ∧ K l ≠ 4) := by
  have hn := hW.1
  have hk := (hW.2 l hl).1
  have hm := mny_lt hk
  have c0 : M (1 + 5 + 2 * l) 0 = nI (K l) := (hC.2 l hl).1
  have ct : ∀ i, i < mny (K l) → M (1 + 5 + 2 * l + 1) i = nI (tb l i) := fun i hi => by rw [show 1 + 5 + 2 * l + 1 = 1 + 6 + 2 * l by omega]; exact (hC.2 l hl).2.2 i hi
  have hG1 : ∀ x : Int32, RCgo (AD n K tb s (Dn l 0)) (iset M 51 3 x) := fun x => hG.cg (fun j => iset_k (by decide))
  have hU1 : ∀ x : Int32, RowC 0 0 4095 (UD n K tb s (Dn l 0)) (iset M 51 3 x) := fun x => hU.cg (fun k _ => iset_k (by decide))
  have loop : ∀ x : Int32, ∃ M', L_23_26 (1 + 5 + 2 * l) 0 (iset M 51 3 x) = some M' ∧ (∀ a j, ¬ (a = 52 ∨ (a = 53 ∧ j < 12)) → M'.2 a j = iset M 51 3 x a j) ∧ RCgo (AD n K tb s (Dn (l + 1) 0)) M'.2 ∧ RowC 0 0 4095 (UD n K tb s (Dn (l + 1) 0)) M'.2 := fun x => by
    obtain ⟨⟨y, Q⟩, g1, g2, g3, g4⟩ := loopF (body := B_23_26 (1 + 5 + 2 * l)) (fun i s' => s'.1 = nI i ∧ (∀ a j, ¬ (a = 52 ∨ (a = 53 ∧ j < 12)) → s'.2 a j = iset M 51 3 x a j) ∧ RCgo (AD n K tb s (Dn l i)) s'.2 ∧ RowC 0 0 4095 (UD n K tb s (Dn l i)) s'.2) (fun s' => (∀ a j, ¬ (a = 52 ∨ (a = 53 ∧ j < 12)) → s'.2 a j = iset M 51 3 x a j) ∧ RCgo (AD n K tb s (Dn (l + 1) 0)) s'.2 ∧ RowC 0 0 4095 (UD n K tb s (Dn (l + 1) 0)) s'.2) (mny (K l)) (by omega) (s := ((0 : Int32), iset M 51 3 x)) ⟨rfl, fun _ _ _ => rfl, hG1 x, hU1 x⟩ (by
      rintro i ⟨y, Q⟩ hi ⟨rfl, c1, c2, c3⟩
      dsimp only at c1 c2 c3
      have k0 : Q (1 + 5 + 2 * l) 0 = nI (K l) := by rw [c1 _ _ (by omega), iset_k (by omega)]; exact c0
      unfold B_23_26 J_23_89_26
      dsimp only
      rw [k0, E_0 _ hk]
      dsimp only
      by_cases him : i < mny (K l)
      · have f1 := fa_lt _ hk i him
        have f2 := fb_lt _ hk i him
        have hb := ((hW.2 l hl).2.2 i him).1
        have kt : Q (1 + 5 + 2 * l + 1) i = nI (tb l i) := by rw [c1 _ _ (by omega), iset_k (by omega)]; exact ct i him
        right
        rw [E_2 _ hk i him]
        simp (disch := omega) only [ni_lei, if_pos, if_neg, if_true, if_false]
        rw [E_1 _ hk]
        cases hp : pr (K l)
        · obtain ⟨m, m1, m2⟩ := c3 (fa (K l) i) (Nat.zero_le _) f1 (t4095 _ f1)
          rw [Nat.zero_mul, Nat.zero_add] at m1
          obtain ⟨w1, w2⟩ := cw_b (b := tb l i) (d := 1) hb (by decide) (by decide)
          have f19 : F_19 (1 + 5 + 2 * l) (nI i) 1 Q = some (nI (cwN (tb l i) 1)) := by rw [← w1]; exact f19_ok (d := 1) (by omega) kt
          simp (disch := omega) only [Bool.false_eq_true, Bool.true_eq_false, if_false, if_true, inb_nI, ni_cl, if_pos, if_neg, if_true, if_false, f19, m1, ni_and]
          refine ⟨him, _, by rw [ni_add1], rfl, fun a j ha => ?_, ?_, fun k k1 k2 k3 => ?_⟩
          · dsimp only
            rw [iset_eq, if_neg (by omega)]; exact c1 a j ha
          · refine (c2.im (fun h k c d _ _ _ _ _ _ => (AD_n hp h k c d).symm)).cg (fun j => ?_)
            dsimp only
            rw [iset_k (by decide)]
          · dsimp only
            by_cases e : k = fa (K l) i
            · subst e
              refine ⟨m &&& cwN (tb l i) 1, by rw [Nat.zero_mul, Nat.zero_add, iset_same], (m2.and w2).im (fun c c1 c3 => ?_)⟩
              rw [UD_n hl hs hp him]
              have hu := okL_np hW hl him hp c1 c3 c1 c3
              exact ⟨fun z => ⟨z.1, fun _ => hu.mpr (by rw [← show 3 * c + 1 - 4 = 3 * c - 3 by omega]; exact z.2)⟩, fun z => ⟨z.1, by rw [show 3 * c + 1 - 4 = 3 * c - 3 by omega]; exact hu.mp (z.2 rfl)⟩⟩
            · obtain ⟨m', u1, u2⟩ := c3 k k1 k2 k3
              refine ⟨m', by rw [iset_j (by omega)]; exact u1, u2.im (fun c c1 c3 => ?_)⟩
              rw [UD_n hl hs hp him]
              exact ⟨fun z => ⟨z, fun q => absurd q.symm e⟩, fun z => z.1⟩
        · obtain ⟨M2, a1, a2, a3⟩ := addPair_c (t := 1 + 5 + 2 * l) (i := i) (by omega) hb f1 f2 (fab_ne _ hk hp i him) (by omega) kt c2
          rw [E_3 _ hk i him]
          simp only [one_ne, if_false, if_true, a1]
          refine ⟨him, _, by rw [ni_add1], rfl, fun a j ha => ?_, a3.im (fun h k c d _ _ _ _ _ _ => ?_), fun k k1 k2 k3 => ?_⟩
          · dsimp only
            rw [a2 _ _ (by omega)]; exact c1 a j ha
          · rw [AD_p hl hs hp him]
            exact ⟨fun z => ⟨z.1, fun u v => z.2.1 u v, fun u v => z.2.2 u v⟩, fun z => ⟨z.1, fun u v => z.2.1 u v, fun u v => z.2.2 u v⟩⟩
          · dsimp only
            obtain ⟨m', u1, u2⟩ := c3 k k1 k2 k3
            exact ⟨m', by rw [a2 _ _ (by decide)]; exact u1, u2.im (fun c c1 c3 => (UD_p hp k c).symm)⟩
      · left
        obtain rfl : i = mny (K l) := by omega
        refine ⟨(nI (mny (K l)), Q), ?_, c1, c2.im (fun h k c d _ _ _ _ _ _ => AD_e h k c d), c3.im (fun k c _ _ _ => UD_e k c)⟩
        simp (disch := omega) only [ni_lei, if_pos, if_neg, if_true, if_false])
    exact ⟨(y, Q), g1, g2, g3, g4⟩
  have fin : ∀ x : Int32, x = 0 ∨ x = 1 → (x = 0 → M 51 3 = 0 ∧ K l ≠ 4) → F_23 (1 + 5 + 2 * l) M = J_23_21 (1 + 5 + 2 * l) x M → ∃ M', F_23 (1 + 5 + 2 * l) M = some M' ∧ (∀ a j, ¬ (a = 52 ∨ (a = 53 ∧ j < 12) ∨ (a = 51 ∧ j = 3)) → M' a j = M a j) ∧ RCgo (AD n K tb s (Dn (l + 1) 0)) M' ∧ RowC 0 0 4095 (UD n K tb s (Dn (l + 1) 0)) M' ∧ (M' 51 3 = 0 ∨ M' 51 3 = 1) ∧ (M' 51 3 = 0 → M 51 3 = 0 ∧ K l ≠ 4) := fun x hx hx2 hF => by
    obtain ⟨⟨y, Q⟩, g1, g2, g3, g4⟩ := loop x
    dsimp only at g2 g3 g4
    have e : Q 51 3 = x := by rw [g2 _ _ (by omega), iset_same]
    refine ⟨Q, ?_, fun a j ha => ?_, g3, g4, by rw [e]; exact hx, fun z => hx2 (e.symm.trans z)⟩
    · rw [hF]; unfold J_23_21; rw [g1]
    · rw [g2 _ _ (fun z => ha (z.imp id (fun q => Or.inl q))), iset_eq, if_neg (fun z => ha (Or.inr (Or.inr z)))]
  by_cases hz : M 51 3 = 0
  · by_cases h4 : K l = 4
    · refine fin 1 (Or.inr rfl) (fun z => absurd z one_ne) ?_
      unfold F_23 J_23_16
      rw [c0, h4, if_pos hz, if_pos (show nI 4 = 4 from rfl)]
    · refine fin 0 (Or.inl rfl) (fun _ => ⟨hz, h4⟩) ?_
      unfold F_23
      rw [c0, if_pos hz, if_neg (show ¬ nI (K l) = 4 from fun z => h4 (ni_inj (b := 4) (by omega) (by decide) z))]
  · refine fin 1 (Or.inr rfl) (fun z => absurd z one_ne) ?_
    unfold F_23 J_23_16
    rw [if_neg hz]
theorem ln51 : ln 52 = 576 := by decide
theorem ln52 : ln 53 = 156 := by decide
theorem bt7 (p : Nat → Prop) (h : ∀ c, 1 ≤ c → c ≤ 3 → p c) : bt3 7 p := ⟨by decide, fun c c1 c3 => ⟨fun _ => h c c1 c3, fun _ => by
  have : c = 1 ∨ c = 2 ∨ c = 3 := by omega
  rcases this with rfl | rfl | rfl <;> rfl⟩⟩
theorem take_c (hW : LW n K P tb) (hC : LC 1 n K P tb M) (hs : s < 256) : ∃ M', F_22 1 (nI s) M = some M' ∧ (∀ a j, ¬ (a = 52 ∨ (a = 53 ∧ j < 12) ∨ (a = 51 ∧ j = 3)) → M' a j = M a j) ∧ RCgo (AD n K tb s tt2) M' ∧ RowC 0 0 4095 (UD n K tb s tt2) M' ∧ (M' 51 3 = 0 → ∀ h k c d, h < 4 → 4 ≤ k → k < 12 → 1 ≤ c → c ≤ 3 → 1 ≤ d → d ≤ 3 → AD n K tb s tt2 h k c d) := by
  have hn := hW.1
  unfold F_22
  rw [fill_ok 52 7 M (by rw [ln51]; decide)]
  dsimp only
  rw [show F_257 53 0 12 7 (wr M 52 0 (ln 52) (fun _ => 7)) = _ from fill2_ok 53 0 12 7 _ (by decide) (by rw [ln52]; decide) (by rw [ln52]; decide)]
  dsimp only
  rw [ln51]
  generalize hB : iset (wr (wr M 52 0 576 (fun _ => 7)) 53 0 12 (fun _ => 7)) 51 3 0 = B
  have b1 : ∀ a j, ¬ (a = 52 ∨ (a = 53 ∧ j < 12) ∨ (a = 51 ∧ j = 3)) → B a j = M a j := fun a j ha => by
    rw [← hB, iset_eq, if_neg (by omega), wr_eq, if_neg (by omega), wr_k (by omega)]
  have b2 : B 51 3 = 0 := by rw [← hB, iset_same]
  have b3 : RCgo (AD n K tb s (Dn 0 0)) B := fun h k c h1 h2 h3 h4 => ⟨7, by rw [← hB, iset_k (by decide), wr_k (by decide), wr_in (Nat.zero_le _) (by omega)]; rfl, bt7 _ (fun d _ _ l' i' hD => absurd hD (by unfold Dn; omega))⟩
  have b4 : RowC 0 0 4095 (UD n K tb s (Dn 0 0)) B := fun k _ h2 _ => ⟨7, by rw [← hB, iset_k (by decide), wr_in (by omega) (by omega)]; rfl, bt7 _ (fun c _ _ l' i' hD => absurd hD (by unfold Dn; omega))⟩
  obtain ⟨⟨y, Q⟩, g1, g2, g3, g4, g5⟩ := loopF (body := B_22_28 1 (nI s)) (fun l s' => s'.1 = nI l ∧ (∀ a j, ¬ (a = 52 ∨ (a = 53 ∧ j < 12) ∨ (a = 51 ∧ j = 3)) → s'.2 a j = M a j) ∧ RCgo (AD n K tb s (Dn l 0)) s'.2 ∧ RowC 0 0 4095 (UD n K tb s (Dn l 0)) s'.2 ∧ (s'.2 51 3 = 0 ∨ s'.2 51 3 = 1) ∧ (s'.2 51 3 = 0 → ∀ l', l' < l → s.testBit l' = true → K l' ≠ 4)) (fun s' => (∀ a j, ¬ (a = 52 ∨ (a = 53 ∧ j < 12) ∨ (a = 51 ∧ j = 3)) → s'.2 a j = M a j) ∧ RCgo (AD n K tb s tt2) s'.2 ∧ RowC 0 0 4095 (UD n K tb s tt2) s'.2 ∧ (s'.2 51 3 = 0 → ∀ l', l' < n → s.testBit l' = true → K l' ≠ 4)) n (by omega) (s := ((0 : Int32), B)) ⟨rfl, b1, b3, b4, Or.inl b2, fun _ l' hl' => absurd hl' (Nat.not_lt_zero _)⟩ (by
    rintro l ⟨y, Q⟩ hl ⟨rfl, c1, c2, c3, c4, c5⟩
    dsimp only at c1 c2 c3 c4 c5
    have hCQ : LC 1 n K P tb Q := hC.cg hn (fun k j hk => c1 k j (by omega))
    unfold B_22_28 J_22_55_28
    dsimp only
    rw [hCQ.1]
    by_cases hln : l < n
    · right
      rw [isOf_ok hn hs hCQ.1 hln]
      cases hb : s.testBit l
      · refine ⟨hln, (nI (l + 1), Q), ?_, rfl, c1, c2.im (fun h k c d _ _ _ _ _ _ => AD_o hb h k c d), c3.im (fun k c _ _ _ => UD_o hb k c), c4, fun z l' hl' hb' => ?_⟩
        · simp (disch := omega) only [Bool.false_eq_true, Bool.true_eq_false, if_false, if_true, ni_lei, if_pos, if_neg, if_true, if_false, ni_add1]
        · by_cases e : l' = l
          · rw [e, hb] at hb'; cases hb'
          · exact c5 z l' (by omega) hb'
      · obtain ⟨M', a1, a2, a3, a4, a5, a6⟩ := add_c hW hCQ hln hb c2 c3 c4
        refine ⟨hln, (nI (l + 1), M'), ?_, rfl, fun a j ha => ?_, a3, a4, a5, fun z l' hl' hb' => ?_⟩
        · simp (disch := omega) only [one_ne, if_false, if_true, ni_lei, if_pos, if_neg, if_true, if_false, inb_nI, ni_cl, a1, ni_add1]
        · dsimp only
          rw [a2 a j ha]; exact c1 a j ha
        · by_cases e : l' = l
          · rw [e]; exact (a6 z).2
          · exact c5 (a6 z).1 l' (by omega) hb'
    · left
      obtain rfl : l = n := by omega
      refine ⟨(nI l, Q), ?_, c1, c2.im (fun h k c d _ _ _ _ _ _ => AD_t h k c d), c3.im (fun k c _ _ _ => UD_t k c), c5⟩
      simp (disch := omega) only [ni_lei, if_pos, if_neg, if_true, if_false])
  have hL : L_22_28 1 (nI s) 0 B = some (y, Q) := g1
  rw [hL]
  refine ⟨Q, rfl, g2, g3, g4, fun z h k c d h4 k4 k12 _ _ _ _ l i _ hl hb hp hi => ?_⟩
  have hkl := (hW.2 l hl).1
  have := side4 _ hkl hp (g5 z l hl hb) i hi
  exact ⟨fun e1 e2 => by omega, fun e1 e2 => by omega⟩
end TAKE
