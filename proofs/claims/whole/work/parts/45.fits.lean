/-! the search of all halls, on both sides; rules that keep a set of laws -/
theorem t15 : ∀ k, k < 12 → (15 : Nat).testBit k = decide (k < 4) := by decide
theorem t4080 : ∀ k, k < 12 → (4080 : Nat).testBit k = decide (4 ≤ k) := by decide
theorem t4095 : ∀ k, k < 12 → (4095 : Nat).testBit k = true := by decide
theorem t15b {k : Nat} (h : (15 : Nat).testBit k = true) : k < 4 := by
  by_cases e : k < 12
  · rw [t15 k e] at h; exact of_decide_eq_true h
  · exfalso
    rw [Nat.testBit_lt_two_pow (Nat.lt_of_lt_of_le (show 15 < 2 ^ 12 by decide) (Nat.pow_le_pow_right (by decide) (by omega)))] at h
    cases h
theorem t4080b {k : Nat} (hk : k < 12) (h : (4080 : Nat).testBit k = true) : 4 ≤ k := by
  rw [t4080 k hk] at h; exact of_decide_eq_true h
section FITS
variable {U : Nat → Nat → Prop} {A : Nat → Nat → Nat → Nat → Prop} {M : IM}
theorem PCn.sub {H H' : Nat} {q : Nat → Nat} (h : PCn U A H 12 q) (hs : ∀ k, k < 12 → H'.testBit k = true → H.testBit k = true) : PCn U A H' 12 q := fun k hk hb => by
  obtain ⟨p1, p2, p3, p4⟩ := h k hk (hs k hk hb)
  exact ⟨p1, p2, p3, fun j hj hbj => p4 j hj (hs j (by omega) hbj)⟩
theorem sk0 {H : Nat} (hH : H < 4096) (hR : RR U A M) : ∃ x M', K_206 0 (nI H) M = some (x, M') ∧ Chg 89 89 M M' ∧ ((x = 1 ∧ ∃ r, Fst U A H r ∧ ∀ k, k < 12 → H.testBit k = true → M' 89 k = nI (r k)) ∨ (x = 0 ∧ ∀ q, ¬ PCn U A H 12 q)) := by
  obtain ⟨x, M', h1, h2, h3⟩ := seek_r (U := U) (A := A) hH 64 0 M (fun _ => 1) (by decide) (by decide) hR (fun k hk => absurd hk (Nat.not_lt_zero _)) (fun k hk => absurd hk (Nat.not_lt_zero _))
  refine ⟨x, M', h1, h2, ?_⟩
  rcases h3 with ⟨rfl, r, a1, a2, a3, a4⟩ | ⟨rfl, a1, a2⟩
  · exact Or.inl ⟨rfl, r, ⟨a3, fun q hq => a4 q hq (fun k hk => absurd hk (Nat.not_lt_zero _))⟩, a1⟩
  · exact Or.inr ⟨rfl, fun q hq => a2 q hq (fun k hk => absurd hk (Nat.not_lt_zero _))⟩
theorem sk0c {H : Nat} (hH : H < 4096) (hG : RCgo A M) (hrow : RowC 0 0 H U M) : ∃ x M', K_26 0 0 (nI H) M = some (x, M') ∧ (∀ k j, ¬ ((k = 53 ∧ 12 ≤ j) ∨ (k = 54 ∧ H.testBit j = true)) → M' k j = M k j) ∧ ((x = 1 ∧ ∃ r, Fst U A H r ∧ ∀ k, k < 12 → H.testBit k = true → M' 54 k = nI (r k)) ∨ (x = 0 ∧ ∀ q, ¬ PCn U A H 12 q)) := by
  obtain ⟨x, M', h1, h2, h3⟩ := seek_c (U := U) (A := A) hH 64 0 0 M (fun _ => 1) (by decide) (by decide) (by decide) hG (fun k hk => absurd hk (Nat.not_lt_zero _)) (fun k hk => absurd hk (Nat.not_lt_zero _)) (fun k a b c => by
    obtain ⟨m, m1, m2⟩ := hrow k a b c
    exact ⟨m, m1, m2.im (fun c _ _ => ⟨fun z => ⟨z, fun j hj => absurd hj (Nat.not_lt_zero _)⟩, fun z => z.1⟩)⟩)
  refine ⟨x, M', h1, fun k j hk => h2 k j (fun z => hk (z.imp (fun y => ⟨y.1, by omega⟩) id)), ?_⟩
  rcases h3 with ⟨rfl, r, a1, a2, a3, a4⟩ | ⟨rfl, a1, a2⟩
  · exact Or.inl ⟨rfl, r, ⟨a3, fun q hq => a4 q hq (fun k hk => absurd hk (Nat.not_lt_zero _))⟩, a1⟩
  · exact Or.inr ⟨rfl, fun q hq => a2 q hq (fun k hk => absurd hk (Nat.not_lt_zero _))⟩
theorem RowC.sub {H H' : Nat} (h : RowC 0 0 H U M) (hs : ∀ k, k < 12 → H'.testBit k = true → H.testBit k = true) : RowC 0 0 H' U M := fun k a b c => h k a b (hs k b c)
theorem fits_c (hG : RCgo A M) (hrow : RowC 0 0 4095 U M) (hcm : M 51 3 = 0 → ∀ h k c d, h < 4 → 4 ≤ k → k < 12 → 1 ≤ c → c ≤ 3 → 1 ≤ d → d ≤ 3 → A h k c d) : ∃ x M', F_25 M = some (x, M') ∧ (∀ k j, ¬ ((k = 53 ∧ 12 ≤ j) ∨ k = 54) → M' k j = M k j) ∧ ((x = 1 ∧ ∃ r, Fst U A 4095 r ∧ ∀ k, k < 12 → M' 54 k = nI (r k)) ∨ (x = 0 ∧ ∀ q, ¬ PCn U A 4095 12 q)) := by
  have f4 : ∀ H' k : Nat, k < 12 → H'.testBit k = true → (4095 : Nat).testBit k = true := fun _ k hk _ => t4095 k hk
  unfold F_25
  obtain ⟨x1, M1, a1, a2, a3⟩ := sk0c (H := 15) (by decide) hG (hrow.sub (f4 15))
  rw [show K_26 0 0 15 M = some (x1, M1) from a1]
  rcases a3 with ⟨rfl, r1, a4, a5⟩ | ⟨rfl, a4⟩
  · have n1 : ∀ k j, ¬ ((k = 53 ∧ 12 ≤ j) ∨ k = 54) → M1 k j = M k j := fun k j hk => a2 k j (fun z => hk (z.imp id (fun y => y.1)))
    have hG1 : RCgo A M1 := hG.cg (fun j => n1 _ _ (by omega))
    have hr1 : RowC 0 0 4095 U M1 := hrow.cg (fun k hk => n1 _ _ (by omega))
    obtain ⟨x2, M2, b1, b2, b3⟩ := sk0c (H := 4080) (by decide) hG1 (hr1.sub (f4 4080))
    simp only [one_ne, if_false]
    rw [show K_26 0 0 4080 M1 = some (x2, M2) from b1]
    have n2 : ∀ k j, ¬ ((k = 53 ∧ 12 ≤ j) ∨ k = 54) → M2 k j = M k j := fun k j hk => (b2 k j (fun z => hk (z.imp id (fun y => y.1)))).trans (n1 k j hk)
    rcases b3 with ⟨rfl, r2, b4, b5⟩ | ⟨rfl, b4⟩
    · simp only [one_ne, if_false]
      by_cases hz : M2 51 3 = 0
      · simp only [hz, if_true]
        have hz' : M 51 3 = 0 := by rw [← n2 _ _ (by omega)]; exact hz
        have hx := hcm hz'
        obtain ⟨R, e4, e5⟩ : ∃ R : Nat → Nat, (∀ k, k < 4 → R k = r1 k) ∧ ∀ k, ¬ k < 4 → R k = r2 k := ⟨fun k => if k < 4 then r1 k else r2 k, fun k hk => if_pos hk, fun k hk => if_neg hk⟩
        refine ⟨1, M2, rfl, n2, Or.inl ⟨rfl, R, ⟨fun k hk _ => ?_, fun q hq => ?_⟩, fun k hk => ?_⟩⟩
        · by_cases h4 : k < 4
          · obtain ⟨p1, p2, p3, p4⟩ := a4.1 k hk (by rw [t15 k hk]; exact decide_eq_true h4)
            rw [e4 _ h4]
            refine ⟨p1, p2, p3, fun j hj _ => ?_⟩
            rw [e4 _ (by omega)]
            exact p4 j hj (by rw [t15 j (by omega)]; exact decide_eq_true (by omega))
          · obtain ⟨p1, p2, p3, p4⟩ := b4.1 k hk (by rw [t4080 k hk]; exact decide_eq_true (by omega))
            rw [e5 _ h4]
            refine ⟨p1, p2, p3, fun j hj _ => ?_⟩
            by_cases hj4 : j < 4
            · rw [e4 _ hj4]
              obtain ⟨u1, u2, -, -⟩ := a4.1 j (by omega) (by rw [t15 j (by omega)]; exact decide_eq_true hj4)
              exact hx j k _ _ hj4 (by omega) hk u1 u2 p1 p2
            · rw [e5 _ hj4]
              exact p4 j hj (by rw [t4080 j (by omega)]; exact decide_eq_true (by omega))
        · rcases a4.2 q (hq.sub (f4 15)) with e1 | ⟨k, k1, k2, k3, k4⟩
          · rcases b4.2 q (hq.sub (f4 4080)) with e2 | ⟨k, k1, k2, k3, k4⟩
            · left
              intro k hk _
              by_cases h4 : k < 4
              · rw [e4 _ h4]; exact e1 k hk (by rw [t15 k hk]; exact decide_eq_true h4)
              · rw [e5 _ h4]; exact e2 k hk (by rw [t4080 k hk]; exact decide_eq_true (by omega))
            · have k2' := t4080b k1 k2
              refine Or.inr ⟨k, k1, t4095 k k1, fun j hj _ => ?_, by rw [e5 _ (by omega)]; exact k4⟩
              by_cases h4 : j < 4
              · rw [e4 _ h4]; exact e1 j (by omega) (by rw [t15 j (by omega)]; exact decide_eq_true h4)
              · rw [e5 _ h4]; exact k3 j hj (by rw [t4080 j (by omega)]; exact decide_eq_true (by omega))
          · have k2' := t15b k2
            refine Or.inr ⟨k, k1, t4095 k k1, fun j hj _ => ?_, by rw [e4 _ (by omega)]; exact k4⟩
            rw [e4 _ (by omega)]
            exact k3 j hj (by rw [t15 j (by omega)]; exact decide_eq_true (by omega))
        · by_cases h4 : k < 4
          · rw [e4 _ h4, b2 _ _ (fun z => by
              rcases z with z | z
              · omega
              · have := t4080b hk z.2; omega)]
            exact a5 k hk (by rw [t15 k hk]; exact decide_eq_true h4)
          · rw [e5 _ h4]
            exact b5 k hk (by rw [t4080 k hk]; exact decide_eq_true (by omega))
      · simp only [hz, if_false]
        have hG2 : RCgo A M2 := hG.cg (fun j => n2 _ _ (by omega))
        have hr2 : RowC 0 0 4095 U M2 := hrow.cg (fun k hk => n2 _ _ (by omega))
        obtain ⟨x3, M3, c1, c2, c3⟩ := sk0c (H := 4095) (by decide) hG2 hr2
        rw [show K_26 0 0 4095 M2 = some (x3, M3) from c1]
        have n3 : ∀ k j, ¬ ((k = 53 ∧ 12 ≤ j) ∨ k = 54) → M3 k j = M k j := fun k j hk => (c2 k j (fun z => hk (z.imp id (fun y => y.1)))).trans (n2 k j hk)
        rcases c3 with ⟨rfl, r3, c4, c5⟩ | ⟨rfl, c4⟩
        · exact ⟨1, M3, rfl, n3, Or.inl ⟨rfl, r3, c4, fun k hk => c5 k hk (t4095 k hk)⟩⟩
        · exact ⟨0, M3, rfl, n3, Or.inr ⟨rfl, c4⟩⟩
    · simp only [if_true]
      exact ⟨0, M2, rfl, n2, Or.inr ⟨rfl, fun q hq => b4 q (hq.sub (f4 4080))⟩⟩
  · simp only [if_true]
    exact ⟨0, M1, rfl, fun k j hk => a2 k j (fun z => hk (z.imp id (fun y => y.1))), Or.inr ⟨rfl, fun q hq => a4 q (hq.sub (f4 15))⟩⟩
end FITS
/-! what the laws of a set allow -/
def UD (n : Nat) (K : Nat → Nat) (tb : Nat → Nat → Nat) (s : Nat) (D : Nat → Nat → Prop) (h c : Nat) : Prop := ∀ l i, D l i → l < n → s.testBit l = true → pr (K l) = false → i < mny (K l) → fa (K l) i = h → okL tb l i c c
def AD (n : Nat) (K : Nat → Nat) (tb : Nat → Nat → Nat) (s : Nat) (D : Nat → Nat → Prop) (h k c d : Nat) : Prop := ∀ l i, D l i → l < n → s.testBit l = true → pr (K l) = true → i < mny (K l) → (fa (K l) i = h → fb (K l) i = k → okL tb l i c d) ∧ (fa (K l) i = k → fb (K l) i = h → okL tb l i d c)
def tt2 : Nat → Nat → Prop := fun _ _ => True
theorem sol_iff {n s : Nat} {K P : Nat → Nat} {tb : Nat → Nat → Nat} {r : Nat → Nat} (hW : LW n K P tb) : PCn (UD n K tb s tt2) (AD n K tb s tt2) 4095 12 r ↔ (∀ h, h < 12 → 1 ≤ r h ∧ r h ≤ 3) ∧ fitsS n K tb s r := by
  constructor
  · intro h
    refine ⟨fun k hk => ⟨(h k hk (t4095 k hk)).1, (h k hk (t4095 k hk)).2.1⟩, fun l hl hb i hi => ?_⟩
    have hk := (hW.2 l hl).1
    have f1 := fa_lt _ hk i hi
    have f2 := fb_lt _ hk i hi
    cases hp : pr (K l)
    · obtain ⟨e1, e2⟩ := fab_np _ hk hp i hi
      have := (h (fa (K l) i) f1 (t4095 _ f1)).2.2.1 l i trivial hl hb hp hi rfl
      rw [e1] at this
      rw [e1, e2]
      exact this
    · have hne := fab_ne _ hk hp i hi
      rcases Nat.lt_or_ge (fa (K l) i) (fb (K l) i) with e | e
      · exact ((h _ f2 (t4095 _ f2)).2.2.2 _ e (t4095 _ f1) l i trivial hl hb hp hi).1 rfl rfl
      · exact ((h _ f1 (t4095 _ f1)).2.2.2 _ (by omega) (t4095 _ f2) l i trivial hl hb hp hi).2 rfl rfl
  · rintro ⟨h1, h2⟩ k hk -
    refine ⟨(h1 k hk).1, (h1 k hk).2, fun l i _ hl hb hp hi hf => ?_, fun j hj _ l i _ hl hb hp hi => ⟨fun e1 e2 => ?_, fun e1 e2 => ?_⟩⟩
    · have hkl := (hW.2 l hl).1
      obtain ⟨e1, e2⟩ := fab_np _ hkl hp i hi
      have := h2 l hl hb i hi
      rw [e1, e2] at this
      rw [e1] at hf
      rw [hf] at this
      rw [hf]
      exact this
    · have := h2 l hl hb i hi
      rw [e1, e2] at this
      exact this
    · have := h2 l hl hb i hi
      rw [e1, e2] at this
      exact this
