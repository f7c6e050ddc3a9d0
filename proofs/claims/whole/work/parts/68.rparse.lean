/-! the reference's parser goes as the one that stands for both -/
def FrR (M M' : IM) : Prop := ∀ k j, k ≠ 85 → (k = 77 → j ≠ 9 ∧ j ≠ 10 ∧ j ≠ 12 ∧ j ≠ 14) → M' k j = M k j
theorem FrR.set {M M' : IM} {a b : Nat} {x : Int32} (h : FrR M M') (hab : a = 85 ∨ (a = 77 ∧ (b = 9 ∨ b = 10 ∨ b = 12 ∨ b = 14))) : FrR M (iset M' a b x) := fun k j h1 h2 => by
  by_cases hk : k = a
  · have := h2 (by omega)
    rw [iset_j (by omega)]
    exact h k j h1 h2
  · rw [iset_k hk]
    exact h k j h1 h2
def KR (T : Nat → Nat) (m nm : Nat) (M : IM) : Prop := m ≤ 50 ∧ 1 ≤ nm ∧ nm ≤ 10 ∧ M 78 1 = nI m ∧ M 77 11 = nI nm ∧ ∀ j, j < m → T j < 256 ∧ M 78 (40 + j) = nI (T j)
def SR0 (M0 : IM) (d : Nat) (s : PS) (M : IM) : Prop := FrR M0 M ∧ M 77 9 = nI s.1 ∧ M 77 10 = nI d ∧ ((s.2.1 = false ∧ M 77 12 = 0 ∧ M 77 14 = nI s.2.2.length ∧ ∀ j, j < s.2.2.length → M 85 j = nI (s.2.2.getD j 0)) ∨ (s.2.1 = true ∧ M 77 12 = 1))
def SR (m : Nat) (M0 : IM) (d : Nat) (s : PS) (M : IM) : Prop := okP m s ∧ SR0 M0 d s M
def SimR (m : Nat) (M0 : IM) (d : Nat) (F : PS → PS) (G : IM → Option IM) : Prop := ∀ s M, SR m M0 d s M → ∃ M', G M = some M' ∧ SR m M0 d (F s) M'
section RPARSE
variable {T : Nat → Nat} {m nm d : Nat} {M0 : IM}
theorem nx_cr (h0 : KR T m nm M0) (s : PS) : chO (nxP T m s) := by
  unfold nxP chO
  cases s.2.1
  · rw [cond_false]
    by_cases z : s.1 < m
    · rw [if_pos z]; exact Or.inl (h0.2.2.2.2.2 _ z).1
    · rw [if_neg z]; exact Or.inr rfl
  · exact Or.inr rfl
theorem f175 {s : PS} {M : IM} (h0 : KR T m nm M0) (h : SR m M0 d s M) : F_175 M = some (chI (nxP T m s)) := by
  obtain ⟨k1, k2, k3, k4, k5, k6⟩ := h0
  obtain ⟨o1, fr, h2, h10, hw⟩ := h
  have e1 : M 78 1 = nI m := (fr 78 1 (by decide) (fun z => absurd z (by decide))).trans k4
  unfold F_175
  rcases hw with ⟨w, h3, -⟩ | ⟨w, h3⟩
  · rw [if_pos h3]
    show (if M 78 1 ≤ M 77 9 then _ else _) = _
    rw [e1, h2]
    unfold nxP chI
    rw [w, cond_false]
    by_cases z : s.1 < m
    · have z4 := (fr 78 (40 + s.1) (by decide) (fun z => absurd z (by decide))).trans (k6 _ z).2
      have z5 := (k6 _ z).1
      simp (disch := omega) only [lit_nI, ni_ofNat, ni_add, ni_lti, ni_lei, ni_eqi, ni_cl, inb_nI, if_pos, if_neg, if_true, if_false, z, z4]
    · have := o1.1
      simp (disch := omega) only [lit_nI, ni_ofNat, ni_add, ni_lti, ni_lei, ni_eqi, ni_cl, inb_nI, if_pos, if_neg, if_true, if_false, z]
  · rw [if_neg (by rw [h3]; decide), nx_w w]
    rfl
theorem SR0.adv {s : PS} {M : IM} (h : SR0 M0 d s M) : SR0 M0 d (advP s) (iset M 77 9 (M 77 9 + 1)) := by
  obtain ⟨fr, h2, h10, hc⟩ := h
  refine ⟨fr.set (by omega), ?_, ?_, ?_⟩
  · rw [iset_same, h2, ni_add1]; rfl
  · rw [iset_j (by decide)]; exact h10
  · rcases hc with ⟨w, h3, h4, h5⟩ | ⟨w, h3⟩
    · refine Or.inl ⟨w, ?_, ?_, fun j hj => ?_⟩
      · rw [iset_j (by decide)]; exact h3
      · rw [iset_j (by decide)]; exact h4
      · rw [iset_k (by decide)]; exact h5 j hj
    · exact Or.inr ⟨w, by rw [iset_j (by decide)]; exact h3⟩
theorem SR.adv {s : PS} {M : IM} (h : SR m M0 d s M) (hx : nxP T m s ≠ 999) : SR m M0 d (advP s) (iset M 77 9 (M 77 9 + 1)) := ⟨(h.1.adv hx).1, h.2.adv⟩
theorem SR.add0 {s : PS} {M : IM} (t : Nat) (h0 : KR T m nm M0) (h : SR m M0 d s M) : ∃ M', F_177 (nI t) M = some M' ∧ SR0 M0 d (addP t s) M' := by
  obtain ⟨k1, -⟩ := h0
  obtain ⟨o1, fr, h2, h10, hc⟩ := h
  have o0 := o1.1
  unfold F_177
  rcases hc with ⟨w, h3, h4, h5⟩ | ⟨w, h3⟩
  · have hl := o1.2 w
    rw [if_pos h3, h4, iset_k (by decide), h4, ie_in (by omega), if_pos (by omega), ni_cl (by omega)]
    refine ⟨_, rfl, ?_⟩
    rw [addP_f w]
    refine ⟨(fr.set (Or.inl rfl)).set (by omega), ?_, ?_, Or.inl ⟨rfl, ?_, ?_, ?_⟩⟩
    · rw [iset_j (by decide), iset_k (by decide)]; exact h2
    · rw [iset_j (by decide), iset_k (by decide)]; exact h10
    · rw [iset_j (by decide), iset_k (by decide)]; exact h3
    · show _ = nI (s.2.2 ++ [t]).length
      rw [iset_same, List.length_append, List.length_singleton, ni_add1]
    · show ∀ j, j < (s.2.2 ++ [t]).length → _ = nI ((s.2.2 ++ [t]).getD j 0)
      intro j hj
      rw [List.length_append, List.length_singleton] at hj
      rw [iset_k (by decide), getD_snoc hj]
      by_cases z : j < s.2.2.length
      · rw [iset_j (by omega), if_pos z]; exact h5 j z
      · rw [if_neg z, show j = s.2.2.length by omega, iset_same]
  · rw [addP_w w, if_neg (by rw [h3]; decide)]
    exact ⟨M, rfl, fr, h2, h10, Or.inr ⟨w, h3⟩⟩
theorem SR.add {s : PS} {M : IM} (t : Nat) (h0 : KR T m nm M0) (h : SR m M0 d s M) (hl : s.2.1 = false → s.2.2.length + 1 ≤ s.1) : ∃ M', F_177 (nI t) M = some M' ∧ SR m M0 d (addP t s) M' := by
  obtain ⟨M', a1, a2⟩ := h.add0 t h0
  refine ⟨M', a1, ?_, a2⟩
  cases w : s.2.1
  · rw [addP_f w]
    refine ⟨h.1.1, fun _ => ?_⟩
    show (s.2.2 ++ [t]).length ≤ s.1
    rw [List.length_append, List.length_singleton]; exact hl w
  · rw [addP_w w]; exact h.1
theorem SR.bad {s : PS} {M : IM} (h : SR m M0 d s M) : SR m M0 d (badP s) (iset M 77 12 1) := by
  obtain ⟨o1, fr, h2, h10, hc⟩ := h
  refine ⟨⟨o1.1, fun z => Bool.noConfusion z⟩, fr.set (by omega), ?_, ?_, Or.inr ⟨rfl, iset_same _ _ _ _⟩⟩
  · rw [iset_j (by decide)]; exact h2
  · rw [iset_j (by decide)]; exact h10
theorem SR.good {s : PS} {M : IM} (h : SR m M0 d s M) (w : s.2.1 = false) : SR m M0 d s (iset M 77 12 0) := by
  obtain ⟨o1, fr, h2, h10, hc⟩ := h
  refine ⟨o1, fr.set (by omega), ?_, ?_, ?_⟩
  · rw [iset_j (by decide)]; exact h2
  · rw [iset_j (by decide)]; exact h10
  · rcases hc with ⟨w, h3, h4, h5⟩ | ⟨w2, h3⟩
    · refine Or.inl ⟨w, iset_same _ _ _ _, ?_, fun j hj => ?_⟩
      · rw [iset_j (by decide)]; exact h4
      · rw [iset_k (by decide)]; exact h5 j hj
    · exact absurd (w.symm.trans w2) (by decide)
theorem SR.deep {s : PS} {M : IM} {d' : Nat} (h : SR m M0 d s M) : SR m M0 d' s (iset M 77 10 (nI d')) := by
  obtain ⟨o1, fr, h2, h10, hc⟩ := h
  refine ⟨o1, fr.set (by omega), ?_, iset_same _ _ _ _, ?_⟩
  · rw [iset_j (by decide)]; exact h2
  · rcases hc with ⟨w, h3, h4, h5⟩ | ⟨w2, h3⟩
    · refine Or.inl ⟨w, ?_, ?_, fun j hj => ?_⟩
      · rw [iset_j (by decide)]; exact h3
      · rw [iset_j (by decide)]; exact h4
      · rw [iset_k (by decide)]; exact h5 j hj
    · exact Or.inr ⟨w2, by rw [iset_j (by decide)]; exact h3⟩
theorem f176 {s : PS} {M : IM} (c : Nat) (hc : c < 256) (h0 : KR T m nm M0) (h : SR m M0 d s M) : ∃ M', F_176 (nI c) M = some (if nxP T m s = c then 1 else 0, M') ∧ SR m M0 d (if nxP T m s = c then advP s else s) M' := by
  unfold F_176
  rw [f175 h0 h]
  dsimp only
  rw [ie_ch (nx_cr h0 s) hc]
  by_cases z : nxP T m s = c
  · rw [if_pos z, if_pos z, if_pos z]
    unfold J_176_13 J_176_28
    rw [if_neg one_ne]
    exact ⟨_, rfl, h.adv (T := T) (by omega)⟩
  · rw [if_neg z, if_neg z, if_neg z]
    unfold J_176_13 J_176_28
    rw [if_pos rfl]
    refine ⟨_, rfl, ?_⟩
    obtain ⟨o1, fr, h2, h10, hc⟩ := h
    refine ⟨o1, fr.set (by omega), ?_, ?_, ?_⟩
    · rw [iset_same, h2]; exact ni_add _ 0
    · rw [iset_j (by decide)]; exact h10
    · rcases hc with ⟨w, h3, h4, h5⟩ | ⟨w2, h3⟩
      · refine Or.inl ⟨w, ?_, ?_, fun j hj => ?_⟩
        · rw [iset_j (by decide)]; exact h3
        · rw [iset_j (by decide)]; exact h4
        · rw [iset_k (by decide)]; exact h5 j hj
      · exact Or.inr ⟨w2, by rw [iset_j (by decide)]; exact h3⟩
theorem f176y {s : PS} {M : IM} (c : Nat) (hc : c < 256) (h0 : KR T m nm M0) (h : SR m M0 d s M) (z : nxP T m s = c) : ∃ M', F_176 (nI c) M = some (1, M') ∧ SR m M0 d (advP s) M' := by
  obtain ⟨M', a, b⟩ := f176 c hc h0 h
  rw [if_pos z] at a b
  exact ⟨M', a, b⟩
theorem f176n {s : PS} {M : IM} (c : Nat) (hc : c < 256) (h0 : KR T m nm M0) (h : SR m M0 d s M) (z : ¬ nxP T m s = c) : ∃ M', F_176 (nI c) M = some (0, M') ∧ SR m M0 d s M' := by
  obtain ⟨M', a, b⟩ := f176 c hc h0 h
  rw [if_neg z] at a b
  exact ⟨M', a, b⟩
/-- a sign has been taken: what is behind it, and its token -/
theorem turnR {o : Nat → Nat} {sub : PS → PS} {G : IM → Option IM} {s : PS} {M : IM} (h0 : KR T m nm M0) (hb : binO o) (hS : GP m nm sub) (hG : SimR m M0 d sub G) (hs : okP m s) (h : SR m M0 d (advP s) M) (ho : o (nxP T m s) ≠ 0) : ∃ M3 M4, G M = some M3 ∧ F_177 (nI (o (nxP T m s))) M3 = some M4 ∧ SR m M0 d (addP (o (nxP T m s)) (sub (advP s))) M4 := by
  obtain ⟨M3, g1, g2⟩ := hG _ _ h
  obtain ⟨-, -, -, t4, -⟩ := turn hb hS hs ho
  obtain ⟨M4, a1, a2⟩ := g2.add (o (nxP T m s)) h0 t4
  exact ⟨M3, M4, g1, a1, a2⟩
theorem turn_k {o : Nat → Nat} {sub : PS → PS} {s : PS} {k : Nat} (hb : binO o) (hS : GP m nm sub) (hs : okP m s) (ho : o (nxP T m s) ≠ 0) (hk : s.2.1 = true ∨ k ≤ s.1) : (addP (o (nxP T m s)) (sub (advP s))).2.1 = true ∨ k + 1 ≤ (addP (o (nxP T m s)) (sub (advP s))).1 := by
  have hx : nxP T m s ≠ 999 := by have := (hb _ ho).2.2; omega
  have hw := (nx_lt hx).1
  obtain ⟨-, -, t2, -⟩ := turn hb hS hs ho
  rcases hk with z | z
  · exact absurd (hw.symm.trans z) (by decide)
  · exact Or.inr (by omega)
theorem nx_end {s : PS} {o : Nat → Nat} {k : Nat} (hb : binO o) (hm : m ≤ 50) (hk : s.2.1 = true ∨ k ≤ s.1) (hz : o (nxP T m s) = 0 ∨ k = 50) : o (nxP T m s) = 0 := by
  rcases hz with z | z
  · exact z
  · by_cases ho : o (nxP T m s) = 0
    · exact ho
    · have hx : nxP T m s ≠ 999 := by have := (hb _ ho).2.2; omega
      obtain ⟨hw, hl⟩ := nx_lt hx
      rcases hk with y | y
      · exact absurd (hw.symm.trans y) (by decide)
      · omega
def BR1 (c t : Int32) (G : IM → Option IM) : (IM) → Option ((IM) ⊕ (IM)) := fun M => (match F_176 c M with | none => none | some (c2, M2) => (if c2 = 0 then (some (Sum.inr M2)) else (match G M2 with | none => none | some M3 => (match F_177 t M3 with | none => none | some M4 => (some (Sum.inl M4))))))
theorem lpR1 {o : Nat → Nat} {c t : Nat} {sub : PS → PS} {G : IM → Option IM} {s : PS} {M : IM} (h0 : KR T m nm M0) (hb : binO o) (hS : GP m nm sub) (hG : SimR m M0 d sub G) (ho : ∀ x, o x = if x = c then t else 0) (hc : c < 256) (ht : t ≠ 0) (h : SR m M0 d s M) : ∃ M', loopN (BR1 (nI c) (nI t) G) FU M = some M' ∧ SR m M0 d (lpF T m o sub 50 s) M' := by
  exact lpG (T := T) (m := m) (B := BR1 (nI c) (nI t) G) (o := o) (sub := sub) (fun k s M => SR m M0 d s M ∧ (s.2.1 = true ∨ k ≤ s.1)) (fun s M => SR m M0 d s M) 50
    (fun k s M hk hR hz => by
      obtain ⟨hs, hkk⟩ := hR
      have hz := nx_end hb h0.1 hkk hz
      have hne : ¬ nxP T m s = c := fun e => by rw [ho, if_pos e] at hz; exact ht hz
      obtain ⟨M', a1, a2⟩ := f176n c hc h0 hs hne
      refine ⟨M', ?_, a2⟩
      unfold BR1
      rw [a1]
      dsimp only
      rw [if_pos rfl])
    (fun k s M hk hR hz => by
      obtain ⟨hs, hkk⟩ := hR
      have he : nxP T m s = c := by
        by_cases e : nxP T m s = c
        · exact e
        · rw [ho, if_neg e] at hz; exact absurd rfl hz
      obtain ⟨M', a1, a2⟩ := f176y c hc h0 hs he
      obtain ⟨M3, M4, t1, t2, t3⟩ := turnR h0 hb hS hG hs.1 a2 hz
      refine ⟨M4, ?_, t3, turn_k hb hS hs.1 hz hkk⟩
      have e2 : o (nxP T m s) = t := by rw [ho, if_pos he]
      rw [e2] at t2
      unfold BR1
      rw [a1]
      dsimp only
      rw [if_neg one_ne, t1]
      dsimp only
      rw [t2])
    50 0 FU s M rfl (by decide) ⟨h, Or.inr (Nat.zero_le _)⟩
def tkP {α : Type} (C : Int32 → IM → Option α) (M1 : IM) : Option α := (match F_176 (42 : Int32) M1 with | none => none | some (c2, M2) => (if c2 = 0 then (match F_176 (47 : Int32) M2 with | none => none | some (c3, M3) => (if c3 = 0 then (match F_176 (37 : Int32) M3 with | none => none | some (c4, M4) => (if c4 = 0 then (C (0 : Int32) M4) else (C (20009 : Int32) M4))) else (C (20008 : Int32) M3))) else (C (20007 : Int32) M2)))
def tkC {α : Type} (C : Int32 → IM → Option α) (M1 : IM) : Option α := (match F_176 (60 : Int32) M1 with | none => none | some (c2, M2) => (if c2 = 0 then (match F_176 (61 : Int32) M2 with | none => none | some (c3, M3) => (if c3 = 0 then (match F_176 (62 : Int32) M3 with | none => none | some (c4, M4) => (if c4 = 0 then (C (0 : Int32) M4) else (C (20004 : Int32) M4))) else (C (20003 : Int32) M3))) else (C (20002 : Int32) M2)))
def tkS {α : Type} (C : Int32 → IM → Option α) (M1 : IM) : Option α := (match F_176 (43 : Int32) M1 with | none => none | some (c2, M2) => (if c2 = 0 then (match F_176 (45 : Int32) M2 with | none => none | some (c3, M3) => (if c3 = 0 then (C (0 : Int32) M3) else (C (20006 : Int32) M3))) else (C (20005 : Int32) M2)))
def tkR {α : Type} (m : Nat) (T : Nat → Nat) (M0 : IM) (d : Nat) (o : Nat → Nat) (tk : (Int32 → IM → Option α) → IM → Option α) : Prop := ∀ C s M, SR m M0 d s M → ∃ M', tk C M = C (nI (o (nxP T m s))) M' ∧ SR m M0 d (if o (nxP T m s) = 0 then s else advP s) M'
theorem tkP_ok {α : Type} (h0 : KR T m nm M0) : tkR (α := α) m T M0 d opP tkP := by
  intro C s M h
  unfold tkP opP
  by_cases z1 : nxP T m s = 42
  · obtain ⟨M1, a1, a2⟩ := f176y 42 (by decide) h0 h z1
    rw [if_pos z1, if_neg (show ¬ 20007 = 0 by decide), show F_176 (42 : Int32) M = _ from a1]
    exact ⟨M1, rfl, a2⟩
  · obtain ⟨M1, a1, a2⟩ := f176n 42 (by decide) h0 h z1
    rw [if_neg z1, show F_176 (42 : Int32) M = _ from a1]
    dsimp only
    rw [if_pos rfl]
    by_cases z2 : nxP T m s = 47
    · obtain ⟨M2, b1, b2⟩ := f176y 47 (by decide) h0 a2 z2
      rw [if_pos z2, if_neg (show ¬ 20008 = 0 by decide), show F_176 (47 : Int32) M1 = _ from b1]
      exact ⟨M2, rfl, b2⟩
    · obtain ⟨M2, b1, b2⟩ := f176n 47 (by decide) h0 a2 z2
      rw [if_neg z2, show F_176 (47 : Int32) M1 = _ from b1]
      dsimp only
      rw [if_pos rfl]
      by_cases z3 : nxP T m s = 37
      · obtain ⟨M3, c1, c2⟩ := f176y 37 (by decide) h0 b2 z3
        rw [if_pos z3, if_neg (show ¬ 20009 = 0 by decide), show F_176 (37 : Int32) M2 = _ from c1]
        exact ⟨M3, rfl, c2⟩
      · obtain ⟨M3, c1, c2⟩ := f176n 37 (by decide) h0 b2 z3
        rw [if_neg z3, if_pos rfl, show F_176 (37 : Int32) M2 = _ from c1]
        exact ⟨M3, rfl, c2⟩
theorem tkC_ok {α : Type} (h0 : KR T m nm M0) : tkR (α := α) m T M0 d opC tkC := by
  intro C s M h
  unfold tkC opC
  by_cases z1 : nxP T m s = 60
  · obtain ⟨M1, a1, a2⟩ := f176y 60 (by decide) h0 h z1
    rw [if_pos z1, if_neg (show ¬ 20002 = 0 by decide), show F_176 (60 : Int32) M = _ from a1]
    exact ⟨M1, rfl, a2⟩
  · obtain ⟨M1, a1, a2⟩ := f176n 60 (by decide) h0 h z1
    rw [if_neg z1, show F_176 (60 : Int32) M = _ from a1]
    dsimp only
    rw [if_pos rfl]
    by_cases z2 : nxP T m s = 61
    · obtain ⟨M2, b1, b2⟩ := f176y 61 (by decide) h0 a2 z2
      rw [if_pos z2, if_neg (show ¬ 20003 = 0 by decide), show F_176 (61 : Int32) M1 = _ from b1]
      exact ⟨M2, rfl, b2⟩
    · obtain ⟨M2, b1, b2⟩ := f176n 61 (by decide) h0 a2 z2
      rw [if_neg z2, show F_176 (61 : Int32) M1 = _ from b1]
      dsimp only
      rw [if_pos rfl]
      by_cases z3 : nxP T m s = 62
      · obtain ⟨M3, c1, c2⟩ := f176y 62 (by decide) h0 b2 z3
        rw [if_pos z3, if_neg (show ¬ 20004 = 0 by decide), show F_176 (62 : Int32) M2 = _ from c1]
        exact ⟨M3, rfl, c2⟩
      · obtain ⟨M3, c1, c2⟩ := f176n 62 (by decide) h0 b2 z3
        rw [if_neg z3, if_pos rfl, show F_176 (62 : Int32) M2 = _ from c1]
        exact ⟨M3, rfl, c2⟩
theorem tkS_ok {α : Type} (h0 : KR T m nm M0) : tkR (α := α) m T M0 d opS tkS := by
  intro C s M h
  unfold tkS opS
  by_cases z1 : nxP T m s = 43
  · obtain ⟨M1, a1, a2⟩ := f176y 43 (by decide) h0 h z1
    rw [if_pos z1, if_neg (show ¬ 20005 = 0 by decide), show F_176 (43 : Int32) M = _ from a1]
    exact ⟨M1, rfl, a2⟩
  · obtain ⟨M1, a1, a2⟩ := f176n 43 (by decide) h0 h z1
    rw [if_neg z1, show F_176 (43 : Int32) M = _ from a1]
    dsimp only
    rw [if_pos rfl]
    by_cases z2 : nxP T m s = 45
    · obtain ⟨M2, b1, b2⟩ := f176y 45 (by decide) h0 a2 z2
      rw [if_pos z2, if_neg (show ¬ 20006 = 0 by decide), show F_176 (45 : Int32) M1 = _ from b1]
      exact ⟨M2, rfl, b2⟩
    · obtain ⟨M2, b1, b2⟩ := f176n 45 (by decide) h0 a2 z2
      rw [if_neg z2, if_pos rfl, show F_176 (45 : Int32) M1 = _ from b1]
      exact ⟨M2, rfl, b2⟩
theorem lpR2 {o : Nat → Nat} {B : (Int32 × IM) → Option ((Int32 × IM) ⊕ (Int32 × IM))} {tk : (Int32 → IM → Option ((Int32 × IM) ⊕ (Int32 × IM))) → IM → Option ((Int32 × IM) ⊕ (Int32 × IM))} {sub : PS → PS} {G : IM → Option IM} {s : PS} {M : IM} (h0 : KR T m nm M0) (hb : binO o) (hS : GP m nm sub) (hG : SimR m M0 d sub G) (htk : tkR m T M0 d o tk) (hB : ∀ x M, B (x, M) = if x ≤ 0 then some (.inr (x, M)) else (match G M with | none => none | some M5 => (match F_177 x M5 with | none => none | some M6 => tk (fun s0 M => some (Sum.inl (s0, M))) M6))) (hs : okP m s) (h : SR m M0 d (if o (nxP T m s) = 0 then s else advP s) M) : ∃ x M', loopN B FU (nI (o (nxP T m s)), M) = some (x, M') ∧ SR m M0 d (lpF T m o sub 50 s) M' := by
  obtain ⟨r, h1, h2⟩ := lpG (T := T) (m := m) (B := B) (o := o) (sub := sub) (fun k s z => ∃ M, z = (nI (o (nxP T m s)), M) ∧ okP m s ∧ SR m M0 d (if o (nxP T m s) = 0 then s else advP s) M ∧ (s.2.1 = true ∨ k ≤ s.1)) (fun s r => SR m M0 d s r.2) 50
    (fun k s z hk hR hz => by
      obtain ⟨M, rfl, ho, hs, hkk⟩ := hR
      have hz := nx_end hb h0.1 hkk hz
      rw [if_pos hz] at hs
      refine ⟨(nI (o (nxP T m s)), M), ?_, hs⟩
      rw [hB, hz, if_pos (by decide)])
    (fun k s z hk hR hz => by
      obtain ⟨M, rfl, ho, hs, hkk⟩ := hR
      rw [if_neg hz] at hs
      obtain ⟨M3, M4, t1, t2, t3⟩ := turnR h0 hb hS hG ho hs hz
      obtain ⟨M5, u1, u2⟩ := htk (fun s0 M => some (Sum.inl (s0, M))) _ _ t3
      refine ⟨_, ?_, M5, rfl, t3.1, u2, turn_k hb hS ho hz hkk⟩
      obtain ⟨b1, b2, b3⟩ := hb _ hz
      rw [hB, lit_nI (n := 0), ie_le (by omega) (by omega), if_neg (by omega), t1]
      dsimp only
      rw [t2]
      exact u1)
    50 0 FU s (nI (o (nxP T m s)), M) rfl (by decide) ⟨M, rfl, hs, h, Or.inr (Nat.zero_le _)⟩
  exact ⟨r.1, r.2, h1, h2⟩
theorem rProd {rk : PS → PS} {K : IM → Option IM} (h0 : KR T m nm M0) (hR : GP m nm rk) (hS : SimR m M0 d rk K) : SimR m M0 d (prodF T m rk) (F_182 K) := by
  intro s M h
  obtain ⟨M1, a1, a2⟩ := hS s M h
  obtain ⟨M2, t1, t2⟩ := tkP_ok h0 (J_182_50 K) _ _ a2
  obtain ⟨x, M3, b1, b2⟩ := lpR2 (o := opP) (B := B_182_51 K) (G := K) (tk := tkP) h0 bPr hR hS (tkP_ok h0) (fun x M => rfl) a2.1 t2
  refine ⟨M3, ?_, b2⟩
  unfold F_182
  rw [a1]
  refine Eq.trans (show _ = tkP (J_182_50 K) M1 from rfl) (t1.trans ?_)
  unfold J_182_50 L_182_51
  rw [b1]
theorem rSum {rk : PS → PS} {K : IM → Option IM} (h0 : KR T m nm M0) (hR : GP m nm rk) (hS : SimR m M0 d rk K) : SimR m M0 d (sumF T m rk) (F_181 K) := by
  intro s M h
  have hP := rProd h0 hR hS
  obtain ⟨M1, a1, a2⟩ := hP s M h
  obtain ⟨M2, t1, t2⟩ := tkS_ok h0 (J_181_35 K) _ _ a2
  obtain ⟨x, M3, b1, b2⟩ := lpR2 (o := opS) (B := B_181_36 K) (G := F_182 K) (tk := tkS) h0 bS (gProd hR) hP (tkS_ok h0) (fun x M => rfl) a2.1 t2
  refine ⟨M3, ?_, b2⟩
  unfold F_181
  rw [a1]
  refine Eq.trans (show _ = tkS (J_181_35 K) M1 from rfl) (t1.trans ?_)
  unfold J_181_35 L_181_36
  rw [b1]
theorem rCmp {rk : PS → PS} {K : IM → Option IM} (h0 : KR T m nm M0) (hR : GP m nm rk) (hS : SimR m M0 d rk K) : SimR m M0 d (cmpF T m rk) (F_180 K) := by
  intro s M h
  have hP := rSum h0 hR hS
  obtain ⟨M1, a1, a2⟩ := hP s M h
  obtain ⟨M2, t1, t2⟩ := tkC_ok h0 (J_180_50 K) _ _ a2
  show ∃ M', _ ∧ SR m M0 d (lpF T m opC (sumF T m rk) 1 (sumF T m rk s)) M'
  have e : F_180 K M = J_180_50 K (nI (opC (nxP T m (sumF T m rk s)))) M2 := by
    unfold F_180
    rw [a1]
    exact Eq.trans (show _ = tkC (J_180_50 K) M1 from rfl) t1
  rw [e]
  unfold J_180_50 lpF
  by_cases hz : opC (nxP T m (sumF T m rk s)) = 0
  · rw [if_pos hz] at t2 ⊢
    rw [hz, if_pos (by decide)]
    exact ⟨M2, rfl, t2⟩
  · rw [if_neg hz] at t2 ⊢
    obtain ⟨M3, M4, u1, u2, u3⟩ := turnR h0 bC (gSum hR) hP a2.1 t2 hz
    obtain ⟨b1, b2, b3⟩ := bC _ hz
    rw [lit_nI (n := 0), ie_le (by omega) (by omega), if_neg (by omega), u1]
    dsimp only
    rw [u2]
    exact ⟨M4, rfl, u3⟩
theorem rAll {rk : PS → PS} {K : IM → Option IM} (h0 : KR T m nm M0) (hR : GP m nm rk) (hS : SimR m M0 d rk K) : SimR m M0 d (allF T m rk) (F_179 K) := by
  intro s M h
  have hP := rCmp h0 hR hS
  obtain ⟨M1, a1, a2⟩ := hP s M h
  obtain ⟨M2, b1, b2⟩ := lpR1 (o := opA) (c := 38) (t := 20001) (G := F_180 K) h0 bA (gCmp hR) hP (fun x => rfl) (by decide) (by decide) a2
  refine ⟨M2, ?_, b2⟩
  unfold F_179
  rw [a1]
  dsimp only
  rw [show L_179_4 K M1 = some M2 from b1]
theorem rEit {rk : PS → PS} {K : IM → Option IM} (h0 : KR T m nm M0) (hR : GP m nm rk) (hS : SimR m M0 d rk K) : SimR m M0 d (eitF T m rk) (F_178 K) := by
  intro s M h
  have hP := rAll h0 hR hS
  obtain ⟨M1, a1, a2⟩ := hP s M h
  obtain ⟨M2, b1, b2⟩ := lpR1 (o := opE) (c := 124) (t := 20000) (G := F_179 K) h0 bE (gAll hR) hP (fun x => rfl) (by decide) (by decide) a2
  refine ⟨M2, ?_, b2⟩
  unfold F_178
  rw [a1]
  dsimp only
  rw [show L_178_4 K M1 = some M2 from b1]
end RPARSE
