/-! the reference reads one, and a whole text -/
theorem f183 : ∀ x, x < 256 → F_183 (nI x) = if nameN x < 10 then nI (nameN x) else -1 := by decide +kernel
theorem f157d {x : Nat} (hx : chO x) : (F_157 (chI x) 48 57 = 0) = ¬ (48 ≤ x ∧ x ≤ 57) := f71 hx
theorem ie_157 {α : Type} {x : Nat} {u v : α} (hx : chO x) : (if F_157 (chI x) 48 57 = 0 then u else v) = (if ¬ (48 ≤ x ∧ x ≤ 57) then u else v) := by
  simp only [f157d hx]
section RONE
variable {T : Nat → Nat} {m nm d : Nat} {M0 : IM}
theorem nmLoopR (h0 : KR T m nm M0) (K : IM → Option IM) : ∀ (n k : Nat) (v f : Nat) (s : PS) (M : IM), n + k = 4 → n < f → v < 10 ^ k → SR m M0 d s M → s.2.1 = false → ∃ y M', loopN (B_184_131 K) f (nI v, nI k, M) = some (nI (nmF T m n v s).1, y, M') ∧ SR m M0 d (nmF T m n v s).2 M'
  | 0, k, v, f, s, M, hk, hf, hv, h, hw => by
    refine ⟨nI k, M, loopN_out (by omega) ?_, h⟩
    show (if (4 : Int32) ≤ nI k then _ else _) = _
    rw [lit_nI (n := 4), ie_le (by omega) (by omega), if_pos (by omega)]
    rfl
  | n + 1, k, v, f, s, M, hk, hf, hv, h, hw => by
    have hx := nx_cr h0 s
    unfold nmF
    by_cases z : 48 ≤ nxP T m s ∧ nxP T m s ≤ 57
    · rw [if_pos z]
      have h999 : nxP T m s ≠ 999 := by omega
      have hv2 : v < 10000 := Nat.lt_of_lt_of_le hv (Nat.le_trans (Nat.pow_le_pow_right (by decide) (show k ≤ 4 by omega)) (by decide))
      obtain ⟨y, M', i1, i2⟩ := nmLoopR h0 K n (k + 1) (10 * v + nxP T m s - 48) (f - 1) (advP s) (iset M 77 9 (M 77 9 + 1)) (by omega) (by omega) (by rw [Nat.pow_succ]; omega) (h.adv h999) hw
      refine ⟨y, M', ?_, i2⟩
      rw [loopN_go (s' := (nI (10 * v + nxP T m s - 48), nI (k + 1), iset M 77 9 (M 77 9 + 1))) (by omega) ?_]
      · exact i1
      · show (if (4 : Int32) ≤ nI k then _ else _) = _
        rw [lit_nI (n := 4), ie_le (by omega) (by omega), if_neg (by omega), f175 h0 h]
        dsimp only
        rw [if_neg (by rw [f157d hx]; exact fun y => y z)]
        unfold chI
        rw [if_neg h999, lit_nI (n := 10), lit_nI (n := 48), ni_mul, ni_add, ni_sub (by omega), ni_add1]
    · rw [if_neg z]
      refine ⟨nI k, M, loopN_out (by omega) ?_, h⟩
      show (if (4 : Int32) ≤ nI k then _ else _) = _
      rw [lit_nI (n := 4), ie_le (by omega) (by omega), if_neg (by omega), f175 h0 h]
      dsimp only
      rw [if_pos (by rw [f157d hx]; exact z)]
theorem rNum {K : IM → Option IM} {s : PS} {M : IM} (h0 : KR T m nm M0) (h : SR m M0 d s M) (hd : 48 ≤ nxP T m s ∧ nxP T m s ≤ 57) : ∃ M', (match L_184_131 K 0 0 M with | none => none | some (x2_23, x3_23, M23) => (J_184_179 K x2_23 M23)) = some M' ∧ SR m M0 d (numP T m s) M' := by
  have hw := (nx_lt (T := T) (m := m) (s := s) (by omega)).1
  obtain ⟨y, M1, a1, a2⟩ := nmLoopR h0 K 4 0 0 FU s M rfl (by decide) (by decide) h hw
  obtain ⟨b1, b2, b3, b4, b5⟩ := nm_ok (T := T) 4 0 s h.1 hw
  have hl := h.1.2 hw
  have b6 := b4 (by decide) hd
  obtain ⟨M2, c1, c2⟩ := a2.add (nmF T m 4 0 s).1 h0 (fun _ => by
    have : (nmF T m 4 0 s).2.2.2.length = s.2.2.length := by rw [b1]
    omega)
  refine ⟨M2, ?_, c2⟩
  rw [show L_184_131 K 0 0 M = some (nI (nmF T m 4 0 s).1, y, M1) from a1]
  dsimp only
  unfold J_184_179
  rw [c1]
theorem rBad {K : IM → Option IM} {s : PS} {M : IM} {x : Int32} (h : SR m M0 d s M) : ∃ M', J_184_222 K x M = some M' ∧ SR m M0 d (badP s) M' := by
  unfold J_184_222 J_184_227
  rw [iset_same, if_neg one_ne]
  exact ⟨_, rfl, h.bad⟩
theorem rOne (h0 : KR T m nm M0) {K : IM → Option IM} {up br : PS → PS} (hu : ∀ s M, SR m M0 d s M → nxP T m s = 33 → ∃ M', J_184_17 K 33 M = some M' ∧ SR m M0 d (up s) M') (hb : ∀ s M, SR m M0 d s M → nxP T m s = 40 → ∃ M', J_184_17 K 40 M = some M' ∧ SR m M0 d (br s) M') : SimR m M0 d (oneB T m nm up br) (F_184 K) := by
  intro s M h
  have hx := nx_cr h0 s
  have e4 : M 77 11 = nI nm := (h.2.1 77 11 (by decide) (fun _ => by decide)).trans h0.2.2.2.2.1
  have hn := h0.2.2.1
  have hn1 := h0.2.1
  unfold F_184 oneB
  rw [f175 h0 h]
  dsimp only
  rw [lit_nI (n := 33), lit_nI (n := 40), ie_ch hx (by omega), ie_ch hx (by omega), ie_157 hx]
  by_cases z1 : nxP T m s = 33
  · rw [if_pos z1, if_pos z1]
    have e : chI (nxP T m s) = 33 := by rw [z1]; rfl
    rw [e]
    exact hu s M h z1
  · rw [if_neg z1, if_neg z1]
    by_cases z2 : nxP T m s = 40
    · rw [if_pos z2, if_pos z2]
      have e : chI (nxP T m s) = 40 := by rw [z2]; rfl
      rw [e]
      exact hb s M h z2
    · rw [if_neg z2, if_neg z2]
      by_cases z3 : 48 ≤ nxP T m s ∧ nxP T m s ≤ 57
      · rw [if_neg (fun y => y z3), if_pos z3]
        exact rNum h0 h z3
      · rw [if_pos z3, if_neg z3]
        have bad : ∀ x : Int32, F_157 x 0 (M 77 11 - 1) = 0 → ∃ M', J_184_199 K x M = some M' ∧ SR m M0 d (badP s) M' := by
          intro x e
          unfold J_184_199
          rw [e, if_pos (show (0 : Int32) = 0 from rfl)]
          by_cases y : M 77 12 = 0
          · rw [if_pos y]; exact rBad h
          · rw [if_neg y]; exact rBad h
        have hneg : F_157 (-1) 0 (M 77 11 - 1) = 0 := by unfold F_157; rw [if_pos ni_neg1]
        by_cases z4 : nameN (nxP T m s) < nm
        · rw [if_pos z4]
          have h999 : nxP T m s < 256 := by
            have := nameN_lt (x := nxP T m s) (by omega)
            rcases hx with hx | hx
            · exact hx
            · omega
          have hw := (nx_lt (T := T) (m := m) (s := s) (by omega)).1
          have e1 : chI (nxP T m s) = nI (nxP T m s) := by unfold chI; rw [if_neg (by omega)]
          have e2 : F_183 (chI (nxP T m s)) = nI (nameN (nxP T m s)) := by rw [e1, f183 _ h999, if_pos (by omega)]
          rw [e2, e1, if_pos (nI_pos' (by omega))]
          have e3 : F_157 (nI (nameN (nxP T m s))) 0 (M 77 11 - 1) = 1 := by
            rw [e4, lit_nI (n := 1), ni_sub hn1]
            exact wn_in (by omega) (by omega)
          have h12 : M 77 12 = 0 := by
            rcases h.2.2.2.2 with ⟨-, a, -⟩ | ⟨w, -⟩
            · exact a
            · exact absurd (hw.symm.trans w) (by decide)
          unfold J_184_199
          rw [if_pos h12, e3, if_neg one_ne]
          unfold J_184_227
          rw [iset_same, if_pos rfl, lit_nI (n := 10000), ni_add]
          have hg := h.good hw
          obtain ⟨M', c1, c2⟩ := hg.add0 (10000 + nameN (nxP T m s)) h0
          rw [c1]
          refine ⟨_, rfl, ?_, c2.adv⟩
          obtain ⟨-, hlt⟩ := nx_lt (T := T) (m := m) (s := s) (by omega)
          have hl := h.1.2 hw
          rw [addP_f hw]
          refine ⟨by show s.1 + 1 ≤ m; omega, fun _ => ?_⟩
          show (s.2.2 ++ [10000 + nameN (nxP T m s)]).length ≤ s.1 + 1
          rw [List.length_append, List.length_singleton]; omega
        · rw [if_neg z4]
          rcases hx with hx | hx
          · have e1 : chI (nxP T m s) = nI (nxP T m s) := by unfold chI; rw [if_neg (by omega)]
            rw [e1, if_pos (nI_pos' (by omega)), f183 _ hx]
            by_cases y : nameN (nxP T m s) < 10
            · rw [if_pos y]
              refine bad _ ?_
              rw [e4, lit_nI (n := 1), ni_sub hn1]
              unfold F_157
              rw [if_neg (nI_pos (by omega)), ie_lt (by omega) (by omega), if_pos (by omega)]
            · rw [if_neg y]
              exact bad _ hneg
          · have e1 : chI (nxP T m s) = -1 := by rw [hx]; rfl
            rw [e1, if_neg (by decide)]
            exact bad _ hneg
theorem rUp {K : IM → Option IM} {s : PS} {M : IM} (hd : d < 5) (h : SR m M0 d s M) (hw : s.2.1 = false) (hx : nxP T m s ≠ 999) (x : Int32) : ∃ M', SR m M0 (d + 1) (advP s) M' ∧ J_184_17 K x M = (if x = 33 then (match K M' with | none => none | some M2 => (match F_177 (20010 : Int32) M2 with | none => none | some M3 => (J_184_103 K M3))) else (match F_178 K M' with | none => none | some M4 => (match F_176 (41 : Int32) M4 with | none => none | some (c5, M5) => (if c5 = 0 then (J_184_100 K (1 : Int32) M5) else (J_184_100 K (0 : Int32) M5))))) := by
  have hg := h.good hw
  have h10 : (iset M 77 12 0) 77 10 = nI d := hg.2.2.2.1
  have hd1 : SR m M0 (d + 1) s (iset (iset M 77 12 0) 77 10 (nI (d + 1))) := hg.deep
  refine ⟨_, hd1.adv hx, ?_⟩
  unfold J_184_17
  rw [h.2.2.2.1, lit_nI (n := 5), ie_eq (by omega) (by omega), if_neg (by omega)]
  unfold J_184_31
  rw [h10, ni_add1, iset_same, if_pos rfl]
  all_goals rfl
theorem rDown {K : IM → Option IM} {s : PS} {M : IM} (h : SR m M0 (d + 1) s M) : ∃ M', J_184_103 K M = some M' ∧ SR m M0 d s M' := by
  unfold J_184_103
  rw [h.2.2.2.1, lit_nI (n := 1), ni_sub (by omega), show d + 1 - 1 = d by omega]
  exact ⟨_, rfl, h.deep⟩
theorem rOneF (h0 : KR T m nm M0) : ∀ k f d, k + d = 5 → k < f → SimR m M0 d (oneF T m nm k) (KK_184 f)
  | 0, f + 1, d, hk, hf => rOne h0 (fun s M h _ => by
      unfold J_184_17
      rw [h.2.2.2.1, lit_nI (n := 5), ie_eq (by omega) (by omega), if_pos (by omega)]
      unfold J_184_31
      rw [iset_same, if_neg one_ne]
      exact ⟨_, rfl, h.bad⟩) (fun s M h _ => by
      unfold J_184_17
      rw [h.2.2.2.1, lit_nI (n := 5), ie_eq (by omega) (by omega), if_pos (by omega)]
      unfold J_184_31
      rw [iset_same, if_neg one_ne]
      exact ⟨_, rfl, h.bad⟩)
  | k + 1, f + 1, d, hk, hf => by
    have ih := rOneF h0 k f (d + 1) (by omega) (by omega)
    have gR := gOne (T := T) (m := m) h0.2.2.1 k
    refine rOne h0 (fun s M h hx => ?_) (fun s M h hx => ?_)
    · have h999 : nxP T m s ≠ 999 := by omega
      obtain ⟨M1, a1, a2⟩ := rUp (K := KK_184 f) (T := T) (by omega) h (nx_lt h999).1 h999 33
      obtain ⟨M2, b1, b2⟩ := ih _ _ a1
      obtain ⟨M3, c1, c2⟩ := b2.add 20010 h0 (fun hw => by
        obtain ⟨o1, o2, o3⟩ := h.1.adv h999
        obtain ⟨c1, e, c2, c3, -⟩ := ((gR _ o1).2 o2).2.2 hw
        rw [c2, List.length_append]
        omega)
      obtain ⟨M4, d1, d2⟩ := rDown (K := KK_184 f) c2
      refine ⟨M4, ?_, d2⟩
      rw [a2, if_pos rfl, b1]
      dsimp only
      rw [show F_177 20010 M2 = some M3 from c1]
      exact d1
    · have h999 : nxP T m s ≠ 999 := by omega
      obtain ⟨M1, a1, a2⟩ := rUp (K := KK_184 f) (T := T) (by omega) h (nx_lt h999).1 h999 40
      obtain ⟨M2, b1, b2⟩ := rEit h0 gR ih _ _ a1
      rw [a2, if_neg (by decide), b1]
      dsimp only
      show ∃ M', _ ∧ SR m M0 d (cloP T m (eitF T m (oneF T m nm k) (advP s))) M'
      generalize eitF T m (oneF T m nm k) (advP s) = s2 at b2
      unfold cloP
      by_cases z : nxP T m s2 = 41
      · obtain ⟨M3, c1, c2⟩ := f176y 41 (by decide) h0 b2 z
        rw [if_pos z, show F_176 41 M2 = _ from c1]
        dsimp only
        rw [if_neg one_ne]
        unfold J_184_100
        exact rDown (c2.good (nx_lt (T := T) (m := m) (s := s2) (by omega)).1)
      · obtain ⟨M3, c1, c2⟩ := f176n 41 (by decide) h0 b2 z
        rw [if_neg z, show F_176 41 M2 = _ from c1]
        dsimp only
        rw [if_pos rfl]
        unfold J_184_100
        exact rDown c2.bad
end RONE
theorem nmOf_le (k : Nat) : 1 ≤ nmOf k ∧ nmOf k ≤ 10 := by
  unfold nmOf
  by_cases z : k = 0
  · rw [if_pos z]; decide
  · rw [if_neg z]
    by_cases y : k = 4
    · rw [if_pos y]; decide
    · rw [if_neg y]; decide
def FrX (M M' : IM) : Prop := ∀ a b, a ≠ 85 → (a = 77 → b ≠ 9 ∧ b ≠ 10 ∧ b ≠ 11 ∧ b ≠ 12 ∧ b ≠ 14) → (a = 78 → b ≠ 1) → M' a b = M a b
theorem FrX.set {M M' : IM} {a b : Nat} {x : Int32} (h : FrX M M') (hab : (a = 78 ∧ b = 1) ∨ (a = 77 ∧ (b = 9 ∨ b = 10 ∨ b = 11 ∨ b = 12 ∨ b = 14))) : FrX M (iset M' a b x) := fun k j h1 h2 h3 => by
  by_cases hk : k = a
  · by_cases hj : j = b
    · exfalso
      rcases hab with ⟨p, q⟩ | ⟨p, q⟩
      · exact h3 (by omega) (by omega)
      · have := h2 (by omega); omega
    · rw [iset_j hj]; exact h k j h1 h2 h3
  · rw [iset_k hk]; exact h k j h1 h2 h3
theorem read_r {T : Nat → Nat} {m k : Nat} {M : IM} {x2 x3 : Int32} (hk : k < 6) (hm : m ≤ 50) (h1 : M 78 1 = nI m) (hT : ∀ j, j < m → T j < 256 ∧ M 78 (40 + j) = nI (T j)) : ∃ M', FrX M M' ∧ M' 78 1 = 0 ∧ (((readF T m (nmOf k)).2.1 = false ∧ (readF T m (nmOf k)).1 = m ∧ J_190_60 (nI k) x2 x3 M = J_190_160 (nI k) x2 x3 M' ∧ M' 77 14 = nI (readF T m (nmOf k)).2.2.length ∧ ∀ j, j < (readF T m (nmOf k)).2.2.length → M' 85 j = nI ((readF T m (nmOf k)).2.2.getD j 0)) ∨ (((readF T m (nmOf k)).2.1 = true ∨ (readF T m (nmOf k)).1 < m) ∧ J_190_60 (nI k) x2 x3 M = some (-10 - nI (readF T m (nmOf k)).1, M'))) := by
  obtain ⟨hn1, hn⟩ := nmOf_le k
  have eF : J_190_60 (nI k) x2 x3 M = J_190_102 (nI k) x2 x3 (nI (nmOf k)) (iset (iset (iset (iset M 77 9 0) 77 10 0) 77 12 0) 77 14 0) := by
    unfold J_190_60 nmOf
    rw [lit_nI (n := 0), lit_nI (n := 4), ie_eq (by omega) (by omega), ie_eq (by omega) (by omega)]
    by_cases z : k = 0
    · rw [if_pos z, if_pos z]; rfl
    · rw [if_neg z, if_neg z]
      by_cases y : k = 4
      · rw [if_pos y, if_pos y]; rfl
      · rw [if_neg y, if_neg y]; rfl
  rw [eF]
  unfold J_190_102
  generalize hM : iset (iset (iset (iset (iset M 77 9 0) 77 10 0) 77 12 0) 77 14 0) 77 11 (nI (nmOf k)) = Ms
  have hfs : FrX M Ms := by
    rw [← hM]
    exact ((((FrX.set (fun _ _ _ _ _ => rfl) (by omega)).set (by omega)).set (by omega)).set (by omega)).set (by omega)
  have h0 : KR T m (nmOf k) Ms := by
    refine ⟨hm, hn1, hn, ?_, ?_, fun j hj => ⟨(hT j hj).1, ?_⟩⟩
    · rw [← hM, iset_k (by decide), iset_k (by decide), iset_k (by decide), iset_k (by decide), iset_k (by decide)]; exact h1
    · rw [← hM, iset_same]
    · rw [← hM, iset_k (by decide), iset_k (by decide), iset_k (by decide), iset_k (by decide), iset_k (by decide)]; exact (hT j hj).2
  have hs : SR m Ms 0 (0, false, []) Ms := by
    refine ⟨okP0 m, fun _ _ _ _ => rfl, ?_, ?_, Or.inl ⟨rfl, ?_, ?_, fun j hj => absurd hj (Nat.not_lt_zero _)⟩⟩
    · rw [← hM, iset_j (by decide), iset_j (by decide), iset_j (by decide), iset_j (by decide), iset_same]; rfl
    · rw [← hM, iset_j (by decide), iset_j (by decide), iset_j (by decide), iset_same]; rfl
    · rw [← hM, iset_j (by decide), iset_j (by decide), iset_same]
    · rw [← hM, iset_j (by decide), iset_same]; rfl
  obtain ⟨M1, a1, a2⟩ := rEit h0 (gOne hn 5) (rOneF h0 5 64 0 rfl (by decide)) _ _ hs
  have a1 : K_178 Ms = some M1 := a1
  have a2 : SR m Ms 0 (readF T m (nmOf k)) M1 := a2
  obtain ⟨o1, fr, h2, h10, hc⟩ := a2
  have ole := o1.1
  have e1 : M1 78 1 = nI m := (fr 78 1 (by decide) (fun z => absurd z (by decide))).trans h0.2.2.2.1
  have hf1 : FrX M M1 := fun a b p q r => (fr a b p (fun z => by have := q z; omega)).trans (hfs a b p q r)
  rw [a1]
  dsimp only
  show ∃ M', _ ∧ _ ∧ ((_ ∧ _ ∧ (if M1 77 12 = 0 then (if M1 78 1 ≤ M1 77 9 then _ else _) else _) = _ ∧ _) ∨ (_ ∧ (if M1 77 12 = 0 then (if M1 78 1 ≤ M1 77 9 then _ else _) else _) = _))
  rw [e1, h2, ie_le (by omega) (by omega)]
  have good : J_190_135 (nI k) x2 x3 0 M1 = J_190_160 (nI k) x2 x3 (iset (iset M1 77 12 0) 78 1 0) := by
    unfold J_190_135
    rw [show (iset (iset M1 77 12 0) 78 (1 : Int32).toNatClampNeg 0) 77 12 = 0 by rw [iset_k (by decide), iset_same], if_pos rfl]
    rfl
  have bad : J_190_130 (nI k) x2 x3 M1 = some (-10 - nI (readF T m (nmOf k)).1, iset (iset M1 77 12 1) 78 1 0) := by
    unfold J_190_130 J_190_135
    rw [show (iset (iset M1 77 12 1) 78 (1 : Int32).toNatClampNeg 0) 77 12 = 1 by rw [iset_k (by decide), iset_same], if_neg one_ne]
    rw [show (iset (iset M1 77 12 1) 78 (1 : Int32).toNatClampNeg 0) 77 9 = nI (readF T m (nmOf k)).1 by rw [iset_k (by decide), iset_j (by decide)]; exact h2]
    rfl
  rw [good, bad]
  rcases hc with ⟨w, h3, h4, h5⟩ | ⟨w, h3⟩
  · rw [if_pos h3]
    by_cases z : m ≤ (readF T m (nmOf k)).1
    · rw [if_pos z]
      refine ⟨iset (iset M1 77 12 0) 78 1 0, (hf1.set (by omega)).set (by omega), iset_same _ _ _ _, Or.inl ⟨w, by omega, rfl, ?_, fun j hj => ?_⟩⟩
      · rw [iset_k (by decide), iset_j (by decide)]; exact h4
      · rw [iset_k (by decide), iset_k (by decide)]; exact h5 j hj
    · rw [if_neg z]
      exact ⟨iset (iset M1 77 12 1) 78 1 0, (hf1.set (by omega)).set (by omega), iset_same _ _ _ _, Or.inr ⟨Or.inr (by omega), rfl⟩⟩
  · rw [if_neg (show ¬ M1 77 12 = 0 by rw [h3]; exact one_ne)]
    exact ⟨iset (iset M1 77 12 1) 78 1 0, (hf1.set (by omega)).set (by omega), iset_same _ _ _ _, Or.inr ⟨Or.inl w, rfl⟩⟩
