/-! the class reads one -/
theorem f71 {x : Nat} (hx : chO x) : (F_71 (chI x) = 0) = ¬ (48 ≤ x ∧ x ≤ 57) := by
  unfold F_71 chI
  rcases hx with hx | hx
  · rw [if_neg (show ¬ x = 999 by omega), lit_nI (n := 48), lit_nI (n := 57), ie_lt (by omega) (by omega), ie_lt (by omega) (by omega)]
    by_cases z1 : x < 48
    · rw [if_pos z1]; exact propext ⟨fun _ => by omega, fun _ => rfl⟩
    · rw [if_neg z1]
      by_cases z2 : 57 < x
      · rw [if_pos z2]; exact propext ⟨fun _ => by omega, fun _ => rfl⟩
      · rw [if_neg z2]; exact propext ⟨fun z => absurd z one_ne, fun z => absurd (show 48 ≤ x ∧ x ≤ 57 by omega) z⟩
  · subst hx
    exact propext ⟨fun _ => by omega, fun _ => by decide⟩
theorem nmc : ∀ k, k < 10 → ∃ c, c < 256 ∧ nameN c = k ∧ sT 0 k = nI c := by
  intro k hk
  rcases (show k = 0 ∨ k = 1 ∨ k = 2 ∨ k = 3 ∨ k = 4 ∨ k = 5 ∨ k = 6 ∨ k = 7 ∨ k = 8 ∨ k = 9 by omega) with z | z | z | z | z | z | z | z | z | z <;> subst z
  · exact ⟨97, by decide, by decide, rfl⟩
  · exact ⟨98, by decide, by decide, rfl⟩
  · exact ⟨99, by decide, by decide, rfl⟩
  · exact ⟨115, by decide, by decide, rfl⟩
  · exact ⟨112, by decide, by decide, rfl⟩
  · exact ⟨113, by decide, by decide, rfl⟩
  · exact ⟨114, by decide, by decide, rfl⟩
  · exact ⟨100, by decide, by decide, rfl⟩
  · exact ⟨119, by decide, by decide, rfl⟩
  · exact ⟨105, by decide, by decide, rfl⟩
theorem nameN_ch {x k : Nat} (h : nameN x = k) (hk : k < 10) : x = (if k = 0 then 97 else if k = 1 then 98 else if k = 2 then 99 else if k = 3 then 115 else if k = 4 then 112 else if k = 5 then 113 else if k = 6 then 114 else if k = 7 then 100 else if k = 8 then 119 else 105) := by
  subst h
  by_cases z : x < 128
  · revert x
    have : ∀ x, x < 128 → nameN x < 10 → x = (if nameN x = 0 then 97 else if nameN x = 1 then 98 else if nameN x = 2 then 99 else if nameN x = 3 then 115 else if nameN x = 4 then 112 else if nameN x = 5 then 113 else if nameN x = 6 then 114 else if nameN x = 7 then 100 else if nameN x = 8 then 119 else 105) := by decide +kernel
    intro x h1 h2
    exact this x h2 h1
  · exfalso
    unfold nameN at hk
    rw [if_neg (by omega), if_neg (by omega), if_neg (by omega), if_neg (by omega), if_neg (by omega), if_neg (by omega), if_neg (by omega), if_neg (by omega), if_neg (by omega), if_neg (by omega)] at hk
    omega
theorem nameN_in {x y : Nat} (h : nameN x = nameN y) (hy : nameN y < 10) : x = y := (nameN_ch h hy).trans (nameN_ch rfl hy).symm
theorem ie_71 {α : Type} {x : Nat} {u v : α} (hx : chO x) : (if F_71 (chI x) = 0 then u else v) = (if ¬ (48 ≤ x ∧ x ≤ 57) then u else v) := by
  simp only [f71 hx]
section CONE
variable {T : Nat → Nat} {m nm : Nat} {M0 : IM}
theorem f72 {x : Nat} {M : IM} (hn : nm ≤ 10) (h4 : M 45 4 = nI nm) (hx : chO x) : F_72 (chI x) M = some (if nameN x < nm then nI (nameN x) else -1) := by
  obtain ⟨r, h1, h2⟩ := loopF (body := B_72_2 (chI x) M) (fun k z => z = nI k ∧ ∀ i, i < k → nameN x ≠ i) (fun r => (match r with | .inl _ => (-1 : Int32) | .inr q => q) = if nameN x < nm then nI (nameN x) else -1) nm (by omega) (s := nI 0) ⟨rfl, fun i hi => by omega⟩ (fun k z hk hI => by
    obtain ⟨rfl, hI⟩ := hI
    unfold B_72_2
    rw [h4, ie_le (by omega) (by omega)]
    by_cases y : nm ≤ k
    · refine Or.inl ⟨.inl (nI k), by rw [if_pos y], ?_⟩
      have : ¬ nameN x < nm := fun z => hI _ (by omega) rfl
      rw [if_neg this]
    · obtain ⟨c, c1, c2, c3⟩ := nmc k (by omega)
      rw [if_neg y, lit_nI (n := 10), ie_le (by omega) (by omega), if_neg (by omega), ie_in (by omega), if_pos (by omega), ni_cl (by omega), c3]
      by_cases z : nameN x = k
      · have : x = c := nameN_in (by omega) (by omega)
        refine Or.inl ⟨.inr (nI k), ?_, ?_⟩
        · rw [if_pos (by rw [eq_comm, chI_eq hx c1]; exact this)]
        · rw [if_pos (by omega), z]
      · refine Or.inr ⟨by omega, nI (k + 1), ?_, rfl, fun i hi => ?_⟩
        · rw [if_neg (by rw [eq_comm, chI_eq hx c1]; intro e; rw [e] at z; exact z c2), ni_add1]
        · by_cases e : i = k
          · rw [e]; exact z
          · exact hI i (by omega))
  unfold F_72 L_72_2
  rw [show loopN (B_72_2 (chI x) M) FU 0 = some r from h1]
  cases r with
  | inl a => exact congrArg some h2
  | inr a => exact congrArg some h2
theorem nmLoop (h0 : KC T m nm M0) : ∀ (n k : Nat) (v f : Nat) (s : PS) (M : IM), n + k = 4 → n < f → v < 10 ^ k → SC m M0 s M → s.2.1 = false → ∃ y M', loopN B_67_4 f (nI v, nI k, M) = some (nI (nmF T m n v s).1, y, M') ∧ SC m M0 (nmF T m n v s).2 M'
  | 0, k, v, f, s, M, hk, hf, hv, h, hw => by
    refine ⟨nI k, M, loopN_out (by omega) ?_, h⟩
    show (if (4 : Int32) ≤ nI k then _ else _) = _
    rw [lit_nI (n := 4), ie_le (by omega) (by omega), if_pos (by omega)]
    rfl
  | n + 1, k, v, f, s, M, hk, hf, hv, h, hw => by
    have hx := nx_ch h0 s
    unfold nmF
    by_cases z : 48 ≤ nxP T m s ∧ nxP T m s ≤ 57
    · rw [if_pos z]
      have h999 : nxP T m s ≠ 999 := by omega
      have hv2 : v < 10000 := Nat.lt_of_lt_of_le hv (Nat.le_trans (Nat.pow_le_pow_right (by decide) (show k ≤ 4 by omega)) (by decide))
      obtain ⟨y, M', i1, i2⟩ := nmLoop h0 n (k + 1) (10 * v + nxP T m s - 48) (f - 1) (advP s) (iset M 45 2 (M 45 2 + 1)) (by omega) (by omega) (by rw [Nat.pow_succ]; omega) (h.adv h0 h999) hw
      refine ⟨y, M', ?_, i2⟩
      rw [loopN_go (s' := (nI (10 * v + nxP T m s - 48), nI (k + 1), iset M 45 2 (M 45 2 + 1))) (by omega) ?_]
      · exact i1
      · show (if (4 : Int32) ≤ nI k then _ else _) = _
        rw [lit_nI (n := 4), ie_le (by omega) (by omega), if_neg (by omega), f69 h0 h]
        dsimp only
        rw [if_neg (by rw [f71 hx]; exact fun y => y z)]
        unfold chI
        rw [if_neg h999, lit_nI (n := 10), lit_nI (n := 48), ni_mul, ni_add, ni_sub (by omega), ni_add1]
    · rw [if_neg z]
      refine ⟨nI k, M, loopN_out (by omega) ?_, h⟩
      show (if (4 : Int32) ≤ nI k then _ else _) = _
      rw [lit_nI (n := 4), ie_le (by omega) (by omega), if_neg (by omega), f69 h0 h]
      dsimp only
      rw [if_pos (by rw [f71 hx]; exact z)]
theorem f67 {s : PS} {M : IM} (h0 : KC T m nm M0) (h : SC m M0 s M) (hd : 48 ≤ nxP T m s ∧ nxP T m s ≤ 57) : ∃ M', F_67 M = some M' ∧ SC m M0 (numP T m s) M' := by
  have hw := (nx_lt (T := T) (m := m) (s := s) (by omega)).1
  obtain ⟨y, M1, a1, a2⟩ := nmLoop h0 4 0 0 FU s M rfl (by decide) (by decide) h hw
  obtain ⟨b1, b2, b3, b4, b5⟩ := nm_ok (T := T) 4 0 s h.1 hw
  have hl := h.1.2 hw
  have b6 := b4 (by decide) hd
  obtain ⟨M2, c1, c2⟩ := a2.add (t := (nmF T m 4 0 s).1) h0 (fun _ => by
    have : (nmF T m 4 0 s).2.2.2.length = s.2.2.length := by rw [b1]
    omega)
  rw [tC_lt (by omega)] at c1
  refine ⟨M2, ?_, c2⟩
  unfold F_67
  rw [show L_67_4 0 0 M = some (nI (nmF T m 4 0 s).1, y, M1) from a1]
  dsimp only
  unfold J_67_48
  rw [c1]
theorem f68 {s : PS} {M : IM} (h0 : KC T m nm M0) (h : SC m M0 s M) : ∃ M', F_68 M = some M' ∧ SC m M0 (cloP T m s) M' := by
  unfold F_68 cloP
  rw [f69 h0 h]
  dsimp only
  rw [lit_nI (n := 41), ie_ch (nx_ch h0 s) (by omega)]
  by_cases z : nxP T m s = 41
  · rw [if_pos z, if_pos z]
    exact ⟨_, rfl, h.adv h0 (by omega)⟩
  · rw [if_neg z, if_neg z]
    exact ⟨_, rfl, h.bad h0⟩
theorem nameN_no {x : Nat} (h : x = 33 ∨ x = 40 ∨ (48 ≤ x ∧ x ≤ 57)) : nameN x = 99 := by
  unfold nameN
  rw [if_neg (by omega), if_neg (by omega), if_neg (by omega), if_neg (by omega), if_neg (by omega), if_neg (by omega), if_neg (by omega), if_neg (by omega), if_neg (by omega), if_neg (by omega)]
theorem sOne (h0 : KC T m nm M0) {K : Int32 → IM → Option IM} {up br : PS → PS} {a : Nat} (ha : a ≤ 5) (hu : ∀ s M, SC m M0 s M → nxP T m s = 33 → ∃ M', (if 5 ≤ a then some (F_70 M) else (match K (nI (a + 1)) (iset M 45 2 ((M 45 2) + 1)) with | none => none | some M9 => (match F_73 (20033 : Int32) M9 with | none => none | some M10 => (some (M10))))) = some M' ∧ SC m M0 (up s) M') (hb : ∀ s M, SC m M0 s M → nxP T m s = 40 → ∃ M', (if 5 ≤ a then some (F_70 M) else (match F_61 K (nI (a + 1)) (iset M 45 2 ((M 45 2) + 1)) with | none => none | some M5 => (match F_68 M5 with | none => none | some M6 => (some (M6))))) = some M' ∧ SC m M0 (br s) M') : SimC m M0 (oneB T m nm up br) (F_66 K (nI a)) := by
  intro s M h
  have hx := nx_ch h0 s
  have e4 : M 45 4 = nI nm := (h.2.1 45 4 (by decide) (fun _ => by decide)).trans h0.2.2.2.2.1
  have hn := h0.2.1
  unfold F_66 oneB
  rw [f69 h0 h]
  dsimp only
  rw [f72 hn e4 hx]
  dsimp only
  rw [ie_71 hx, lit_nI (n := 33), lit_nI (n := 5), ie_le (by omega) (by omega), ie_ch hx (by omega)]
  unfold J_66_89 J_66_124
  rw [lit_nI (n := 40), lit_nI (n := 5), ie_le (by omega) (by omega), ie_ch hx (by omega), ni_add1]
  by_cases z1 : nxP T m s = 33
  · rw [if_pos (show ¬ (48 ≤ nxP T m s ∧ nxP T m s ≤ 57) by omega), if_neg (show ¬ nameN (nxP T m s) < nm by rw [nameN_no (Or.inl z1)]; omega), if_pos ni_neg1, if_pos z1, if_pos z1, if_neg (show ¬ nxP T m s = 40 by omega)]
    exact hu s M h z1
  · rw [if_neg z1, if_neg z1]
    by_cases z2 : nxP T m s = 40
    · rw [if_pos (show ¬ (48 ≤ nxP T m s ∧ nxP T m s ≤ 57) by omega), if_neg (show ¬ nameN (nxP T m s) < nm by rw [nameN_no (Or.inr (Or.inl z2))]; omega), if_pos ni_neg1, if_pos z2, if_pos z2]
      exact hb s M h z2
    · rw [if_neg z2, if_neg z2]
      by_cases z3 : 48 ≤ nxP T m s ∧ nxP T m s ≤ 57
      · rw [if_neg (fun y => y z3), if_pos z3]
        obtain ⟨M', c1, c2⟩ := f67 h0 h z3
        rw [c1]
        exact ⟨M', rfl, c2⟩
      · rw [if_pos z3, if_neg z3]
        by_cases z4 : nameN (nxP T m s) < nm
        · have h999 : nxP T m s ≠ 999 := by have := nameN_lt (x := nxP T m s) (by omega); omega
          have hw := (nx_lt h999).1
          have hl := h.1.2 hw
          obtain ⟨M', c1, c2⟩ := (h.adv h0 h999).add (t := 10000 + nameN (nxP T m s)) h0 (fun _ => by show s.2.2.length + 1 ≤ s.1 + 1; omega)
          rw [tC_lt (by omega)] at c1
          rw [if_pos z4, if_pos z4, if_neg (nI_pos (by omega)), lit_nI (n := 10000), ni_add, c1]
          refine ⟨M', rfl, ?_⟩
          have : addP (10000 + nameN (nxP T m s)) (advP s) = advP (addP (10000 + nameN (nxP T m s)) s) := by
            rw [addP_f hw, addP_f (s := advP s) hw]; rfl
          rw [← this]
          exact c2
        · rw [if_neg z4, if_neg z4, if_pos ni_neg1]
          exact ⟨_, rfl, h.bad h0⟩
theorem sOneF (h0 : KC T m nm M0) : ∀ k f, k ≤ 5 → k < f → SimC m M0 (oneF T m nm k) (KK_66 f (nI (5 - k)))
  | 0, f + 1, hk, hf => sOne h0 (a := 5 - 0) (by omega) (fun s M h _ => by rw [if_pos (by decide)]; exact ⟨_, rfl, h.bad h0⟩) (fun s M h _ => by rw [if_pos (by decide)]; exact ⟨_, rfl, h.bad h0⟩)
  | k + 1, f + 1, hk, hf => by
    have ih := sOneF h0 k f (by omega) (by omega)
    have gR := gOne (T := T) (m := m) h0.2.1 k
    refine sOne h0 (a := 5 - (k + 1)) (by omega) (fun s M h hx => ?_) (fun s M h hx => ?_)
    · rw [if_neg (by omega), show 5 - (k + 1) + 1 = 5 - k by omega]
      have h999 : nxP T m s ≠ 999 := by omega
      obtain ⟨M1, a1, a2⟩ := ih _ _ (h.adv h0 h999)
      obtain ⟨M2, b1, b2⟩ := a2.add (t := 20010) h0 (fun hw => by
        obtain ⟨o1, o2, o3⟩ := h.1.adv h999
        obtain ⟨c1, e, c2, c3, -⟩ := ((gR _ o1).2 o2).2.2 hw
        rw [c2, List.length_append]
        omega)
      rw [a1]
      dsimp only
      rw [show F_73 20033 M1 = some M2 from b1]
      exact ⟨M2, rfl, b2⟩
    · rw [if_neg (by omega), show 5 - (k + 1) + 1 = 5 - k by omega]
      have h999 : nxP T m s ≠ 999 := by omega
      obtain ⟨M1, a1, a2⟩ := sEit h0 gR ih _ _ (h.adv h0 h999)
      obtain ⟨M2, b1, b2⟩ := f68 h0 a2
      rw [a1]
      dsimp only
      rw [b1]
      exact ⟨M2, rfl, b2⟩
end CONE
/-! what a text is: its signs, or where it is wrong -/
def readF (T : Nat → Nat) (m nm : Nat) : PS := eitF T m (oneF T m nm 5) (0, false, [])
def nmOf (k : Nat) : Nat := if k = 0 then 7 else if k = 4 then 9 else 10
theorem okP0 (m : Nat) : okP m (0, false, []) := ⟨Nat.zero_le _, fun _ => Nat.le_refl _⟩
theorem read_ok {T : Nat → Nat} {m nm : Nat} (hn : nm ≤ 10) : (readF T m nm).1 ≤ m ∧ ((readF T m nm).2.1 = false → EV nm (readF T m nm).2.2 ∧ (readF T m nm).2.2.length ≤ (readF T m nm).1) := by
  obtain ⟨a1, a2, a3⟩ := (gEit (T := T) (gOne (T := T) (m := m) hn 5) (0, false, []) (okP0 m)).2 rfl
  refine ⟨a1.1, fun hw => ?_⟩
  obtain ⟨-, e, b1, b2, b3⟩ := a3 hw
  have b1 : (readF T m nm).2.2 = e := b1
  rw [b1]
  exact ⟨b3, b2⟩
theorem read_c {T : Nat → Nat} {m k : Nat} {M : IM} (hk : k < 6) (hm : m ≤ 50) (hT : ∀ j, j < m → T j < 256 ∧ M 4 j = nI (T j)) : ∃ M', (∀ a b, a ≠ 45 → a ≠ 47 → M' a b = M a b) ∧ (((readF T m (nmOf k)).2.1 = false ∧ (readF T m (nmOf k)).1 = m ∧ F_60 4 (nI m) (nI k) M = some (-1, M') ∧ M' 45 6 = nI (readF T m (nmOf k)).2.2.length ∧ ∀ j, j < (readF T m (nmOf k)).2.2.length → M' 47 j = nI (tC ((readF T m (nmOf k)).2.2.getD j 0))) ∨ (((readF T m (nmOf k)).2.1 = true ∨ (readF T m (nmOf k)).1 < m) ∧ F_60 4 (nI m) (nI k) M = some (nI (readF T m (nmOf k)).1, M'))) := by
  have hn : nmOf k ≤ 10 := by unfold nmOf; by_cases z : k = 0; · rw [if_pos z]; decide
                              · rw [if_neg z]; by_cases y : k = 4; · rw [if_pos y]; decide
                                · rw [if_neg y]; decide
  have eF : F_60 4 (nI m) (nI k) M = J_60_49 (nI (nmOf k)) (iset (iset (iset (iset (iset M 45 0 (nI 4)) 45 1 (nI m)) 45 2 0) 45 6 0) 45 3 (-1)) := by
    unfold F_60 nmOf
    rw [lit_nI (n := 0), lit_nI (n := 4), ie_eq (by omega) (by omega), ie_eq (by omega) (by omega)]
    by_cases z : k = 0
    · rw [if_pos z, if_pos z]; rfl
    · rw [if_neg z, if_neg z]
      by_cases y : k = 4
      · rw [if_pos y, if_pos y]; rfl
      · rw [if_neg y, if_neg y]; rfl
  rw [eF]
  have hr := read_ok (T := T) (m := m) hn
  generalize hM : iset (iset (iset (iset (iset (iset M 45 0 (nI 4)) 45 1 (nI m)) 45 2 0) 45 6 0) 45 3 (-1)) 45 4 (nI (nmOf k)) = Ms
  have hfr : ∀ a b, a ≠ 45 → Ms a b = M a b := fun a b ha => by
    rw [← hM, iset_k ha, iset_k ha, iset_k ha, iset_k ha, iset_k ha, iset_k ha]
  have h0 : KC T m (nmOf k) Ms := by
    refine ⟨hm, hn, ?_, ?_, ?_, fun j hj => ⟨(hT j hj).1, by rw [hfr 4 j (by decide)]; exact (hT j hj).2⟩⟩
    · rw [← hM, iset_j (by decide), iset_j (by decide), iset_j (by decide), iset_j (by decide), iset_j (by decide), iset_same]; rfl
    · rw [← hM, iset_j (by decide), iset_j (by decide), iset_j (by decide), iset_j (by decide), iset_same]
    · rw [← hM, iset_same]
  have hs : SC m Ms (0, false, []) Ms := by
    refine ⟨okP0 m, fun _ _ _ _ => rfl, ?_, Or.inl ⟨rfl, ?_, ?_, fun j hj => absurd hj (Nat.not_lt_zero _)⟩⟩
    · rw [← hM, iset_j (by decide), iset_j (by decide), iset_j (by decide), iset_same]; rfl
    · rw [← hM, iset_j (by decide), iset_same]
    · rw [← hM, iset_j (by decide), iset_j (by decide), iset_same]; rfl
  obtain ⟨M1, a1, a2⟩ := sEit h0 (gOne hn 5) (sOneF h0 5 64 (by decide) (by decide)) _ _ hs
  have a1 : K_61 0 Ms = some M1 := a1
  unfold J_60_49
  rw [hM, a1]
  dsimp only
  have e1 : M1 45 1 = nI m := (a2.2.1 45 1 (by decide) (fun _ => by decide)).trans h0.2.2.2.1
  have a3 : SC m Ms (readF T m (nmOf k)) M1 := a2
  obtain ⟨o1, fr, h2, hc⟩ := a3
  have hfr1 : ∀ a b, a ≠ 45 → a ≠ 47 → M1 a b = M a b := fun a b h1 h2 => (fr a b h2 (fun z => absurd z h1)).trans (hfr a b h1)
  have ole := o1.1
  rw [e1, h2, ie_le (by omega) (by omega)]
  by_cases z : m ≤ (readF T m (nmOf k)).1
  · rw [if_pos z]
    refine ⟨M1, hfr1, ?_⟩
    unfold J_60_72
    rcases hc with ⟨w, h3, h4, h5⟩ | ⟨w, h3, -⟩
    · exact Or.inl ⟨w, by omega, by rw [h3], h4, h5⟩
    · exact Or.inr ⟨Or.inl w, by rw [h3]⟩
  · rw [if_neg z]
    refine ⟨F_70 M1, fun a b h1 h2 => ?_, Or.inr ⟨Or.inr (by omega), ?_⟩⟩
    · rw [← hfr1 a b h1 h2]
      unfold F_70
      by_cases y : M1 45 3 = -1
      · rw [if_pos y, iset_k h1]
      · rw [if_neg y]
    · unfold J_60_72 F_70
      rcases hc with ⟨w, h3, h4, h5⟩ | ⟨w, h3, -⟩
      · rw [if_pos h3, iset_same, h2]
      · rw [if_neg (by rw [h3, ni_ne_neg (by omega) ni_neg1]; exact not_false), h3]
