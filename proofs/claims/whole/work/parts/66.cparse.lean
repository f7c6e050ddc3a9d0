/-! the class's parser goes as the one that stands for both -/
def chI (x : Nat) : Int32 := if x = 999 then -1 else nI x
def chO (x : Nat) : Prop := x < 256 ∨ x = 999
theorem chI_eq {x c : Nat} (hx : chO x) (hc : c < 256) : (chI x = nI c) = (x = c) := by
  unfold chI
  rcases hx with hx | hx
  · rw [if_neg (by omega), ni_eqi (by omega) (by omega)]
  · rw [if_pos hx]
    exact propext ⟨fun h => absurd h.symm (by rw [ni_ne_neg (by omega) ni_neg1]; exact not_false), fun h => by omega⟩
theorem ie_le {α : Type} {a b : Nat} {x y : α} (ha : a < 2147483648) (hb : b < 2147483648) : (if nI a ≤ nI b then x else y) = (if a ≤ b then x else y) := by
  simp only [ni_lei ha hb]
theorem ie_lt {α : Type} {a b : Nat} {x y : α} (ha : a < 2147483648) (hb : b < 2147483648) : (if nI a < nI b then x else y) = (if a < b then x else y) := by
  simp only [ni_lti ha hb]
theorem ie_eq {α : Type} {a b : Nat} {x y : α} (ha : a < 2147483648) (hb : b < 2147483648) : (if nI a = nI b then x else y) = (if a = b then x else y) := by
  simp only [ni_eqi ha hb]
theorem ie_in {α : Type} {a n : Nat} {x y : α} (ha : a < 2147483648) : (if inb (nI a) n = true then x else y) = (if a < n then x else y) := by
  simp only [inb_nI ha]
theorem ie_ch {α : Type} {x c : Nat} {u v : α} (hx : chO x) (hc : c < 256) : (if chI x = nI c then u else v) = (if x = c then u else v) := by
  simp only [chI_eq hx hc]
def tC (t : Nat) : Nat := if t = 20000 then 20124 else if t = 20001 then 20038 else if t = 20002 then 20060 else if t = 20003 then 20061 else if t = 20004 then 20062 else if t = 20005 then 20043 else if t = 20006 then 20045 else if t = 20007 then 20042 else if t = 20008 then 20047 else if t = 20009 then 20037 else if t = 20010 then 20033 else t
theorem tC_lt {t : Nat} (h : t < 20000) : tC t = t := by
  unfold tC
  rw [if_neg (by omega), if_neg (by omega), if_neg (by omega), if_neg (by omega), if_neg (by omega), if_neg (by omega), if_neg (by omega), if_neg (by omega), if_neg (by omega), if_neg (by omega), if_neg (by omega)]
def tokC (o : Nat → Nat) : Prop := ∀ x, o x ≠ 0 → tC (o x) = 20000 + x
theorem cE : tokC opE := fun x h => by
  unfold opE at h ⊢
  by_cases z1 : x = 124
  · subst z1; rfl
  · rw [if_neg z1] at h; exact absurd rfl h
theorem cA : tokC opA := fun x h => by
  unfold opA at h ⊢
  by_cases z1 : x = 38
  · subst z1; rfl
  · rw [if_neg z1] at h; exact absurd rfl h
theorem cC : tokC opC := fun x h => by
  unfold opC at h ⊢
  by_cases z1 : x = 60
  · subst z1; rfl
  · by_cases z2 : x = 61
    · subst z2; rfl
    · by_cases z3 : x = 62
      · subst z3; rfl
      · rw [if_neg z1, if_neg z2, if_neg z3] at h; exact absurd rfl h
theorem cS : tokC opS := fun x h => by
  unfold opS at h ⊢
  by_cases z1 : x = 43
  · subst z1; rfl
  · by_cases z2 : x = 45
    · subst z2; rfl
    · rw [if_neg z1, if_neg z2] at h; exact absurd rfl h
theorem cPr : tokC opP := fun x h => by
  unfold opP at h ⊢
  by_cases z1 : x = 42
  · subst z1; rfl
  · by_cases z2 : x = 47
    · subst z2; rfl
    · by_cases z3 : x = 37
      · subst z3; rfl
      · rw [if_neg z1, if_neg z2, if_neg z3] at h; exact absurd rfl h
def FrC (M M' : IM) : Prop := ∀ k j, k ≠ 47 → (k = 45 → j ≠ 2 ∧ j ≠ 3 ∧ j ≠ 6) → M' k j = M k j
theorem FrC.set {M M' : IM} {a b : Nat} {x : Int32} (h : FrC M M') (hab : a = 47 ∨ (a = 45 ∧ (b = 2 ∨ b = 3 ∨ b = 6))) : FrC M (iset M' a b x) := fun k j h1 h2 => by
  by_cases hk : k = a
  · have := h2 (by omega)
    rw [iset_j (by omega)]
    exact h k j h1 h2
  · rw [iset_k hk]
    exact h k j h1 h2
def KC (T : Nat → Nat) (m nm : Nat) (M : IM) : Prop := m ≤ 50 ∧ nm ≤ 10 ∧ M 45 0 = 4 ∧ M 45 1 = nI m ∧ M 45 4 = nI nm ∧ ∀ j, j < m → T j < 256 ∧ M 4 j = nI (T j)
def SC (m : Nat) (M0 : IM) (s : PS) (M : IM) : Prop := okP m s ∧ FrC M0 M ∧ M 45 2 = nI s.1 ∧ ((s.2.1 = false ∧ M 45 3 = -1 ∧ M 45 6 = nI s.2.2.length ∧ ∀ j, j < s.2.2.length → M 47 j = nI (tC (s.2.2.getD j 0))) ∨ (s.2.1 = true ∧ M 45 3 = nI s.1 ∧ ∃ z, z ≤ 50 ∧ M 45 6 = nI z))
def SimC (m : Nat) (M0 : IM) (F : PS → PS) (G : IM → Option IM) : Prop := ∀ s M, SC m M0 s M → ∃ M', G M = some M' ∧ SC m M0 (F s) M'
section CPARSE
variable {T : Nat → Nat} {m nm : Nat} {M0 : IM}
theorem nx_ch (h0 : KC T m nm M0) (s : PS) : chO (nxP T m s) := by
  unfold nxP chO
  cases s.2.1
  · rw [cond_false]
    by_cases z : s.1 < m
    · rw [if_pos z]; exact Or.inl (h0.2.2.2.2.2 _ z).1
    · rw [if_neg z]; exact Or.inr rfl
  · exact Or.inr rfl
theorem f69 {s : PS} {M : IM} (h0 : KC T m nm M0) (h : SC m M0 s M) : F_69 M = some (chI (nxP T m s)) := by
  obtain ⟨k1, k2, k3, k4, k5, k6⟩ := h0
  obtain ⟨o1, fr, h2, hw⟩ := h
  have e0 : M 45 0 = 4 := (fr 45 0 (by decide) (fun _ => by decide)).trans k3
  have e1 : M 45 1 = nI m := (fr 45 1 (by decide) (fun _ => by decide)).trans k4
  unfold F_69
  rcases hw with ⟨w, h3, -⟩ | ⟨w, h3, -⟩
  · rw [if_pos h3, e1, h2]
    unfold nxP chI
    rw [w, cond_false]
    by_cases z : s.1 < m
    · have z4 := (fr 4 s.1 (by decide) (fun z => absurd z (by decide))).trans (k6 _ z).2
      have z5 := (k6 _ z).1
      simp (disch := omega) only [lit_nI, ni_ofNat, ni_add, ni_lti, ni_lei, ni_eqi, ni_cl, inb_nI, if_pos, if_neg, if_true, if_false, z, e0, z4]
    · have := o1.1
      simp (disch := omega) only [lit_nI, ni_ofNat, ni_add, ni_lti, ni_lei, ni_eqi, ni_cl, inb_nI, if_pos, if_neg, if_true, if_false, z]
  · have : s.1 ≤ m := o1.1
    rw [if_neg (by rw [h3, ni_ne_neg (by omega) ni_neg1]; exact not_false), nx_w w]
    rfl
theorem SC.adv {s : PS} {M : IM} (h0 : KC T m nm M0) (h : SC m M0 s M) (hx : nxP T m s ≠ 999) : SC m M0 (advP s) (iset M 45 2 (M 45 2 + 1)) := by
  obtain ⟨hw, hlt⟩ := nx_lt hx
  obtain ⟨o1, fr, h2, hc⟩ := h
  refine ⟨(o1.adv hx).1, fr.set (by omega), ?_, Or.inl ?_⟩
  · rw [iset_same, h2, ni_add1]; rfl
  · rcases hc with ⟨w, h3, h4, h5⟩ | ⟨w, -⟩
    · refine ⟨w, ?_, ?_, fun j hj => ?_⟩
      · rw [iset_j (by decide)]; exact h3
      · rw [iset_j (by decide)]; exact h4
      · rw [iset_k (by decide)]; exact h5 j hj
    · exact absurd (hw.symm.trans w) (by decide)
theorem getD_sn : ∀ (l : List Nat) (t j : Nat), j < l.length + 1 → (l ++ [t]).getD j 0 = if j < l.length then l.getD j 0 else t
  | [], t, j, hj => by
    have hj : j < 0 + 1 := hj
    obtain rfl : j = 0 := by omega
    rfl
  | a :: l, t, 0, _ => by rw [if_pos (by show 0 < l.length + 1; omega)]; rfl
  | a :: l, t, j + 1, hj => by
    have hj : j + 1 < l.length + 1 + 1 := hj
    show (l ++ [t]).getD j 0 = if j + 1 < l.length + 1 then l.getD j 0 else t
    rw [getD_sn l t j (by omega)]
    by_cases z : j < l.length
    · rw [if_pos z, if_pos (by omega)]
    · rw [if_neg z, if_neg (by omega)]
theorem getD_snoc {l : List Nat} {t j : Nat} (hj : j < l.length + 1) : (l ++ [t]).getD j 0 = if j < l.length then l.getD j 0 else t := getD_sn l t j hj
theorem SC.add {s : PS} {M : IM} {t : Nat} (h0 : KC T m nm M0) (h : SC m M0 s M) (hl : s.2.1 = false → s.2.2.length + 1 ≤ s.1) : ∃ M', F_73 (nI (tC t)) M = some M' ∧ SC m M0 (addP t s) M' := by
  obtain ⟨k1, -⟩ := h0
  obtain ⟨o1, fr, h2, hc⟩ := h
  have o0 := o1.1
  unfold F_73
  rcases hc with ⟨w, h3, h4, h5⟩ | ⟨w, h3, z, hz, h4⟩
  · have hl := hl w
    rw [h4, iset_k (by decide), h4, ni_ofNat, ie_le (by omega) (by omega), if_neg (by omega), ie_in (by omega), if_pos (by omega), ni_cl (by omega)]
    refine ⟨_, rfl, ?_⟩
    rw [addP_f w]
    refine ⟨⟨o0, fun _ => ?_⟩, (fr.set (Or.inl rfl)).set (by omega), ?_, Or.inl ⟨rfl, ?_, ?_, ?_⟩⟩
    · show (s.2.2 ++ [t]).length ≤ s.1
      rw [List.length_append, List.length_singleton]; exact hl
    · rw [iset_j (by decide), iset_k (by decide)]; exact h2
    · rw [iset_j (by decide), iset_k (by decide)]; exact h3
    · show _ = nI (s.2.2 ++ [t]).length
      rw [iset_same, List.length_append, List.length_singleton, ni_add1]
    · show ∀ j, j < (s.2.2 ++ [t]).length → _ = nI (tC ((s.2.2 ++ [t]).getD j 0))
      intro j hj
      rw [List.length_append, List.length_singleton] at hj
      rw [iset_k (by decide), getD_snoc hj]
      by_cases z : j < s.2.2.length
      · rw [iset_j (by omega), if_pos z]; exact h5 j z
      · rw [if_neg z, show j = s.2.2.length by omega, iset_same]
  · rw [addP_w w]
    by_cases y : 50 ≤ z
    · rw [h4, ni_ofNat, ie_le (by omega) (by omega), if_pos y]
      exact ⟨M, rfl, o1, fr, h2, Or.inr ⟨w, h3, z, hz, h4⟩⟩
    · rw [h4, iset_k (by decide), h4, ni_ofNat, ie_le (by omega) (by omega), if_neg y, ie_in (by omega), if_pos (by omega)]
      refine ⟨_, rfl, o1, (fr.set (Or.inl rfl)).set (by omega), ?_, Or.inr ⟨w, ?_, z + 1, by omega, ?_⟩⟩
      · rw [iset_j (by decide), iset_k (by decide)]; exact h2
      · rw [iset_j (by decide), iset_k (by decide)]; exact h3
      · rw [iset_same, ni_add1]
theorem SC.bad {s : PS} {M : IM} (h0 : KC T m nm M0) (h : SC m M0 s M) : SC m M0 (badP s) (F_70 M) := by
  obtain ⟨k1, -⟩ := h0
  obtain ⟨o1, fr, h2, hc⟩ := h
  have o0 := o1.1
  unfold F_70
  rcases hc with ⟨w, h3, h4, h5⟩ | ⟨w, h3, z, hz, h4⟩
  · rw [if_pos h3]
    have := o1.2 w
    refine ⟨⟨o0, fun z => Bool.noConfusion z⟩, fr.set (by omega), ?_, Or.inr ⟨rfl, ?_, s.2.2.length, by omega, ?_⟩⟩
    · rw [iset_j (by decide)]; exact h2
    · rw [iset_same]; exact h2
    · rw [iset_j (by decide)]; exact h4
  · rw [if_neg (by rw [h3, ni_ne_neg (by omega) ni_neg1]; exact not_false)]
    exact ⟨⟨o0, fun z => Bool.noConfusion z⟩, fr, h2, Or.inr ⟨rfl, h3, z, hz, h4⟩⟩
/-- one turn: a sign, what is behind it, the sign's token -/
theorem turnC {o : Nat → Nat} {sub : PS → PS} {G : IM → Option IM} {s : PS} {M : IM} (h0 : KC T m nm M0) (hb : binO o) (hc : tokC o) (hS : GP m nm sub) (hG : SimC m M0 sub G) (h : SC m M0 s M) (ho : o (nxP T m s) ≠ 0) : ∃ M3 M4, G (iset M 45 2 (M 45 2 + 1)) = some M3 ∧ F_73 (20000 + chI (nxP T m s)) M3 = some M4 ∧ SC m M0 (addP (o (nxP T m s)) (sub (advP s))) M4 := by
  have hx : nxP T m s ≠ 999 := by have := (hb _ ho).2.2; omega
  obtain ⟨M3, g1, g2⟩ := hG _ _ (h.adv h0 hx)
  obtain ⟨-, -, -, t4, -⟩ := turn hb hS h.1 ho
  obtain ⟨M4, a1, a2⟩ := g2.add (t := o (nxP T m s)) h0 t4
  refine ⟨M3, M4, g1, ?_, a2⟩
  rw [hc _ ho] at a1
  unfold chI
  rw [if_neg hx]
  show F_73 (nI 20000 + nI (nxP T m s)) M3 = some M4
  rw [ni_add]
  exact a1
def BG1 (c t : Int32) (G : IM → Option IM) : (Int32 × IM) → Option ((Int32 × IM) ⊕ (Int32 × IM)) := fun (x2, M) => if (50 : Int32) ≤ x2 then (some (Sum.inr (x2, M))) else (match F_69 M with | none => none | some c2 => (if c2 = c then (match G (iset M 45 2 ((M 45 2) + 1)) with | none => none | some M3 => (match F_73 t M3 with | none => none | some M4 => (some (Sum.inl (x2 + 1, M4))))) else (some (Sum.inr (x2, M)))))
theorem lpC1 {o : Nat → Nat} {c t : Int32} {sub : PS → PS} {G : IM → Option IM} {s : PS} {M : IM} (h0 : KC T m nm M0) (hb : binO o) (hc : tokC o) (hS : GP m nm sub) (hG : SimC m M0 sub G) (ho : ∀ x, chO x → (chI x = c) = (o x ≠ 0)) (ht : 20000 + c = t) (h : SC m M0 s M) : ∃ x M', loopN (BG1 c t G) FU (0, M) = some (x, M') ∧ SC m M0 (lpF T m o sub 50 s) M' := by
  obtain ⟨r, h1, h2⟩ := lpG (T := T) (m := m) (B := BG1 c t G) (o := o) (sub := sub) (fun k s z => ∃ M, z = (nI k, M) ∧ SC m M0 s M) (fun s r => SC m M0 s r.2) 50
    (fun k s z hk hR hz => by
      obtain ⟨M, rfl, hs⟩ := hR
      refine ⟨(nI k, M), ?_, hs⟩
      show (if (50 : Int32) ≤ nI k then _ else _) = _
      rw [lit_nI (n := 50), ie_le (by omega) (by omega)]
      by_cases y : 50 ≤ k
      · rw [if_pos y]
      · rw [if_neg y, f69 h0 hs]
        dsimp only
        rw [if_neg]
        rw [ho _ (nx_ch h0 s)]
        rcases hz with hz | hz
        · exact fun z => z hz
        · exact absurd hz (by omega))
    (fun k s z hk hR hz => by
      obtain ⟨M, rfl, hs⟩ := hR
      obtain ⟨M3, M4, t1, t2, t3⟩ := turnC h0 hb hc hS hG hs hz
      refine ⟨(nI (k + 1), M4), ?_, M4, rfl, t3⟩
      show (if (50 : Int32) ≤ nI k then _ else _) = _
      have e : chI (nxP T m s) = c := by rw [ho _ (nx_ch h0 s)]; exact hz
      rw [e, ht] at t2
      rw [lit_nI (n := 50), ie_le (by omega) (by omega), if_neg (by omega), f69 h0 hs]
      dsimp only
      rw [if_pos e, t1]
      dsimp only
      rw [t2]
      dsimp only
      rw [ni_add1])
    50 0 FU s (nI 0, M) rfl (by decide) ⟨M, rfl, h⟩
  exact ⟨r.1, r.2, h1, h2⟩
def JG2 (G : IM → Option IM) (x2 x3 : Int32) (M : IM) : Option ((Int32 × Int32 × IM) ⊕ (Int32 × Int32 × IM)) := (match G (iset M 45 2 ((M 45 2) + 1)) with | none => none | some M3 => (match F_73 (20000 + x2) M3 with | none => none | some M4 => (match F_69 M4 with | none => none | some c5 => (some (Sum.inl (c5, x3 + 1, M4))))))
theorem lpC2 {o : Nat → Nat} {B : (Int32 × Int32 × IM) → Option ((Int32 × Int32 × IM) ⊕ (Int32 × Int32 × IM))} {sub : PS → PS} {G : IM → Option IM} {s : PS} {M : IM} (h0 : KC T m nm M0) (hb : binO o) (hc : tokC o) (hS : GP m nm sub) (hG : SimC m M0 sub G) (hB : ∀ x k M, chO x → k ≤ 50 → B (chI x, nI k, M) = if k = 50 ∨ o x = 0 then some (.inr (chI x, nI k, M)) else JG2 G (chI x) (nI k) M) (h : SC m M0 s M) : ∃ x y M', loopN B FU (chI (nxP T m s), 0, M) = some (x, y, M') ∧ SC m M0 (lpF T m o sub 50 s) M' := by
  obtain ⟨r, h1, h2⟩ := lpG (T := T) (m := m) (B := B) (o := o) (sub := sub) (fun k s z => ∃ M, z = (chI (nxP T m s), nI k, M) ∧ SC m M0 s M) (fun s r => SC m M0 s r.2.2) 50
    (fun k s z hk hR hz => by
      obtain ⟨M, rfl, hs⟩ := hR
      refine ⟨(chI (nxP T m s), nI k, M), ?_, hs⟩
      rw [hB _ _ _ (nx_ch h0 s) hk, if_pos hz.symm])
    (fun k s z hk hR hz => by
      obtain ⟨M, rfl, hs⟩ := hR
      obtain ⟨M3, M4, t1, t2, t3⟩ := turnC h0 hb hc hS hG hs hz
      refine ⟨_, ?_, M4, rfl, t3⟩
      rw [hB _ _ _ (nx_ch h0 s) (by omega), if_neg (fun y => by
        rcases y with y | y
        · omega
        · exact hz y)]
      unfold JG2
      rw [t1]
      dsimp only
      rw [t2]
      dsimp only
      rw [f69 h0 t3]
      dsimp only
      rw [ni_add1])
    50 0 FU s (chI (nxP T m s), nI 0, M) rfl (by decide) ⟨M, rfl, h⟩
  exact ⟨r.1, r.2.1, r.2.2, h1, h2⟩
theorem sProd {rk : PS → PS} {K : Int32 → IM → Option IM} {a : Int32} (h0 : KC T m nm M0) (hR : GP m nm rk) (hS : SimC m M0 rk (K a)) : SimC m M0 (prodF T m rk) (F_65 K a) := by
  intro s M h
  obtain ⟨M1, a1, a2⟩ := hS s M h
  obtain ⟨x, y, M2, b1, b2⟩ := lpC2 (o := opP) (B := B_65_12 K a) (G := K a) h0 bPr cPr hR hS (fun x k M hx hk => by
    show (if (50 : Int32) ≤ nI k then _ else _) = _
    rw [lit_nI (n := 50), ie_le (by omega) (by omega), lit_nI (n := 42), lit_nI (n := 47), lit_nI (n := 37), ie_ch hx (by omega), ie_ch hx (by omega), ie_ch hx (by omega)]
    by_cases y : k = 50
    · rw [if_pos (by omega), if_pos (Or.inl y)]
    · rw [if_neg (by omega)]
      unfold opP
      by_cases z1 : x = 42
      · rw [if_pos z1, if_pos z1, if_neg (by omega)]; rfl
      · by_cases z2 : x = 47
        · rw [if_neg z1, if_neg z1, if_pos z2, if_pos z2, if_neg (by omega)]; rfl
        · by_cases z3 : x = 37
          · rw [if_neg z1, if_neg z1, if_neg z2, if_neg z2, if_pos z3, if_pos z3, if_neg (by omega)]; rfl
          · rw [if_neg z1, if_neg z1, if_neg z2, if_neg z2, if_neg z3, if_neg z3, if_pos (by omega)]) a2
  refine ⟨M2, ?_, b2⟩
  unfold F_65
  rw [a1]
  dsimp only
  rw [f69 h0 a2]
  dsimp only
  unfold L_65_12
  rw [b1]
theorem sSum {rk : PS → PS} {K : Int32 → IM → Option IM} {a : Int32} (h0 : KC T m nm M0) (hR : GP m nm rk) (hS : SimC m M0 rk (K a)) : SimC m M0 (sumF T m rk) (F_64 K a) := by
  intro s M h
  have hP := sProd h0 hR hS
  obtain ⟨M1, a1, a2⟩ := hP s M h
  obtain ⟨x, y, M2, b1, b2⟩ := lpC2 (o := opS) (B := B_64_12 K a) (G := F_65 K a) h0 bS cS (gProd hR) hP (fun x k M hx hk => by
    show (if (50 : Int32) ≤ nI k then _ else _) = _
    rw [lit_nI (n := 50), ie_le (by omega) (by omega), lit_nI (n := 43), lit_nI (n := 45), ie_ch hx (by omega), ie_ch hx (by omega)]
    by_cases y : k = 50
    · rw [if_pos (by omega), if_pos (Or.inl y)]
    · rw [if_neg (by omega)]
      unfold opS
      by_cases z1 : x = 43
      · rw [if_pos z1, if_pos z1, if_neg (by omega)]; rfl
      · by_cases z2 : x = 45
        · rw [if_neg z1, if_neg z1, if_pos z2, if_pos z2, if_neg (by omega)]; rfl
        · rw [if_neg z1, if_neg z1, if_neg z2, if_neg z2, if_pos (by omega)]) a2
  refine ⟨M2, ?_, b2⟩
  unfold F_64
  rw [a1]
  dsimp only
  rw [f69 h0 a2]
  dsimp only
  unfold L_64_12
  rw [b1]
theorem sCmp {rk : PS → PS} {K : Int32 → IM → Option IM} {a : Int32} (h0 : KC T m nm M0) (hR : GP m nm rk) (hS : SimC m M0 rk (K a)) : SimC m M0 (cmpF T m rk) (F_63 K a) := by
  intro s M h
  have hP := sSum h0 hR hS
  obtain ⟨M1, a1, a2⟩ := hP s M h
  unfold F_63
  rw [a1]
  dsimp only
  rw [f69 h0 a2]
  dsimp only
  have hx := nx_ch h0 (sumF T m rk s)
  show ∃ M', _ ∧ SC m M0 (lpF T m opC (sumF T m rk) 1 (sumF T m rk s)) M'
  rw [lit_nI (n := 60), lit_nI (n := 61), lit_nI (n := 62), ie_ch hx (by omega), ie_ch hx (by omega), ie_ch hx (by omega)]
  unfold lpF
  by_cases hz : opC (nxP T m (sumF T m rk s)) = 0
  · rw [if_pos hz]
    unfold opC at hz
    refine ⟨M1, ?_, a2⟩
    by_cases z1 : nxP T m (sumF T m rk s) = 60
    · rw [if_pos z1] at hz; omega
    · by_cases z2 : nxP T m (sumF T m rk s) = 61
      · rw [if_neg z1, if_pos z2] at hz; omega
      · by_cases z3 : nxP T m (sumF T m rk s) = 62
        · rw [if_neg z1, if_neg z2, if_pos z3] at hz; omega
        · rw [if_neg z1, if_neg z2, if_neg z3]
  · rw [if_neg hz]
    obtain ⟨M3, M4, t1, t2, t3⟩ := turnC h0 bC cC (gSum hR) hP a2 hz
    refine ⟨M4, ?_, t3⟩
    have e : J_63_28 K a (chI (nxP T m (sumF T m rk s))) M1 = some M4 := by
      unfold J_63_28
      rw [t1]
      dsimp only
      rw [t2]
    rw [e]
    unfold opC at hz
    by_cases z1 : nxP T m (sumF T m rk s) = 60
    · rw [if_pos z1]
    · by_cases z2 : nxP T m (sumF T m rk s) = 61
      · rw [if_neg z1, if_pos z2]
      · by_cases z3 : nxP T m (sumF T m rk s) = 62
        · rw [if_neg z1, if_neg z2, if_pos z3]
        · rw [if_neg z1, if_neg z2, if_neg z3] at hz; exact absurd rfl hz
theorem sAll {rk : PS → PS} {K : Int32 → IM → Option IM} {a : Int32} (h0 : KC T m nm M0) (hR : GP m nm rk) (hS : SimC m M0 rk (K a)) : SimC m M0 (allF T m rk) (F_62 K a) := by
  intro s M h
  have hP := sCmp h0 hR hS
  obtain ⟨M1, a1, a2⟩ := hP s M h
  obtain ⟨x, M2, b1, b2⟩ := lpC1 (o := opA) (c := nI 38) (t := 20038) (G := F_63 K a) h0 bA cA (gCmp hR) hP (fun x hx => by
    rw [chI_eq hx (by omega)]
    unfold opA
    by_cases z : x = 38
    · rw [if_pos z]; exact propext ⟨fun _ => by decide, fun _ => z⟩
    · rw [if_neg z]; exact propext ⟨fun y => absurd y z, fun y => absurd rfl y⟩) rfl a2
  refine ⟨M2, ?_, b2⟩
  unfold F_62
  rw [a1]
  dsimp only
  rw [show L_62_7 K a 0 M1 = some (x, M2) from b1]
theorem sEit {rk : PS → PS} {K : Int32 → IM → Option IM} {a : Int32} (h0 : KC T m nm M0) (hR : GP m nm rk) (hS : SimC m M0 rk (K a)) : SimC m M0 (eitF T m rk) (F_61 K a) := by
  intro s M h
  have hP := sAll h0 hR hS
  obtain ⟨M1, a1, a2⟩ := hP s M h
  obtain ⟨x, M2, b1, b2⟩ := lpC1 (o := opE) (c := nI 124) (t := 20124) (G := F_62 K a) h0 bE cE (gAll hR) hP (fun x hx => by
    rw [chI_eq hx (by omega)]
    unfold opE
    by_cases z : x = 124
    · rw [if_pos z]; exact propext ⟨fun _ => by decide, fun _ => z⟩
    · rw [if_neg z]; exact propext ⟨fun y => absurd y z, fun y => absurd rfl y⟩) rfl a2
  refine ⟨M2, ?_, b2⟩
  unfold F_61
  rw [a1]
  dsimp only
  rw [show L_61_7 K a 0 M1 = some (x, M2) from b1]
end CPARSE
