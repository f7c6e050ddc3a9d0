/-! a text is worked out, by both alike -/
def STK (c : Nat) : List Int32 → IM → Prop
  | [], _ => True
  | v :: st, M => M c st.length = v ∧ STK c st M
theorem STK.set {c : Nat} {M : IM} {j : Nat} {x : Int32} : ∀ {st : List Int32}, STK c st M → st.length ≤ j → STK c st (iset M c j x)
  | [], _, _ => trivial
  | v :: st, h, hj => by
    have hj : st.length + 1 ≤ j := hj
    exact ⟨by rw [iset_j (by omega)]; exact h.1, STK.set h.2 (by omega)⟩
theorem f79 {t : Nat} (h1 : 20000 ≤ t) (h2 : t ≤ 20009) (a b : Int32) : F_79 (nI (tC t) - 20000) a b = some (doneV t a b) := by
  rcases (show t = 20000 ∨ t = 20001 ∨ t = 20002 ∨ t = 20003 ∨ t = 20004 ∨ t = 20005 ∨ t = 20006 ∨ t = 20007 ∨ t = 20008 ∨ t = 20009 by omega) with z | z | z | z | z | z | z | z | z | z <;> subst z
  · show (if a = 0 then (if b = 0 then J_79_97 0 else J_79_92) else J_79_92) = some (if a = 0 then (if b = 0 then 0 else 1) else 1)
    by_cases za : a = 0
    · by_cases zb : b = 0
      · rw [if_pos za, if_pos za, if_pos zb, if_pos zb]; rfl
      · rw [if_pos za, if_pos za, if_neg zb, if_neg zb]; rfl
    · rw [if_neg za, if_neg za]; rfl
  · show (if a = 0 then J_79_113 else (if b = 0 then J_79_113 else J_79_114 1)) = some (if a = 0 then 0 else (if b = 0 then 0 else 1))
    by_cases za : a = 0
    · rw [if_pos za, if_pos za]; rfl
    · by_cases zb : b = 0
      · rw [if_neg za, if_neg za, if_pos zb, if_pos zb]; rfl
      · rw [if_neg za, if_neg za, if_neg zb, if_neg zb]; rfl
  · show (if b ≤ a then J_79_128 0 else J_79_128 1) = some (if b ≤ a then 0 else 1)
    by_cases za : b ≤ a
    · rw [if_pos za, if_pos za]; rfl
    · rw [if_neg za, if_neg za]; rfl
  · show (if a = b then J_79_142 1 else J_79_142 0) = some (if a = b then 1 else 0)
    by_cases za : a = b
    · rw [if_pos za, if_pos za]; rfl
    · rw [if_neg za, if_neg za]; rfl
  · show (if a ≤ b then J_79_156 0 else J_79_156 1) = some (if a ≤ b then 0 else 1)
    by_cases za : a ≤ b
    · rw [if_pos za, if_pos za]; rfl
    · rw [if_neg za, if_neg za]; rfl
  · rfl
  · rfl
  · rfl
  · show (if b = 0 then some 0 else (if b = 0 then none else some (a / b))) = some (if b = 0 then 0 else a / b)
    by_cases za : b = 0
    · rw [if_pos za, if_pos za]
    · rw [if_neg za, if_neg za, if_neg za]
  · show (if b = 0 then some 0 else (if b = 0 then none else some (a - a / b * b))) = some (if b = 0 then 0 else a - a / b * b)
    by_cases za : b = 0
    · rw [if_pos za, if_pos za]
    · rw [if_neg za, if_neg za, if_neg za]
theorem f186 {t : Nat} (h1 : 20000 ≤ t) (h2 : t ≤ 20009) (a b : Int32) : F_186 (nI t) a b = some (doneV t a b) := by
  rcases (show t = 20000 ∨ t = 20001 ∨ t = 20002 ∨ t = 20003 ∨ t = 20004 ∨ t = 20005 ∨ t = 20006 ∨ t = 20007 ∨ t = 20008 ∨ t = 20009 by omega) with z | z | z | z | z | z | z | z | z | z <;> subst z
  · show (if a = 0 then (if b = 0 then some 0 else some 1) else some 1) = some (if a = 0 then (if b = 0 then 0 else 1) else 1)
    by_cases za : a = 0
    · by_cases zb : b = 0
      · rw [if_pos za, if_pos za, if_pos zb, if_pos zb]
      · rw [if_pos za, if_pos za, if_neg zb, if_neg zb]
    · rw [if_neg za, if_neg za]
  · show (if a = 0 then some 0 else (if b = 0 then some 0 else some 1)) = some (if a = 0 then 0 else (if b = 0 then 0 else 1))
    by_cases za : a = 0
    · rw [if_pos za, if_pos za]
    · by_cases zb : b = 0
      · rw [if_neg za, if_neg za, if_pos zb, if_pos zb]
      · rw [if_neg za, if_neg za, if_neg zb, if_neg zb]
  · show (if b ≤ a then some 0 else some 1) = some (if b ≤ a then 0 else 1)
    by_cases za : b ≤ a
    · rw [if_pos za, if_pos za]
    · rw [if_neg za, if_neg za]
  · show (if a = b then some 1 else some 0) = some (if a = b then 1 else 0)
    by_cases za : a = b
    · rw [if_pos za, if_pos za]
    · rw [if_neg za, if_neg za]
  · show (if a ≤ b then some 0 else some 1) = some (if a ≤ b then 0 else 1)
    by_cases za : a ≤ b
    · rw [if_pos za, if_pos za]
    · rw [if_neg za, if_neg za]
  · rfl
  · rfl
  · rfl
  · show (if b = 0 then some 0 else (if b = 0 then none else some (a / b))) = some (if b = 0 then 0 else a / b)
    by_cases za : b = 0
    · rw [if_pos za, if_pos za]
    · rw [if_neg za, if_neg za, if_neg za]
  · show (if b = 0 then some 0 else (if b = 0 then none else some (a - a / b * b))) = some (if b = 0 then 0 else a - a / b * b)
    by_cases za : b = 0
    · rw [if_pos za, if_pos za]
    · rw [if_neg za, if_neg za, if_neg za]
theorem tC_ge {t : Nat} (h1 : 20000 ≤ t) (h2 : t ≤ 20010) : 20000 ≤ tC t ∧ tC t < 20256 ∧ (t ≠ 20010 → tC t ≠ 20033) := by
  rcases (show t = 20000 ∨ t = 20001 ∨ t = 20002 ∨ t = 20003 ∨ t = 20004 ∨ t = 20005 ∨ t = 20006 ∨ t = 20007 ∨ t = 20008 ∨ t = 20009 ∨ t = 20010 by omega) with z | z | z | z | z | z | z | z | z | z | z <;> subst z <;> decide
/-- one token: what is on the stack then -/
theorem stepV_in {val : Nat → Int32} {nm t : Nat} {st st1 : List Int32} (ht : tokO nm t) (h : stepV val t st = some st1) : (t < 10000 ∧ st1 = nI t :: st) ∨ (10000 ≤ t ∧ t < 10000 + nm ∧ t < 20000 ∧ st1 = val (t - 10000) :: st) ∨ (t = 20010 ∧ ∃ a r, st = a :: r ∧ st1 = (if a = 0 then 1 else 0) :: r) ∨ (20000 ≤ t ∧ t ≤ 20009 ∧ ∃ a b r, st = b :: a :: r ∧ st1 = doneV t a b :: r) ∨ (20000 ≤ t ∧ t < 10000 + nm) := by
  unfold stepV at h
  by_cases z1 : t < 10000
  · rw [if_pos z1] at h; injection h with h; exact Or.inl ⟨z1, h.symm⟩
  · rw [if_neg z1] at h
    by_cases z2 : t < 20000
    · rw [if_pos z2] at h; injection h with h
      rcases ht with y | y | y
      · exact absurd y z1
      · exact Or.inr (Or.inl ⟨y.1, y.2, z2, h.symm⟩)
      · omega
    · rw [if_neg z2] at h
      by_cases z3 : t = 20010
      · rw [if_pos z3] at h
        cases st with
        | nil => cases h
        | cons a r => injection h with h; exact Or.inr (Or.inr (Or.inl ⟨z3, a, r, rfl, h.symm⟩))
      · rw [if_neg z3] at h
        rcases ht with y | y | y
        · exact absurd y z1
        · exact Or.inr (Or.inr (Or.inr (Or.inr ⟨by omega, y.2⟩)))
        · match st, h with
          | b :: a :: r, h => injection h with h; exact Or.inr (Or.inr (Or.inr (Or.inl ⟨y.1, by omega, a, b, r, rfl, h.symm⟩)))
theorem runV_cons {val : Nat → Int32} {t : Nat} {e : List Nat} {st st' : List Int32} (h : runV val (t :: e) st = some st') : ∃ st1, stepV val t st = some st1 ∧ runV val e st1 = some st' := by
  have h : (match stepV val t st with | none => none | some st' => runV val e st') = some st' := h
  cases hs : stepV val t st with
  | none => rw [hs] at h; cases h
  | some st1 => rw [hs] at h; exact ⟨st1, rfl, h⟩
theorem evC {val : Nat → Int32} {nm len : Nat} (hn : nm ≤ 10) (hl : len ≤ 50) {M0 : IM} (h6 : M0 45 6 = nI len) (hv : ∀ i, i < nm → M0 49 i = val i) : ∀ (e : List Nat) (k : Nat) (st st' : List Int32) (M : IM) (f : Nat), (∀ t, t ∈ e → tokO nm t) → runV val e st = some st' → st.length ≤ k → k + e.length = len → e.length < f → (∀ j, j < e.length → M0 47 (k + j) = nI (tC (e.getD j 0))) → STK 48 st M → (∀ a b, a ≠ 48 → M a b = M0 a b) → ∃ x y M', loopN B_77_4 f (nI st.length, nI k, M) = some (x, y, M') ∧ STK 48 st' M' ∧ ∀ a b, a ≠ 48 → M' a b = M0 a b
  | [], k, st, st', M, f, _, hr, h1, h2, h3, _, hs, fr => by
    have hr : some st = some st' := hr
    injection hr with hr
    have h2 : k + 0 = len := h2
    refine ⟨nI st.length, nI k, M, loopN_out (by omega) ?_, hr ▸ hs, fr⟩
    show (if M 45 6 ≤ nI k then _ else _) = _
    rw [fr 45 6 (by decide), h6, ie_le (by omega) (by omega), if_pos (by omega)]
  | t :: e, k, st, st', M, f, ht, hr, h1, h2, h3, hc, hs, fr => by
    have h2 : k + (e.length + 1) = len := h2
    have h3 : e.length + 1 < f := h3
    obtain ⟨st1, s1, s2⟩ := runV_cons hr
    have htok := ht t (List.mem_cons_self ..)
    have c0 : M 47 k = nI (tC t) := by rw [fr 47 k (by decide)]; exact hc 0 (Nat.succ_pos _)
    have body : ∃ M1, B_77_4 (nI st.length, nI k, M) = some (.inl (nI st1.length, nI (k + 1), M1)) ∧ STK 48 st1 M1 ∧ st1.length ≤ k + 1 ∧ ∀ a b, a ≠ 48 → M1 a b = M0 a b := by
      show ∃ M1, (if M 45 6 ≤ nI k then _ else (if inb (nI k) 50 = true then _ else _)) = _ ∧ _
      rw [fr 45 6 (by decide), h6, ie_le (by omega) (by omega), if_neg (by omega), ie_in (by omega), if_pos (by omega), ni_cl (by omega), c0]
      rcases stepV_in htok s1 with ⟨a1, a2⟩ | ⟨a1, a2, a3, a4⟩ | ⟨a1, a, r, a2, a3⟩ | ⟨a1, a2, a, b, r, a3, a4⟩ | ⟨a1, a2⟩
      · rw [tC_lt (by omega), lit_nI (n := 20000), lit_nI (n := 10000), ie_lt (by omega) (by omega), ie_lt (by omega) (by omega), if_pos (by omega), ni_ofNat, ie_le (by omega) (by omega), if_neg (by omega), if_pos a1]
        unfold J_77_75_4 J_77_79_4
        rw [ie_in (by omega), if_pos (by omega), ni_cl (by omega), ni_add1, ni_add1]
        subst a2
        refine ⟨_, rfl, ⟨iset_same _ _ _ _, hs.set (Nat.le_refl _)⟩, by show st.length + 1 ≤ k + 1; omega, fun a b hab => by rw [iset_k hab]; exact fr a b hab⟩
      · rw [tC_lt (by omega), lit_nI (n := 20000), lit_nI (n := 10000), ie_lt (by omega) (by omega), ie_lt (by omega) (by omega), if_pos (by omega), ni_ofNat, ie_le (by omega) (by omega), if_neg (by omega), if_neg (by omega), ni_sub (by omega), ie_in (by omega), if_pos (by omega), ni_cl (by omega), fr 49 _ (by decide), hv _ (by omega)]
        unfold J_77_75_4 J_77_79_4
        rw [ie_in (by omega), if_pos (by omega), ni_cl (by omega), ni_add1, ni_add1]
        subst a4
        refine ⟨_, rfl, ⟨iset_same _ _ _ _, hs.set (Nat.le_refl _)⟩, by show st.length + 1 ≤ k + 1; omega, fun a b hab => by rw [iset_k hab]; exact fr a b hab⟩
      · subst a1 a2 a3
        have h1 : r.length + 1 ≤ k := h1
        rw [show nI (tC 20010) = nI 20033 from rfl, if_neg (by decide), show nI 20033 - (20000 : Int32) = 33 from rfl]
        unfold F_78
        have hk : M 48 r.length = a := hs.1
        rw [if_pos rfl, show (a :: r).length = r.length + 1 from rfl, lit_nI (n := 1), ie_lt (by omega) (by omega), if_neg (by omega), ni_sub (by omega), show r.length + 1 - 1 = r.length by omega, ie_in (by omega), if_pos (by omega), ni_cl (by omega), hk]
        by_cases z : a = 0
        · rw [if_pos z, if_pos z]
          unfold J_78_34
          rw [ie_in (by omega), if_pos (by omega), ni_cl (by omega)]
          dsimp only
          unfold J_77_79_4
          rw [ni_add1]
          refine ⟨_, rfl, ⟨iset_same _ _ _ _, hs.2.set (Nat.le_refl _)⟩, by show r.length + 1 ≤ k + 1; omega, fun a b hab => by rw [iset_k hab]; exact fr a b hab⟩
        · rw [if_neg z, if_neg z]
          unfold J_78_34
          rw [ie_in (by omega), if_pos (by omega), ni_cl (by omega)]
          dsimp only
          unfold J_77_79_4
          rw [ni_add1]
          refine ⟨_, rfl, ⟨iset_same _ _ _ _, hs.2.set (Nat.le_refl _)⟩, by show r.length + 1 ≤ k + 1; omega, fun a b hab => by rw [iset_k hab]; exact fr a b hab⟩
      · subst a3 a4
        have h1 : r.length + 2 ≤ k := h1
        obtain ⟨g1, g2, g3⟩ := tC_ge a1 (by omega)
        have hkb : M 48 (r.length + 1) = b := hs.1
        have hka : M 48 r.length = a := hs.2.1
        have e79 := f79 a1 a2 a b
        rw [lit_nI (n := 20000), ie_lt (by omega) (by omega), if_neg (by omega)]
        rw [lit_nI (n := 20000)] at e79
        unfold F_78
        rw [if_neg (show ¬ nI (tC t) - nI 20000 = 33 by rw [ni_sub g1, lit_nI (n := 33), ni_eqi (by omega) (by omega)]; have := g3 (by omega); omega)]
        unfold J_78_40
        rw [show (b :: a :: r).length = r.length + 2 from rfl, lit_nI (n := 2), lit_nI (n := 1), ie_le (by omega) (by omega), if_pos (by omega), ni_sub (by omega), ni_sub (by omega), show r.length + 2 - 2 = r.length by omega, show r.length + 2 - 1 = r.length + 1 by omega, ie_in (by omega), if_pos (by omega), ie_in (by omega), if_pos (by omega), ni_cl (by omega), ni_cl (by omega), hka, hkb, e79]
        dsimp only
        rw [ie_in (by omega), if_pos (by omega)]
        dsimp only
        unfold J_77_79_4
        rw [ni_add1]
        refine ⟨_, rfl, ⟨iset_same _ _ _ _, hs.2.2.set (Nat.le_refl _)⟩, by show r.length + 1 ≤ k + 1; omega, fun a b hab => by rw [iset_k hab]; exact fr a b hab⟩
      · omega
    obtain ⟨M1, b1, b2, b3, b4⟩ := body
    obtain ⟨x, y, M', i1, i2, i3⟩ := evC hn hl h6 hv e (k + 1) st1 st' M1 (f - 1) (fun t' h' => ht t' (List.mem_cons_of_mem _ h')) s2 b3 (by omega) (by omega) (fun j hj => by
      have := hc (j + 1) (by show j + 1 < e.length + 1; omega)
      rw [show k + 1 + j = k + (j + 1) by omega]
      exact this) b2 b4
    exact ⟨x, y, M', by rw [loopN_go (by omega) b1]; exact i1, i2, i3⟩
theorem evR {val : Nat → Int32} {nm len : Nat} (hn : nm ≤ 10) (hl : len ≤ 50) {M0 : IM} (h6 : M0 77 14 = nI len) (hv : ∀ i, i < nm → ∀ M, (∀ a b, a ≠ 86 → M a b = M0 a b) → F_185 (nI i) M = some (val i)) : ∀ (e : List Nat) (k : Nat) (st st' : List Int32) (M : IM) (f : Nat), (∀ t, t ∈ e → tokO nm t) → runV val e st = some st' → st.length ≤ k → k + e.length = len → e.length < f → (∀ j, j < e.length → M0 85 (k + j) = nI (e.getD j 0)) → STK 86 st M → (∀ a b, a ≠ 86 → M a b = M0 a b) → ∃ x y M', loopN B_187_4 f (nI st.length, nI k, M) = some (x, y, M') ∧ STK 86 st' M' ∧ ∀ a b, a ≠ 86 → M' a b = M0 a b
  | [], k, st, st', M, f, _, hr, h1, h2, h3, _, hs, fr => by
    have hr : some st = some st' := hr
    injection hr with hr
    have h2 : k + 0 = len := h2
    refine ⟨nI st.length, nI k, M, loopN_out (by omega) ?_, hr ▸ hs, fr⟩
    show (if M 77 14 ≤ nI k then _ else _) = _
    rw [fr 77 14 (by decide), h6, ie_le (by omega) (by omega), if_pos (by omega)]
  | t :: e, k, st, st', M, f, ht, hr, h1, h2, h3, hc, hs, fr => by
    have h2 : k + (e.length + 1) = len := h2
    have h3 : e.length + 1 < f := h3
    obtain ⟨st1, s1, s2⟩ := runV_cons hr
    have htok := ht t (List.mem_cons_self ..)
    have c0 : M 85 k = nI t := by rw [fr 85 k (by decide)]; exact hc 0 (Nat.succ_pos _)
    have body : ∃ M1, B_187_4 (nI st.length, nI k, M) = some (.inl (nI st1.length, nI (k + 1), M1)) ∧ STK 86 st1 M1 ∧ st1.length ≤ k + 1 ∧ ∀ a b, a ≠ 86 → M1 a b = M0 a b := by
      show ∃ M1, (if M 77 14 ≤ nI k then _ else (if inb (nI k) 60 = true then _ else _)) = _ ∧ _
      rw [fr 77 14 (by decide), h6, ie_le (by omega) (by omega), if_neg (by omega), ie_in (by omega), if_pos (by omega), ni_cl (by omega), c0]
      rcases stepV_in htok s1 with ⟨a1, a2⟩ | ⟨a1, a2, a3, a4⟩ | ⟨a1, a, r, a2, a3⟩ | ⟨a1, a2, a, b, r, a3, a4⟩ | ⟨a1, a2⟩
      · rw [lit_nI (n := 20000), lit_nI (n := 10000), ie_le (by omega) (by omega), ie_le (by omega) (by omega), if_neg (by omega), if_neg (by omega)]
        unfold J_187_51_4 J_187_121_4
        rw [ie_in (by omega), if_pos (by omega), ni_cl (by omega), ni_add1, ni_add1]
        subst a2
        refine ⟨_, rfl, ⟨iset_same _ _ _ _, hs.set (Nat.le_refl _)⟩, by show st.length + 1 ≤ k + 1; omega, fun a b hab => by rw [iset_k hab]; exact fr a b hab⟩
      · rw [lit_nI (n := 20000), lit_nI (n := 10000), ie_le (by omega) (by omega), ie_le (by omega) (by omega), if_neg (by omega), if_pos (by omega), ni_sub (by omega), hv _ (by omega) M fr]
        dsimp only
        unfold J_187_51_4 J_187_121_4
        rw [ie_in (by omega), if_pos (by omega), ni_cl (by omega), ni_add1, ni_add1]
        subst a4
        refine ⟨_, rfl, ⟨iset_same _ _ _ _, hs.set (Nat.le_refl _)⟩, by show st.length + 1 ≤ k + 1; omega, fun a b hab => by rw [iset_k hab]; exact fr a b hab⟩
      · subst a1 a2 a3
        have h1 : r.length + 1 ≤ k := h1
        have hk : M 86 r.length = a := hs.1
        rw [if_pos (by decide), if_pos (by rfl), show (a :: r).length = r.length + 1 from rfl, lit_nI (n := 1), ni_sub (by omega), show r.length + 1 - 1 = r.length by omega, ie_in (by omega), if_pos (by omega), ni_cl (by omega), hk]
        by_cases z : a = 0
        · rw [if_pos z, if_pos z]
          unfold J_187_88_4 J_187_121_4
          rw [ie_in (by omega), if_pos (by omega), ni_cl (by omega), ni_add1]
          refine ⟨_, rfl, ⟨iset_same _ _ _ _, hs.2.set (Nat.le_refl _)⟩, by show r.length + 1 ≤ k + 1; omega, fun a b hab => by rw [iset_k hab]; exact fr a b hab⟩
        · rw [if_neg z, if_neg z]
          unfold J_187_88_4 J_187_121_4
          rw [ie_in (by omega), if_pos (by omega), ni_cl (by omega), ni_add1]
          refine ⟨_, rfl, ⟨iset_same _ _ _ _, hs.2.set (Nat.le_refl _)⟩, by show r.length + 1 ≤ k + 1; omega, fun a b hab => by rw [iset_k hab]; exact fr a b hab⟩
      · subst a3 a4
        have h1 : r.length + 2 ≤ k := h1
        have hkb : M 86 (r.length + 1) = b := hs.1
        have hka : M 86 r.length = a := hs.2.1
        have e1 : nI (b :: a :: r).length + (-1) = nI (r.length + 1) := by
          show nI (r.length + 2) + (-1) = _
          rw [show nI (r.length + 2) = nI (r.length + 1) + 1 from (ni_add1 _).symm, Int32.add_assoc, show (1 : Int32) + -1 = 0 by decide, Int32.add_zero]
        rw [e1, lit_nI (n := 20000), lit_nI (n := 20010), lit_nI (n := 1), ie_le (by omega) (by omega), ie_eq (by omega) (by omega), if_pos a1, if_neg (by omega), ni_sub (by omega), show r.length + 1 - 1 = r.length by omega, ie_in (by omega), ie_in (by omega), if_pos (by omega), if_pos (by omega), ni_cl (by omega), ni_cl (by omega), hka, hkb, f186 a1 a2]
        dsimp only
        rw [ie_in (by omega), if_pos (by omega)]
        unfold J_187_121_4
        rw [ni_add1]
        refine ⟨_, rfl, ⟨iset_same _ _ _ _, hs.2.2.set (Nat.le_refl _)⟩, by show r.length + 1 ≤ k + 1; omega, fun a b hab => by rw [iset_k hab]; exact fr a b hab⟩
      · omega
    obtain ⟨M1, b1, b2, b3, b4⟩ := body
    obtain ⟨x, y, M', i1, i2, i3⟩ := evR hn hl h6 hv e (k + 1) st1 st' M1 (f - 1) (fun t' h' => ht t' (List.mem_cons_of_mem _ h')) s2 b3 (by omega) (by omega) (fun j hj => by
      have := hc (j + 1) (by show j + 1 < e.length + 1; omega)
      rw [show k + 1 + j = k + (j + 1) by omega]
      exact this) b2 b4
    exact ⟨x, y, M', by rw [loopN_go (by omega) b1]; exact i1, i2, i3⟩
/-- is it so -/
def isV (val : Nat → Int32) (e : List Nat) : Bool := match runV val e [] with | some (v :: _) => !(decide (v = 0)) | _ => false
theorem f77 {val : Nat → Int32} {nm : Nat} {e : List Nat} {M : IM} (hn : nm ≤ 10) (hl : e.length ≤ 50) (he : EV nm e) (h6 : M 45 6 = nI e.length) (hc : ∀ j, j < e.length → M 47 j = nI (tC (e.getD j 0))) (hv : ∀ i, i < nm → M 49 i = val i) : ∃ v M', F_77 M = some (v, M') ∧ (v = 0 ↔ isV val e = false) ∧ ∀ a b, a ≠ 48 → M' a b = M a b := by
  obtain ⟨v, hrun⟩ := he.2 val
  obtain ⟨x, y, M', h1, h2, h3⟩ := evC hn hl h6 hv e 0 [] [v] M FU he.1 (hrun []) (Nat.le_refl _) (by omega) (by show e.length < 100000; omega) (fun j hj => by rw [Nat.zero_add]; exact hc j hj) trivial (fun _ _ _ => rfl)
  refine ⟨v, M', ?_, ?_, h3⟩
  · unfold F_77 L_77_4
    rw [show loopN B_77_4 FU (0, 0, M) = some (x, y, M') from h1]
    dsimp only
    unfold J_77_85
    rw [show M' 48 (0 : Int32).toNatClampNeg = v from h2.1]
  · unfold isV
    rw [hrun []]
    dsimp only
    by_cases z : v = 0
    · rw [decide_eq_true z]; exact ⟨fun _ => rfl, fun _ => z⟩
    · rw [decide_eq_false z]; exact ⟨fun y => absurd y z, fun y => absurd y (by decide)⟩
theorem f187 {val : Nat → Int32} {nm : Nat} {e : List Nat} {M : IM} (hn : nm ≤ 10) (hl : e.length ≤ 50) (he : EV nm e) (h6 : M 77 14 = nI e.length) (hc : ∀ j, j < e.length → M 85 j = nI (e.getD j 0)) (hv : ∀ i, i < nm → ∀ M1, (∀ a b, a ≠ 86 → M1 a b = M a b) → F_185 (nI i) M1 = some (val i)) : ∃ M', F_187 M = some (if isV val e = true then 1 else 0, M') ∧ ∀ a b, a ≠ 86 → M' a b = M a b := by
  obtain ⟨v, hrun⟩ := he.2 val
  obtain ⟨x, y, M', h1, h2, h3⟩ := evR hn hl h6 hv e 0 [] [v] M FU he.1 (hrun []) (Nat.le_refl _) (by omega) (by show e.length < 100000; omega) (fun j hj => by rw [Nat.zero_add]; exact hc j hj) trivial (fun _ _ _ => rfl)
  refine ⟨M', ?_, h3⟩
  unfold F_187 L_187_4
  rw [show loopN B_187_4 FU (0, 0, M) = some (x, y, M') from h1]
  dsimp only
  have hz : isV val e = !(decide (v = 0)) := by unfold isV; rw [hrun []]
  unfold J_187_127
  rw [show M' 86 (0 : Int32).toNatClampNeg = v from h2.1]
  by_cases z : v = 0
  · rw [if_pos z, if_neg (by rw [hz, decide_eq_true z]; decide)]
  · rw [if_neg z, if_pos (by rw [hz, decide_eq_false z]; rfl)]
