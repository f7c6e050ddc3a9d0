/-! voices -/
def vWb (k a : Nat) : Nat := [0, 0, 0, 0, 0, 1, 0, 0, 2, 1, 0, 2, 0, 1, 3, 0, 0, 4, 0, 4, 5, 0, 5, 0].getD (4 * k + a) 0
def vBd (k a : Nat) : Nat := [10, 11, 12, 13, 0, 20, 0, 0, 30, 0, 0, 31, 0, 0, 40, 0, 0, 51, 0, 50, 60, 0, 61, 0].getD (4 * k + a) 0
def vAb (k : Nat) : Nat := [0, 0, 1, 1, 1, 0].getD k 0
def vs (own : Nat) (n p : Int32) : Nat → Nat → Nat → Int32 → Option (Int32 × List Int32)
  | 0, _, _, _ => none
  | f + 1, k, a, x =>
    if vBd (vWb k a) a = 10 then some (x + n, [10])
    else if vBd (vWb k a) a = 11 then (match vs own n p f own 0 x with | none => none | some (v, t) => some (v * 2, 11 :: t))
    else if vBd (vWb k a) a = 12 then some (x - p, [12])
    else if vBd (vWb k a) a = 13 then (match vs own n p f own 1 x with | none => none | some (v, t) => (match vs own n p f own 2 x with | none => none | some (v2, t2) => some (v ^^^ v2, 13 :: (t ++ t2))))
    else if vBd (vWb k a) a = 20 then (match vs own n p f 0 1 x with | none => none | some (v, t) => (match vs own n p f own 2 x with | none => none | some (v2, t2) => some (v + v2, 20 :: (t ++ t2))))
    else if vBd (vWb k a) a = 30 then (match vs own n p f 1 0 x with | none => none | some (v, t) => some (v - 1, 30 :: t))
    else if vBd (vWb k a) a = 31 then (match vs own n p f 1 3 (x + 1) with | none => none | some (v, t) => some (v, 31 :: t))
    else if vBd (vWb k a) a = 40 then (match vs own n p f 1 2 x with | none => none | some (v, t) => some (-v, 40 :: t))
    else if vBd (vWb k a) a = 50 then (match vs own n p f own 2 x with | none => none | some (v, t) => (match vs own n p f 1 3 x with | none => none | some (v2, t2) => some (v - v2, 50 :: (t ++ t2))))
    else if vBd (vWb k a) a = 51 then (match vs own n p f 1 1 (x - p) with | none => none | some (v, t) => some (v, 51 :: t))
    else if vBd (vWb k a) a = 60 then (match vs own n p f 0 0 x with | none => none | some (v, t) => some (v ^^^ 5, 60 :: t))
    else (match vs own n p f 0 2 x with | none => none | some (v, t) => (match vs own n p f own 0 1 with | none => none | some (v2, t2) => some (v * v2, 61 :: (t ++ t2))))
/-- what a trace adds to a row r whose length stands in (c, s) -/
def TA (r c s : Nat) (M : IM) (m : Nat) (t : List Int32) : IM := iset (wr M r m (m + t.length) (fun j => t.getD (j - m) 0)) c s (nI (m + t.length))
theorem TA_cs {r c s m : Nat} {M : IM} {t : List Int32} : TA r c s M m t c s = nI (m + t.length) := iset_same _ _ _ _
theorem TA_o {r c s m k j : Nat} {M : IM} {t : List Int32} (h1 : ¬ (k = c ∧ j = s)) (h2 : k ≠ r) : TA r c s M m t k j = M k j := by
  unfold TA; rw [iset_eq, if_neg h1, wr_k h2]
theorem TA_r {r c s m j : Nat} {M : IM} {t : List Int32} (h : r ≠ c) (h1 : m ≤ j) (h2 : j < m + t.length) : TA r c s M m t r j = t.getD (j - m) 0 := by
  unfold TA; rw [iset_k h, wr_in h1 h2]
theorem TA_app {r c s m : Nat} {M : IM} {t t2 : List Int32} (h : r ≠ c) : TA r c s (TA r c s M m t) (m + t.length) t2 = TA r c s M m (t ++ t2) := by
  unfold TA
  funext a j
  rw [List.length_append]
  simp only [iset_eq, wr_eq]
  by_cases e1 : a = c ∧ j = s
  · rw [if_pos e1, if_pos e1, Nat.add_assoc]
  · rw [if_neg e1, if_neg e1, if_neg e1]
    by_cases e2 : a = r
    · subst e2
      by_cases g1 : m + t.length ≤ j ∧ j < m + t.length + t2.length
      · rw [if_pos ⟨rfl, g1⟩, if_pos ⟨rfl, by omega, by omega⟩, List.getD_eq_getElem?_getD, List.getD_eq_getElem?_getD, List.getElem?_append_right (by omega)]
        congr 2
        omega
      · rw [if_neg (fun z => g1 z.2)]
        by_cases g2 : m ≤ j ∧ j < m + t.length
        · rw [if_pos ⟨rfl, g2⟩, if_pos ⟨rfl, by omega, by omega⟩, List.getD_eq_getElem?_getD, List.getD_eq_getElem?_getD, List.getElem?_append_left (by omega)]
        · rw [if_neg (fun z => g2 z.2), if_neg (fun z => by omega)]
    · rw [if_neg (fun z => e2 z.1), if_neg (fun z => e2 z.1), if_neg (fun z => e2 z.1)]
theorem note_c {M : IM} {m : Nat} {b : Int32} (hm : m < 40) (h : M 65 1 = nI m) : F_91 b M = some (TA 66 65 1 M m [b]) := by
  unfold F_91 TA
  rw [h]
  simp (disch := omega) only [lit_nI, ni_lei, inb_nI, ni_cl, if_pos, if_neg, if_true, if_false, iset_same, iset_k, iset_j, h, ni_add]
  have : iset M 66 m b = wr M 66 m (m + [b].length) (fun j => [b].getD (j - m) 0) := by
    rw [show m + [b].length = m + 1 from rfl, ← wr_s (x := b) (Nat.le_refl m) (by rw [Nat.sub_self]; rfl), wr_0]
  rw [this]
  rfl
theorem note_r {M : IM} {m : Nat} {b : Int32} (hm : m < 40) (h : M 77 27 = nI m) : F_235 b M = some (TA 93 77 27 M m [b]) := by
  unfold F_235 TA
  rw [h]
  simp (disch := omega) only [lit_nI, ni_lei, inb_nI, ni_cl, if_pos, if_neg, if_true, if_false, iset_same, iset_k, iset_j, h, ni_add]
  have : iset M 93 m b = wr M 93 m (m + [b].length) (fun j => [b].getD (j - m) 0) := by
    rw [show m + [b].length = m + 1 from rfl, ← wr_s (x := b) (Nat.le_refl m) (by rw [Nat.sub_self]; rfl), wr_0]
  rw [this]
  rfl
theorem v_90 : ∀ k, k < 6 → ∀ a, a < 4 → F_90 (nI k) (nI a) = some (nI (vWb k a)) ∧ vWb k a < 6 ∧ inb (nI (vWb k a)) 6 = true ∧ inb (4 * nI (vWb k a) + nI a) 24 = true ∧ sT 6 (4 * nI (vWb k a) + nI a).toNatClampNeg = nI (vBd (vWb k a) a) := by decide +kernel
def vC (i : Nat) : Nat := [10, 11, 12, 13, 20, 30, 31, 40, 50, 51, 60, 61].getD i 0
def vS (i : Nat) : Nat := [0, 1, 2, 3, 5, 8, 11, 14, 19, 17, 20, 22].getD i 0
def vA (i : Nat) : Nat := [0, 0, 0, 0, 0, 1, 1, 1, 1, 1, 0, 0].getD i 0
theorem v_cas0 : ∀ k, k < 6 → ∀ a, a < 4 → (List.range 12).any (fun i => decide (vBd (vWb k a) a = vC i) && decide (4 * nI (vWb k a) + nI a = nI (vS i)) && decide (sT 4 (nI (vWb k a)).toNatClampNeg = nI (vA i))) = true := by decide +kernel
theorem v_cas (k : Nat) (hk : k < 6) (a : Nat) (ha : a < 4) : ∃ i, i < 12 ∧ vBd (vWb k a) a = vC i ∧ 4 * nI (vWb k a) + nI a = nI (vS i) ∧ sT 4 (nI (vWb k a)).toNatClampNeg = nI (vA i) := by
  obtain ⟨i, h1, h2⟩ := List.any_eq_true.mp (v_cas0 k hk a ha)
  simp only [Bool.and_eq_true, decide_eq_true_eq] at h2
  exact ⟨i, List.mem_range.mp h1, h2.1.1, h2.1.2, h2.2⟩
theorem v_12 {i : Nat} (h : i < 12) : i = 0 ∨ i = 1 ∨ i = 2 ∨ i = 3 ∨ i = 4 ∨ i = 5 ∨ i = 6 ∨ i = 7 ∨ i = 8 ∨ i = 9 ∨ i = 10 ∨ i = 11 := by omega
theorem v_238 : ∀ k, k < 6 → ∀ a, a < 4 → L_238_3 (fun _ _ _ _ => none) (nI a) 0 (fun _ _ => 0) (nI k) = some (nI (vWb k a)) := by decide +kernel

section VOICE
variable {own : Nat} {n p : Int32}

theorem voice_c (ho : own < 6) : ∀ (f k a : Nat) (x : Int32) (m d g : Nat) (M : IM) (v : Int32) (t : List Int32), k < 6 → a < 4 → vs own n p f k a x = some (v, t) → M 65 2 = n → M 65 3 = p → M 65 4 = nI own → M 65 1 = nI m → m + t.length ≤ 40 → d + f ≤ 40 → f ≤ g → KK_89 g (nI k) (nI a) x (nI d) M = some (v, TA 66 65 1 M m t) := by
  intro f
  induction f with
  | zero => intro k a x m d g M v t _ _ h; cases h
  | succ f ih =>
    intro k a x m d g M v t hk ha h h2 h3 h4 h1 hm hd hg
    obtain ⟨g, rfl⟩ : ∃ e, g = e + 1 := ⟨g - 1, by omega⟩
    obtain ⟨q1, q2, q3, q4, q5⟩ := v_90 k hk a ha
    have hd40 : nI d < 40 := nI_lt (b := 40) (by omega) (by decide)
    have hd1 : nI d + 1 = nI (d + 1) := ni_add1 d
    show F_89 (KK_89 g) (nI k) (nI a) x (nI d) M = _
    have hS : ∀ b : Int32, m < 40 → ∀ j, ¬ j = 1 → TA 66 65 1 M m [b] 65 j = M 65 j := fun b _ j hj => TA_o (by omega) (by decide)
    unfold vs at h
    obtain ⟨i, hi, hb, hc, hab⟩ := v_cas k hk a ha
    rcases v_12 hi with rfl | rfl | rfl | rfl | rfl | rfl | rfl | rfl | rfl | rfl | rfl | rfl
    · have hb : vBd (vWb k a) a = 10 := hb
      rw [hb] at h q5
      have q5 : sT 6 (4 * nI (vWb k a) + nI a).toNatClampNeg = 10 := q5
      simp only [if_false, if_true] at h
      obtain ⟨rfl, rfl⟩ := Prod.mk.inj (Option.some.inj h)
      have hm' : m < 40 := by simp only [List.length_cons, List.length_nil] at hm; omega
      simp only [F_89, hd40, if_true, q1, q3, q4, q5, note_c hm' h1, if_false]
      rw [hS _ hm' 2 (by decide), h2]
    · have hb : vBd (vWb k a) a = 11 := hb
      rw [hb] at h q5
      have q5 : sT 6 (4 * nI (vWb k a) + nI a).toNatClampNeg = 11 := q5
      simp only [show ¬ (11 = 10) by decide, if_false, if_true] at h
      cases hr : vs own n p f own 0 x with
      | none => rw [hr] at h; cases h
      | some q =>
      obtain ⟨v1, t1⟩ := q
      rw [hr] at h
      obtain ⟨rfl, rfl⟩ := Prod.mk.inj (Option.some.inj h)
      rw [List.length_cons] at hm
      have hm' : m < 40 := by omega
      have i1 := ih own 0 x (m + 1) (d + 1) g (TA 66 65 1 M m [11]) v1 t1 ho (by decide) hr ((hS _ hm' 2 (by decide)).trans h2) ((hS _ hm' 3 (by decide)).trans h3) ((hS _ hm' 4 (by decide)).trans h4) TA_cs (by omega) (by omega) (by omega)
      rw [show TA 66 65 1 (TA 66 65 1 M m [11]) (m + 1) t1 = TA 66 65 1 M m (11 :: t1) from TA_app (t := [11]) (by decide)] at i1
      simp only [F_89, hd40, if_true, q1, q3, q4, q5, note_c hm' h1, show ¬ ((11 : Int32) = 10) by decide, if_false, hd1]
      rw [hS _ hm' 4 (by decide), h4]
      rw [show KK_89 g (nI own) 0 x (nI (d + 1)) (TA 66 65 1 M m [11]) = _ from i1]
    · have hb : vBd (vWb k a) a = 12 := hb
      rw [hb] at h q5
      have q5 : sT 6 (4 * nI (vWb k a) + nI a).toNatClampNeg = 12 := q5
      simp only [show ¬ (12 = 10) by decide, show ¬ (12 = 11) by decide, if_false, if_true] at h
      obtain ⟨rfl, rfl⟩ := Prod.mk.inj (Option.some.inj h)
      have hm' : m < 40 := by simp only [List.length_cons, List.length_nil] at hm; omega
      simp only [F_89, hd40, if_true, q1, q3, q4, q5, note_c hm' h1, show ¬ ((12 : Int32) = 10) by decide, show ¬ ((12 : Int32) = 11) by decide, if_false]
      rw [hS _ hm' 3 (by decide), h3]
    · have hb : vBd (vWb k a) a = 13 := hb
      rw [hb] at h q5
      have q5 : sT 6 (4 * nI (vWb k a) + nI a).toNatClampNeg = 13 := q5
      simp only [show ¬ (13 = 10) by decide, show ¬ (13 = 11) by decide, show ¬ (13 = 12) by decide, if_false, if_true] at h
      cases hr : vs own n p f own 1 x with
      | none => rw [hr] at h; cases h
      | some q =>
      obtain ⟨v1, t1⟩ := q
      rw [hr] at h
      dsimp only at h
      cases hr2 : vs own n p f own 2 x with
      | none => rw [hr2] at h; cases h
      | some q =>
      obtain ⟨v2, t2⟩ := q
      rw [hr2] at h
      obtain ⟨rfl, rfl⟩ := Prod.mk.inj (Option.some.inj h)
      rw [List.length_cons, List.length_append] at hm
      have hm' : m < 40 := by omega
      have hT : ∀ j, ¬ j = 1 → TA 66 65 1 M m (13 :: t1) 65 j = M 65 j := fun j hj => TA_o (by omega) (by decide)
      have i1 := ih own 1 x (m + 1) (d + 1) g (TA 66 65 1 M m [13]) v1 t1 ho (by decide) hr ((hS _ hm' 2 (by decide)).trans h2) ((hS _ hm' 3 (by decide)).trans h3) ((hS _ hm' 4 (by decide)).trans h4) TA_cs (by omega) (by omega) (by omega)
      rw [show TA 66 65 1 (TA 66 65 1 M m [13]) (m + 1) t1 = TA 66 65 1 M m (13 :: t1) from TA_app (t := [13]) (by decide)] at i1
      have i2 := ih own 2 x (m + (13 :: t1).length) (d + 1) g (TA 66 65 1 M m (13 :: t1)) v2 t2 ho (by decide) hr2 ((hT 2 (by decide)).trans h2) ((hT 3 (by decide)).trans h3) ((hT 4 (by decide)).trans h4) TA_cs (by rw [List.length_cons]; omega) (by omega) (by omega)
      rw [TA_app (by decide)] at i2
      simp only [F_89, hd40, if_true, q1, q3, q4, q5, note_c hm' h1, show ¬ ((13 : Int32) = 10) by decide, show ¬ ((13 : Int32) = 11) by decide, show ¬ ((13 : Int32) = 12) by decide, if_false, hd1]
      rw [hS _ hm' 4 (by decide), h4, show KK_89 g (nI own) 1 x (nI (d + 1)) (TA 66 65 1 M m [13]) = _ from i1]
      dsimp only
      rw [show (TA 66 65 1 M m (13 :: t1)) 65 4 = nI own from (hT 4 (by decide)).trans h4, show KK_89 g (nI own) 2 x (nI (d + 1)) (TA 66 65 1 M m (13 :: t1)) = _ from i2]
      rfl
    · have hb : vBd (vWb k a) a = 20 := hb
      rw [hb] at h q5
      have q5 : sT 6 (4 * nI (vWb k a) + nI a).toNatClampNeg = 20 := q5
      simp only [show ¬ (20 = 10) by decide, show ¬ (20 = 11) by decide, show ¬ (20 = 12) by decide, show ¬ (20 = 13) by decide, if_false, if_true] at h
      cases hr : vs own n p f 0 1 x with
      | none => rw [hr] at h; cases h
      | some q =>
      obtain ⟨v1, t1⟩ := q
      rw [hr] at h
      dsimp only at h
      cases hr2 : vs own n p f own 2 x with
      | none => rw [hr2] at h; cases h
      | some q =>
      obtain ⟨v2, t2⟩ := q
      rw [hr2] at h
      obtain ⟨rfl, rfl⟩ := Prod.mk.inj (Option.some.inj h)
      rw [List.length_cons, List.length_append] at hm
      have hm' : m < 40 := by omega
      have hT : ∀ j, ¬ j = 1 → TA 66 65 1 M m (20 :: t1) 65 j = M 65 j := fun j hj => TA_o (by omega) (by decide)
      have i1 := ih 0 1 x (m + 1) (d + 1) g (TA 66 65 1 M m [20]) v1 t1 (by decide) (by decide) hr ((hS _ hm' 2 (by decide)).trans h2) ((hS _ hm' 3 (by decide)).trans h3) ((hS _ hm' 4 (by decide)).trans h4) TA_cs (by omega) (by omega) (by omega)
      rw [show TA 66 65 1 (TA 66 65 1 M m [20]) (m + 1) t1 = TA 66 65 1 M m (20 :: t1) from TA_app (t := [20]) (by decide)] at i1
      have i2 := ih own 2 x (m + (20 :: t1).length) (d + 1) g (TA 66 65 1 M m (20 :: t1)) v2 t2 ho (by decide) hr2 ((hT 2 (by decide)).trans h2) ((hT 3 (by decide)).trans h3) ((hT 4 (by decide)).trans h4) TA_cs (by rw [List.length_cons]; omega) (by omega) (by omega)
      rw [TA_app (by decide)] at i2
      simp only [F_89, hd40, if_true, q1, q3, q4, q5, note_c hm' h1, show ¬ ((20 : Int32) = 10) by decide, show ¬ ((20 : Int32) = 11) by decide, show ¬ ((20 : Int32) = 12) by decide, show ¬ ((20 : Int32) = 13) by decide, if_false, hd1]
      rw [show sT 4 (nI (vWb k a)).toNatClampNeg = nI 0 from hab, show KK_89 g (nI 0) 1 x (nI (d + 1)) (TA 66 65 1 M m [20]) = _ from i1]
      dsimp only
      rw [show (TA 66 65 1 M m (20 :: t1)) 65 4 = nI own from (hT 4 (by decide)).trans h4, show KK_89 g (nI own) 2 x (nI (d + 1)) (TA 66 65 1 M m (20 :: t1)) = _ from i2]
      rfl
    · have hb : vBd (vWb k a) a = 30 := hb
      rw [hb] at h q5
      have q5 : sT 6 (4 * nI (vWb k a) + nI a).toNatClampNeg = 30 := q5
      simp only [show ¬ (30 = 10) by decide, show ¬ (30 = 11) by decide, show ¬ (30 = 12) by decide, show ¬ (30 = 13) by decide, show ¬ (30 = 20) by decide, if_false, if_true] at h
      cases hr : vs own n p f 1 0 x with
      | none => rw [hr] at h; cases h
      | some q =>
      obtain ⟨v1, t1⟩ := q
      rw [hr] at h
      obtain ⟨rfl, rfl⟩ := Prod.mk.inj (Option.some.inj h)
      rw [List.length_cons] at hm
      have hm' : m < 40 := by omega
      have i1 := ih 1 0 x (m + 1) (d + 1) g (TA 66 65 1 M m [30]) v1 t1 (by decide) (by decide) hr ((hS _ hm' 2 (by decide)).trans h2) ((hS _ hm' 3 (by decide)).trans h3) ((hS _ hm' 4 (by decide)).trans h4) TA_cs (by omega) (by omega) (by omega)
      rw [show TA 66 65 1 (TA 66 65 1 M m [30]) (m + 1) t1 = TA 66 65 1 M m (30 :: t1) from TA_app (t := [30]) (by decide)] at i1
      simp only [F_89, hd40, if_true, q1, q3, q4, q5, note_c hm' h1, show ¬ ((30 : Int32) = 10) by decide, show ¬ ((30 : Int32) = 11) by decide, show ¬ ((30 : Int32) = 12) by decide, show ¬ ((30 : Int32) = 13) by decide, show ¬ ((30 : Int32) = 20) by decide, if_false, hd1]
      rw [show sT 4 (nI (vWb k a)).toNatClampNeg = nI 1 from hab]
      rw [show KK_89 g (nI 1) 0 x (nI (d + 1)) (TA 66 65 1 M m [30]) = _ from i1]
    · have hb : vBd (vWb k a) a = 31 := hb
      rw [hb] at h q5
      have q5 : sT 6 (4 * nI (vWb k a) + nI a).toNatClampNeg = 31 := q5
      simp only [show ¬ (31 = 10) by decide, show ¬ (31 = 11) by decide, show ¬ (31 = 12) by decide, show ¬ (31 = 13) by decide, show ¬ (31 = 20) by decide, show ¬ (31 = 30) by decide, if_false, if_true] at h
      cases hr : vs own n p f 1 3 (x + 1) with
      | none => rw [hr] at h; cases h
      | some q =>
      obtain ⟨v1, t1⟩ := q
      rw [hr] at h
      obtain ⟨rfl, rfl⟩ := Prod.mk.inj (Option.some.inj h)
      rw [List.length_cons] at hm
      have hm' : m < 40 := by omega
      have i1 := ih 1 3 (x + 1) (m + 1) (d + 1) g (TA 66 65 1 M m [31]) v1 t1 (by decide) (by decide) hr ((hS _ hm' 2 (by decide)).trans h2) ((hS _ hm' 3 (by decide)).trans h3) ((hS _ hm' 4 (by decide)).trans h4) TA_cs (by omega) (by omega) (by omega)
      rw [show TA 66 65 1 (TA 66 65 1 M m [31]) (m + 1) t1 = TA 66 65 1 M m (31 :: t1) from TA_app (t := [31]) (by decide)] at i1
      simp only [F_89, hd40, if_true, q1, q3, q4, q5, note_c hm' h1, show ¬ ((31 : Int32) = 10) by decide, show ¬ ((31 : Int32) = 11) by decide, show ¬ ((31 : Int32) = 12) by decide, show ¬ ((31 : Int32) = 13) by decide, show ¬ ((31 : Int32) = 20) by decide, show ¬ ((31 : Int32) = 30) by decide, if_false, hd1]
      rw [show sT 4 (nI (vWb k a)).toNatClampNeg = nI 1 from hab]
      rw [show KK_89 g (nI 1) 3 (x + 1) (nI (d + 1)) (TA 66 65 1 M m [31]) = _ from i1]
    · have hb : vBd (vWb k a) a = 40 := hb
      rw [hb] at h q5
      have q5 : sT 6 (4 * nI (vWb k a) + nI a).toNatClampNeg = 40 := q5
      simp only [show ¬ (40 = 10) by decide, show ¬ (40 = 11) by decide, show ¬ (40 = 12) by decide, show ¬ (40 = 13) by decide, show ¬ (40 = 20) by decide, show ¬ (40 = 30) by decide, show ¬ (40 = 31) by decide, if_false, if_true] at h
      cases hr : vs own n p f 1 2 x with
      | none => rw [hr] at h; cases h
      | some q =>
      obtain ⟨v1, t1⟩ := q
      rw [hr] at h
      obtain ⟨rfl, rfl⟩ := Prod.mk.inj (Option.some.inj h)
      rw [List.length_cons] at hm
      have hm' : m < 40 := by omega
      have i1 := ih 1 2 x (m + 1) (d + 1) g (TA 66 65 1 M m [40]) v1 t1 (by decide) (by decide) hr ((hS _ hm' 2 (by decide)).trans h2) ((hS _ hm' 3 (by decide)).trans h3) ((hS _ hm' 4 (by decide)).trans h4) TA_cs (by omega) (by omega) (by omega)
      rw [show TA 66 65 1 (TA 66 65 1 M m [40]) (m + 1) t1 = TA 66 65 1 M m (40 :: t1) from TA_app (t := [40]) (by decide)] at i1
      simp only [F_89, hd40, if_true, q1, q3, q4, q5, note_c hm' h1, show ¬ ((40 : Int32) = 10) by decide, show ¬ ((40 : Int32) = 11) by decide, show ¬ ((40 : Int32) = 12) by decide, show ¬ ((40 : Int32) = 13) by decide, show ¬ ((40 : Int32) = 20) by decide, show ¬ ((40 : Int32) = 30) by decide, show ¬ ((40 : Int32) = 31) by decide, if_false, hd1]
      rw [show sT 4 (nI (vWb k a)).toNatClampNeg = nI 1 from hab]
      rw [show KK_89 g (nI 1) 2 x (nI (d + 1)) (TA 66 65 1 M m [40]) = _ from i1]
    · have hb : vBd (vWb k a) a = 50 := hb
      rw [hb] at h q5
      have q5 : sT 6 (4 * nI (vWb k a) + nI a).toNatClampNeg = 50 := q5
      simp only [show ¬ (50 = 10) by decide, show ¬ (50 = 11) by decide, show ¬ (50 = 12) by decide, show ¬ (50 = 13) by decide, show ¬ (50 = 20) by decide, show ¬ (50 = 30) by decide, show ¬ (50 = 31) by decide, show ¬ (50 = 40) by decide, if_false, if_true] at h
      cases hr : vs own n p f own 2 x with
      | none => rw [hr] at h; cases h
      | some q =>
      obtain ⟨v1, t1⟩ := q
      rw [hr] at h
      dsimp only at h
      cases hr2 : vs own n p f 1 3 x with
      | none => rw [hr2] at h; cases h
      | some q =>
      obtain ⟨v2, t2⟩ := q
      rw [hr2] at h
      obtain ⟨rfl, rfl⟩ := Prod.mk.inj (Option.some.inj h)
      rw [List.length_cons, List.length_append] at hm
      have hm' : m < 40 := by omega
      have hT : ∀ j, ¬ j = 1 → TA 66 65 1 M m (50 :: t1) 65 j = M 65 j := fun j hj => TA_o (by omega) (by decide)
      have i1 := ih own 2 x (m + 1) (d + 1) g (TA 66 65 1 M m [50]) v1 t1 ho (by decide) hr ((hS _ hm' 2 (by decide)).trans h2) ((hS _ hm' 3 (by decide)).trans h3) ((hS _ hm' 4 (by decide)).trans h4) TA_cs (by omega) (by omega) (by omega)
      rw [show TA 66 65 1 (TA 66 65 1 M m [50]) (m + 1) t1 = TA 66 65 1 M m (50 :: t1) from TA_app (t := [50]) (by decide)] at i1
      have i2 := ih 1 3 x (m + (50 :: t1).length) (d + 1) g (TA 66 65 1 M m (50 :: t1)) v2 t2 (by decide) (by decide) hr2 ((hT 2 (by decide)).trans h2) ((hT 3 (by decide)).trans h3) ((hT 4 (by decide)).trans h4) TA_cs (by rw [List.length_cons]; omega) (by omega) (by omega)
      rw [TA_app (by decide)] at i2
      simp only [F_89, hd40, if_true, q1, q3, q4, q5, note_c hm' h1, show ¬ ((50 : Int32) = 10) by decide, show ¬ ((50 : Int32) = 11) by decide, show ¬ ((50 : Int32) = 12) by decide, show ¬ ((50 : Int32) = 13) by decide, show ¬ ((50 : Int32) = 20) by decide, show ¬ ((50 : Int32) = 30) by decide, show ¬ ((50 : Int32) = 31) by decide, show ¬ ((50 : Int32) = 40) by decide, if_false, hd1]
      rw [hS _ hm' 4 (by decide), h4, show KK_89 g (nI own) 2 x (nI (d + 1)) (TA 66 65 1 M m [50]) = _ from i1]
      dsimp only
      rw [show sT 4 (nI (vWb k a)).toNatClampNeg = nI 1 from hab, show KK_89 g (nI 1) 3 x (nI (d + 1)) (TA 66 65 1 M m (50 :: t1)) = _ from i2]
      rfl
    · have hb : vBd (vWb k a) a = 51 := hb
      rw [hb] at h q5
      have q5 : sT 6 (4 * nI (vWb k a) + nI a).toNatClampNeg = 51 := q5
      simp only [show ¬ (51 = 10) by decide, show ¬ (51 = 11) by decide, show ¬ (51 = 12) by decide, show ¬ (51 = 13) by decide, show ¬ (51 = 20) by decide, show ¬ (51 = 30) by decide, show ¬ (51 = 31) by decide, show ¬ (51 = 40) by decide, show ¬ (51 = 50) by decide, if_false, if_true] at h
      cases hr : vs own n p f 1 1 (x - p) with
      | none => rw [hr] at h; cases h
      | some q =>
      obtain ⟨v1, t1⟩ := q
      rw [hr] at h
      obtain ⟨rfl, rfl⟩ := Prod.mk.inj (Option.some.inj h)
      rw [List.length_cons] at hm
      have hm' : m < 40 := by omega
      have i1 := ih 1 1 (x - p) (m + 1) (d + 1) g (TA 66 65 1 M m [51]) v1 t1 (by decide) (by decide) hr ((hS _ hm' 2 (by decide)).trans h2) ((hS _ hm' 3 (by decide)).trans h3) ((hS _ hm' 4 (by decide)).trans h4) TA_cs (by omega) (by omega) (by omega)
      rw [show TA 66 65 1 (TA 66 65 1 M m [51]) (m + 1) t1 = TA 66 65 1 M m (51 :: t1) from TA_app (t := [51]) (by decide)] at i1
      simp only [F_89, hd40, if_true, q1, q3, q4, q5, note_c hm' h1, show ¬ ((51 : Int32) = 10) by decide, show ¬ ((51 : Int32) = 11) by decide, show ¬ ((51 : Int32) = 12) by decide, show ¬ ((51 : Int32) = 13) by decide, show ¬ ((51 : Int32) = 20) by decide, show ¬ ((51 : Int32) = 30) by decide, show ¬ ((51 : Int32) = 31) by decide, show ¬ ((51 : Int32) = 40) by decide, show ¬ ((51 : Int32) = 50) by decide, if_false, hd1]
      rw [show sT 4 (nI (vWb k a)).toNatClampNeg = nI 1 from hab]
      rw [hS _ hm' 3 (by decide), h3]
      rw [show KK_89 g (nI 1) 1 (x - p) (nI (d + 1)) (TA 66 65 1 M m [51]) = _ from i1]
    · have hb : vBd (vWb k a) a = 60 := hb
      rw [hb] at h q5
      have q5 : sT 6 (4 * nI (vWb k a) + nI a).toNatClampNeg = 60 := q5
      simp only [show ¬ (60 = 10) by decide, show ¬ (60 = 11) by decide, show ¬ (60 = 12) by decide, show ¬ (60 = 13) by decide, show ¬ (60 = 20) by decide, show ¬ (60 = 30) by decide, show ¬ (60 = 31) by decide, show ¬ (60 = 40) by decide, show ¬ (60 = 50) by decide, show ¬ (60 = 51) by decide, if_false, if_true] at h
      cases hr : vs own n p f 0 0 x with
      | none => rw [hr] at h; cases h
      | some q =>
      obtain ⟨v1, t1⟩ := q
      rw [hr] at h
      obtain ⟨rfl, rfl⟩ := Prod.mk.inj (Option.some.inj h)
      rw [List.length_cons] at hm
      have hm' : m < 40 := by omega
      have i1 := ih 0 0 x (m + 1) (d + 1) g (TA 66 65 1 M m [60]) v1 t1 (by decide) (by decide) hr ((hS _ hm' 2 (by decide)).trans h2) ((hS _ hm' 3 (by decide)).trans h3) ((hS _ hm' 4 (by decide)).trans h4) TA_cs (by omega) (by omega) (by omega)
      rw [show TA 66 65 1 (TA 66 65 1 M m [60]) (m + 1) t1 = TA 66 65 1 M m (60 :: t1) from TA_app (t := [60]) (by decide)] at i1
      simp only [F_89, hd40, if_true, q1, q3, q4, q5, note_c hm' h1, show ¬ ((60 : Int32) = 10) by decide, show ¬ ((60 : Int32) = 11) by decide, show ¬ ((60 : Int32) = 12) by decide, show ¬ ((60 : Int32) = 13) by decide, show ¬ ((60 : Int32) = 20) by decide, show ¬ ((60 : Int32) = 30) by decide, show ¬ ((60 : Int32) = 31) by decide, show ¬ ((60 : Int32) = 40) by decide, show ¬ ((60 : Int32) = 50) by decide, show ¬ ((60 : Int32) = 51) by decide, if_false, hd1]
      rw [show sT 4 (nI (vWb k a)).toNatClampNeg = nI 0 from hab]
      rw [show KK_89 g (nI 0) 0 x (nI (d + 1)) (TA 66 65 1 M m [60]) = _ from i1]
    · have hb : vBd (vWb k a) a = 61 := hb
      rw [hb] at h q5
      have q5 : sT 6 (4 * nI (vWb k a) + nI a).toNatClampNeg = 61 := q5
      simp only [show ¬ (61 = 10) by decide, show ¬ (61 = 11) by decide, show ¬ (61 = 12) by decide, show ¬ (61 = 13) by decide, show ¬ (61 = 20) by decide, show ¬ (61 = 30) by decide, show ¬ (61 = 31) by decide, show ¬ (61 = 40) by decide, show ¬ (61 = 50) by decide, show ¬ (61 = 51) by decide, show ¬ (61 = 60) by decide, if_false, if_true] at h
      cases hr : vs own n p f 0 2 x with
      | none => rw [hr] at h; cases h
      | some q =>
      obtain ⟨v1, t1⟩ := q
      rw [hr] at h
      dsimp only at h
      cases hr2 : vs own n p f own 0 1 with
      | none => rw [hr2] at h; cases h
      | some q =>
      obtain ⟨v2, t2⟩ := q
      rw [hr2] at h
      obtain ⟨rfl, rfl⟩ := Prod.mk.inj (Option.some.inj h)
      rw [List.length_cons, List.length_append] at hm
      have hm' : m < 40 := by omega
      have hT : ∀ j, ¬ j = 1 → TA 66 65 1 M m (61 :: t1) 65 j = M 65 j := fun j hj => TA_o (by omega) (by decide)
      have i1 := ih 0 2 x (m + 1) (d + 1) g (TA 66 65 1 M m [61]) v1 t1 (by decide) (by decide) hr ((hS _ hm' 2 (by decide)).trans h2) ((hS _ hm' 3 (by decide)).trans h3) ((hS _ hm' 4 (by decide)).trans h4) TA_cs (by omega) (by omega) (by omega)
      rw [show TA 66 65 1 (TA 66 65 1 M m [61]) (m + 1) t1 = TA 66 65 1 M m (61 :: t1) from TA_app (t := [61]) (by decide)] at i1
      have i2 := ih own 0 1 (m + (61 :: t1).length) (d + 1) g (TA 66 65 1 M m (61 :: t1)) v2 t2 ho (by decide) hr2 ((hT 2 (by decide)).trans h2) ((hT 3 (by decide)).trans h3) ((hT 4 (by decide)).trans h4) TA_cs (by rw [List.length_cons]; omega) (by omega) (by omega)
      rw [TA_app (by decide)] at i2
      simp only [F_89, hd40, if_true, q1, q3, q4, q5, note_c hm' h1, show ¬ ((61 : Int32) = 10) by decide, show ¬ ((61 : Int32) = 11) by decide, show ¬ ((61 : Int32) = 12) by decide, show ¬ ((61 : Int32) = 13) by decide, show ¬ ((61 : Int32) = 20) by decide, show ¬ ((61 : Int32) = 30) by decide, show ¬ ((61 : Int32) = 31) by decide, show ¬ ((61 : Int32) = 40) by decide, show ¬ ((61 : Int32) = 50) by decide, show ¬ ((61 : Int32) = 51) by decide, show ¬ ((61 : Int32) = 60) by decide, if_false, hd1]
      rw [show sT 4 (nI (vWb k a)).toNatClampNeg = nI 0 from hab, show KK_89 g (nI 0) 2 x (nI (d + 1)) (TA 66 65 1 M m [61]) = _ from i1]
      dsimp only
      rw [show (TA 66 65 1 M m (61 :: t1)) 65 4 = nI own from (hT 4 (by decide)).trans h4, show KK_89 g (nI own) 0 1 (nI (d + 1)) (TA 66 65 1 M m (61 :: t1)) = _ from i2]
      rfl
theorem voice_r {lw : Nat} (hl : lw < 8) (hn : n = nI lw) (ho : own < 6) : ∀ (f k a : Nat) (x : Int32) (m g : Nat) (M : IM) (v : Int32) (t : List Int32), k < 6 → a < 4 → vs own n p f k a x = some (v, t) → M 77 28 = n → M 78 (30 + lw) = p → M 78 (22 + lw) = nI own → M 77 27 = nI m → m + t.length ≤ 40 → f ≤ g → F_238 (KK_239 g) (nI k) (nI a) x M = some (v, TA 93 77 27 M m t) := by
  intro f
  induction f with
  | zero => intro k a x m g M v t _ _ h; cases h
  | succ f ih =>
    intro k a x m g M v t hk ha h h2 h3 h4 h1 hm hg
    obtain ⟨g, rfl⟩ : ∃ e, g = e + 1 := ⟨g - 1, by omega⟩
    have h238 : ∀ rk, L_238_3 rk (nI a) x M (nI k) = some (nI (vWb k a)) := fun rk => v_238 k hk a ha
    unfold F_238
    rw [h238]
    show J_238_22 (KK_239 (g + 1)) (nI a) x (nI (vWb k a)) M = _
    unfold J_238_22
    show (match F_239 (KK_239 g) (nI (vWb k a)) (nI a) x M with | none => none | some (c5, M5) => some (c5, M5)) = _
    have hid : ∀ q : Option (Int32 × IM), (match q with | none => none | some (c5, M5) => some (c5, M5)) = q := fun q => by cases q <;> rfl
    rw [hid]
    have hp0 : inb (30 + M 77 28) 366 = true := by rw [h2, hn, show (30 : Int32) + nI lw = nI (30 + lw) from ni_add 30 lw]; exact (inb_nI (by omega)).mpr (by omega)
    have hp1 : M 78 (30 + M 77 28).toNatClampNeg = p := by rw [h2, hn, show (30 : Int32) + nI lw = nI (30 + lw) from ni_add 30 lw, ni_cl (by omega)]; exact h3
    have hS : ∀ (b : Int32) k j, k = 77 ∧ j = 28 ∨ k = 78 → TA 93 77 27 M m [b] k j = M k j := fun b k j hj => TA_o (by omega) (by omega)
    have h237 : ∀ (M1 : IM) (a : Nat) (x : Int32), M1 77 28 = n → M1 78 (22 + lw) = nI own → F_237 (KK_239 g) (nI a) x M1 = F_238 (KK_239 g) (nI own) (nI a) x M1 := fun M1 a x e1 e2 => by
      unfold F_237 F_163
      rw [e1, hn, show (22 : Int32) + nI lw = nI (22 + lw) from ni_add 22 lw, if_pos ((inb_nI (by omega)).mpr (by omega)), ni_cl (by omega), e2]
      exact hid _
    unfold vs at h
    obtain ⟨i, hi, hb, hc, hab⟩ := v_cas k hk a ha
    rcases v_12 hi with rfl | rfl | rfl | rfl | rfl | rfl | rfl | rfl | rfl | rfl | rfl | rfl
    · have hb : vBd (vWb k a) a = 10 := hb
      have hc : 4 * nI (vWb k a) + nI a = 0 := hc
      rw [hb] at h
      simp only [if_false, if_true] at h
      obtain ⟨rfl, rfl⟩ := Prod.mk.inj (Option.some.inj h)
      have hm' : m < 40 := by simp only [List.length_cons, List.length_nil] at hm; omega
      simp only [F_239, hp0, if_true, hc, if_false, note_r hm' h1]
      rw [hS _ 77 28 (Or.inl ⟨rfl, rfl⟩), h2]
    · have hb : vBd (vWb k a) a = 11 := hb
      have hc : 4 * nI (vWb k a) + nI a = 1 := hc
      rw [hb] at h
      simp only [show ¬ (11 = 10) by decide, if_false, if_true] at h
      cases hr : vs own n p f own 0 x with
      | none => rw [hr] at h; cases h
      | some q =>
      obtain ⟨v1, t1⟩ := q
      rw [hr] at h
      obtain ⟨rfl, rfl⟩ := Prod.mk.inj (Option.some.inj h)
      rw [List.length_cons] at hm
      have hm' : m < 40 := by omega
      have i1 := ih own 0 x (m + 1) g (TA 93 77 27 M m [11]) v1 t1 ho (by decide) hr ((hS _ 77 28 (Or.inl ⟨rfl, rfl⟩)).trans h2) ((hS _ 78 _ (Or.inr rfl)).trans h3) ((hS _ 78 _ (Or.inr rfl)).trans h4) TA_cs (by omega) (by omega)
      rw [show TA 93 77 27 (TA 93 77 27 M m [11]) (m + 1) t1 = TA 93 77 27 M m (11 :: t1) from TA_app (t := [11]) (by decide)] at i1
      simp only [F_239, hp0, if_true, hc, show ¬ ((1 : Int32) = 0) by decide, if_false, note_r hm' h1]
      rw [show F_237 (KK_239 g) 0 x (TA 93 77 27 M m [11]) = _ from h237 _ 0 x ((hS _ 77 28 (Or.inl ⟨rfl, rfl⟩)).trans h2) ((hS _ 78 _ (Or.inr rfl)).trans h4), i1]
    · have hb : vBd (vWb k a) a = 12 := hb
      have hc : 4 * nI (vWb k a) + nI a = 2 := hc
      rw [hb] at h
      simp only [show ¬ (12 = 10) by decide, show ¬ (12 = 11) by decide, if_false, if_true] at h
      obtain ⟨rfl, rfl⟩ := Prod.mk.inj (Option.some.inj h)
      have hm' : m < 40 := by simp only [List.length_cons, List.length_nil] at hm; omega
      simp only [F_239, hp0, if_true, hc, show ¬ ((2 : Int32) = 0) by decide, show ¬ ((2 : Int32) = 1) by decide, if_false, note_r hm' h1]
      rw [hp1]
    · have hb : vBd (vWb k a) a = 13 := hb
      have hc : 4 * nI (vWb k a) + nI a = 3 := hc
      rw [hb] at h
      simp only [show ¬ (13 = 10) by decide, show ¬ (13 = 11) by decide, show ¬ (13 = 12) by decide, if_false, if_true] at h
      cases hr : vs own n p f own 1 x with
      | none => rw [hr] at h; cases h
      | some q =>
      obtain ⟨v1, t1⟩ := q
      rw [hr] at h
      dsimp only at h
      cases hr2 : vs own n p f own 2 x with
      | none => rw [hr2] at h; cases h
      | some q =>
      obtain ⟨v2, t2⟩ := q
      rw [hr2] at h
      obtain ⟨rfl, rfl⟩ := Prod.mk.inj (Option.some.inj h)
      rw [List.length_cons, List.length_append] at hm
      have hm' : m < 40 := by omega
      have hT : ∀ k j, k = 77 ∧ j = 28 ∨ k = 78 → TA 93 77 27 M m (13 :: t1) k j = M k j := fun k j hj => TA_o (by omega) (by omega)
      have i1 := ih own 1 x (m + 1) g (TA 93 77 27 M m [13]) v1 t1 ho (by decide) hr ((hS _ 77 28 (Or.inl ⟨rfl, rfl⟩)).trans h2) ((hS _ 78 _ (Or.inr rfl)).trans h3) ((hS _ 78 _ (Or.inr rfl)).trans h4) TA_cs (by omega) (by omega)
      rw [show TA 93 77 27 (TA 93 77 27 M m [13]) (m + 1) t1 = TA 93 77 27 M m (13 :: t1) from TA_app (t := [13]) (by decide)] at i1
      have i2 := ih own 2 x (m + (13 :: t1).length) g (TA 93 77 27 M m (13 :: t1)) v2 t2 ho (by decide) hr2 ((hT 77 28 (Or.inl ⟨rfl, rfl⟩)).trans h2) ((hT 78 _ (Or.inr rfl)).trans h3) ((hT 78 _ (Or.inr rfl)).trans h4) TA_cs (by rw [List.length_cons]; omega) (by omega)
      rw [TA_app (by decide)] at i2
      simp only [F_239, hp0, if_true, hc, show ¬ ((3 : Int32) = 0) by decide, show ¬ ((3 : Int32) = 1) by decide, show ¬ ((3 : Int32) = 2) by decide, if_false, note_r hm' h1]
      rw [show F_237 (KK_239 g) 1 x (TA 93 77 27 M m [13]) = _ from h237 _ 1 x ((hS _ 77 28 (Or.inl ⟨rfl, rfl⟩)).trans h2) ((hS _ 78 _ (Or.inr rfl)).trans h4), i1]
      dsimp only
      rw [show F_237 (KK_239 g) 2 x (TA 93 77 27 M m (13 :: t1)) = _ from h237 _ 2 x ((hT 77 28 (Or.inl ⟨rfl, rfl⟩)).trans h2) ((hT 78 _ (Or.inr rfl)).trans h4), i2]
      rfl
    · have hb : vBd (vWb k a) a = 20 := hb
      have hc : 4 * nI (vWb k a) + nI a = 5 := hc
      rw [hb] at h
      simp only [show ¬ (20 = 10) by decide, show ¬ (20 = 11) by decide, show ¬ (20 = 12) by decide, show ¬ (20 = 13) by decide, if_false, if_true] at h
      cases hr : vs own n p f 0 1 x with
      | none => rw [hr] at h; cases h
      | some q =>
      obtain ⟨v1, t1⟩ := q
      rw [hr] at h
      dsimp only at h
      cases hr2 : vs own n p f own 2 x with
      | none => rw [hr2] at h; cases h
      | some q =>
      obtain ⟨v2, t2⟩ := q
      rw [hr2] at h
      obtain ⟨rfl, rfl⟩ := Prod.mk.inj (Option.some.inj h)
      rw [List.length_cons, List.length_append] at hm
      have hm' : m < 40 := by omega
      have hT : ∀ k j, k = 77 ∧ j = 28 ∨ k = 78 → TA 93 77 27 M m (20 :: t1) k j = M k j := fun k j hj => TA_o (by omega) (by omega)
      have i1 := ih 0 1 x (m + 1) g (TA 93 77 27 M m [20]) v1 t1 (by decide) (by decide) hr ((hS _ 77 28 (Or.inl ⟨rfl, rfl⟩)).trans h2) ((hS _ 78 _ (Or.inr rfl)).trans h3) ((hS _ 78 _ (Or.inr rfl)).trans h4) TA_cs (by omega) (by omega)
      rw [show TA 93 77 27 (TA 93 77 27 M m [20]) (m + 1) t1 = TA 93 77 27 M m (20 :: t1) from TA_app (t := [20]) (by decide)] at i1
      have i2 := ih own 2 x (m + (20 :: t1).length) g (TA 93 77 27 M m (20 :: t1)) v2 t2 ho (by decide) hr2 ((hT 77 28 (Or.inl ⟨rfl, rfl⟩)).trans h2) ((hT 78 _ (Or.inr rfl)).trans h3) ((hT 78 _ (Or.inr rfl)).trans h4) TA_cs (by rw [List.length_cons]; omega) (by omega)
      rw [TA_app (by decide)] at i2
      simp only [F_239, hp0, if_true, hc, show ¬ ((5 : Int32) = 0) by decide, show ¬ ((5 : Int32) = 1) by decide, show ¬ ((5 : Int32) = 2) by decide, show ¬ ((5 : Int32) = 3) by decide, if_false, note_r hm' h1]
      rw [show F_238 (KK_239 g) 0 1 x (TA 93 77 27 M m [20]) = _ from i1]
      dsimp only
      rw [show F_237 (KK_239 g) 2 x (TA 93 77 27 M m (20 :: t1)) = _ from h237 _ 2 x ((hT 77 28 (Or.inl ⟨rfl, rfl⟩)).trans h2) ((hT 78 _ (Or.inr rfl)).trans h4), i2]
      rfl
    · have hb : vBd (vWb k a) a = 30 := hb
      have hc : 4 * nI (vWb k a) + nI a = 8 := hc
      rw [hb] at h
      simp only [show ¬ (30 = 10) by decide, show ¬ (30 = 11) by decide, show ¬ (30 = 12) by decide, show ¬ (30 = 13) by decide, show ¬ (30 = 20) by decide, if_false, if_true] at h
      cases hr : vs own n p f 1 0 x with
      | none => rw [hr] at h; cases h
      | some q =>
      obtain ⟨v1, t1⟩ := q
      rw [hr] at h
      obtain ⟨rfl, rfl⟩ := Prod.mk.inj (Option.some.inj h)
      rw [List.length_cons] at hm
      have hm' : m < 40 := by omega
      have i1 := ih 1 0 x (m + 1) g (TA 93 77 27 M m [30]) v1 t1 (by decide) (by decide) hr ((hS _ 77 28 (Or.inl ⟨rfl, rfl⟩)).trans h2) ((hS _ 78 _ (Or.inr rfl)).trans h3) ((hS _ 78 _ (Or.inr rfl)).trans h4) TA_cs (by omega) (by omega)
      rw [show TA 93 77 27 (TA 93 77 27 M m [30]) (m + 1) t1 = TA 93 77 27 M m (30 :: t1) from TA_app (t := [30]) (by decide)] at i1
      simp only [F_239, hp0, if_true, hc, show ¬ ((8 : Int32) = 0) by decide, show ¬ ((8 : Int32) = 1) by decide, show ¬ ((8 : Int32) = 2) by decide, show ¬ ((8 : Int32) = 3) by decide, show ¬ ((8 : Int32) = 5) by decide, if_false, note_r hm' h1]
      rw [show F_238 (KK_239 g) 1 0 x (TA 93 77 27 M m [30]) = _ from i1]
    · have hb : vBd (vWb k a) a = 31 := hb
      have hc : 4 * nI (vWb k a) + nI a = 11 := hc
      rw [hb] at h
      simp only [show ¬ (31 = 10) by decide, show ¬ (31 = 11) by decide, show ¬ (31 = 12) by decide, show ¬ (31 = 13) by decide, show ¬ (31 = 20) by decide, show ¬ (31 = 30) by decide, if_false, if_true] at h
      cases hr : vs own n p f 1 3 (x + 1) with
      | none => rw [hr] at h; cases h
      | some q =>
      obtain ⟨v1, t1⟩ := q
      rw [hr] at h
      obtain ⟨rfl, rfl⟩ := Prod.mk.inj (Option.some.inj h)
      rw [List.length_cons] at hm
      have hm' : m < 40 := by omega
      have i1 := ih 1 3 (x + 1) (m + 1) g (TA 93 77 27 M m [31]) v1 t1 (by decide) (by decide) hr ((hS _ 77 28 (Or.inl ⟨rfl, rfl⟩)).trans h2) ((hS _ 78 _ (Or.inr rfl)).trans h3) ((hS _ 78 _ (Or.inr rfl)).trans h4) TA_cs (by omega) (by omega)
      rw [show TA 93 77 27 (TA 93 77 27 M m [31]) (m + 1) t1 = TA 93 77 27 M m (31 :: t1) from TA_app (t := [31]) (by decide)] at i1
      simp only [F_239, hp0, if_true, hc, show ¬ ((11 : Int32) = 0) by decide, show ¬ ((11 : Int32) = 1) by decide, show ¬ ((11 : Int32) = 2) by decide, show ¬ ((11 : Int32) = 3) by decide, show ¬ ((11 : Int32) = 5) by decide, show ¬ ((11 : Int32) = 8) by decide, if_false, note_r hm' h1]
      rw [show F_238 (KK_239 g) 1 3 (x + 1) (TA 93 77 27 M m [31]) = _ from i1]
    · have hb : vBd (vWb k a) a = 40 := hb
      have hc : 4 * nI (vWb k a) + nI a = 14 := hc
      rw [hb] at h
      simp only [show ¬ (40 = 10) by decide, show ¬ (40 = 11) by decide, show ¬ (40 = 12) by decide, show ¬ (40 = 13) by decide, show ¬ (40 = 20) by decide, show ¬ (40 = 30) by decide, show ¬ (40 = 31) by decide, if_false, if_true] at h
      cases hr : vs own n p f 1 2 x with
      | none => rw [hr] at h; cases h
      | some q =>
      obtain ⟨v1, t1⟩ := q
      rw [hr] at h
      obtain ⟨rfl, rfl⟩ := Prod.mk.inj (Option.some.inj h)
      rw [List.length_cons] at hm
      have hm' : m < 40 := by omega
      have i1 := ih 1 2 x (m + 1) g (TA 93 77 27 M m [40]) v1 t1 (by decide) (by decide) hr ((hS _ 77 28 (Or.inl ⟨rfl, rfl⟩)).trans h2) ((hS _ 78 _ (Or.inr rfl)).trans h3) ((hS _ 78 _ (Or.inr rfl)).trans h4) TA_cs (by omega) (by omega)
      rw [show TA 93 77 27 (TA 93 77 27 M m [40]) (m + 1) t1 = TA 93 77 27 M m (40 :: t1) from TA_app (t := [40]) (by decide)] at i1
      simp only [F_239, hp0, if_true, hc, show ¬ ((14 : Int32) = 0) by decide, show ¬ ((14 : Int32) = 1) by decide, show ¬ ((14 : Int32) = 2) by decide, show ¬ ((14 : Int32) = 3) by decide, show ¬ ((14 : Int32) = 5) by decide, show ¬ ((14 : Int32) = 8) by decide, show ¬ ((14 : Int32) = 11) by decide, if_false, note_r hm' h1]
      rw [show F_238 (KK_239 g) 1 2 x (TA 93 77 27 M m [40]) = _ from i1]
    · have hb : vBd (vWb k a) a = 50 := hb
      have hc : 4 * nI (vWb k a) + nI a = 19 := hc
      rw [hb] at h
      simp only [show ¬ (50 = 10) by decide, show ¬ (50 = 11) by decide, show ¬ (50 = 12) by decide, show ¬ (50 = 13) by decide, show ¬ (50 = 20) by decide, show ¬ (50 = 30) by decide, show ¬ (50 = 31) by decide, show ¬ (50 = 40) by decide, if_false, if_true] at h
      cases hr : vs own n p f own 2 x with
      | none => rw [hr] at h; cases h
      | some q =>
      obtain ⟨v1, t1⟩ := q
      rw [hr] at h
      dsimp only at h
      cases hr2 : vs own n p f 1 3 x with
      | none => rw [hr2] at h; cases h
      | some q =>
      obtain ⟨v2, t2⟩ := q
      rw [hr2] at h
      obtain ⟨rfl, rfl⟩ := Prod.mk.inj (Option.some.inj h)
      rw [List.length_cons, List.length_append] at hm
      have hm' : m < 40 := by omega
      have hT : ∀ k j, k = 77 ∧ j = 28 ∨ k = 78 → TA 93 77 27 M m (50 :: t1) k j = M k j := fun k j hj => TA_o (by omega) (by omega)
      have i1 := ih own 2 x (m + 1) g (TA 93 77 27 M m [50]) v1 t1 ho (by decide) hr ((hS _ 77 28 (Or.inl ⟨rfl, rfl⟩)).trans h2) ((hS _ 78 _ (Or.inr rfl)).trans h3) ((hS _ 78 _ (Or.inr rfl)).trans h4) TA_cs (by omega) (by omega)
      rw [show TA 93 77 27 (TA 93 77 27 M m [50]) (m + 1) t1 = TA 93 77 27 M m (50 :: t1) from TA_app (t := [50]) (by decide)] at i1
      have i2 := ih 1 3 x (m + (50 :: t1).length) g (TA 93 77 27 M m (50 :: t1)) v2 t2 (by decide) (by decide) hr2 ((hT 77 28 (Or.inl ⟨rfl, rfl⟩)).trans h2) ((hT 78 _ (Or.inr rfl)).trans h3) ((hT 78 _ (Or.inr rfl)).trans h4) TA_cs (by rw [List.length_cons]; omega) (by omega)
      rw [TA_app (by decide)] at i2
      simp only [F_239, hp0, if_true, hc, show ¬ ((19 : Int32) = 0) by decide, show ¬ ((19 : Int32) = 1) by decide, show ¬ ((19 : Int32) = 2) by decide, show ¬ ((19 : Int32) = 3) by decide, show ¬ ((19 : Int32) = 5) by decide, show ¬ ((19 : Int32) = 8) by decide, show ¬ ((19 : Int32) = 11) by decide, show ¬ ((19 : Int32) = 14) by decide, show ¬ ((19 : Int32) = 17) by decide, if_false, note_r hm' h1]
      rw [show F_237 (KK_239 g) 2 x (TA 93 77 27 M m [50]) = _ from h237 _ 2 x ((hS _ 77 28 (Or.inl ⟨rfl, rfl⟩)).trans h2) ((hS _ 78 _ (Or.inr rfl)).trans h4), i1]
      dsimp only
      rw [show F_238 (KK_239 g) 1 3 x (TA 93 77 27 M m (50 :: t1)) = _ from i2]
      rfl
    · have hb : vBd (vWb k a) a = 51 := hb
      have hc : 4 * nI (vWb k a) + nI a = 17 := hc
      rw [hb] at h
      simp only [show ¬ (51 = 10) by decide, show ¬ (51 = 11) by decide, show ¬ (51 = 12) by decide, show ¬ (51 = 13) by decide, show ¬ (51 = 20) by decide, show ¬ (51 = 30) by decide, show ¬ (51 = 31) by decide, show ¬ (51 = 40) by decide, show ¬ (51 = 50) by decide, if_false, if_true] at h
      cases hr : vs own n p f 1 1 (x - p) with
      | none => rw [hr] at h; cases h
      | some q =>
      obtain ⟨v1, t1⟩ := q
      rw [hr] at h
      obtain ⟨rfl, rfl⟩ := Prod.mk.inj (Option.some.inj h)
      rw [List.length_cons] at hm
      have hm' : m < 40 := by omega
      have i1 := ih 1 1 (x - p) (m + 1) g (TA 93 77 27 M m [51]) v1 t1 (by decide) (by decide) hr ((hS _ 77 28 (Or.inl ⟨rfl, rfl⟩)).trans h2) ((hS _ 78 _ (Or.inr rfl)).trans h3) ((hS _ 78 _ (Or.inr rfl)).trans h4) TA_cs (by omega) (by omega)
      rw [show TA 93 77 27 (TA 93 77 27 M m [51]) (m + 1) t1 = TA 93 77 27 M m (51 :: t1) from TA_app (t := [51]) (by decide)] at i1
      simp only [F_239, hp0, if_true, hc, show ¬ ((17 : Int32) = 0) by decide, show ¬ ((17 : Int32) = 1) by decide, show ¬ ((17 : Int32) = 2) by decide, show ¬ ((17 : Int32) = 3) by decide, show ¬ ((17 : Int32) = 5) by decide, show ¬ ((17 : Int32) = 8) by decide, show ¬ ((17 : Int32) = 11) by decide, show ¬ ((17 : Int32) = 14) by decide, if_false, note_r hm' h1]
      rw [hp1]
      rw [show F_238 (KK_239 g) 1 1 (x - p) (TA 93 77 27 M m [51]) = _ from i1]
    · have hb : vBd (vWb k a) a = 60 := hb
      have hc : 4 * nI (vWb k a) + nI a = 20 := hc
      rw [hb] at h
      simp only [show ¬ (60 = 10) by decide, show ¬ (60 = 11) by decide, show ¬ (60 = 12) by decide, show ¬ (60 = 13) by decide, show ¬ (60 = 20) by decide, show ¬ (60 = 30) by decide, show ¬ (60 = 31) by decide, show ¬ (60 = 40) by decide, show ¬ (60 = 50) by decide, show ¬ (60 = 51) by decide, if_false, if_true] at h
      cases hr : vs own n p f 0 0 x with
      | none => rw [hr] at h; cases h
      | some q =>
      obtain ⟨v1, t1⟩ := q
      rw [hr] at h
      obtain ⟨rfl, rfl⟩ := Prod.mk.inj (Option.some.inj h)
      rw [List.length_cons] at hm
      have hm' : m < 40 := by omega
      have i1 := ih 0 0 x (m + 1) g (TA 93 77 27 M m [60]) v1 t1 (by decide) (by decide) hr ((hS _ 77 28 (Or.inl ⟨rfl, rfl⟩)).trans h2) ((hS _ 78 _ (Or.inr rfl)).trans h3) ((hS _ 78 _ (Or.inr rfl)).trans h4) TA_cs (by omega) (by omega)
      rw [show TA 93 77 27 (TA 93 77 27 M m [60]) (m + 1) t1 = TA 93 77 27 M m (60 :: t1) from TA_app (t := [60]) (by decide)] at i1
      simp only [F_239, hp0, if_true, hc, show ¬ ((20 : Int32) = 0) by decide, show ¬ ((20 : Int32) = 1) by decide, show ¬ ((20 : Int32) = 2) by decide, show ¬ ((20 : Int32) = 3) by decide, show ¬ ((20 : Int32) = 5) by decide, show ¬ ((20 : Int32) = 8) by decide, show ¬ ((20 : Int32) = 11) by decide, show ¬ ((20 : Int32) = 14) by decide, show ¬ ((20 : Int32) = 17) by decide, show ¬ ((20 : Int32) = 19) by decide, if_false, note_r hm' h1]
      rw [show F_238 (KK_239 g) 0 0 x (TA 93 77 27 M m [60]) = _ from i1]
    · have hb : vBd (vWb k a) a = 61 := hb
      have hc : 4 * nI (vWb k a) + nI a = 22 := hc
      rw [hb] at h
      simp only [show ¬ (61 = 10) by decide, show ¬ (61 = 11) by decide, show ¬ (61 = 12) by decide, show ¬ (61 = 13) by decide, show ¬ (61 = 20) by decide, show ¬ (61 = 30) by decide, show ¬ (61 = 31) by decide, show ¬ (61 = 40) by decide, show ¬ (61 = 50) by decide, show ¬ (61 = 51) by decide, show ¬ (61 = 60) by decide, if_false, if_true] at h
      cases hr : vs own n p f 0 2 x with
      | none => rw [hr] at h; cases h
      | some q =>
      obtain ⟨v1, t1⟩ := q
      rw [hr] at h
      dsimp only at h
      cases hr2 : vs own n p f own 0 1 with
      | none => rw [hr2] at h; cases h
      | some q =>
      obtain ⟨v2, t2⟩ := q
      rw [hr2] at h
      obtain ⟨rfl, rfl⟩ := Prod.mk.inj (Option.some.inj h)
      rw [List.length_cons, List.length_append] at hm
      have hm' : m < 40 := by omega
      have hT : ∀ k j, k = 77 ∧ j = 28 ∨ k = 78 → TA 93 77 27 M m (61 :: t1) k j = M k j := fun k j hj => TA_o (by omega) (by omega)
      have i1 := ih 0 2 x (m + 1) g (TA 93 77 27 M m [61]) v1 t1 (by decide) (by decide) hr ((hS _ 77 28 (Or.inl ⟨rfl, rfl⟩)).trans h2) ((hS _ 78 _ (Or.inr rfl)).trans h3) ((hS _ 78 _ (Or.inr rfl)).trans h4) TA_cs (by omega) (by omega)
      rw [show TA 93 77 27 (TA 93 77 27 M m [61]) (m + 1) t1 = TA 93 77 27 M m (61 :: t1) from TA_app (t := [61]) (by decide)] at i1
      have i2 := ih own 0 1 (m + (61 :: t1).length) g (TA 93 77 27 M m (61 :: t1)) v2 t2 ho (by decide) hr2 ((hT 77 28 (Or.inl ⟨rfl, rfl⟩)).trans h2) ((hT 78 _ (Or.inr rfl)).trans h3) ((hT 78 _ (Or.inr rfl)).trans h4) TA_cs (by rw [List.length_cons]; omega) (by omega)
      rw [TA_app (by decide)] at i2
      simp only [F_239, hp0, if_true, hc, show ¬ ((22 : Int32) = 0) by decide, show ¬ ((22 : Int32) = 1) by decide, show ¬ ((22 : Int32) = 2) by decide, show ¬ ((22 : Int32) = 3) by decide, show ¬ ((22 : Int32) = 5) by decide, show ¬ ((22 : Int32) = 8) by decide, show ¬ ((22 : Int32) = 11) by decide, show ¬ ((22 : Int32) = 14) by decide, show ¬ ((22 : Int32) = 17) by decide, show ¬ ((22 : Int32) = 19) by decide, show ¬ ((22 : Int32) = 20) by decide, if_false, note_r hm' h1]
      rw [show F_238 (KK_239 g) 0 2 x (TA 93 77 27 M m [61]) = _ from i1]
      dsimp only
      rw [show F_237 (KK_239 g) 0 1 (TA 93 77 27 M m (61 :: t1)) = _ from h237 _ 0 1 ((hT 77 28 (Or.inl ⟨rfl, rfl⟩)).trans h2) ((hT 78 _ (Or.inr rfl)).trans h4), i2]
      rfl
end VOICE
theorem vs_ok (n p x : Int32) : ∀ own, own < 6 → ∀ a, a < 4 → ∃ v t, vs own n p 12 own a x = some (v, t) ∧ t.length ≤ 40
  | 0, _, 0, _ => ⟨_, _, rfl, by decide⟩
  | 0, _, 1, _ => ⟨_, _, rfl, by decide⟩
  | 0, _, 2, _ => ⟨_, _, rfl, by decide⟩
  | 0, _, 3, _ => ⟨_, _, rfl, by decide⟩
  | 1, _, 0, _ => ⟨_, _, rfl, by decide⟩
  | 1, _, 1, _ => ⟨_, _, rfl, by decide⟩
  | 1, _, 2, _ => ⟨_, _, rfl, by decide⟩
  | 1, _, 3, _ => ⟨_, _, rfl, by decide⟩
  | 2, _, 0, _ => ⟨_, _, rfl, by decide⟩
  | 2, _, 1, _ => ⟨_, _, rfl, by decide⟩
  | 2, _, 2, _ => ⟨_, _, rfl, by decide⟩
  | 2, _, 3, _ => ⟨_, _, rfl, by decide⟩
  | 3, _, 0, _ => ⟨_, _, rfl, by decide⟩
  | 3, _, 1, _ => ⟨_, _, rfl, by decide⟩
  | 3, _, 2, _ => ⟨_, _, rfl, by decide⟩
  | 3, _, 3, _ => ⟨_, _, rfl, by decide⟩
  | 4, _, 0, _ => ⟨_, _, rfl, by decide⟩
  | 4, _, 1, _ => ⟨_, _, rfl, by decide⟩
  | 4, _, 2, _ => ⟨_, _, rfl, by decide⟩
  | 4, _, 3, _ => ⟨_, _, rfl, by decide⟩
  | 5, _, 0, _ => ⟨_, _, rfl, by decide⟩
  | 5, _, 1, _ => ⟨_, _, rfl, by decide⟩
  | 5, _, 2, _ => ⟨_, _, rfl, by decide⟩
  | 5, _, 3, _ => ⟨_, _, rfl, by decide⟩
  | k + 6, h, _, _ => absurd h (by omega)
  | _, _, a + 4, h => absurd h (by omega)
theorem B_voice (a b c : Int32) : Both (F_121 a b c) (F_240 a b c) := by
  intro M hI
  obtain ⟨n, K, P, tb, q, hV⟩ := id hI
  have hn := hV.1.1.1
  rcases ckL hV.1 a with ⟨l, hl, rfl, e1, e2⟩ | ⟨e1, e2⟩
  · have hkl := (hV.1.1.2 l hl).1
    have c0 : M (6 + 2 * l) 0 = nI (K l) := (hV.1.2.1.2 l hl).1
    have c1 : M (6 + 2 * l) 1 = nI (P l) := (hV.1.2.1.2 l hl).2.1
    by_cases hb : rg b 4
    · obtain ⟨act, ha, rfl⟩ := hb
      have w : F_157 (nI act) 0 3 = 1 := wn_in (m := 3) (by omega) (by decide)
      obtain ⟨v, t, hv, ht⟩ := vs_ok (nI l) (nI (P l)) c (K l) hkl act ha
      generalize hA : iset (iset (iset (iset M 65 1 0) 65 2 (nI l)) 65 3 (nI (P l))) 65 4 (nI (K l)) = A
      have ac : ∀ k j, ¬ (k = 65 ∧ 1 ≤ j ∧ j ≤ 4) → A k j = M k j := fun k j hk => by
        rw [← hA]; simp only [iset_eq]; rw [if_neg (by omega), if_neg (by omega), if_neg (by omega), if_neg (by omega)]
      have vc := voice_c (own := K l) (n := nI l) (p := nI (P l)) hkl 12 (K l) act c 0 0 64 A v t hkl ha hv (by rw [← hA]; simp (disch := omega) only [iset_same, iset_k, iset_j]) (by rw [← hA]; simp (disch := omega) only [iset_same, iset_k, iset_j]) (by rw [← hA]; simp (disch := omega) only [iset_same, iset_k, iset_j]) (by rw [← hA]; simp (disch := omega) only [iset_same, iset_k, iset_j]; rfl) (by omega) (by decide) (by decide)
      generalize hM1 : TA 66 65 1 A 0 t = M1 at vc
      have dc : F_121 (nI l) (nI act) c M = some (v, M1) := by
        simp only [F_121, e1, one_ne, if_false]
        rw [if_neg (nI_pos (by omega)), if_pos (show nI act < 4 from nI_lt (b := 4) ha (by decide)), if_pos ((inb_nI (by omega)).mpr (by omega)), ni_cl (by omega)]
        simp only [F_88]
        have z1 : (iset (iset M 65 1 0) 65 2 (nI l)) (6 + 2 * l) 1 = nI (P l) := by rw [iset_k (by omega), iset_k (by omega), c1]
        rw [z1]
        have z0 : (iset (iset (iset M 65 1 0) 65 2 (nI l)) 65 3 (nI (P l))) (6 + 2 * l) 0 = nI (K l) := by rw [iset_k (by omega), iset_k (by omega), iset_k (by omega), c0]
        rw [z0, hA, show A 65 4 = nI (K l) by rw [← hA, iset_same]]
        show (match (match KK_89 64 (nI (K l)) (nI act) c (nI 0) A with | none => none | some (c1, M1) => some (c1, M1)) with | none => none | some (c4, M4) => some (c4, M4)) = _
        rw [vc]
      have hm1 : ∀ k j, ¬ (k = 66 ∨ (k = 65 ∧ 1 ≤ j ∧ j ≤ 4)) → M1 k j = M k j := fun k j hk => by
        rw [← hM1, TA_o (by omega) (by omega), ac _ _ (by omega)]
      have hhi : ∀ k j, 77 ≤ k → M1 k j = M k j := fun k j hk => hm1 k j (by omega)
      have g0 := (hV.1.2.2.2 l hl).1
      have g1 := (hV.1.2.2.2 l hl).2.1
      have vr := voice_r (own := K l) (n := nI l) (p := nI (P l)) (lw := l) (by omega) rfl hkl 12 (K l) act c 0 64 (iset (iset M1 77 27 0) 77 28 (nI l)) v t hkl ha hv (by simp (disch := omega) only [iset_same, iset_k, iset_j]) (by simp (disch := omega) only [iset_same, iset_k, iset_j]; rw [hhi _ _ (by decide), g1]) (by simp (disch := omega) only [iset_same, iset_k, iset_j]; rw [hhi _ _ (by decide), g0]) (by simp (disch := omega) only [iset_same, iset_k, iset_j]; rfl) (by omega) (by decide)
      generalize hM2 : TA 93 77 27 (iset (iset M1 77 27 0) 77 28 (nI l)) 0 t = M2 at vr
      refine ⟨v, M1, M2, dc, ?_, n, K, P, tb, q, hV.a9 (fun k j u1 u2 => ?_) ⟨t.length, ht, ?_, ?_, fun j hj => ?_⟩⟩
      · simp only [F_240, e2 M1 hhi, show F_157 (nI act) 0 3 = 1 from w, one_ne, if_false]
        have : K_237 (nI act) c (iset (iset M1 77 27 0) 77 28 (nI l)) = some (v, M2) := by
          unfold K_237 F_237 F_163
          rw [iset_same, show (22 : Int32) + nI l = nI (22 + l) from ni_add 22 l, if_pos ((inb_nI (by omega)).mpr (by omega)), ni_cl (by omega), iset_k (by decide), iset_k (by decide), hhi _ _ (by decide), g0]
          dsimp only
          rw [vr]
        rw [this]
      · have u3 : ¬ ((k = 65 ∧ j = 1) ∨ k = 66 ∨ (k = 77 ∧ j = 27) ∨ k = 93) := fun z => u2 (cid9 z)
        have u4 : ¬ (k = 65 ∧ 2 ≤ j) := fun z => u1 (by
          obtain ⟨rfl, z⟩ := z
          simp (disch := omega) only [cid, if_pos, if_neg, if_true, if_false])
        have u5 : ¬ (k = 77 ∧ j = 28) := fun z => u1 (by obtain ⟨rfl, rfl⟩ := z; rfl)
        rw [← hM2, TA_o (by omega) (by omega), iset_eq, if_neg (by omega), iset_eq, if_neg (by omega), hm1 _ _ (by omega)]
      · rw [← hM2, TA_o (by omega) (by decide), iset_k (by decide), iset_k (by decide), ← hM1, TA_cs, Nat.zero_add]
      · rw [← hM2, TA_cs, Nat.zero_add]
      · rw [← hM2, TA_r (by decide) (Nat.zero_le _) (by omega), TA_o (by omega) (by decide), iset_k (by decide), iset_k (by decide), ← hM1, TA_r (by decide) (Nat.zero_le _) (by omega)]
    · have w := wn_out (m := 3) (by decide) hb
      refine rfu1 hI ?_ (fun M1 hM1 => ?_)
      · simp only [F_121, e1, one_ne, if_false]
        rcases rg_lt (m := 3) (by decide) hb with h0 | ⟨h0, -, h1⟩
        · rw [if_pos h0, J_121_17, Rf1]
        · rw [if_neg h0, if_neg (show ¬ b < 4 from Int32.not_lt.mpr h1), J_121_17, Rf1]
      · simp only [F_240, e2 M1 hM1, one_ne, if_false, show F_157 b 0 3 = 0 from w, if_true, J_240_17, Rg1]
  · refine rfu1 hI ?_ (fun M1 hM1 => ?_)
    · simp only [F_121, e1, if_true, J_121_17, Rf1]
    · simp only [F_240, e2 M1 hM1, if_true, J_240_17, Rg1]
