/-! the row of law -/
theorem cid_n0 {a b : Nat} (h : cid a b ≠ 0) : a ≠ 45 ∧ a ≠ 47 ∧ a ≠ 48 ∧ a ≠ 49 ∧ a ≠ 85 ∧ a ≠ 86 ∧ (a = 77 → b = 2 ∨ b = 27) := by
  refine ⟨fun z => ?_, fun z => ?_, fun z => ?_, fun z => ?_, fun z => ?_, fun z => ?_, fun z => ?_⟩
  · subst z; exact h rfl
  · subst z; exact h rfl
  · subst z; exact h rfl
  · subst z; exact h rfl
  · subst z; exact h rfl
  · subst z; exact h rfl
  · subst z
    by_cases y : b = 2
    · exact Or.inl y
    · by_cases w : b = 27
      · exact Or.inr w
      · exfalso; refine h ?_
        show (if b = 2 then 5 else if b = 27 then 9 else 0) = 0
        rw [if_neg y, if_neg w]
theorem cid_n1 {a b : Nat} (h : cid a b ≠ 1) : (a = 1 → b ≠ 2) ∧ ¬ (6 ≤ a ∧ a < 22) ∧ (a = 78 → b ≠ 0 ∧ ¬ (22 ≤ b ∧ b < 38) ∧ b < 110) := by
  refine ⟨fun z y => h (cid1 (by omega)), fun z => h (cid1 (by omega)), fun z => ⟨fun y => h (cid1 (by omega)), fun y => h (cid1 (by omega)), ?_⟩⟩
  by_cases y : b < 110
  · exact y
  · exact absurd (cid1 (k := a) (j := b) (by omega)) h
theorem cid_n3 {a b : Nat} (h : cid a b ≠ 3) : (a = 1 → b ≠ 4) ∧ (a = 78 → b ≠ 1) :=
  ⟨fun z y => h (cid3 (by omega)), fun z y => h (cid3 (by omega))⟩
theorem TP0 {M : IM} (h1 : M 1 4 = 0) (h2 : M 78 1 = 0) : TP 1 78 M := ⟨0, by decide, h1, h2, fun j hj => absurd hj (Nat.not_lt_zero _)⟩
/-- both write the law down -/
theorem lawB {e : List Nat} {n k p : Nat} {K P : Nat → Nat} {tb : Nat → Nat → Nat} {q : Nat → Nat} {M Ma : IM} (hV : Iv n K P tb q M) (hn : n < 8) (hk : k < 6) (hp : p < 100) (fa : ∀ a b, a ≠ 45 → a ≠ 47 → (a = 1 → b ≠ 4) → Ma a b = M a b) (hec : k = 0 ∨ k = 1 ∨ k = 4 → CDC e k Ma) : ∃ M1, J_100_86 (nI k) (nI p) Ma = some (nI n, M1) ∧ (∀ a b, 77 ≤ a → M1 a b = M a b) ∧ M1 1 4 = Ma 1 4 ∧ (∀ j, M1 4 j = M 4 j) ∧ ∀ Mb, (∀ a b, a ≠ 85 → (a = 77 → b ≠ 9 ∧ b ≠ 10 ∧ b ≠ 11 ∧ b ≠ 12 ∧ b ≠ 14) → (a = 78 → b ≠ 1) → Mb a b = M1 a b) → (k = 0 ∨ k = 1 ∨ k = 4 → CDR e k Mb) → ((∃ m, m ≤ 50 ∧ M1 1 4 = nI m ∧ Mb 78 1 = nI m ∧ ∀ j, j < m → ∃ b, b < 256 ∧ M1 4 j = nI b ∧ M1 78 (40 + j) = nI b)) → ∃ M2, J_190_160 (nI k) (nI p) (nI n) Mb = some (nI n, M2) ∧ Inv M2 := by
  have hM12 : M 1 2 = nI n := hV.1.2.1.1
  have hM780 : M 78 0 = nI n := hV.1.2.2.1
  have hc11 : C11 M := hV.2.2.2.2.2.2.2.2.2
  obtain ⟨M1, a1, a2, a3, a4, a5, a6⟩ := lawC (e := e) (p := p) hn hk ((fa 1 2 (by decide) (by decide) (fun _ => by decide)).trans hM12) hec
  have g1 : ∀ a b, 77 ≤ a → M1 a b = M a b := fun a b h => (a2 a b (by omega) (by omega) (by omega) (by omega) (by omega)).trans (fa a b (by omega) (by omega) (by omega))
  refine ⟨M1, a1, g1, a2 1 4 (by decide) (by decide) (by omega) (by omega) (fun _ => by decide), fun j => (a2 4 j (by decide) (by decide) (by omega) (by omega) (by omega)).trans (fa 4 j (by decide) (by decide) (by omega)), fun Mb fb her hm => ?_⟩
  have g2 : ∀ a b, 78 ≤ a → a ≠ 85 → (a = 78 → b ≠ 1) → Mb a b = M a b := fun a b h1 h2 h3 => (fb a b h2 (by omega) h3).trans (g1 a b (by omega))
  have hc : C11 Mb := ⟨fun j hj => (g2 81 j (by decide) (by decide) (fun w => absurd w (by decide))).trans (hc11.1 j hj), fun j hj i hi => by
    obtain ⟨x1, x2, x3⟩ := hc11.2 j hj i hi
    exact ⟨(g2 82 _ (by decide) (by decide) (fun w => absurd w (by decide))).trans x1, (g2 83 _ (by decide) (by decide) (fun w => absurd w (by decide))).trans x2, (g2 84 _ (by decide) (by decide) (fun w => absurd w (by decide))).trans x3⟩⟩
  obtain ⟨M2, b1, b2, b3, b4, b5, b6, b7⟩ := lawR (e := e) (p := p) hn hk ((g2 78 0 (by decide) (by decide) (fun _ => by decide)).trans hM780) hc her
  refine ⟨M2, b1, n + 1, updN K n k, updN P n p, newT tb n (fun i => tbl (fK e k i)), q, ?_⟩
  obtain ⟨m, m1, m2, m3, m4⟩ := hm
  have cls : ∀ a b, a < 77 → M2 a b = M1 a b := fun a b h => (b2 a b (by omega) (by omega) (by omega)).trans (fb a b (by omega) (by omega) (by omega))
  refine hV.law hn hk hp (fun i hi => ⟨tbC_lt _ 3 (by decide), b7 i hi⟩) (fun a b z0 z1 z3 => ?_) ⟨m, m1, ?_, ?_, fun j hj => ?_⟩ (fun l hl b => ⟨?_, ?_⟩) (fun l hl => ⟨?_, ?_, fun i hi => ?_⟩) ?_ ?_ ?_ (fun i hi => ?_) b3 b4 b5 b6
  · obtain ⟨x1, x2, x3, x4, x5, x6, x7⟩ := cid_n0 z0
    obtain ⟨y1, y2, y3⟩ := cid_n1 z1
    obtain ⟨w1, w2⟩ := cid_n3 z3
    rw [b2 a b x6 (fun w => by have := x7 w; omega) (fun w => by have := y3 w; omega), fb a b x5 (fun w => by have := x7 w; omega) w2, a2 a b x3 x4 (by omega) (by omega) y1]
    exact fa a b x1 x2 w1
  · rw [cls 1 4 (by decide)]; exact m2
  · rw [b2 78 1 (by decide) (by omega) (fun _ => by omega)]; exact m3
  · obtain ⟨b, q1, q2, q3⟩ := m4 j hj
    refine ⟨b, q1, ?_, ?_⟩
    · rw [cls _ _ (by omega)]; exact q2
    · rw [b2 78 (40 + j) (by decide) (by omega) (fun _ => by omega), fb 78 (40 + j) (by decide) (by omega) (fun _ => by omega)]; exact q3
  · rw [cls _ _ (by omega), a2 _ _ (by omega) (by omega) (by omega) (by omega) (by omega)]; exact fa _ _ (by omega) (by omega) (by omega)
  · rw [cls _ _ (by omega), a2 _ _ (by omega) (by omega) (by omega) (by omega) (by omega)]; exact fa _ _ (by omega) (by omega) (by omega)
  · rw [b2 78 _ (by decide) (by omega) (fun _ => by omega)]; exact g2 _ _ (by decide) (by decide) (fun _ => by omega)
  · rw [b2 78 _ (by decide) (by omega) (fun _ => by omega)]; exact g2 _ _ (by decide) (by decide) (fun _ => by omega)
  · rw [b2 78 _ (by decide) (by omega) (fun _ => by omega)]; exact g2 _ _ (by decide) (by decide) (fun _ => by omega)
  · rw [cls _ _ (by omega)]; exact a3
  · rw [cls _ _ (by omega)]; exact a4
  · rw [cls _ _ (by omega)]; exact a5
  · rw [cls _ _ (by omega)]; exact a6 i hi
theorem B_law (a b : Int32) : Both (F_100 a b) (F_190 a b) := by
  intro M hI
  rcases ck_137 a with ⟨k, hk, rfl, e1, e2⟩ | ⟨e1, e2⟩
  · rcases ck_138 b with ⟨p, hp, rfl, g1, g2⟩ | ⟨g1, g2⟩
    · obtain ⟨n, K, P, tb, q, hV⟩ := id hI
      have hM12 : M 1 2 = nI n := hV.1.2.1.1
      have hM780 : M 78 0 = nI n := hV.1.2.2.1
      have hn8 : n ≤ 8 := hV.1.1.1
      have u1 : ∀ M : IM, M 1 2 = nI n → F_100 (nI k) (nI p) M = (if n < 8 then (if F_140 (nI k) = 0 then (J_100_86 (nI k) (nI p) M) else (match F_60 4 (M 1 4) (nI k) M with | none => none | some (c11, M11) => (if c11 = (-1) then (J_100_86 (nI k) (nI p) (iset M11 1 4 0)) else (some (((-10) - c11, iset M11 1 4 0)))))) else some (-1000004, iset M 43 4 (M 43 4 + 1))) := fun M h => by
        unfold F_100
        rw [e1, g1, if_neg one_ne, if_neg one_ne, h, lit_nI (n := 8), ie_lt (by omega) (by omega), Rf4]
        all_goals rfl
      have u2 : ∀ M : IM, M 78 0 = nI n → F_190 (nI k) (nI p) M = (if n = 8 then some (-1000004, iset M 80 4 (M 80 4 + 1)) else (if k = 0 ∨ k = 1 ∨ k = 4 then J_190_60 (nI k) (nI p) (nI n) M else J_190_160 (nI k) (nI p) (nI n) M)) := fun M h => by
        unfold F_190
        rw [e2, g2, if_neg one_ne, if_neg one_ne, show M 78 (0 : Int32).toNatClampNeg = nI n from h, lit_nI (n := 8), ie_eq (by omega) (by omega), Rg4, lit_nI (n := 0), lit_nI (n := 1), lit_nI (n := 4), ie_eq (by omega) (by omega), ie_eq (by omega) (by omega), ie_eq (by omega) (by omega)]
        by_cases z : n = 8
        · rw [if_pos z, if_pos z]
        · rw [if_neg z, if_neg z]
          by_cases z0 : k = 0
          · rw [if_pos z0, if_pos (Or.inl z0)]
          · by_cases z1 : k = 1
            · rw [if_neg z0, if_pos z1, if_pos (Or.inr (Or.inl z1))]
            · by_cases z4 : k = 4
              · rw [if_neg z0, if_neg z1, if_pos z4, if_pos (Or.inr (Or.inr z4))]
              · rw [if_neg z0, if_neg z1, if_neg z4, if_neg (by omega)]
      by_cases hn : n < 8
      · obtain ⟨m, t1, t2, t3, t4⟩ := hV.2.2.1
        by_cases hx : k = 0 ∨ k = 1 ∨ k = 4
        · have e140 : ¬ F_140 (nI k) = 0 := by rcases hx with z | z | z <;> subst z <;> decide
          have hT : ∀ j, j < m → (M 4 j).toNatClampNeg < 256 ∧ M 4 j = nI (M 4 j).toNatClampNeg ∧ M 78 (40 + j) = nI (M 4 j).toNatClampNeg := fun j hj => by
            obtain ⟨b, b1, b2, b3⟩ := t4 j hj
            have b2 : M 4 j = nI b := b2
            rw [b2, ni_cl (by omega)]
            exact ⟨b1, rfl, b3⟩
          generalize hTd : (fun j => (M 4 j).toNatClampNeg) = T
          have hT : ∀ j, j < m → T j < 256 ∧ M 4 j = nI (T j) ∧ M 78 (40 + j) = nI (T j) := by rw [← hTd]; exact hT
          obtain ⟨Mc, fc, cc⟩ := read_c (T := T) (M := M) hk t1 (fun j hj => ⟨(hT j hj).1, (hT j hj).2.1⟩)
          rcases cc with ⟨w, wm, c1, c2, c3⟩ | ⟨w, c1⟩
          · have hev := (read_ok (T := T) (m := m) (nmOf_le k).2).2 w
            obtain ⟨M1, l1, l2, l3, l4, l5⟩ := lawB (e := (readF T m (nmOf k)).2.2) (Ma := iset Mc 1 4 0) hV hn hk hp (fun a b x1 x2 x3 => by
              by_cases z : a = 1
              · subst z; rw [iset_j (x3 rfl)]; exact fc _ _ x1 x2
              · rw [iset_k z]; exact fc _ _ x1 x2) (fun _ => ⟨hev.1, by omega, by rw [iset_k (by decide)]; exact c2, fun j hj => by rw [iset_k (by decide)]; exact c3 j hj⟩)
            obtain ⟨Mb, fb, r1, rr⟩ := read_r (T := T) (M := M1) (x2 := nI p) (x3 := nI n) hk t1 ((l2 78 1 (by decide)).trans t3) (fun j hj => ⟨(hT j hj).1, (l2 _ _ (by decide)).trans (hT j hj).2.2⟩)
            rcases rr with ⟨-, -, d1, d2, d3⟩ | ⟨w2, -⟩
            · obtain ⟨M2, m1, m2⟩ := l5 Mb fb (fun _ => ⟨hev.1, by omega, d2, d3⟩) ⟨0, by decide, by rw [l3, iset_same]; rfl, r1, fun j hj => absurd hj (Nat.not_lt_zero _)⟩
              refine ⟨nI n, M1, M2, ?_, ?_, m2⟩
              · rw [u1 M hM12, if_pos hn, if_neg e140, t2, c1]
                dsimp only
                rw [if_pos rfl]
                exact l1
              · rw [u2 M1 ((l2 78 0 (by decide)).trans hM780), if_neg (by omega), if_pos hx, d1]
                exact m1
            · rcases w2 with w2 | w2
              · exact absurd (w.symm.trans w2) (by decide)
              · omega
          · obtain ⟨Mb, fb, r1, rr⟩ := read_r (T := T) (M := iset Mc 1 4 0) (x2 := nI p) (x3 := nI n) hk t1 (by rw [iset_k (by decide), fc _ _ (by decide) (by decide)]; exact t3) (fun j hj => ⟨(hT j hj).1, by rw [iset_k (by decide), fc _ _ (by decide) (by decide)]; exact (hT j hj).2.2⟩)
            have hle := (read_ok (T := T) (m := m) (nmOf_le k).2).1
            rcases rr with ⟨w2, w3, -⟩ | ⟨-, d1⟩
            · rcases w with w | w
              · exact absurd (w2.symm.trans w) (by decide)
              · omega
            · refine ⟨-10 - nI (readF T m (nmOf k)).1, iset Mc 1 4 0, Mb, ?_, ?_, n, K, P, tb, q, ?_⟩
              · rw [u1 M hM12, if_pos hn, if_neg e140, t2, c1]
                dsimp only
                rw [if_neg (by rw [ni_ne_neg (by omega) ni_neg1]; exact not_false)]
              · rw [u2 _ (by rw [iset_k (by decide), fc _ _ (by decide) (by decide)]; exact hM780), if_neg (by omega), if_pos hx]
                exact d1
              · refine hV.a3 (fun a b z0 z3 => ?_) (TP0 (by rw [fb _ _ (by decide) (by omega) (by omega), iset_same]) r1)
                obtain ⟨x1, x2, x3, x4, x5, x6, x7⟩ := cid_n0 z0
                obtain ⟨w1, w2⟩ := cid_n3 z3
                rw [fb a b x5 (fun w => by have := x7 w; omega) w2]
                by_cases z : a = 1
                · subst z; rw [iset_j (w1 rfl)]; exact fc _ _ x1 x2
                · rw [iset_k z]; exact fc _ _ x1 x2
        · have e140 : F_140 (nI k) = 0 := by
            rcases (show k = 2 ∨ k = 3 ∨ k = 5 by omega) with z | z | z <;> subst z <;> decide
          obtain ⟨M1, l1, l2, l3, l4, l5⟩ := lawB (e := []) (Ma := M) hV hn hk hp (fun a b _ _ _ => rfl) (fun z => absurd z hx)
          obtain ⟨M2, m1, m2⟩ := l5 M1 (fun a b _ _ _ => rfl) (fun z => absurd z hx) ⟨m, t1, l3.trans t2, (l2 78 1 (by decide)).trans t3, fun j hj => by
            obtain ⟨b, b1, b2, b3⟩ := t4 j hj
            exact ⟨b, b1, (l4 j).trans b2, (l2 _ _ (by decide)).trans b3⟩⟩
          refine ⟨nI n, M1, M2, ?_, ?_, m2⟩
          · rw [u1 M hM12, if_pos hn, if_pos e140]
            exact l1
          · rw [u2 M1 ((l2 78 0 (by decide)).trans hM780), if_neg (by omega), if_neg hx]
            exact m1
      · refine rfu4 hI ?_ (fun M1 hM1 => ?_)
        · rw [u1 M hM12, if_neg hn]
        · rw [u2 M1 ((hM1 78 0 (by decide)).trans hM780), if_pos (by omega)]
    · refine rfu1 hI ?_ (fun M1 hM1 => ?_)
      · simp only [F_100, e1, g1, one_ne, if_false, if_true, J_100_14, Rf1]
      · simp only [F_190, e2, g2, one_ne, if_false, if_true, J_190_19, Rg1]
  · refine rfu1 hI ?_ (fun M1 hM1 => ?_)
    · simp only [F_100, e1, if_true, J_100_14, Rf1]
    · simp only [F_190, e2, if_true, J_190_19, Rg1]
