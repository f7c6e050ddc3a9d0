/-! a new law -/
theorem lawC {e : List Nat} {n k p : Nat} {M : IM} (hn : n < 8) (hk : k < 6) (h2 : M 1 2 = nI n) (he : k = 0 ∨ k = 1 ∨ k = 4 → CDC e k M) : ∃ M', J_100_86 (nI k) (nI p) M = some (nI n, M') ∧ (∀ a b, a ≠ 48 → a ≠ 49 → a ≠ 6 + 2 * n → a ≠ 7 + 2 * n → (a = 1 → b ≠ 2) → M' a b = M a b) ∧ M' 1 2 = nI (n + 1) ∧ M' (6 + 2 * n) 0 = nI k ∧ M' (6 + 2 * n) 1 = nI p ∧ ∀ i, i < mny k → M' (7 + 2 * n) i = nI (tbl (fK e k i)) := by
  unfold J_100_86
  rw [h2, ie_in (by omega), if_pos hn, ni_cl (by omega)]
  have hm := (mny_lt hk).1
  generalize hM : iset (iset M (6 + 2 * n) 0 (nI k)) (6 + 2 * n) 1 (nI p) = M1
  have f1 : ∀ a b, a ≠ 6 + 2 * n → M1 a b = M a b := fun a b q => by rw [← hM, iset_k q, iset_k q]
  have v0 : M1 (6 + 2 * n) 0 = nI k := by rw [← hM, iset_j (by decide), iset_same]
  have v1 : M1 (6 + 2 * n) 1 = nI p := by rw [← hM, iset_same]
  obtain ⟨r, g1, g2⟩ := loopF (body := B_100_120 (nI k) (nI n) (6 + 2 * n)) (fun x st => ∃ M', st = (nI x, M') ∧ (∀ a b, a ≠ 48 → a ≠ 49 → a ≠ 7 + 2 * n → M' a b = M1 a b) ∧ ∀ i, i < x → M' (7 + 2 * n) i = nI (tbl (fK e k i))) (fun r => (∀ a b, a ≠ 48 → a ≠ 49 → a ≠ 7 + 2 * n → r.2 a b = M1 a b) ∧ ∀ i, i < mny k → r.2 (7 + 2 * n) i = nI (tbl (fK e k i))) (mny k) (by omega) (s := (nI 0, M1)) ⟨M1, rfl, fun _ _ _ _ _ => rfl, fun i hi => absurd hi (Nat.not_lt_zero _)⟩ (fun x st hx hI => by
    obtain ⟨M2, rfl, fr, hv⟩ := hI
    unfold B_100_120
    dsimp only
    rw [E_0 k hk]
    dsimp only
    rw [ie_le (by omega) (by omega)]
    by_cases y : mny k ≤ x
    · obtain rfl : x = mny k := by omega
      exact Or.inl ⟨_, by rw [if_pos y], fr, hv⟩
    · obtain ⟨M3, b1, b2⟩ := f145 (e := e) (i := x) (M := M2) hk (by omega) (fun q => (he q).cg (fun a b w => by rw [fr a b (by omega) (by omega) (by omega), f1 a b (by omega)]))
      rw [if_neg y, b1]
      dsimp only
      rw [ie_in (by omega), if_pos (by omega), ni_cl (by omega), ni_add1, show 6 + 2 * n + 1 = 7 + 2 * n by omega]
      refine Or.inr ⟨by omega, _, rfl, _, rfl, fun a b p1 p2 p3 => ?_, fun i hi => ?_⟩
      · rw [iset_k p3, b2 a b p1 p2]; exact fr a b p1 p2 p3
      · by_cases w : i = x
        · subst w; rw [iset_same]
        · rw [iset_j w, b2 _ _ (by omega) (by omega)]; exact hv i (by omega))
  rw [show L_100_120 (nI k) (nI n) (6 + 2 * n) 0 M1 = some r from g1]
  obtain ⟨x, Mr⟩ := r
  obtain ⟨g2, g3⟩ := g2
  have g2 : ∀ a b, a ≠ 48 → a ≠ 49 → a ≠ 7 + 2 * n → Mr a b = M1 a b := g2
  have g3 : ∀ i, i < mny k → Mr (7 + 2 * n) i = nI (tbl (fK e k i)) := g3
  dsimp only
  unfold J_100_150
  refine ⟨_, rfl, fun a b p1 p2 p3 p4 p5 => ?_, ?_, ?_, ?_, fun i hi => ?_⟩
  · by_cases w : a = 1
    · subst w; rw [iset_j (p5 rfl), g2 _ _ p1 p2 p4]; exact f1 _ _ p3
    · rw [iset_k w, g2 _ _ p1 p2 p4]; exact f1 _ _ p3
  · rw [iset_same, g2 1 2 (by decide) (by decide) (by omega), f1 1 2 (by omega), h2, ni_add1]
  · rw [iset_k (by omega), g2 _ _ (by omega) (by omega) (by omega)]; exact v0
  · rw [iset_k (by omega), g2 _ _ (by omega) (by omega) (by omega)]; exact v1
  · rw [iset_k (by omega)]; exact g3 i hi
theorem lawR {e : List Nat} {n k p : Nat} {M : IM} (hn : n < 8) (hk : k < 6) (h0 : M 78 0 = nI n) (hT : C11 M) (he : k = 0 ∨ k = 1 ∨ k = 4 → CDR e k M) : ∃ M', J_190_160 (nI k) (nI p) (nI n) M = some (nI n, M') ∧ (∀ a b, a ≠ 86 → (a = 77 → b ≠ 15 ∧ b ≠ 16 ∧ b ≠ 17) → (a = 78 → b ≠ 0 ∧ b ≠ 22 + n ∧ b ≠ 30 + n ∧ (b < 110 + 32 * n ∨ 110 + 32 * n + 32 ≤ b)) → M' a b = M a b) ∧ M' 78 0 = nI (n + 1) ∧ M' 78 (22 + n) = nI k ∧ M' 78 (30 + n) = nI p ∧ (∀ i, i < mny k → M' 78 (110 + 32 * n + i) = nI (rtb k (tbl (fK e k i)))) ∧ (∀ i, i < mny k → pr k = false → unif (tbl (fK e k i))) := by
  unfold J_190_160
  have hm := (mny_lt hk).1
  rw [lit_nI (n := 22), lit_nI (n := 30), ni_add, ni_add, ie_in (by omega), ie_in (by omega), ie_in (by omega), if_pos (by omega), if_pos (by omega), if_pos (by omega), ni_cl (by omega), ni_cl (by omega), ni_cl (by omega)]
  generalize hM : iset (iset M 78 (22 + n) (nI k)) 78 (30 + n) (nI p) = M1
  have f1 : ∀ a b, (a = 78 → b ≠ 22 + n ∧ b ≠ 30 + n) → M1 a b = M a b := fun a b q => by
    rw [← hM]
    by_cases w : a = 78
    · subst w; rw [iset_j (q rfl).2, iset_j (q rfl).1]
    · rw [iset_k w, iset_k w]
  have v0 : M1 78 (22 + n) = nI k := by rw [← hM, iset_j (by omega), iset_same]
  have v1 : M1 78 (30 + n) = nI p := by rw [← hM, iset_same]
  have c81 : ∀ j, j < 7 → M1 81 j = nI (fcs j) := fun j hj => by rw [f1 _ _ (fun w => absurd w (by decide))]; exact hT.1 j hj
  have hfa := fcs_add k hk
  have hfl := fcs_le (k + 1) (by omega)
  obtain ⟨r, g1, g2⟩ := loopF (body := B_190_188 (nI k) (nI n)) (fun x st => ∃ M', st = (nI (fcs k + x), M') ∧ (∀ a b, a ≠ 86 → (a = 77 → b ≠ 15 ∧ b ≠ 16 ∧ b ≠ 17) → (a = 78 → b < 110 + 32 * n ∨ 110 + 32 * n + 32 ≤ b) → M' a b = M1 a b) ∧ (∀ i, i < x → M' 78 (110 + 32 * n + i) = nI (rtb k (tbl (fK e k i)))) ∧ (∀ i, i < x → pr k = false → unif (tbl (fK e k i)))) (fun r => (∀ a b, a ≠ 86 → (a = 77 → b ≠ 15 ∧ b ≠ 16 ∧ b ≠ 17) → (a = 78 → b < 110 + 32 * n ∨ 110 + 32 * n + 32 ≤ b) → r.2 a b = M1 a b) ∧ (∀ i, i < mny k → r.2 78 (110 + 32 * n + i) = nI (rtb k (tbl (fK e k i)))) ∧ (∀ i, i < mny k → pr k = false → unif (tbl (fK e k i)))) (mny k) (by omega) (s := (nI (fcs k), M1)) ⟨M1, rfl, fun _ _ _ _ _ => rfl, fun i hi => absurd hi (Nat.not_lt_zero _), fun i hi => absurd hi (Nat.not_lt_zero _)⟩ (fun x st hx hI => by
    obtain ⟨M2, rfl, fr, hv, hu⟩ := hI
    have e81 : ∀ j, j < 7 → M2 81 j = nI (fcs j) := fun j hj => by rw [fr _ _ (by decide) (fun w => absurd w (by decide)) (fun w => absurd w (by decide))]; exact c81 j hj
    unfold B_190_188
    dsimp only
    rw [ni_add1, ie_in (by omega), if_pos (by omega), ni_cl (by omega), e81 (k + 1) (by omega), ie_le (by omega) (by omega)]
    by_cases y : fcs (k + 1) ≤ fcs k + x
    · obtain rfl : x = mny k := by omega
      exact Or.inl ⟨_, by rw [if_pos y], fr, hv, hu⟩
    · have hxx : x < mny k := by omega
      have tt : ∀ a, 81 ≤ a → a < 85 → ∀ b, M2 a b = M a b := fun a p q b => by rw [fr a b (by omega) (fun w => by omega) (fun w => by omega), f1 a b (fun w => by omega)]
      obtain ⟨t1, t2, t3⟩ := hT.2 k hk x hxx
      obtain ⟨M3, b1, b2, b3⟩ := f189 (e := e) (i := x) (M := M2) hk hxx ⟨by rw [tt 82 (by decide) (by decide)]; exact t1, by rw [tt 83 (by decide) (by decide)]; exact t2, by rw [tt 84 (by decide) (by decide)]; exact t3⟩ (fun q => (he q).cg (fun a b w => by rw [fr a b (by omega) (fun w => by omega) (fun w => by omega), f1 a b (fun w => by omega)]))
      rw [if_neg y, ie_in (by omega), if_pos (by omega), b1]
      dsimp only
      rw [ni_cl (by omega), e81 k (by omega), lit_nI (n := 110), lit_nI (n := 32), ni_mul, ni_add, ni_add, ni_sub (by omega), show 110 + 32 * n + (fcs k + x) - fcs k = 110 + 32 * n + x by omega, ie_in (by omega), if_pos (by omega), ni_cl (by omega), ni_add1]
      refine Or.inr ⟨hxx, _, rfl, _, rfl, fun a b p1 p2 p3 => ?_, fun i hi => ?_, fun i hi => ?_⟩
      · by_cases w : a = 78
        · subst w; rw [iset_j (by have := p3 rfl; omega), b2 _ _ p1 p2]; exact fr _ _ p1 p2 p3
        · rw [iset_k w, b2 _ _ p1 p2]; exact fr _ _ p1 p2 p3
      · by_cases w : i = x
        · subst w; rw [iset_same]
        · rw [iset_j (by omega), b2 _ _ (by decide) (fun w => absurd w (by decide))]; exact hv i (by omega)
      · by_cases w : i = x
        · subst w; exact b3
        · exact hu i (by omega))
  rw [c81 k (by omega)]
  rw [show L_190_188 (nI k) (nI n) (nI (fcs k)) M1 = some r from g1]
  obtain ⟨x, Mr⟩ := r
  obtain ⟨g2, g3, g4⟩ := g2
  have g2 : ∀ a b, a ≠ 86 → (a = 77 → b ≠ 15 ∧ b ≠ 16 ∧ b ≠ 17) → (a = 78 → b < 110 + 32 * n ∨ 110 + 32 * n + 32 ≤ b) → Mr a b = M1 a b := g2
  have g3 : ∀ i, i < mny k → Mr 78 (110 + 32 * n + i) = nI (rtb k (tbl (fK e k i))) := g3
  dsimp only
  unfold J_190_236
  rw [show (0 : Int32).toNatClampNeg = 0 from rfl]
  refine ⟨_, rfl, fun a b p1 p2 p3 => ?_, ?_, ?_, ?_, fun i hi => ?_, g4⟩
  · by_cases w : a = 78
    · subst w
      obtain ⟨q1, q2, q3, q4⟩ := p3 rfl
      rw [iset_j q1, g2 _ _ p1 p2 (fun _ => q4)]; exact f1 _ _ (fun _ => ⟨q2, q3⟩)
    · rw [iset_k w, g2 _ _ p1 p2 (fun w2 => absurd w2 w)]; exact f1 _ _ (fun w2 => absurd w2 w)
  · rw [iset_same, g2 78 0 (by decide) (fun w => absurd w (by decide)) (fun _ => by omega), f1 78 0 (fun _ => by omega), h0, ni_add1]
  · rw [iset_j (by omega), g2 _ _ (by decide) (fun w => absurd w (by decide)) (fun _ => by omega)]; exact v0
  · rw [iset_j (by omega), g2 _ _ (by decide) (fun w => absurd w (by decide)) (fun _ => by omega)]; exact v1
  · rw [iset_j (by omega)]; exact g3 i hi
def newT (tb : Nat → Nat → Nat) (n : Nat) (t : Nat → Nat) : Nat → Nat → Nat := fun l i => if l = n then t i else tb l i
theorem fits_new {n k : Nat} {K : Nat → Nat} {tb : Nat → Nat → Nat} {t : Nat → Nat} {s : Nat} (hs : s < 2 ^ n) (r : Nat → Nat) : fitsS (n + 1) (updN K n k) (newT tb n t) s r ↔ fitsS n K tb s r := by
  have e : ∀ l, l < n → (keeps (updN K n k) (newT tb n t) l r ↔ keeps K tb l r) := fun l hl => by
    unfold keeps okL updN newT
    rw [if_neg (show ¬ l = n by omega)]
    simp only [if_neg (show ¬ l = n by omega)]
  refine ⟨fun h l hl hb => (e l hl).mp (h l (by omega) hb), fun h l hl hb => ?_⟩
  by_cases z : l = n
  · subst z
    rw [Nat.testBit_lt_two_pow hs] at hb
    exact absurd hb (by decide)
  · exact (e l (by omega)).mpr (h l (by omega) hb)
theorem cnt_new {n k : Nat} {K : Nat → Nat} {tb : Nat → Nat → Nat} {t : Nat → Nat} {s : Nat} (hs : s < 2 ^ n) : cntS (n + 1) (updN K n k) (newT tb n t) s = cntS n K tb s := by
  unfold cntS
  have : (fun r => chi (fitsS (n + 1) (updN K n k) (newT tb n t) s r)) = (fun r => chi (fitsS n K tb s r)) := funext (fun r => by rw [propext (fits_new hs r)])
  rw [this]
theorem Iv.law {n k p : Nat} {K P : Nat → Nat} {tb : Nat → Nat → Nat} {q t : Nat → Nat} {M M' : IM} (h : Iv n K P tb q M) (hn : n < 8) (hk : k < 6) (hp : p < 100) (ht : ∀ i, i < mny k → t i < 512 ∧ (pr k = false → unif (t i))) (hag : ∀ a b, cid a b ≠ 0 → cid a b ≠ 1 → cid a b ≠ 3 → M' a b = M a b) (h3 : TP 1 78 M') (fc : ∀ l, l < n → ∀ b, M' (6 + 2 * l) b = M (6 + 2 * l) b ∧ M' (7 + 2 * l) b = M (7 + 2 * l) b) (fr : ∀ l, l < n → M' 78 (22 + l) = M 78 (22 + l) ∧ M' 78 (30 + l) = M 78 (30 + l) ∧ ∀ i, i < 32 → M' 78 (110 + 32 * l + i) = M 78 (110 + 32 * l + i)) (c1 : M' 1 2 = nI (n + 1)) (c2 : M' (6 + 2 * n) 0 = nI k) (c3 : M' (6 + 2 * n) 1 = nI p) (c4 : ∀ i, i < mny k → M' (7 + 2 * n) i = nI (t i)) (r1 : M' 78 0 = nI (n + 1)) (r2 : M' 78 (22 + n) = nI k) (r3 : M' 78 (30 + n) = nI p) (r4 : ∀ i, i < mny k → M' 78 (110 + 32 * n + i) = nI (rtb k (t i))) : Iv (n + 1) (updN K n k) (updN P n p) (newT tb n t) q M' := by
  obtain ⟨⟨hW, hC, hQ⟩, a2, a3, a4, a5, a7, a8, a9, a10, a11⟩ := h
  have ga : ∀ c, c ≠ 0 → c ≠ 1 → c ≠ 3 → ag c M M' := fun c x y z a b e => hag a b (by omega) (by omega) (by omega)
  have hKl : ∀ l, l < n → K l < 6 := fun l hl => (hW.2 l hl).1
  refine ⟨⟨⟨by omega, fun l hl => ?_⟩, ⟨c1, fun l hl => ?_⟩, ⟨r1, fun l hl => ?_⟩⟩, C2.ag a2 (ga 2 (by decide) (by decide) (by decide)), h3, C4.ag a4 (ga 4 (by decide) (by decide) (by decide)), C5.ag a5 (ga 5 (by decide) (by decide) (by decide)), C7.ag a7 (ga 7 (by decide) (by decide) (by decide)), C8.ag a8 (ga 8 (by decide) (by decide) (by decide)), C9.ag a9 (ga 9 (by decide) (by decide) (by decide)), ?_, C11.ag a11 (ga 11 (by decide) (by decide) (by decide))⟩
  · unfold updN newT
    by_cases z : l = n
    · simp only [if_pos z]; exact ⟨hk, hp, ht⟩
    · simp only [if_neg z]; exact hW.2 l (by omega)
  · unfold updN newT
    rw [show 1 + 5 + 2 * l = 6 + 2 * l by omega, show 1 + 6 + 2 * l = 7 + 2 * l by omega]
    by_cases z : l = n
    · subst z
      simp only [if_true]; exact ⟨c2, c3, c4⟩
    · simp only [if_neg z]
      obtain ⟨x1, x2, x3⟩ := hC.2 l (by omega)
      rw [show 1 + 5 + 2 * l = 6 + 2 * l by omega] at x1 x2
      rw [show 1 + 6 + 2 * l = 7 + 2 * l by omega] at x3
      exact ⟨((fc l (by omega) 0).1).trans x1, ((fc l (by omega) 1).1).trans x2, fun i hi => ((fc l (by omega) i).2).trans (x3 i hi)⟩
  · unfold updN newT
    by_cases z : l = n
    · subst z
      simp only [if_true]; exact ⟨r2, r3, r4⟩
    · simp only [if_neg z]
      obtain ⟨x1, x2, x3⟩ := hQ.2 l (by omega)
      obtain ⟨y1, y2, y3⟩ := fr l (by omega)
      have hm := (mny_lt (hKl l (by omega))).1
      exact ⟨y1.trans x1, y2.trans x2, fun i hi => (y3 i (by omega)).trans (x3 i hi)⟩
  · intro s hs
    rw [ga 10 (by decide) (by decide) (by decide) 68 s (cid10 rfl)]
    rcases a10 s hs with z | ⟨z, y⟩
    · exact Or.inl z
    · refine Or.inr ⟨Nat.lt_of_lt_of_le z (Nat.pow_le_pow_right (by decide) (by omega)), ?_⟩
      rw [cnt_new z]
      exact y
