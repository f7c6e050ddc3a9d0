/-! what holds between calls: both memories, part by part -/
def rtb (k b : Nat) : Nat := if pr k = true then b else b % 2 + 2 * (b / 8 % 2) + 4 * (b / 64 % 2)
def unif (b : Nat) : Prop := ∀ c, 1 ≤ c → c ≤ 3 → ∀ d, 1 ≤ d → d ≤ 3 → b.testBit (3 * c + d - 4) = b.testBit (3 * c - 3)
def LW (n : Nat) (K P : Nat → Nat) (tb : Nat → Nat → Nat) : Prop := n ≤ 8 ∧ ∀ l, l < n → K l < 6 ∧ P l < 100 ∧ ∀ i, i < mny (K l) → tb l i < 512 ∧ (pr (K l) = false → unif (tb l i))
def LC (t n : Nat) (K P : Nat → Nat) (tb : Nat → Nat → Nat) (M : IM) : Prop := M t 2 = nI n ∧ ∀ l, l < n → M (t + 5 + 2 * l) 0 = nI (K l) ∧ M (t + 5 + 2 * l) 1 = nI (P l) ∧ ∀ i, i < mny (K l) → M (t + 6 + 2 * l) i = nI (tb l i)
def LQ (r n : Nat) (K P : Nat → Nat) (tb : Nat → Nat → Nat) (M : IM) : Prop := M r 0 = nI n ∧ ∀ l, l < n → M r (22 + l) = nI (K l) ∧ M r (30 + l) = nI (P l) ∧ ∀ i, i < mny (K l) → M r (110 + 32 * l + i) = nI (rtb (K l) (tb l i))
def RU (t r : Nat) (q : Nat → Nat) (M : IM) : Prop := ∀ h, h < 12 → 1 ≤ q h ∧ q h ≤ 3 ∧ M (t + 1) h = nI (q h) ∧ M r (10 + h) = nI (q h)
def TP (t r : Nat) (M : IM) : Prop := ∃ m, m ≤ 50 ∧ M t 4 = nI m ∧ M r 1 = nI m ∧ ∀ j, j < m → ∃ b, b < 256 ∧ M (t + 3) j = nI b ∧ M r (40 + j) = nI b
def WT (t r : Nat) (M : IM) : Prop := ∃ w, w ≤ 20 ∧ M t 6 = nI w ∧ M r 2 = nI w ∧ ∀ j, j < w → M (t + 4) j = M r (90 + j)
def VI (t r : Nat) (M : IM) : Prop := (∃ n K P tb, LW n K P tb ∧ LC t n K P tb M ∧ LQ r n K P tb M) ∧ (∃ q, RU t r q M) ∧ TP t r M ∧ WT t r M
def C1 (n : Nat) (K P : Nat → Nat) (tb : Nat → Nat → Nat) (M : IM) : Prop := LW n K P tb ∧ LC 1 n K P tb M ∧ LQ 78 n K P tb M
def C5 (M : IM) : Prop := M 0 2 = M 77 2 ∧ (¬ M 77 2 = 0 → VI 22 79 M)
def C7 (M : IM) : Prop := ∀ k, k < 6 → M 43 k = M 80 k
def C8 (M : IM) : Prop := ∀ s, s < 4 → ∃ b m, (b = 0 ∨ b = 8 ∨ b = 16 ∨ b = 32) ∧ m ≤ 40 ∧ M (69 + 2 * s) 0 = nI b ∧ M 94 s = nI b ∧ M (69 + 2 * s) 1 = nI m ∧ M 95 s = nI m ∧ ∀ j, j < m → M (70 + 2 * s) j = M 96 (40 * s + j)
def C9 (M : IM) : Prop := ∃ m, m ≤ 40 ∧ M 65 1 = nI m ∧ M 77 27 = nI m ∧ ∀ j, j < m → M 66 j = M 93 j
/-- a rule keeps the laws of a set -/
def okL (tb : Nat → Nat → Nat) (l i c d : Nat) : Prop := (tb l i).testBit (3 * c + d - 4) = true
def keeps (K : Nat → Nat) (tb : Nat → Nat → Nat) (l : Nat) (r : Nat → Nat) : Prop := ∀ i, i < mny (K l) → okL tb l i (r (fa (K l) i)) (r (fb (K l) i))
def fitsS (n : Nat) (K : Nat → Nat) (tb : Nat → Nat → Nat) (s : Nat) (r : Nat → Nat) : Prop := ∀ l, l < n → s.testBit l = true → keeps K tb l r
/-- a sum over what halls of a list choose -/
def updN (r : Nat → Nat) (h c : Nat) : Nat → Nat := fun k => if k = h then c else r k
def sumO : List Nat → (Nat → Nat) → ((Nat → Nat) → Nat) → Nat
  | [], r, f => f r
  | h :: t, r, f => sumO t (updN r h 1) f + sumO t (updN r h 2) f + sumO t (updN r h 3) f
noncomputable def chi (p : Prop) : Nat := @ite Nat p (Classical.propDecidable p) 1 0
def all12 : List Nat := [0, 1, 2, 3, 4, 5, 6, 7, 8, 9, 10, 11]
noncomputable def cntS (n : Nat) (K : Nat → Nat) (tb : Nat → Nat → Nat) (s : Nat) : Nat := sumO all12 (fun _ => 1) (fun r => chi (fitsS n K tb s r))
def C10 (n : Nat) (K : Nat → Nat) (tb : Nat → Nat → Nat) (M : IM) : Prop := ∀ s, s < 256 → M 68 s = -2 ∨ (s < 2 ^ n ∧ ((M 68 s = -1 ∧ 0 < cntS n K tb s) ∨ M 68 s = nI (cntS n K tb s)))
def C11 (M : IM) : Prop := (∀ k, k < 7 → M 81 k = nI (fcs k)) ∧ ∀ k, k < 6 → ∀ i, i < mny k → M 82 (fcs k + i) = nI (fa k i) ∧ M 83 (fcs k + i) = (if pr k = true then nI (fb k i) else -1) ∧ M 84 (fcs k + i) = nI (fwh k i)
def Iv (n : Nat) (K P : Nat → Nat) (tb : Nat → Nat → Nat) (q : Nat → Nat) (M : IM) : Prop := C1 n K P tb M ∧ RU 1 78 q M ∧ TP 1 78 M ∧ WT 1 78 M ∧ C5 M ∧ C7 M ∧ C8 M ∧ C9 M ∧ C10 n K tb M ∧ C11 M
def Inv (M : IM) : Prop := ∃ n K P tb q, Iv n K P tb q M
/-- which part a slot belongs to; 0: none -/
def cid (k j : Nat) : Nat :=
  if k = 0 then (if j = 2 then 5 else 0)
  else if k = 1 then (if j = 2 then 1 else if j = 4 then 3 else if j = 6 then 4 else 0)
  else if k = 2 then 2
  else if k = 3 then 0
  else if k = 4 then 3
  else if k = 5 then 4
  else if k < 22 then 1
  else if k < 43 then 5
  else if k = 43 then 7
  else if k < 65 then 0
  else if k = 65 then (if j = 1 then 9 else 0)
  else if k = 66 then 9
  else if k = 67 then 0
  else if k = 68 then 10
  else if k < 77 then 8
  else if k = 77 then (if j = 2 then 5 else if j = 27 then 9 else 0)
  else if k = 78 then (if j = 0 then 1 else if j = 1 then 3 else if j = 2 then 4 else if j < 10 then 0 else if j < 22 then 2 else if j < 38 then 1 else if j < 40 then 0 else if j < 90 then 3 else if j < 110 then 4 else 1)
  else if k = 79 then 5
  else if k = 80 then 7
  else if k < 85 then 11
  else if k < 93 then 0
  else if k = 93 then 9
  else if k < 97 then 8
  else 0
def ag (c : Nat) (M M' : IM) : Prop := ∀ k j, cid k j = c → M' k j = M k j
theorem cid1 {k j : Nat} (h : (k = 1 ∧ j = 2) ∨ (6 ≤ k ∧ k < 22) ∨ (k = 78 ∧ (j = 0 ∨ (22 ≤ j ∧ j < 38) ∨ 110 ≤ j))) : cid k j = 1 := by
  rcases h with ⟨rfl, rfl⟩ | ⟨a, b⟩ | ⟨rfl, rfl | ⟨c, d⟩ | c⟩ <;> simp (disch := omega) only [cid, if_pos, if_neg, if_true, if_false]
theorem cid2 {k j : Nat} (h : k = 2 ∨ (k = 78 ∧ 10 ≤ j ∧ j < 22)) : cid k j = 2 := by
  rcases h with rfl | ⟨rfl, c, d⟩ <;> simp (disch := omega) only [cid, if_pos, if_neg, if_true, if_false]
theorem cid3 {k j : Nat} (h : (k = 1 ∧ j = 4) ∨ k = 4 ∨ (k = 78 ∧ (j = 1 ∨ (40 ≤ j ∧ j < 90)))) : cid k j = 3 := by
  rcases h with ⟨rfl, rfl⟩ | rfl | ⟨rfl, rfl | ⟨c, d⟩⟩ <;> simp (disch := omega) only [cid, if_pos, if_neg, if_true, if_false]
theorem cid4 {k j : Nat} (h : (k = 1 ∧ j = 6) ∨ k = 5 ∨ (k = 78 ∧ (j = 2 ∨ (90 ≤ j ∧ j < 110)))) : cid k j = 4 := by
  rcases h with ⟨rfl, rfl⟩ | rfl | ⟨rfl, rfl | ⟨c, d⟩⟩ <;> simp (disch := omega) only [cid, if_pos, if_neg, if_true, if_false]
theorem cid5 {k j : Nat} (h : (k = 0 ∧ j = 2) ∨ (22 ≤ k ∧ k < 43) ∨ (k = 77 ∧ j = 2) ∨ k = 79) : cid k j = 5 := by
  rcases h with ⟨rfl, rfl⟩ | ⟨a, b⟩ | ⟨rfl, rfl⟩ | rfl <;> simp (disch := omega) only [cid, if_pos, if_neg, if_true, if_false]
theorem cid7 {k j : Nat} (h : k = 43 ∨ k = 80) : cid k j = 7 := by
  rcases h with rfl | rfl <;> simp (disch := omega) only [cid, if_pos, if_neg, if_true, if_false]
theorem cid8 {k j : Nat} (h : (69 ≤ k ∧ k < 77) ∨ (94 ≤ k ∧ k < 97)) : cid k j = 8 := by
  rcases h with ⟨a, b⟩ | ⟨a, b⟩ <;> simp (disch := omega) only [cid, if_pos, if_neg, if_true, if_false]
theorem cid9 {k j : Nat} (h : (k = 65 ∧ j = 1) ∨ k = 66 ∨ (k = 77 ∧ j = 27) ∨ k = 93) : cid k j = 9 := by
  rcases h with ⟨rfl, rfl⟩ | rfl | ⟨rfl, rfl⟩ | rfl <;> simp (disch := omega) only [cid, if_pos, if_neg, if_true, if_false]
theorem cid10 {k j : Nat} (h : k = 68) : cid k j = 10 := by
  subst h <;> simp (disch := omega) only [cid, if_pos, if_neg, if_true, if_false]
theorem cid11 {k j : Nat} (h : 81 ≤ k ∧ k < 85) : cid k j = 11 := by
  obtain ⟨a, b⟩ := h <;> simp (disch := omega) only [cid, if_pos, if_neg, if_true, if_false]
theorem LC.cg {t n : Nat} {K P : Nat → Nat} {tb : Nat → Nat → Nat} {M M' : IM} (h : LC t n K P tb M) (hn : n ≤ 8) (e : ∀ k j, (k = t ∧ j = 2) ∨ (t + 5 ≤ k ∧ k < t + 21) → M' k j = M k j) : LC t n K P tb M' := by
  refine ⟨by rw [e _ _ (Or.inl ⟨rfl, rfl⟩)]; exact h.1, fun l hl => ?_⟩
  obtain ⟨h1, h2, h3⟩ := h.2 l hl
  refine ⟨by rw [e _ _ (Or.inr (by omega))]; exact h1, by rw [e _ _ (Or.inr (by omega))]; exact h2, fun i hi => ?_⟩
  rw [e _ _ (Or.inr (by omega))]; exact h3 i hi
theorem LQ.cg {r n : Nat} {K P : Nat → Nat} {tb : Nat → Nat → Nat} {M M' : IM} (h : LQ r n K P tb M) (hn : n ≤ 8) (e : ∀ j, (j = 0 ∨ (22 ≤ j ∧ j < 38) ∨ 110 ≤ j) → M' r j = M r j) : LQ r n K P tb M' := by
  refine ⟨by rw [e _ (Or.inl rfl)]; exact h.1, fun l hl => ?_⟩
  obtain ⟨h1, h2, h3⟩ := h.2 l hl
  refine ⟨by rw [e _ (by omega)]; exact h1, by rw [e _ (by omega)]; exact h2, fun i hi => ?_⟩
  rw [e _ (by omega)]; exact h3 i hi
theorem C1.ag {n : Nat} {K P : Nat → Nat} {tb : Nat → Nat → Nat} {M M' : IM} (h : C1 n K P tb M) (e : ag 1 M M') : C1 n K P tb M' :=
  ⟨h.1, h.2.1.cg h.1.1 (fun k j hk => e k j (cid1 (by omega))), h.2.2.cg h.1.1 (fun j hj => e 78 j (cid1 (by omega)))⟩
theorem RU.cg {t r : Nat} {q : Nat → Nat} {M M' : IM} (h : RU t r q M) (e : ∀ k j, (k = t + 1 ∨ (k = r ∧ 10 ≤ j ∧ j < 22)) → M' k j = M k j) : RU t r q M' := by
  intro a ha
  obtain ⟨h1, h2, h3, h4⟩ := h a ha
  exact ⟨h1, h2, by rw [e _ _ (Or.inl rfl)]; exact h3, by rw [e _ _ (Or.inr ⟨rfl, by omega, by omega⟩)]; exact h4⟩
theorem TP.cg {t r : Nat} {M M' : IM} (h : TP t r M) (e : ∀ k j, ((k = t ∧ j = 4) ∨ k = t + 3 ∨ (k = r ∧ (j = 1 ∨ (40 ≤ j ∧ j < 90)))) → M' k j = M k j) : TP t r M' := by
  obtain ⟨m, h1, h2, h3, h4⟩ := h
  refine ⟨m, h1, by rw [e _ _ (Or.inl ⟨rfl, rfl⟩)]; exact h2, by rw [e _ _ (Or.inr (Or.inr ⟨rfl, Or.inl rfl⟩))]; exact h3, fun j hj => ?_⟩
  rw [e _ _ (Or.inr (Or.inl rfl)), e _ _ (Or.inr (Or.inr ⟨rfl, Or.inr ⟨by omega, by omega⟩⟩))]
  exact h4 j hj
theorem WT.cg {t r : Nat} {M M' : IM} (h : WT t r M) (e : ∀ k j, ((k = t ∧ j = 6) ∨ k = t + 4 ∨ (k = r ∧ (j = 2 ∨ (90 ≤ j ∧ j < 110)))) → M' k j = M k j) : WT t r M' := by
  obtain ⟨m, h1, h2, h3, h4⟩ := h
  refine ⟨m, h1, by rw [e _ _ (Or.inl ⟨rfl, rfl⟩)]; exact h2, by rw [e _ _ (Or.inr (Or.inr ⟨rfl, Or.inl rfl⟩))]; exact h3, fun j hj => ?_⟩
  rw [e _ _ (Or.inr (Or.inl rfl)), e _ _ (Or.inr (Or.inr ⟨rfl, Or.inr ⟨by omega, by omega⟩⟩))]
  exact h4 j hj
theorem VI.cg {t r : Nat} {M M' : IM} (h : VI t r M) (e : ∀ k j, ((t ≤ k ∧ k < t + 21) ∨ k = r) → M' k j = M k j) : VI t r M' := by
  obtain ⟨⟨n, K, P, tb, h1, h2, h3⟩, ⟨q, h4⟩, h5, h6⟩ := h
  exact ⟨⟨n, K, P, tb, h1, h2.cg h1.1 (fun k j hk => e k j (by omega)), h3.cg h1.1 (fun j _ => e r j (Or.inr rfl))⟩, ⟨q, h4.cg (fun k j hk => e k j (by omega))⟩, h5.cg (fun k j hk => e k j (by omega)), h6.cg (fun k j hk => e k j (by omega))⟩
theorem C2.ag {q : Nat → Nat} {M M' : IM} (h : RU 1 78 q M) (e : ag 2 M M') : RU 1 78 q M' := h.cg (fun k j hk => e k j (cid2 (by omega)))
theorem C3.ag {M M' : IM} (h : TP 1 78 M) (e : ag 3 M M') : TP 1 78 M' := h.cg (fun k j hk => e k j (cid3 (by omega)))
theorem C4.ag {M M' : IM} (h : WT 1 78 M) (e : ag 4 M M') : WT 1 78 M' := h.cg (fun k j hk => e k j (cid4 (by omega)))
theorem C5.ag {M M' : IM} (h : C5 M) (e : ag 5 M M') : C5 M' := by
  have e1 := e 0 2 (cid5 (by omega))
  have e2 := e 77 2 (cid5 (by omega))
  refine ⟨by rw [e1, e2]; exact h.1, fun hn => ?_⟩
  rw [e2] at hn
  exact (h.2 hn).cg (fun k j hk => e k j (cid5 (by omega)))
theorem C7.ag {M M' : IM} (h : C7 M) (e : ag 7 M M') : C7 M' := fun k hk => by
  rw [e 43 k (cid7 (by omega)), e 80 k (cid7 (by omega))]; exact h k hk
theorem C8.ag {M M' : IM} (h : C8 M) (e : ag 8 M M') : C8 M' := fun s hs => by
  obtain ⟨b, m, h1, h2, h3, h4, h5, h6, h7⟩ := h s hs
  refine ⟨b, m, h1, h2, ?_, ?_, ?_, ?_, fun j hj => ?_⟩
  · rw [e _ _ (cid8 (by omega))]; exact h3
  · rw [e _ _ (cid8 (by omega))]; exact h4
  · rw [e _ _ (cid8 (by omega))]; exact h5
  · rw [e _ _ (cid8 (by omega))]; exact h6
  · rw [e (70 + 2 * s) _ (cid8 (by omega)), e 96 _ (cid8 (by omega))]; exact h7 j hj
theorem C9.ag {M M' : IM} (h : C9 M) (e : ag 9 M M') : C9 M' := by
  obtain ⟨m, h1, h2, h3, h4⟩ := h
  refine ⟨m, h1, ?_, ?_, fun j hj => ?_⟩
  · rw [e _ _ (cid9 (by omega))]; exact h2
  · rw [e _ _ (cid9 (by omega))]; exact h3
  · rw [e 66 _ (cid9 (by omega)), e 93 _ (cid9 (by omega))]; exact h4 j hj
theorem C10.ag {n : Nat} {K : Nat → Nat} {tb : Nat → Nat → Nat} {M M' : IM} (h : C10 n K tb M) (e : ag 10 M M') : C10 n K tb M' := fun s hs => by
  rw [e _ _ (cid10 rfl)]; exact h s hs
theorem C11.ag {M M' : IM} (h : C11 M) (e : ag 11 M M') : C11 M' := by
  refine ⟨fun k hk => by rw [e _ _ (cid11 (by omega))]; exact h.1 k hk, fun k hk i hi => ?_⟩
  rw [e _ _ (cid11 (by omega)), e _ _ (cid11 (by omega)), e _ _ (cid11 (by omega))]
  exact h.2 k hk i hi
/-- every part but c stays -/
def agx (c : Nat) (M M' : IM) : Prop := ∀ k j, cid k j ≠ 0 → cid k j ≠ c → M' k j = M k j
theorem agx.to {c d : Nat} {M M' : IM} (h : agx c M M') (h0 : d ≠ 0) (h1 : d ≠ c) : ag d M M' := fun k j e => h k j (by omega) (by omega)
theorem agx.tr {c : Nat} {M M1 M2 : IM} (h : agx c M M1) (h2 : agx c M1 M2) : agx c M M2 := fun k j a b => (h2 k j a b).trans (h k j a b)
theorem agx.wk {c : Nat} {M M' : IM} (h : agx 0 M M') : agx c M M' := fun k j a _ => h k j a a
theorem agx.rf (c : Nat) (M : IM) : agx c M M := fun _ _ _ _ => rfl
theorem agx.set {c a j : Nat} {M M1 : IM} {x : Int32} (h : agx c M M1) (ha : cid a j = 0 ∨ cid a j = c) : agx c M (iset M1 a j x) := fun k j' a1 a2 => by
  rw [iset_eq, if_neg (fun z => by obtain ⟨rfl, rfl⟩ := z; omega)]
  exact h k j' a1 a2
theorem Iv.a0 {n : Nat} {K P : Nat → Nat} {tb : Nat → Nat → Nat} {q : Nat → Nat} {M M' : IM} (h : Iv n K P tb q M) (e : agx 0 M M') : Iv n K P tb q M' := by
  obtain ⟨h1, h2, h3, h4, h5, h7, h8, h9, h10, h11⟩ := h
  exact ⟨h1.ag (e.to (by decide) (by decide)), C2.ag h2 (e.to (by decide) (by decide)), C3.ag h3 (e.to (by decide) (by decide)), C4.ag h4 (e.to (by decide) (by decide)), h5.ag (e.to (by decide) (by decide)), h7.ag (e.to (by decide) (by decide)), h8.ag (e.to (by decide) (by decide)), h9.ag (e.to (by decide) (by decide)), h10.ag (e.to (by decide) (by decide)), h11.ag (e.to (by decide) (by decide))⟩
theorem Iv.a2 {n : Nat} {K P : Nat → Nat} {tb : Nat → Nat → Nat} {q q' : Nat → Nat} {M M' : IM} (h : Iv n K P tb q M) (e : agx 2 M M') (h2 : RU 1 78 q' M') : Iv n K P tb q' M' := by
  obtain ⟨h1, -, h3, h4, h5, h7, h8, h9, h10, h11⟩ := h
  exact ⟨h1.ag (e.to (by decide) (by decide)), h2, C3.ag h3 (e.to (by decide) (by decide)), C4.ag h4 (e.to (by decide) (by decide)), h5.ag (e.to (by decide) (by decide)), h7.ag (e.to (by decide) (by decide)), h8.ag (e.to (by decide) (by decide)), h9.ag (e.to (by decide) (by decide)), h10.ag (e.to (by decide) (by decide)), h11.ag (e.to (by decide) (by decide))⟩
theorem Iv.a3 {n : Nat} {K P : Nat → Nat} {tb : Nat → Nat → Nat} {q : Nat → Nat} {M M' : IM} (h : Iv n K P tb q M) (e : agx 3 M M') (h3 : TP 1 78 M') : Iv n K P tb q M' := by
  obtain ⟨h1, h2, -, h4, h5, h7, h8, h9, h10, h11⟩ := h
  exact ⟨h1.ag (e.to (by decide) (by decide)), C2.ag h2 (e.to (by decide) (by decide)), h3, C4.ag h4 (e.to (by decide) (by decide)), h5.ag (e.to (by decide) (by decide)), h7.ag (e.to (by decide) (by decide)), h8.ag (e.to (by decide) (by decide)), h9.ag (e.to (by decide) (by decide)), h10.ag (e.to (by decide) (by decide)), h11.ag (e.to (by decide) (by decide))⟩
theorem Iv.a4 {n : Nat} {K P : Nat → Nat} {tb : Nat → Nat → Nat} {q : Nat → Nat} {M M' : IM} (h : Iv n K P tb q M) (e : agx 4 M M') (h4 : WT 1 78 M') : Iv n K P tb q M' := by
  obtain ⟨h1, h2, h3, -, h5, h7, h8, h9, h10, h11⟩ := h
  exact ⟨h1.ag (e.to (by decide) (by decide)), C2.ag h2 (e.to (by decide) (by decide)), C3.ag h3 (e.to (by decide) (by decide)), h4, h5.ag (e.to (by decide) (by decide)), h7.ag (e.to (by decide) (by decide)), h8.ag (e.to (by decide) (by decide)), h9.ag (e.to (by decide) (by decide)), h10.ag (e.to (by decide) (by decide)), h11.ag (e.to (by decide) (by decide))⟩
theorem Iv.a5 {n : Nat} {K P : Nat → Nat} {tb : Nat → Nat → Nat} {q : Nat → Nat} {M M' : IM} (h : Iv n K P tb q M) (e : agx 5 M M') (h5 : C5 M') : Iv n K P tb q M' := by
  obtain ⟨h1, h2, h3, h4, -, h7, h8, h9, h10, h11⟩ := h
  exact ⟨h1.ag (e.to (by decide) (by decide)), C2.ag h2 (e.to (by decide) (by decide)), C3.ag h3 (e.to (by decide) (by decide)), C4.ag h4 (e.to (by decide) (by decide)), h5, h7.ag (e.to (by decide) (by decide)), h8.ag (e.to (by decide) (by decide)), h9.ag (e.to (by decide) (by decide)), h10.ag (e.to (by decide) (by decide)), h11.ag (e.to (by decide) (by decide))⟩
theorem Iv.a7 {n : Nat} {K P : Nat → Nat} {tb : Nat → Nat → Nat} {q : Nat → Nat} {M M' : IM} (h : Iv n K P tb q M) (e : agx 7 M M') (h7 : C7 M') : Iv n K P tb q M' := by
  obtain ⟨h1, h2, h3, h4, h5, -, h8, h9, h10, h11⟩ := h
  exact ⟨h1.ag (e.to (by decide) (by decide)), C2.ag h2 (e.to (by decide) (by decide)), C3.ag h3 (e.to (by decide) (by decide)), C4.ag h4 (e.to (by decide) (by decide)), h5.ag (e.to (by decide) (by decide)), h7, h8.ag (e.to (by decide) (by decide)), h9.ag (e.to (by decide) (by decide)), h10.ag (e.to (by decide) (by decide)), h11.ag (e.to (by decide) (by decide))⟩
theorem Iv.a8 {n : Nat} {K P : Nat → Nat} {tb : Nat → Nat → Nat} {q : Nat → Nat} {M M' : IM} (h : Iv n K P tb q M) (e : agx 8 M M') (h8 : C8 M') : Iv n K P tb q M' := by
  obtain ⟨h1, h2, h3, h4, h5, h7, -, h9, h10, h11⟩ := h
  exact ⟨h1.ag (e.to (by decide) (by decide)), C2.ag h2 (e.to (by decide) (by decide)), C3.ag h3 (e.to (by decide) (by decide)), C4.ag h4 (e.to (by decide) (by decide)), h5.ag (e.to (by decide) (by decide)), h7.ag (e.to (by decide) (by decide)), h8, h9.ag (e.to (by decide) (by decide)), h10.ag (e.to (by decide) (by decide)), h11.ag (e.to (by decide) (by decide))⟩
theorem Iv.a9 {n : Nat} {K P : Nat → Nat} {tb : Nat → Nat → Nat} {q : Nat → Nat} {M M' : IM} (h : Iv n K P tb q M) (e : agx 9 M M') (h9 : C9 M') : Iv n K P tb q M' := by
  obtain ⟨h1, h2, h3, h4, h5, h7, h8, -, h10, h11⟩ := h
  exact ⟨h1.ag (e.to (by decide) (by decide)), C2.ag h2 (e.to (by decide) (by decide)), C3.ag h3 (e.to (by decide) (by decide)), C4.ag h4 (e.to (by decide) (by decide)), h5.ag (e.to (by decide) (by decide)), h7.ag (e.to (by decide) (by decide)), h8.ag (e.to (by decide) (by decide)), h9, h10.ag (e.to (by decide) (by decide)), h11.ag (e.to (by decide) (by decide))⟩
theorem Iv.a10 {n : Nat} {K P : Nat → Nat} {tb : Nat → Nat → Nat} {q : Nat → Nat} {M M' : IM} (h : Iv n K P tb q M) (e : agx 10 M M') (h10 : C10 n K tb M') : Iv n K P tb q M' := by
  obtain ⟨h1, h2, h3, h4, h5, h7, h8, h9, -, h11⟩ := h
  exact ⟨h1.ag (e.to (by decide) (by decide)), C2.ag h2 (e.to (by decide) (by decide)), C3.ag h3 (e.to (by decide) (by decide)), C4.ag h4 (e.to (by decide) (by decide)), h5.ag (e.to (by decide) (by decide)), h7.ag (e.to (by decide) (by decide)), h8.ag (e.to (by decide) (by decide)), h9.ag (e.to (by decide) (by decide)), h10, h11.ag (e.to (by decide) (by decide))⟩
/-! refusals -/
theorem R_132 {M : IM} : ∀ e, e < 6 → F_132 (nI e) M = some (-1000000 - nI e, iset M 43 e (M 43 e + 1))
  | 0, _ => rfl | 1, _ => rfl | 2, _ => rfl | 3, _ => rfl | 4, _ => rfl | 5, _ => rfl
  | e + 6, h => absurd h (by omega)
theorem Rf1 (M : IM) : F_132 1 M = some (-1000001, iset M 43 1 (M 43 1 + 1)) := rfl
theorem Rf2 (M : IM) : F_132 2 M = some (-1000002, iset M 43 2 (M 43 2 + 1)) := rfl
theorem Rf3 (M : IM) : F_132 3 M = some (-1000003, iset M 43 3 (M 43 3 + 1)) := rfl
theorem Rf4 (M : IM) : F_132 4 M = some (-1000004, iset M 43 4 (M 43 4 + 1)) := rfl
theorem Rf5 (M : IM) : F_132 5 M = some (-1000005, iset M 43 5 (M 43 5 + 1)) := rfl
theorem Rg1 (M : IM) : F_156 (-1000001) M = some (-1000001, iset M 80 1 (M 80 1 + 1)) := rfl
theorem Rg2 (M : IM) : F_156 (-1000002) M = some (-1000002, iset M 80 2 (M 80 2 + 1)) := rfl
theorem Rg3 (M : IM) : F_156 (-1000003) M = some (-1000003, iset M 80 3 (M 80 3 + 1)) := rfl
theorem Rg4 (M : IM) : F_156 (-1000004) M = some (-1000004, iset M 80 4 (M 80 4 + 1)) := rfl
theorem Rg5 (M : IM) : F_156 (-1000005) M = some (-1000005, iset M 80 5 (M 80 5 + 1)) := rfl
/-- what both sides do at a refusal, with other work of no account between -/
theorem Iv.rf {n : Nat} {K P : Nat → Nat} {tb : Nat → Nat → Nat} {q : Nat → Nat} {M M1 M2 : IM} {e : Nat} (h : Iv n K P tb q M) (h1 : agx 0 M M1) (h2 : agx 0 (iset M1 43 e (M1 43 e + 1)) M2) (he : e < 6) : Iv n K P tb q (iset M2 80 e (M2 80 e + 1)) := by
  have hx : agx 7 M (iset M2 80 e (M2 80 e + 1)) := by
    refine agx.set (agx.tr ?_ h2.wk) (Or.inr (cid7 (by omega)))
    exact agx.set h1.wk (Or.inr (cid7 (by omega)))
  refine h.a7 hx (fun k hk => ?_)
  have h7 : C7 M := h.2.2.2.2.2.1
  have a1 : ∀ j, M2 43 j = (iset M1 43 e (M1 43 e + 1)) 43 j := fun j => h2 43 j (by rw [cid7 (by omega)]; decide) (by rw [cid7 (by omega)]; decide)
  have a2 : ∀ j, M2 80 j = M1 80 j := fun j => (h2 80 j (by rw [cid7 (by omega)]; decide) (by rw [cid7 (by omega)]; decide)).trans (iset_k (by decide))
  have b1 : ∀ j, M1 43 j = M 43 j := fun j => h1 43 j (by rw [cid7 (by omega)]; decide) (by rw [cid7 (by omega)]; decide)
  have b2 : ∀ j, M1 80 j = M 80 j := fun j => h1 80 j (by rw [cid7 (by omega)]; decide) (by rw [cid7 (by omega)]; decide)
  rw [iset_k (by decide), a1, iset_eq, iset_eq, a2, a2]
  by_cases hke : k = e
  · subst hke
    rw [if_pos ⟨rfl, rfl⟩, if_pos ⟨rfl, rfl⟩, b1, b2, h7 k hk]
  · rw [if_neg (fun z => hke z.2), if_neg (fun z => hke z.2), b1, b2, h7 k hk]
theorem Inv.rf0 {M : IM} {e : Nat} (h : Inv M) (he : e < 6) : Inv (iset (iset M 43 e (M 43 e + 1)) 80 e ((iset M 43 e (M 43 e + 1)) 80 e + 1)) := by
  obtain ⟨n, K, P, tb, q, h⟩ := h
  exact ⟨n, K, P, tb, q, h.rf (agx.rf 0 M) (agx.rf 0 _) he⟩
def Both (f g : IM → Option (Int32 × IM)) : Prop := ∀ M, Inv M → ∃ r M1 M2, f M = some (r, M1) ∧ g M1 = some (r, M2) ∧ Inv M2
