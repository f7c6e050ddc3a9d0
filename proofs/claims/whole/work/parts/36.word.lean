/-! word, kept, count, told, tell, trace -/
/-- only cells of a range have changed -/
def Chg (a b : Nat) (M M' : IM) : Prop := ∀ k j, ¬ (a ≤ k ∧ k ≤ b) → M' k j = M k j
theorem Chg.rf (a b : Nat) (M : IM) : Chg a b M M := fun _ _ _ => rfl
theorem Chg.tr {a b : Nat} {M M1 M2 : IM} (h : Chg a b M M1) (h2 : Chg a b M1 M2) : Chg a b M M2 := fun k j hk => (h2 k j hk).trans (h k j hk)
theorem Chg.wk {a b a' b' : Nat} {M M1 : IM} (h : Chg a b M M1) (h1 : a' ≤ a) (h2 : b ≤ b') : Chg a' b' M M1 := fun k j hk => h k j (by omega)
theorem Chg.set {a b k j : Nat} {M M1 : IM} {x : Int32} (h : Chg a b M M1) (h1 : a ≤ k) (h2 : k ≤ b) : Chg a b M (iset M1 k j x) := fun k' j' hk => by
  rw [iset_k (by omega)]; exact h k' j' hk
theorem Chg.wr {a b t lo hi : Nat} {M M1 : IM} {f : Nat → Int32} (h : Chg a b M M1) (h1 : a ≤ t) (h2 : t ≤ b) : Chg a b M (wr M1 t lo hi f) := fun k' j' hk => by
  rw [wr_k (by omega)]; exact h k' j' hk
theorem cid0a {k : Nat} (h : 44 ≤ k ∧ k ≤ 64) (j : Nat) : cid k j = 0 := by
  obtain ⟨h1, h2⟩ := h
  simp (disch := omega) only [cid, if_pos, if_neg, if_true, if_false]
theorem cid0b {k : Nat} (h : 85 ≤ k ∧ k ≤ 92) (j : Nat) : cid k j = 0 := by
  obtain ⟨h1, h2⟩ := h
  simp (disch := omega) only [cid, if_pos, if_neg, if_true, if_false]
theorem Chg.c {M M' : IM} (h : Chg 44 64 M M') : agx 0 M M' := fun k j h1 _ => h k j (fun z => h1 (cid0a z j))
theorem Chg.r {M M' : IM} (h : Chg 85 92 M M') : agx 0 M M' := fun k j h1 _ => h k j (fun z => h1 (cid0b z j))
theorem Chg.f {M M' : IM} (h : Chg 67 67 M M') : agx 0 M M' := fun k j h1 _ => h k j (fun z => by
  obtain rfl : k = 67 := by omega
  exact h1 rfl)
theorem Chg.lo {a b : Nat} {M M' : IM} (h : Chg a b M M') (hb : b < 77) : ∀ k j, 77 ≤ k → M' k j = M k j := fun k j hk => h k j (by omega)
theorem Chg.LC {a b n : Nat} {K P : Nat → Nat} {tb : Nat → Nat → Nat} {M M' : IM} (h : Chg a b M M') (ha : 22 ≤ a) (hn : n ≤ 8) (hC : LC 1 n K P tb M) : LC 1 n K P tb M' := hC.cg hn (fun k j hk => h k j (by omega))
theorem Chg.LQ {a b n : Nat} {K P : Nat → Nat} {tb : Nat → Nat → Nat} {M M' : IM} (h : Chg a b M M') (ha : b < 78 ∨ 79 ≤ a) (hn : n ≤ 8) (hC : LQ 78 n K P tb M) : LQ 78 n K P tb M' := hC.cg hn (fun j hk => h 78 j (by omega))
theorem Chg.C11 {a b : Nat} {M M' : IM} (h : Chg a b M M') (ha : b < 81 ∨ 85 ≤ a) (hC : C11 M) : C11 M' := hC.cg (fun k j h1 h2 => h k j (by omega))
/-- a run of refusals with scratch work before them, on either side -/
theorem Iv.rfs {n : Nat} {K P : Nat → Nat} {tb : Nat → Nat → Nat} {q : Nat → Nat} {M M1 M2 : IM} {e : Nat} (h : Iv n K P tb q M) (h1 : agx 0 M M1) (h2 : agx 0 (iset M1 43 e (M1 43 e + 1)) M2) (he : e < 6) : Inv (iset M2 80 e (M2 80 e + 1)) := ⟨n, K, P, tb, q, h.rf h1 h2 he⟩
def WF (t : Nat) (M : IM) : Nat → IM
  | 0 => M
  | k + 1 => wr (WF t M k) t 0 12 (fun h => nI (frm k h))
theorem WF_chg (t : Nat) (M : IM) : ∀ k, Chg t t M (WF t M k)
  | 0 => Chg.rf _ _ _
  | k + 1 => (WF_chg t M k).wr (Nat.le_refl _) (Nat.le_refl _)
theorem WF_at {t k h : Nat} {M : IM} (hh : h < 12) : WF t M (k + 1) t h = nI (frm k h) := wr_in (Nat.zero_le _) hh
theorem word_fc {s k : Nat} (hk : k < 12) (M : IM) : L_112_24 s.toInt32 (nI k) 0 (WF 67 M k) = some (nI 12, WF 67 M (k + 1)) := by
  unfold L_112_24
  have g := loopI (B := B_112_24 s.toInt32 (nI k)) (fun h => (nI h, wr (WF 67 M k) 67 0 h (fun h => nI (frm k h)))) (r := (nI 12, wr (WF 67 M k) 67 0 12 (fun h => nI (frm k h)))) 12 (by decide) (fun h hh => by
    unfold B_112_24
    dsimp only
    rw [(E_13 k hk h hh).1]
    simp (disch := omega) only [lit_nI, ni_ofNat, ni_add, ni_lti, ni_lei, ni_eqi, ni_cl, inb_nI, if_pos, if_neg, if_true, if_false]
    rw [wr_s (Nat.zero_le _) rfl]) rfl
  rw [show ((0 : Int32), WF 67 M k) = (nI 0, wr (WF 67 M k) 67 0 0 (fun h => nI (frm k h))) by rw [wr_0]; rfl, g]
  rfl
theorem word_fr {k : Nat} (hk : k < 12) (x y : Int32) (M : IM) : L_216_28 x (nI k) y 0 (WF 89 M k) = some (nI 12, WF 89 M (k + 1)) := by
  unfold L_216_28
  have g := loopI (B := B_216_28 x (nI k) y) (fun h => (nI h, wr (WF 89 M k) 89 0 h (fun h => nI (frm k h)))) (r := (nI 12, wr (WF 89 M k) 89 0 12 (fun h => nI (frm k h)))) 12 (by decide) (fun h hh => by
    unfold B_216_28
    dsimp only
    rw [E_172 k hk h hh]
    simp (disch := omega) only [lit_nI, ni_ofNat, ni_add, ni_lti, ni_lei, ni_eqi, ni_cl, inb_nI, if_pos, if_neg, if_true, if_false]
    rw [wr_s (Nat.zero_le _) rfl]) rfl
  rw [show ((0 : Int32), WF 89 M k) = (nI 0, wr (WF 89 M k) 89 0 0 (fun h => nI (frm k h))) by rw [wr_0]; rfl, g]
  rfl
theorem B_word (a : Int32) : Both (F_112 a) (F_216 a) := by
  intro M hI
  obtain ⟨n, K, P, tb, q, hV⟩ := id hI
  have hW := hV.1.1
  have hn := hW.1
  have hT := hV.2.2.2.2.2.2.2.2.2
  rcases ckS hV.1 a with ⟨s, hs, hs2, rfl, e1, e2⟩ | ⟨e1, e2⟩
  · have fc : ∀ k, k < 12 → (F_86 1 (nI s) 67 (WF 67 M (k + 1)) = some 1 ∧ fitsS n K tb s (frm k)) ∨ (F_86 1 (nI s) 67 (WF 67 M (k + 1)) = some 0 ∧ ¬ fitsS n K tb s (frm k)) := fun k hk =>
      fitsBy_c (r := 67) hW ((WF_chg 67 M (k + 1)).LC (by decide) hn hV.1.2.1) hs2 ln67 (fun h hh => ⟨(E_13 k hk h hh).2.1, (E_13 k hk h hh).2.2, WF_at hh⟩)
    have fr : ∀ M1 : IM, (∀ k j, 77 ≤ k → M1 k j = M k j) → ∀ k, k < 12 → ∃ y, (L_216_57 (nI s) (nI k) (WF 89 M1 (k + 1)) 1 0 = some (1, y) ∧ fitsS n K tb s (frm k)) ∨ (L_216_57 (nI s) (nI k) (WF 89 M1 (k + 1)) 1 0 = some (0, y) ∧ ¬ fitsS n K tb s (frm k)) := fun M1 hM1 k hk =>
      fitsBy_r hW ((WF_chg 89 M1 (k + 1)).LQ (by decide) hn (hV.1.2.2.cg hn (fun j _ => hM1 78 j (by decide)))) ((WF_chg 89 M1 (k + 1)).C11 (by decide) (hT.cg (fun k j h1 h2 => hM1 k j (by omega)))) hs2 (fun h hh => ⟨(E_13 k hk h hh).2.1, (E_13 k hk h hh).2.2, WF_at hh⟩)
    have stc : ∀ k, k < 12 → ¬ fitsS n K tb s (frm k) → B_112_16 (nI s) (nI k, WF 67 M k) = some (.inl (nI (k + 1), WF 67 M (k + 1))) := fun k hk hf => by
      unfold B_112_16 J_112_47_16
      dsimp only
      rw [show L_112_24 (nI s) (nI k) 0 (WF 67 M k) = _ from word_fc (s := s) hk M]
      rcases fc k hk with ⟨g, g2⟩ | ⟨g, -⟩
      · exact absurd g2 hf
      · simp (disch := omega) only [g, lit_nI, ni_ofNat, ni_add, ni_lti, ni_lei, ni_eqi, ni_cl, inb_nI, if_pos, if_neg, if_true, if_false]
    have otc : ∀ k, k < 12 → fitsS n K tb s (frm k) → B_112_16 (nI s) (nI k, WF 67 M k) = some (.inr (.inr (nI k, WF 67 M (k + 1)))) := fun k hk hf => by
      unfold B_112_16 J_112_47_16
      dsimp only
      rw [show L_112_24 (nI s) (nI k) 0 (WF 67 M k) = _ from word_fc (s := s) hk M]
      rcases fc k hk with ⟨g, -⟩ | ⟨g, g2⟩
      · simp (disch := omega) only [g, one_ne, ni_lei, lit_nI, ni_eqi, if_pos, if_neg, if_true, if_false]
      · exact absurd hf g2
    have str : ∀ M1 : IM, (∀ k j, 77 ≤ k → M1 k j = M k j) → ∀ k, k < 12 → ¬ fitsS n K tb s (frm k) → B_216_17 (nI s) (nI k, WF 89 M1 k) = some (.inl (nI (k + 1), WF 89 M1 (k + 1))) := fun M1 hM1 k hk hf => by
      unfold B_216_17 J_216_54_17 J_216_107_17
      dsimp only
      rw [word_fr hk]
      obtain ⟨y, ⟨g, g2⟩ | ⟨g, -⟩⟩ := fr M1 hM1 k hk
      · exact absurd g2 hf
      · dsimp only
        rw [g]
        simp (disch := omega) only [lit_nI, ni_ofNat, ni_add, ni_lti, ni_lei, ni_eqi, ni_cl, inb_nI, if_pos, if_neg, if_true, if_false]
    have otr : ∀ M1 : IM, (∀ k j, 77 ≤ k → M1 k j = M k j) → ∀ k, k < 12 → fitsS n K tb s (frm k) → B_216_17 (nI s) (nI k, WF 89 M1 k) = some (.inr (.inr (nI k, WF 89 M1 (k + 1)))) := fun M1 hM1 k hk hf => by
      unfold B_216_17 J_216_54_17 J_216_107_17
      dsimp only
      rw [word_fr hk]
      obtain ⟨y, ⟨g, -⟩ | ⟨g, g2⟩⟩ := fr M1 hM1 k hk
      · dsimp only
        rw [g]
        simp (disch := omega) only [one_ne, ni_lei, lit_nI, ni_eqi, if_pos, if_neg, if_true, if_false]
      · exact absurd hf g2
    rcases FBcase (fun k => ¬ fitsS n K tb s (frm k)) 12 with h | ⟨f, hf, h1, h2⟩
    · have l1 : L_112_16 (nI s) 0 M = some (.inl (nI 12, WF 67 M 12)) := loopI (B := B_112_16 (nI s)) (fun k => (nI k, WF 67 M k)) 12 (by decide) (fun k hk => stc k hk (h k hk)) rfl
      have hx : F_112 (nI s) M = some (-1000002, iset (WF 67 M 12) 43 2 (WF 67 M 12 43 2 + 1)) := by
        simp only [F_112, e1, one_ne, if_false, l1, J_112_70, Rf2]
      have hM1 : ∀ k j, 77 ≤ k → (iset (WF 67 M 12) 43 2 (WF 67 M 12 43 2 + 1)) k j = M k j := fun k j hk => by
        rw [iset_k (by omega)]; exact (WF_chg 67 M 12).lo (by decide) k j hk
      generalize hm : iset (WF 67 M 12) 43 2 (WF 67 M 12 43 2 + 1) = M1 at hx hM1
      have l2 : L_216_17 (nI s) 0 M1 = some (.inl (nI 12, WF 89 M1 12)) := loopI (B := B_216_17 (nI s)) (fun k => (nI k, WF 89 M1 k)) 12 (by decide) (fun k hk => str M1 hM1 k hk (h k hk)) rfl
      refine ⟨_, _, _, hx, by simp only [F_216, e2 M1 hM1, one_ne, if_false, l2, J_216_119, Rg2]; rfl, hV.rfs (M1 := WF 67 M 12) (e := 2) (WF_chg 67 M 12).f ?_ (by decide)⟩
      rw [hm]
      exact ((WF_chg 89 M1 12).wk (by decide) (by decide)).r
    · have h1' : fitsS n K tb s (frm f) := Classical.not_not.mp h1
      have l1 : L_112_16 (nI s) 0 M = some (.inr (nI f, WF 67 M (f + 1))) := loopI (B := B_112_16 (nI s)) (fun k => (nI k, WF 67 M k)) f (by omega) (fun k hk => stc k (by omega) (h2 k hk)) (otc f hf h1')
      have hM1 : ∀ k j, 77 ≤ k → (WF 67 M (f + 1)) k j = M k j := (WF_chg 67 M (f + 1)).lo (by decide)
      have l2 : L_216_17 (nI s) 0 (WF 67 M (f + 1)) = some (.inr (nI f, WF 89 (WF 67 M (f + 1)) (f + 1))) := loopI (B := B_216_17 (nI s)) (fun k => (nI k, WF 89 (WF 67 M (f + 1)) k)) f (by omega) (fun k hk => str _ hM1 k (by omega) (h2 k hk)) (otr _ hM1 f hf h1')
      refine ⟨nI f, WF 67 M (f + 1), WF 89 (WF 67 M (f + 1)) (f + 1), ?_, ?_, n, K, P, tb, q, hV.a0 (agx.tr (WF_chg 67 M (f + 1)).f ((WF_chg 89 (WF 67 M (f + 1)) (f + 1)).wk (by decide) (by decide)).r)⟩
      · simp only [F_112, e1, one_ne, if_false, l1]
      · simp only [F_216, e2 _ hM1, one_ne, if_false, l2]
  · refine rfu1 hI ?_ (fun M1 hM1 => ?_)
    · simp only [F_112, e1, if_true, Rf1]
    · simp only [F_216, e2 M1 hM1, if_true, Rg1]
