/-! the layer of ints: references stand still once all is made (but for one, the text's tape) -/
abbrev IM : Type := Nat → Nat → Int32
def rTl : List (List Nat) := [[1, 22, 5000, 43, 44, 45, 50, 51, 62, 65, 67, 68], [2, 3, 5000, 4, 5000, 5, 5000], [], [6, 8, 10, 12, 14, 16, 18, 20], [], [], [5000, 5000, 7], [], [5000, 5000, 9], [], [5000, 5000, 11], [], [5000, 5000, 13], [], [5000, 5000, 15], [], [5000, 5000, 17], [], [5000, 5000, 19], [], [5000, 5000, 21], [], [23, 24, 5000, 25, 5000, 26, 5000], [], [27, 29, 31, 33, 35, 37, 39, 41], [], [], [5000, 5000, 28], [], [5000, 5000, 30], [], [5000, 5000, 32], [], [5000, 5000, 34], [], [5000, 5000, 36], [], [5000, 5000, 38], [], [5000, 5000, 40], [], [5000, 5000, 42], [], [], [69, 71, 73, 75], [5001, 5000, 5000, 5000, 5000, 47, 5000, 48, 49], [], [], [], [], [51, 52, 56, 57, 58, 59, 60, 61, 5000, 5000], [52, 53, 54, 5000, 55, 5000], [], [], [], [], [], [], [], [], [], [], [63, 64, 5000, 5000], [], [], [66, 5000, 5000, 5000, 5000], [], [], [], [5000, 5000, 70], [], [5000, 5000, 72], [], [5000, 5000, 74], [], [5000, 5000, 76], [], [78, 79, 5000, 80, 81, 82, 83, 84, 5000, 5000, 5000, 5000, 5000, 85, 5000, 5000, 5000, 5000, 86, 87, 88, 89, 90, 91, 92, 5000, 93, 5000, 5000, 94, 95, 96, 97], [], [], [], [], [], [], [], [], [], [], [], [], [], [], [], [], [], [], [], []]
def tgR (k j : Nat) : Nat := (rTl.getD k []).getD j (bif Nat.beq (kd k) 1 || Nat.beq (kd k) 2 then 5002 else 5000)
def emb (M : IM) : AM := fun k j => bif Nat.beq (tgR k j) 5000 then .int (M k j) else bif Nat.beq (tgR k j) 5001 then .ref (M k j).toNatClampNeg else bif Nat.beq (tgR k j) 5002 then .null else .ref (tgR k j)
def iset (M : IM) (k j : Nat) (x : Int32) : IM := fun k' j' => bif Nat.beq k' k && Nat.beq j' j then x else M k' j'
def icpy (M : IM) (sk sp dk dp m : Nat) : IM := fun k j => bif Nat.beq k dk && Nat.ble dp j && Nat.blt j (dp + m) then M sk (sp + (j - dp)) else M k j
theorem emb_int {M : IM} {k j : Nat} (h : tgR k j = 5000) : emb M k j = .int (M k j) := by
  unfold emb; rw [h]; rfl
theorem emb_ref {M : IM} {k j t : Nat} (h : tgR k j = t) (ht : t < 5000) : emb M k j = .ref t := by
  unfold emb; rw [h, beqf (by omega), beqf (by omega), beqf (by omega)]; rfl
theorem emb_set {M : IM} {k j : Nat} {x : Int32} (h : tgR k j = 5000) : aset (emb M) k j (.int x) = emb (iset M k j x) := by
  funext k' j'
  rw [aset_eq]
  by_cases e : k' = k ∧ j' = j
  · obtain ⟨rfl, rfl⟩ := e
    rw [if_pos ⟨rfl, rfl⟩, emb_int h]
    simp [iset]
  · rw [if_neg e]
    have : iset M k j x k' j' = M k' j' := by
      unfold iset
      by_cases e1 : k' = k
      · by_cases e2 : j' = j
        · exact absurd ⟨e1, e2⟩ e
        · rw [beqf e2, Bool.and_false]; rfl
      · rw [beqf e1, Bool.false_and]; rfl
    unfold emb
    rw [this]
theorem tape_at : tgR 45 0 = 5001 := by decide +kernel
theorem tape_only : ∀ k, k < 98 → ∀ j, j < 40 → tgR k j = 5001 → k = 45 ∧ j = 0 := by decide +kernel
theorem emb_tape {M : IM} {t : Nat} (ht : t < 2 ^ 31) : aset (emb M) 45 0 (.ref t) = emb (iset M 45 0 (nI t)) := by
  funext k' j'
  rw [aset_eq]
  by_cases e : k' = 45 ∧ j' = 0
  · obtain ⟨rfl, rfl⟩ := e
    rw [if_pos ⟨rfl, rfl⟩]
    unfold emb
    rw [tape_at]
    show Value.ref t = Value.ref (iset M 45 0 (nI t) 45 0).toNatClampNeg
    have : iset M 45 0 (nI t) 45 0 = nI t := rfl
    rw [this, nI_clamp ht]
  · rw [if_neg e]
    have : iset M 45 0 (nI t) k' j' = M k' j' := by
      unfold iset
      by_cases e1 : k' = 45
      · by_cases e2 : j' = 0
        · exact absurd ⟨e1, e2⟩ e
        · rw [beqf e2, Bool.and_false]; rfl
      · rw [beqf e1, Bool.false_and]; rfl
    unfold emb
    rw [this]
/-- a row of ints of the world -/
def IA (k : Nat) : Prop := k < 98 ∧ kd k = 0 ∧ rTl.getD k [] = []
theorem IA.tg {k : Nat} (h : IA k) (j : Nat) : tgR k j = 5000 := by unfold tgR; rw [h.2.2, h.2.1]; rfl
theorem IA.len {k : Nat} (h : IA k) (X : AX) : ial X 98 k = some (ln k) := by
  obtain ⟨h1, h2, -⟩ := h
  unfold ial
  rw [Nat.blt_eq.mpr (show k < 999 by omega), Nat.blt_eq.mpr h1, h2]
  rfl
theorem IA.rd {k : Nat} (h : IA k) (X : AX) (M : IM) (j : Nat) : ird X (emb M) k j = M k j := by
  unfold ird
  rw [Nat.blt_eq.mpr (show k < 999 by have := h.1; omega), cond_true, emb_int (h.tg j)]
  rfl
theorem emb_cpy {M : IM} {X : AX} {sk sp dk dp m : Nat} (hs : IA sk) (hd : IA dk) : acpy (emb M) X sk sp dk dp m = emb (icpy M sk sp dk dp m) := by
  funext k j
  unfold acpy
  cases hg : (Nat.beq k dk && Nat.ble dp j && Nat.blt j (dp + m)) with
  | true =>
    rw [cond_true, hs.rd]
    have e : k = dk := by
      simp only [Bool.and_eq_true] at hg
      exact Nat.eq_of_beq_eq_true hg.1.1
    subst e
    rw [emb_int (hd.tg j)]
    unfold icpy
    rw [hg]
    rfl
  | false =>
    have : icpy M sk sp dk dp m k j = M k j := by unfold icpy; rw [hg]; rfl
    rw [cond_false]
    unfold emb
    rw [this]
theorem axB_mono {X : AX} {rc rc' : Nat → Nat → Nat → AL → List Value → Nat → AM → Option (Option Value × Nat × AM)} (hr : ∀ d i pc ls st n μ r, rc d i pc ls st n μ = some r → rc' d i pc ls st n μ = some r) {d i pc : Nat} {ls : AL} {st : List Value} {n : Nat} {μ : AM} {r : Option Value × Nat × AM} (h : axB X rc d i pc ls st n μ = some r) : axB X rc' d i pc ls st n μ = some r := by
  unfold axB at h ⊢
  cases hit : it i pc with
  | none => rw [hit] at h; cases h
  | some q =>
    obtain ⟨ins, len, a, b⟩ := q
    rw [hit] at h
    dsimp only at h ⊢
    cases he : isend ins with
    | true => rw [he] at h; exact h
    | false =>
      rw [he, cond_false] at h
      rw [cond_false]
      cases hc : Nat.beq (acall ins) 0 with
      | true =>
        rw [hc, cond_true] at h
        rw [cond_true]
        split at h
        · exact hr _ _ _ _ _ _ _ _ h
        · cases h
      | false =>
        rw [hc, cond_false] at h
        rw [cond_false]
        cases h0 : Nat.beq a 1000 with
        | true =>
          rw [h0, cond_true] at h
          rw [cond_true]
          split at h
          · rename_i k r'
            generalize hg : (Nat.beq (acall ins) 3 && Nat.blt 0 d && arest r') = g at h
            cases g with
            | false => cases h
            | true => exact hr _ _ _ _ _ _ _ _ h
          · cases h
        | false =>
          rw [h0, cond_false] at h
          rw [cond_false]
          cases h1 : Nat.beq a 1001 with
          | true =>
            rw [h1, cond_true] at h
            rw [cond_true]
            split at h
            · split at h
              · simp only [cond] at h ⊢
                split at h
                · exact hr _ _ _ _ _ _ _ _ h
                · cases h
              · cases h
            · cases h
          | false =>
            rw [h1, cond_false] at h
            rw [cond_false]
            cases h2 : Nat.beq a 1002 with
            | true =>
              rw [h2, cond_true] at h
              rw [cond_true]
              split at h
              · rename_i y x r'
                generalize hg : (Nat.beq (acall ins) 2 && Nat.blt 0 d && arest r') = g at h
                cases g with
                | false => cases h
                | true => exact hr _ _ _ _ _ _ _ _ h
              · cases h
            | false =>
              rw [h2, cond_false] at h
              rw [cond_false]
              cases h3 : Nat.beq a 1003 with
              | true =>
                rw [h3, cond_true] at h
                rw [cond_true]
                split at h
                · rename_i y x r'
                  generalize hg : (Nat.beq (acall ins) 2 && Nat.blt 0 d && arest r') = g at h
                  cases g with
                  | false => cases h
                  | true => exact hr _ _ _ _ _ _ _ _ h
                · cases h
              | false =>
                rw [h3, cond_false] at h
                rw [cond_false]
                cases d with
                | zero => cases h
                | succ d' =>
                  dsimp only at h ⊢
                  cases ht : atake (bif Nat.beq (acall ins) 2 then mP a else mP a + 1) st [] with
                  | none => rw [ht] at h; cases h
                  | some q =>
                    obtain ⟨as, r'⟩ := q
                    rw [ht] at h
                    dsimp only at h ⊢
                    cases hg : (arest r' && arecv (acall ins) n a as && Nat.ble (aent as).length (mL a)) with
                    | false => rw [hg] at h; cases h
                    | true =>
                      rw [hg, cond_true] at h
                      rw [cond_true]
                      cases hcal : rc d' a 0 (apad as (mL a)) [] n μ with
                      | none => rw [hcal] at h; cases h
                      | some q2 =>
                        obtain ⟨v', n', μ'⟩ := q2
                        rw [hcal] at h
                        rw [hr _ _ _ _ _ _ _ _ hcal]
                        exact hr _ _ _ _ _ _ _ _ h
theorem ax_mono {X : AX} : ∀ (f d i pc : Nat) (ls : AL) (st : List Value) (n : Nat) (μ : AM) (r : Option Value × Nat × AM), ax X f d i pc ls st n μ = some r → ∀ g, f ≤ g → ax X g d i pc ls st n μ = some r := by
  intro f
  induction f with
  | zero => intro d i pc ls st n μ r h; cases h
  | succ f ih =>
    intro d i pc ls st n μ r h g hg
    obtain ⟨g', rfl⟩ : ∃ g', g = g' + 1 := ⟨g - 1, by omega⟩
    exact axB_mono (rc := ax X f) (rc' := ax X g') (fun d i pc ls st n μ r h => ih d i pc ls st n μ r h g' (by omega)) h
def Rc (X : AX) (d i pc : Nat) (ls : AL) (st : List Value) (M : IM) (v : Option Value) (M' : IM) : Prop := ∃ f, ax X f d i pc ls st 98 (emb M) = some (v, 98, emb M')
section RC
variable {X : AX} {d i pc pc' : Nat} {ls ls' : AL} {st st' : List Value} {M M1 M' : IM} {v : Option Value}
theorem amask_idem : ∀ (ls : AL) (b : Nat), amask b (amask b ls) = amask b ls := by
  intro ls
  induction ls with
  | nil => intro b; rfl
  | cons x r ih =>
    intro b
    simp only [amask, ih]
    cases Nat.beq (b % 2) 1 <;> rfl
theorem amk_idem : amk i pc (amk i pc ls) = amk i pc ls := by
  unfold amk
  cases mkT i pc with
  | zero => rfl
  | succ b => exact amask_idem ls b
theorem Rc.mask {b : Nat} (hm : mkT i pc = b + 1) (hl : amask b ls = ls') (h : Rc X d i pc ls' st M v M') : Rc X d i pc ls st M v M' := by
  have e : amk i pc ls = ls' := by unfold amk; rw [hm]; exact hl
  obtain ⟨f, h⟩ := h
  cases f with
  | zero => cases h
  | succ f =>
    refine ⟨f + 1, ?_⟩
    have h' : axB X (ax X f) d i pc ls' st 98 (emb M) = some (v, 98, emb M') := h
    show axB X (ax X f) d i pc ls st 98 (emb M) = some (v, 98, emb M')
    rw [← h']
    unfold axB
    rw [← e, amk_idem]
theorem Rc.step {ins : Instr} {len a b : Nat} (hit : it i pc = some (ins, len, a, b)) (he : isend ins = false) (hc : Nat.beq (acall ins) 0 = true) (hs : astep X ins len a b pc (amk i pc ls) st 98 (emb M) = some (pc', ls', st', 98, emb M1)) (h : Rc X d i pc' ls' st' M1 v M') : Rc X d i pc ls st M v M' := by
  obtain ⟨f, h⟩ := h
  refine ⟨f + 1, ?_⟩
  show axB X (ax X f) d i pc ls st 98 (emb M) = _
  unfold axB
  rw [hit]
  dsimp only
  rw [he, hc, cond_false, cond_true, hs]
  exact h
/-- steps that are neither calls nor ends -/
def arn (X : AX) (T : Nat → Option (Instr × Nat × Nat × Nat)) (K : Nat → Nat) (bd : Nat) : Nat → Nat → AL → List Value → AM → Option (Nat × AL × List Value × AM)
  | 0, pc, ls, st, μ => some (pc, ls, st, μ)
  | k + 1, pc, ls, st, μ => match (bif Nat.blt pc bd then T pc else none) with
    | none => none
    | some (ins, len, a, b) => bif isend ins || !(Nat.beq (acall ins) 0) then none else match astep X ins len a b pc (match K pc with | 0 => ls | q + 1 => amask q ls) st 98 μ with
      | some (pc', ls', st', n', μ') => bif Nat.beq n' 98 then arn X T K bd k pc' ls' st' μ' else none
      | none => none
def Tb (i : Nat) (T : Nat → Option (Instr × Nat × Nat × Nat)) (K : Nat → Nat) (bd : Nat) : Prop := (∀ pc, it i pc = bif Nat.blt pc bd then T pc else none) ∧ ∀ pc, mkT i pc = K pc
theorem Rc.run {T : Nat → Option (Instr × Nat × Nat × Nat)} {K : Nat → Nat} {bd : Nat} (hT : Tb i T K bd) : ∀ (k : Nat) {pc pc' : Nat} {ls ls' : AL} {st st' : List Value} {M M1 : IM} {μ : AM}, μ = emb M → arn X T K bd k pc ls st μ = some (pc', ls', st', emb M1) → Rc X d i pc' ls' st' M1 v M' → Rc X d i pc ls st M v M' := by
  intro k
  have key : ∀ (k : Nat) (pc pc' : Nat) (ls ls' : AL) (st st' : List Value) (μ : AM) (M1 : IM), arn X T K bd k pc ls st μ = some (pc', ls', st', emb M1) → Rc X d i pc' ls' st' M1 v M' → ∃ f, ax X f d i pc ls st 98 μ = some (v, 98, emb M') := by
    intro k
    induction k with
    | zero => intro pc pc' ls ls' st st' μ M1 h hr; cases h; exact hr
    | succ k ih =>
      intro pc pc' ls ls' st st' μ M1 h hr
      unfold arn at h
      split at h
      · cases h
      · rename_i ins len a b hit
        generalize hg : (isend ins || !(Nat.beq (acall ins) 0)) = g at h
        cases g with
        | true => cases h
        | false =>
          simp only [cond_false] at h
          simp only [Bool.or_eq_false_iff, Bool.not_eq_false'] at hg
          split at h
          · rename_i pc1 ls1 st1 n1 μ1 hs
            cases hn : Nat.beq n1 98 with
            | false => rw [hn] at h; cases h
            | true =>
              rw [hn, cond_true] at h
              have e := Nat.eq_of_beq_eq_true hn
              subst e
              obtain ⟨f, hf⟩ := ih pc1 pc' ls1 ls' st1 st' μ1 M1 h hr
              refine ⟨f + 1, ?_⟩
              show axB X (ax X f) d i pc ls st 98 μ = _
              unfold axB
              rw [hT.1 pc, hit]
              dsimp only
              rw [hg.1, hg.2, cond_false, cond_true]
              have em : amk i pc ls = (match K pc with | 0 => ls | q + 1 => amask q ls) := by unfold amk; rw [hT.2 pc]; all_goals (cases K pc <;> rfl)
              rw [em, hs]
              exact hf
          · cases h
  intro pc pc' ls ls' st st' M M1 μ e h hr
  subst e
  exact key k pc pc' ls ls' st st' _ M1 h hr
theorem Rc.iret {ins : Instr} {len a b : Nat} {x : Int32} {T : Nat → Option (Instr × Nat × Nat × Nat)} {K : Nat → Nat} {bd : Nat} (hT : Tb i T K bd) (hit : (bif Nat.blt pc bd then T pc else none) = some (.ireturn, len, a, b)) (hr : mR i = some .int) : Rc X d i pc ls [.int x] M (some (.int x)) M := by
  refine ⟨1, ?_⟩
  show axB X (ax X 0) d i pc ls [.int x] 98 (emb M) = _
  unfold axB
  rw [hT.1 pc, hit]
  dsimp only
  rw [hr]
  rfl
theorem Rc.zret {len a b : Nat} {x : Int32} {T : Nat → Option (Instr × Nat × Nat × Nat)} {K : Nat → Nat} {bd : Nat} (hT : Tb i T K bd) (hit : (bif Nat.blt pc bd then T pc else none) = some (.ireturn, len, a, b)) (hr : mR i = some .boolean) (hx : x = 0 ∨ x = 1) : Rc X d i pc ls [.int x] M (some (.int x)) M := by
  refine ⟨1, ?_⟩
  show axB X (ax X 0) d i pc ls [.int x] 98 (emb M) = _
  unfold axB
  rw [hT.1 pc, hit]
  dsimp only
  rw [hr]
  rcases hx with rfl | rfl <;> rfl
theorem Rc.lret {len a b : Nat} {x : Int64} {T : Nat → Option (Instr × Nat × Nat × Nat)} {K : Nat → Nat} {bd : Nat} (hT : Tb i T K bd) (hit : (bif Nat.blt pc bd then T pc else none) = some (.lreturn, len, a, b)) (hr : mR i = some .long) : Rc X d i pc ls [.long x] M (some (.long x)) M := by
  refine ⟨1, ?_⟩
  show axB X (ax X 0) d i pc ls [.long x] 98 (emb M) = _
  unfold axB
  rw [hT.1 pc, hit]
  dsimp only
  rw [hr]
  rfl
theorem Rc.vret {len a b : Nat} {T : Nat → Option (Instr × Nat × Nat × Nat)} {K : Nat → Nat} {bd : Nat} (hT : Tb i T K bd) (hit : (bif Nat.blt pc bd then T pc else none) = some (.return_, len, a, b)) (hr : mR i = none) : Rc X d i pc ls [] M none M := by
  refine ⟨1, ?_⟩
  show axB X (ax X 0) d i pc ls [] 98 (emb M) = _
  unfold axB
  rw [hT.1 pc, hit]
  dsimp only
  rw [hr]
  rfl
end RC
