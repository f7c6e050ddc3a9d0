/-! the start: memory behind both constructors, as numbers -/
def rck (t : Nat) (v : Value) : Bool := bif Nat.beq t 5000 then true else match v with
  | .ref q => bif Nat.beq t 5001 then Nat.beq q 46 else Nat.beq q t && Nat.blt t 5000
  | _ => false
def iok (μ : AM) (k j : Nat) (x : Int32) : Bool := decide (toI (μ k j) = x)
def ini1 (μ : AM) : Bool := (List.range 12).all (fun h => iok μ 2 h 3 && iok μ 78 (10 + h) 3) && iok μ 1 2 0 && iok μ 1 4 0 && iok μ 1 6 0 && iok μ 78 0 0 && iok μ 78 1 0 && iok μ 78 2 0 && iok μ 0 2 0 && iok μ 77 2 0 && iok μ 65 1 0 && iok μ 77 27 0
def ini2 (μ : AM) : Bool := (List.range 6).all (fun k => iok μ 43 k 0 && iok μ 80 k 0) && (List.range 4).all (fun s => iok μ (69 + 2 * s) 0 0 && iok μ (69 + 2 * s) 1 0 && iok μ 94 s 0 && iok μ 95 s 0)
def ini3 (μ : AM) : Bool := (List.range 7).all (fun k => iok μ 81 k (nI (fcs k))) && (List.range 6).all (fun k => (List.range (mny k)).all (fun i => iok μ 82 (fcs k + i) (nI (fa k i)) && iok μ 83 (fcs k + i) (if pr k = true then nI (fb k i) else -1) && iok μ 84 (fcs k + i) (nI (fwh k i))))
def ini4 (μ : AM) : Bool := (List.range 256).all (fun s => iok μ 68 s (-2))
def refsOk (μ : AM) : Bool := (List.range 98).all (fun k => (List.range (rTl.getD k []).length).all (fun j => rck (tgR k j) (μ k j)))
def iniAll (μ : AM) : Bool := refsOk μ && ini1 μ && ini2 μ && ini3 μ && ini4 μ
set_option maxRecDepth 100000 in
theorem ini_k : (match r150 with | some (_, _, μ) => iniAll μ | none => false) = true := by decide +kernel
theorem ini_d : iniAll μd = true := by
  have h := ini_k
  rw [r150_eq] at h
  exact h
def M0 : IM := fun k j => match μd k j with | .int x => x | .ref t => nI t | _ => 0
set_option maxRecDepth 100000 in
theorem tgLen : ∀ k, k < 98 → kd k = 1 ∨ kd k = 2 → ln k ≤ (rTl.getD k []).length := by decide +kernel
theorem rTl_len : rTl.length = 98 := by decide +kernel
theorem M0_emb : emb M0 = μd := by
  have hi := ini_d
  unfold iniAll at hi
  simp only [Bool.and_eq_true] at hi
  have hr : refsOk μd = true := hi.1.1.1.1
  funext k j
  by_cases h5 : tgR k j = 5000
  · rw [emb_int h5]
    obtain ⟨x, hx⟩ := Gd_d.2 k j h5
    unfold M0
    rw [hx]
  · by_cases hj : j < (rTl.getD k []).length
    · have hk : k < 98 := by
        by_cases e : k < 98
        · exact e
        · exfalso
          rw [List.getD_eq_getElem?_getD, List.getElem?_eq_none (by rw [rTl_len]; omega)] at hj
          exact absurd hj (Nat.not_lt_zero _)
      have hc := List.all_eq_true.mp (List.all_eq_true.mp hr k (List.mem_range.mpr hk)) j (List.mem_range.mpr hj)
      unfold rck at hc
      rw [beqf h5, cond_false] at hc
      cases hv : μd k j with
      | ref q =>
        rw [hv] at hc
        dsimp only at hc
        by_cases h1 : tgR k j = 5001
        · rw [h1] at hc
          have hq : q = 46 := Nat.eq_of_beq_eq_true hc
          subst hq
          unfold emb
          rw [h1]
          show Value.ref (M0 k j).toNatClampNeg = _
          have : M0 k j = nI 46 := by unfold M0; rw [hv]
          rw [this]
          rfl
        · rw [beqf h1, cond_false, Bool.and_eq_true] at hc
          have hq : q = tgR k j := Nat.eq_of_beq_eq_true hc.1
          rw [emb_ref rfl (Nat.blt_eq.mp hc.2), hq]
      | _ => rw [hv] at hc; cases hc
    · have ht : tgR k j = (bif Nat.beq (kd k) 1 || Nat.beq (kd k) 2 then 5002 else 5000) := by
        unfold tgR
        rw [List.getD_eq_getElem?_getD, List.getElem?_eq_none (Nat.not_lt.mp hj)]
        rfl
      have hkd : kd k = 1 ∨ kd k = 2 := by
        by_cases a : kd k = 1
        · exact Or.inl a
        · by_cases b : kd k = 2
          · exact Or.inr b
          · rw [beqf a, beqf b] at ht; exact absurd ht h5
      have hk : k < 98 := by rcases hkd with h | h <;> exact kd_lt h (by decide)
      have hd := Gd_d.1.2 k j hk (Nat.le_trans (tgLen k hk hkd) (Nat.not_lt.mp hj))
      have h2 : tgR k j = 5002 := by rw [ht]; rcases hkd with h | h <;> rw [h] <;> rfl
      rw [hd]
      unfold emb dfl
      rw [h2]
      rcases hkd with h | h <;> rw [h] <;> rfl
theorem M0_i {k j : Nat} {x : Int32} (h : iok μd k j x = true) (ht : tgR k j = 5000) : M0 k j = x := by
  have h1 := of_decide_eq_true h
  obtain ⟨y, hy⟩ := Gd_d.2 k j ht
  unfold M0
  rw [hy] at h1 ⊢
  exact h1
/-! the law: from its first instruction to its loop -/
theorem ax_st {X : AX} {f d i pc pc' n n' : Nat} {ls ls' : AL} {st st' : List Value} {μ μ' : AM} {ins : Instr} {len a b : Nat} {r : Option Value × Nat × AM} (hit : it i pc = some (ins, len, a, b)) (he : isend ins = false) (hc : Nat.beq (acall ins) 0 = true) (hs : astep X ins len a b pc (amk i pc ls) st n μ = some (pc', ls', st', n', μ')) (h : ax X f d i pc' ls' st' n' μ' = some r) : ax X (f + 1) d i pc ls st n μ = some r := by
  show axB X (ax X f) d i pc ls st n μ = _
  unfold axB
  rw [hit]
  dsimp only
  rw [he, hc, cond_false, cond_true, hs]
  exact h
theorem ax_call {X : AX} {f d i pc n n' j b len ix : Nat} {ls : AL} {st rr : List Value} {as : List Value} {μ μ' : AM} {v : Option Value} {r : Option Value × Nat × AM} (hit : it i pc = some (.invokespecial ix, len, j, b)) (hj : j < 1000) (hta : atake (mP j + 1) st [] = some (as, rr)) (hg : (arest rr && arecv 3 n j as && Nat.ble (aent as).length (mL j)) = true)
    (h1 : ax X f d j 0 (apad as (mL j)) [] n μ = some (v, n', μ')) (h : ax X f (d + 1) i (pc + 3) (amk i pc ls) (v.toList ++ rr) n' μ' = some r) : ax X (f + 1) (d + 1) i pc ls st n μ = some r := by
  show axB X (ax X f) (d + 1) i pc ls st n μ = _
  unfold axB
  rw [hit]
  dsimp only
  rw [show isend (.invokespecial ix) = false from rfl, show acall (.invokespecial ix) = 3 from rfl, show Nat.beq 3 0 = false from rfl, show Nat.beq 3 2 = false from rfl, cond_false, cond_false, beqf (show ¬ j = 1000 by omega), beqf (show ¬ j = 1001 by omega), beqf (show ¬ j = 1002 by omega), beqf (show ¬ j = 1003 by omega)]
  simp only [cond_false]
  rw [hta]
  dsimp only
  rw [hg, cond_true, h1]
  exact h
theorem law_of {X : AX} {i : Int32} {M1 : IM} (h : L_258_18 X 0 M0 = some (.inl (i, M1))) : ∃ f, ax X f 2000 258 0 (apad [.ref 999] 4) [] 0 μ0 = some (some (.int 1), 98, emb M1) := by
  have h18 : Rc X 2000 258 18 [some (.ref (999)), some (.ref (0)), some (.ref (77)), some (.int (0))] [] M0 (some (.int 1)) M1 := by
    refine TL_258_18 (by decide) h ?_
    show Rc X 2000 258 1398 [none, none, none, none] [] M1 (some (.int 1)) M1
    refine Rc.run tb_258 1 (pc' := 1399) (ls' := [none, none, none, none]) (st' := [.int 1]) rfl rfl ?_
    exact Rc.zret tb_258 rfl mR_258 (Or.inr rfl)
  obtain ⟨f, hf⟩ := h18
  rw [M0_emb] at hf
  have g1 := ax_mono (X := X) 12000 _ _ _ _ _ _ _ _ (axS_ok (X := X) _ _ _ _ _ _ _ _ _ r92_eq) (f + 12007) (by omega)
  have g2 := ax_mono (X := X) 12000 _ _ _ _ _ _ _ _ (axS_ok (X := X) _ _ _ _ _ _ _ _ _ r150_eq) (f + 12003) (by omega)
  have hf := ax_mono (X := X) f _ _ _ _ _ _ _ _ hf (f + 12000) (by omega)
  refine ⟨f + 12000 + 10, ?_⟩
  refine ax_st (ins := .new 7) (len := 3) (a := 8) (b := 0) (pc' := 3) (ls' := [some (.ref 999), none, none, none]) (st' := [.ref 0]) (n' := 1) (μ' := μa) rfl rfl rfl rfl ?_
  refine ax_st (ins := .dup) (len := 1) (a := 0) (b := 0) (pc' := 4) (ls' := [some (.ref 999), none, none, none]) (st' := [.ref 0, .ref 0]) (n' := 1) (μ' := μa) rfl rfl rfl rfl ?_
  refine ax_call (ix := 9) (len := 3) (j := 92) (b := 0) (d := 1999) (as := [.ref 0]) (rr := [.ref 0]) (v := none) rfl (by decide) rfl rfl g1 ?_
  refine ax_st (ins := .astore_n 1) (len := 1) (a := 0) (b := 0) (pc' := 8) (ls' := [some (.ref 999), some (.ref 0), none, none]) (st' := []) (n' := 77) (μ' := μb) rfl rfl rfl rfl ?_
  refine ax_st (ins := .new 10) (len := 3) (a := 9) (b := 0) (pc' := 11) (ls' := [some (.ref 999), some (.ref 0), none, none]) (st' := [.ref 77]) (n' := 78) (μ' := μc) rfl rfl rfl rfl ?_
  refine ax_st (ins := .dup) (len := 1) (a := 0) (b := 0) (pc' := 12) (ls' := [some (.ref 999), some (.ref 0), none, none]) (st' := [.ref 77, .ref 77]) (n' := 78) (μ' := μc) rfl rfl rfl rfl ?_
  refine ax_call (ix := 12) (len := 3) (j := 150) (b := 0) (d := 1999) (as := [.ref 77]) (rr := [.ref 77]) (v := none) rfl (by decide) rfl rfl g2 ?_
  refine ax_st (ins := .astore_n 2) (len := 1) (a := 0) (b := 0) (pc' := 16) (ls' := [some (.ref 999), some (.ref 0), some (.ref 77), none]) (st' := []) (n' := 98) (μ' := μd) rfl rfl rfl rfl ?_
  refine ax_st (ins := .iconst 0) (len := 1) (a := 0) (b := 0) (pc' := 17) (ls' := [some (.ref 999), some (.ref 0), some (.ref 77), none]) (st' := [.int 0]) (n' := 98) (μ' := μd) rfl rfl rfl rfl ?_
  refine ax_st (ins := .istore_n 3) (len := 1) (a := 0) (b := 0) (pc' := 18) (ls' := [some (.ref 999), some (.ref 0), some (.ref 77), some (.int 0)]) (st' := []) (n' := 98) (μ' := μd) rfl rfl rfl rfl ?_
  exact hf
