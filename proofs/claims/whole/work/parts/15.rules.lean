/-! rules of the layer of ints -/
/-- a row of ints of a length -/
def IAn (k n : Nat) : Prop := IA k ∧ ln k = n
section RC2
variable {X : AX} {d i pc pc1 : Nat} {ls ls' : AL} {st : List Value} {M M' : IM} {v : Option Value} {T : Nat → Option (Instr × Nat × Nat × Nat)} {K : Nat → Nat} {bd : Nat} {len a b : Nat}
def msk (K : Nat → Nat) (pc : Nat) (ls : AL) : AL := match K pc with | 0 => ls | q + 1 => amask q ls
theorem msk_eq (hT : Tb i T K bd) : amk i pc ls = msk K pc ls := by unfold amk msk; rw [hT.2 pc]; all_goals (cases K pc <;> rfl)
def At0 (T : Nat → Option (Instr × Nat × Nat × Nat)) (bd pc : Nat) : Option (Instr × Nat × Nat × Nat) := bif Nat.blt pc bd then T pc else none
/-- one step by rule -/
theorem Rc.st1 {ins : Instr} {pc' : Nat} {ls1 : AL} {st0 st' : List Value} {M1 : IM} (hT : Tb i T K bd) (hit : At0 T bd pc = some (ins, len, a, b)) (hm : msk K pc ls = ls') (he : isend ins = false) (hc : Nat.beq (acall ins) 0 = true) (hs : astep X ins len a b pc ls' st0 98 (emb M) = some (pc', ls1, st', 98, emb M1)) (h : Rc X d i pc' ls1 st' M1 v M') : Rc X d i pc ls st0 M v M' :=
  Rc.step ((hT.1 pc).trans hit) he hc (by rw [msk_eq hT, hm]; exact hs) h
theorem Rc.icmp_eq {x y : Int32} {off : Int} (hT : Tb i T K bd) (hit : At0 T bd pc = some (.if_icmp .eq off, len, a, b)) (hm : msk K pc ls = ls') (ht : tok pc off = true) (hg : tgt pc off = pc1) (h1 : x = y → Rc X d i pc1 ls' st M v M') (h2 : ¬ x = y → Rc X d i (pc + 3) ls' st M v M') : Rc X d i pc ls (.int y :: .int x :: st) M v M' := by
  by_cases q : x = y
  · refine Rc.st1 hT hit hm rfl rfl ?_ (h1 q)
    simp only [astep]
    rw [ht, cond_true, show cmp0 .eq x y = true from decide_eq_true q, cond_true, hg]
  · refine Rc.st1 hT hit hm rfl rfl ?_ (h2 q)
    simp only [astep]
    rw [ht, cond_true, show cmp0 .eq x y = false from decide_eq_false q, cond_false]
theorem Rc.if_eq {x : Int32} {off : Int} (hT : Tb i T K bd) (hit : At0 T bd pc = some (.ifCond .eq off, len, a, b)) (hm : msk K pc ls = ls') (ht : tok pc off = true) (hg : tgt pc off = pc1) (h1 : x = 0 → Rc X d i pc1 ls' st M v M') (h2 : ¬ x = 0 → Rc X d i (pc + 3) ls' st M v M') : Rc X d i pc ls (.int x :: st) M v M' := by
  by_cases q : x = 0
  · refine Rc.st1 hT hit hm rfl rfl ?_ (h1 q)
    simp only [astep]
    rw [ht, cond_true, show cmp0 .eq x 0 = true from decide_eq_true q, cond_true, hg]
  · refine Rc.st1 hT hit hm rfl rfl ?_ (h2 q)
    simp only [astep]
    rw [ht, cond_true, show cmp0 .eq x 0 = false from decide_eq_false q, cond_false]
theorem Rc.icmp_ne {x y : Int32} {off : Int} (hT : Tb i T K bd) (hit : At0 T bd pc = some (.if_icmp .ne off, len, a, b)) (hm : msk K pc ls = ls') (ht : tok pc off = true) (hg : tgt pc off = pc1) (h1 : x = y → Rc X d i (pc + 3) ls' st M v M') (h2 : ¬ x = y → Rc X d i pc1 ls' st M v M') : Rc X d i pc ls (.int y :: .int x :: st) M v M' := by
  by_cases q : x = y
  · refine Rc.st1 hT hit hm rfl rfl ?_ (h1 q)
    simp only [astep]
    rw [ht, cond_true, show cmp0 .ne x y = false from decide_eq_false (fun z => z q), cond_false]
  · refine Rc.st1 hT hit hm rfl rfl ?_ (h2 q)
    simp only [astep]
    rw [ht, cond_true, show cmp0 .ne x y = true from decide_eq_true q, cond_true, hg]
theorem Rc.if_ne {x : Int32} {off : Int} (hT : Tb i T K bd) (hit : At0 T bd pc = some (.ifCond .ne off, len, a, b)) (hm : msk K pc ls = ls') (ht : tok pc off = true) (hg : tgt pc off = pc1) (h1 : x = 0 → Rc X d i (pc + 3) ls' st M v M') (h2 : ¬ x = 0 → Rc X d i pc1 ls' st M v M') : Rc X d i pc ls (.int x :: st) M v M' := by
  by_cases q : x = 0
  · refine Rc.st1 hT hit hm rfl rfl ?_ (h1 q)
    simp only [astep]
    rw [ht, cond_true, show cmp0 .ne x 0 = false from decide_eq_false (fun z => z q), cond_false]
  · refine Rc.st1 hT hit hm rfl rfl ?_ (h2 q)
    simp only [astep]
    rw [ht, cond_true, show cmp0 .ne x 0 = true from decide_eq_true q, cond_true, hg]
theorem Rc.icmp_lt {x y : Int32} {off : Int} (hT : Tb i T K bd) (hit : At0 T bd pc = some (.if_icmp .lt off, len, a, b)) (hm : msk K pc ls = ls') (ht : tok pc off = true) (hg : tgt pc off = pc1) (h1 : x < y → Rc X d i pc1 ls' st M v M') (h2 : ¬ x < y → Rc X d i (pc + 3) ls' st M v M') : Rc X d i pc ls (.int y :: .int x :: st) M v M' := by
  by_cases q : x < y
  · refine Rc.st1 hT hit hm rfl rfl ?_ (h1 q)
    simp only [astep]
    rw [ht, cond_true, show cmp0 .lt x y = true from decide_eq_true q, cond_true, hg]
  · refine Rc.st1 hT hit hm rfl rfl ?_ (h2 q)
    simp only [astep]
    rw [ht, cond_true, show cmp0 .lt x y = false from decide_eq_false q, cond_false]
theorem Rc.if_lt {x : Int32} {off : Int} (hT : Tb i T K bd) (hit : At0 T bd pc = some (.ifCond .lt off, len, a, b)) (hm : msk K pc ls = ls') (ht : tok pc off = true) (hg : tgt pc off = pc1) (h1 : x < 0 → Rc X d i pc1 ls' st M v M') (h2 : ¬ x < 0 → Rc X d i (pc + 3) ls' st M v M') : Rc X d i pc ls (.int x :: st) M v M' := by
  by_cases q : x < 0
  · refine Rc.st1 hT hit hm rfl rfl ?_ (h1 q)
    simp only [astep]
    rw [ht, cond_true, show cmp0 .lt x 0 = true from decide_eq_true q, cond_true, hg]
  · refine Rc.st1 hT hit hm rfl rfl ?_ (h2 q)
    simp only [astep]
    rw [ht, cond_true, show cmp0 .lt x 0 = false from decide_eq_false q, cond_false]
theorem Rc.icmp_ge {x y : Int32} {off : Int} (hT : Tb i T K bd) (hit : At0 T bd pc = some (.if_icmp .ge off, len, a, b)) (hm : msk K pc ls = ls') (ht : tok pc off = true) (hg : tgt pc off = pc1) (h1 : y ≤ x → Rc X d i pc1 ls' st M v M') (h2 : ¬ y ≤ x → Rc X d i (pc + 3) ls' st M v M') : Rc X d i pc ls (.int y :: .int x :: st) M v M' := by
  by_cases q : y ≤ x
  · refine Rc.st1 hT hit hm rfl rfl ?_ (h1 q)
    simp only [astep]
    rw [ht, cond_true, show cmp0 .ge x y = true from decide_eq_true q, cond_true, hg]
  · refine Rc.st1 hT hit hm rfl rfl ?_ (h2 q)
    simp only [astep]
    rw [ht, cond_true, show cmp0 .ge x y = false from decide_eq_false q, cond_false]
theorem Rc.if_ge {x : Int32} {off : Int} (hT : Tb i T K bd) (hit : At0 T bd pc = some (.ifCond .ge off, len, a, b)) (hm : msk K pc ls = ls') (ht : tok pc off = true) (hg : tgt pc off = pc1) (h1 : 0 ≤ x → Rc X d i pc1 ls' st M v M') (h2 : ¬ 0 ≤ x → Rc X d i (pc + 3) ls' st M v M') : Rc X d i pc ls (.int x :: st) M v M' := by
  by_cases q : 0 ≤ x
  · refine Rc.st1 hT hit hm rfl rfl ?_ (h1 q)
    simp only [astep]
    rw [ht, cond_true, show cmp0 .ge x 0 = true from decide_eq_true q, cond_true, hg]
  · refine Rc.st1 hT hit hm rfl rfl ?_ (h2 q)
    simp only [astep]
    rw [ht, cond_true, show cmp0 .ge x 0 = false from decide_eq_false q, cond_false]
theorem Rc.icmp_gt {x y : Int32} {off : Int} (hT : Tb i T K bd) (hit : At0 T bd pc = some (.if_icmp .gt off, len, a, b)) (hm : msk K pc ls = ls') (ht : tok pc off = true) (hg : tgt pc off = pc1) (h1 : y < x → Rc X d i pc1 ls' st M v M') (h2 : ¬ y < x → Rc X d i (pc + 3) ls' st M v M') : Rc X d i pc ls (.int y :: .int x :: st) M v M' := by
  by_cases q : y < x
  · refine Rc.st1 hT hit hm rfl rfl ?_ (h1 q)
    simp only [astep]
    rw [ht, cond_true, show cmp0 .gt x y = true from decide_eq_true q, cond_true, hg]
  · refine Rc.st1 hT hit hm rfl rfl ?_ (h2 q)
    simp only [astep]
    rw [ht, cond_true, show cmp0 .gt x y = false from decide_eq_false q, cond_false]
theorem Rc.if_gt {x : Int32} {off : Int} (hT : Tb i T K bd) (hit : At0 T bd pc = some (.ifCond .gt off, len, a, b)) (hm : msk K pc ls = ls') (ht : tok pc off = true) (hg : tgt pc off = pc1) (h1 : 0 < x → Rc X d i pc1 ls' st M v M') (h2 : ¬ 0 < x → Rc X d i (pc + 3) ls' st M v M') : Rc X d i pc ls (.int x :: st) M v M' := by
  by_cases q : 0 < x
  · refine Rc.st1 hT hit hm rfl rfl ?_ (h1 q)
    simp only [astep]
    rw [ht, cond_true, show cmp0 .gt x 0 = true from decide_eq_true q, cond_true, hg]
  · refine Rc.st1 hT hit hm rfl rfl ?_ (h2 q)
    simp only [astep]
    rw [ht, cond_true, show cmp0 .gt x 0 = false from decide_eq_false q, cond_false]
theorem Rc.icmp_le {x y : Int32} {off : Int} (hT : Tb i T K bd) (hit : At0 T bd pc = some (.if_icmp .le off, len, a, b)) (hm : msk K pc ls = ls') (ht : tok pc off = true) (hg : tgt pc off = pc1) (h1 : x ≤ y → Rc X d i pc1 ls' st M v M') (h2 : ¬ x ≤ y → Rc X d i (pc + 3) ls' st M v M') : Rc X d i pc ls (.int y :: .int x :: st) M v M' := by
  by_cases q : x ≤ y
  · refine Rc.st1 hT hit hm rfl rfl ?_ (h1 q)
    simp only [astep]
    rw [ht, cond_true, show cmp0 .le x y = true from decide_eq_true q, cond_true, hg]
  · refine Rc.st1 hT hit hm rfl rfl ?_ (h2 q)
    simp only [astep]
    rw [ht, cond_true, show cmp0 .le x y = false from decide_eq_false q, cond_false]
theorem Rc.if_le {x : Int32} {off : Int} (hT : Tb i T K bd) (hit : At0 T bd pc = some (.ifCond .le off, len, a, b)) (hm : msk K pc ls = ls') (ht : tok pc off = true) (hg : tgt pc off = pc1) (h1 : x ≤ 0 → Rc X d i pc1 ls' st M v M') (h2 : ¬ x ≤ 0 → Rc X d i (pc + 3) ls' st M v M') : Rc X d i pc ls (.int x :: st) M v M' := by
  by_cases q : x ≤ 0
  · refine Rc.st1 hT hit hm rfl rfl ?_ (h1 q)
    simp only [astep]
    rw [ht, cond_true, show cmp0 .le x 0 = true from decide_eq_true q, cond_true, hg]
  · refine Rc.st1 hT hit hm rfl rfl ?_ (h2 q)
    simp only [astep]
    rw [ht, cond_true, show cmp0 .le x 0 = false from decide_eq_false q, cond_false]
theorem Rc.iald {k n : Nat} {x : Int32} (hT : Tb i T K bd) (hit : At0 T bd pc = some (.iaload, len, a, b)) (hm : msk K pc ls = ls') (hkn : IAn k n) (hx0 : inb x n = true) (h : Rc X d i (pc + 1) ls' (.int (M k x.toNatClampNeg) :: st) M v M') : Rc X d i pc ls (.int x :: .ref k :: st) M v M' := by
  obtain ⟨hk, rfl⟩ := hkn
  have hx := hx0
  refine Rc.st1 hT hit hm rfl rfl ?_ h
  simp only [astep]
  rw [hk.len X]
  dsimp only
  rw [hx, cond_true, hk.rd]
theorem Rc.sald {q : Nat} {x : Int32} (hT : Tb i T K bd) (hit : At0 T bd pc = some (.iaload, len, a, b)) (hm : msk K pc ls = ls') (hq : q < 7) (hx : inb x (sN q) = true) (h : Rc X d i (pc + 1) ls' (.int (sT q x.toNatClampNeg) :: st) M v M') : Rc X d i pc ls (.int x :: .ref (1000 + q) :: st) M v M' := by
  refine Rc.st1 hT hit hm rfl rfl ?_ h
  have e1 : Nat.blt (1000 + q) 999 = false := by
    cases e : Nat.blt (1000 + q) 999 with
    | false => rfl
    | true => exact absurd (Nat.blt_eq.mp e) (by omega)
  have e2 : Nat.beq (1000 + q) 999 = false := beqf (by omega)
  have e3 : Nat.blt (1000 + q) 1007 = true := Nat.blt_eq.mpr (by omega)
  have e4 : ial X 98 (1000 + q) = some (sN q) := by
    unfold ial
    rw [e1, e2, e3, cond_false, cond_false, cond_true, Nat.add_sub_cancel_left]
  have e5 : ird X (emb M) (1000 + q) x.toNatClampNeg = sT q x.toNatClampNeg := by
    unfold ird
    rw [e1, e2, cond_false, cond_false, Nat.add_sub_cancel_left]
  simp only [astep]
  rw [e4]
  dsimp only
  rw [hx, cond_true, e5]
theorem Rc.xald {x : Int32} (hT : Tb i T K bd) (hit : At0 T bd pc = some (.iaload, len, a, b)) (hm : msk K pc ls = ls') (hx : inb x X.1 = true) (h : Rc X d i (pc + 1) ls' (.int (X.2 x.toNatClampNeg) :: st) M v M') : Rc X d i pc ls (.int x :: .ref 999 :: st) M v M' := by
  refine Rc.st1 hT hit hm rfl rfl ?_ h
  have e4 : ial X 98 999 = some X.1 := rfl
  simp only [astep]
  rw [e4]
  dsimp only
  rw [hx, cond_true]
  rfl
theorem Rc.iast {k n : Nat} {x y : Int32} (hT : Tb i T K bd) (hit : At0 T bd pc = some (.iastore, len, a, b)) (hm : msk K pc ls = ls') (hkn : IAn k n) (hx0 : inb x n = true) (h : Rc X d i (pc + 1) ls' st (iset M k x.toNatClampNeg y) v M') : Rc X d i pc ls (.int y :: .int x :: .ref k :: st) M v M' := by
  obtain ⟨hk, rfl⟩ := hkn
  have hx := hx0
  refine Rc.st1 hT hit hm rfl rfl ?_ h
  simp only [astep]
  rw [Nat.blt_eq.mpr (show k < 999 by have := hk.1; omega), Nat.blt_eq.mpr hk.1, hk.2.1, hx, emb_set (hk.tg _)]
  rfl
/-- an object of the world -/
def OB (k a : Nat) : Prop := k < 98 ∧ kd k = a + 3
theorem OB.g {k a b : Nat} (h : OB k a) (hb : b < kN a) : (Nat.blt k 999 && Nat.blt k 98 && Nat.beq (kd k) (a + 3) && Nat.blt b (kN a)) = true := by
  rw [Nat.blt_eq.mpr (show k < 999 by have := h.1; omega), Nat.blt_eq.mpr h.1, h.2, Nat.blt_eq.mpr hb, Nat.beq_refl]
  rfl
theorem Rc.getI {k ix : Nat} (hT : Tb i T K bd) (hit : At0 T bd pc = some (.getfield ix, len, a, b)) (hm : msk K pc ls = ls') (hk : OB k a) (hb : b < kN a) (ht : tgR k b = 5000) (h : Rc X d i (pc + 3) ls' (.int (M k b) :: st) M v M') : Rc X d i pc ls (.ref k :: st) M v M' := by
  refine Rc.st1 hT hit hm rfl rfl ?_ h
  simp only [astep]
  rw [hk.g hb, cond_true, emb_int ht]
theorem Rc.getR {k ix t : Nat} (hT : Tb i T K bd) (hit : At0 T bd pc = some (.getfield ix, len, a, b)) (hm : msk K pc ls = ls') (hk : OB k a) (hb : b < kN a) (ht : tgR k b = t) (ht5 : t < 5000) (h : Rc X d i (pc + 3) ls' (.ref t :: st) M v M') : Rc X d i pc ls (.ref k :: st) M v M' := by
  refine Rc.st1 hT hit hm rfl rfl ?_ h
  simp only [astep]
  rw [hk.g hb, cond_true, emb_ref ht ht5]
theorem Rc.getT {ix : Nat} (hT : Tb i T K bd) (hit : At0 T bd pc = some (.getfield ix, len, 5, 0)) (hm : msk K pc ls = ls') (h : Rc X d i (pc + 3) ls' (.ref (M 45 0).toNatClampNeg :: st) M v M') : Rc X d i pc ls (.ref 45 :: st) M v M' := by
  refine Rc.st1 hT hit hm rfl rfl ?_ h
  simp only [astep]
  rw [OB.g (k := 45) (a := 5) (b := 0) ⟨by decide, by decide +kernel⟩ (by decide +kernel), cond_true]
  have : emb M 45 0 = .ref (M 45 0).toNatClampNeg := by unfold emb; rw [tape_at]; rfl
  rw [this]
theorem Rc.putI {k ix : Nat} {x : Int32} (hT : Tb i T K bd) (hit : At0 T bd pc = some (.putfield ix, len, a, b)) (hm : msk K pc ls = ls') (hk : OB k a) (hb : b < kN a) (ht : tgR k b = 5000) (hf : fok (kY a b) (.int x) = true) (h : Rc X d i (pc + 3) ls' st (iset M k b x) v M') : Rc X d i pc ls (.int x :: .ref k :: st) M v M' := by
  refine Rc.st1 hT hit hm rfl rfl ?_ h
  simp only [astep]
  rw [hk.g hb, hf, emb_set ht]
  rfl
theorem Rc.putT {ix t : Nat} (hT : Tb i T K bd) (hit : At0 T bd pc = some (.putfield ix, len, 5, 0)) (hm : msk K pc ls = ls') (ht : t < 2 ^ 31) (h : Rc X d i (pc + 3) ls' st (iset M 45 0 (nI t)) v M') : Rc X d i pc ls (.ref t :: .ref 45 :: st) M v M' := by
  refine Rc.st1 hT hit hm rfl rfl ?_ h
  simp only [astep]
  rw [OB.g (k := 45) (a := 5) (b := 0) ⟨by decide, by decide +kernel⟩ (by decide +kernel), show fok (kY 5 0) (.ref t) = true from rfl, emb_tape ht]
  rfl
theorem Rc.aald {k t : Nat} {x : Int32} (hT : Tb i T K bd) (hit : At0 T bd pc = some (.aaload, len, a, b)) (hm : msk K pc ls = ls') (hk : k < 98) (hkd : kd k = 1 ∨ kd k = 2) (hx : inb x (ln k) = true) (ht : tgR k x.toNatClampNeg = t) (ht5 : t < 5000) (h : Rc X d i (pc + 1) ls' (.ref t :: st) M v M') : Rc X d i pc ls (.int x :: .ref k :: st) M v M' := by
  refine Rc.st1 hT hit hm rfl rfl ?_ h
  simp only [astep]
  have e : (Nat.beq (kd k) 1 || Nat.beq (kd k) 2) = true := by rcases hkd with q | q <;> rw [q] <;> rfl
  rw [Nat.blt_eq.mpr (show k < 999 by omega), Nat.blt_eq.mpr hk, e, hx, emb_ref ht ht5]
  rfl
theorem Rc.alen {k n : Nat} (hT : Tb i T K bd) (hit : At0 T bd pc = some (.arraylength, len, a, b)) (hm : msk K pc ls = ls') (hkn : IAn k n) (h : Rc X d i (pc + 1) ls' (.int (Int32.ofNat n) :: st) M v M') : Rc X d i pc ls (.ref k :: st) M v M' := by
  obtain ⟨hk, rfl⟩ := hkn
  refine Rc.st1 hT hit hm rfl rfl ?_ h
  simp only [astep]
  rw [hk.len X]
theorem Rc.xlen (hT : Tb i T K bd) (hit : At0 T bd pc = some (.arraylength, len, a, b)) (hm : msk K pc ls = ls') (h : Rc X d i (pc + 1) ls' (.int (Int32.ofNat X.1) :: st) M v M') : Rc X d i pc ls (.ref 999 :: st) M v M' := by
  refine Rc.st1 hT hit hm rfl rfl ?_ h
  have e4 : ial X 98 999 = some X.1 := rfl
  simp only [astep]
  rw [e4]
theorem Rc.idiv {x y : Int32} (hT : Tb i T K bd) (hit : At0 T bd pc = some (.idiv, len, a, b)) (hm : msk K pc ls = ls') (hy : ¬ y = 0) (h : Rc X d i (pc + 1) ls' (.int (x / y) :: st) M v M') : Rc X d i pc ls (.int y :: .int x :: st) M v M' := by
  refine Rc.st1 hT hit hm rfl rfl ?_ h
  simp only [astep]
  rw [decide_eq_false hy, cond_false]
theorem Rc.irem {x y : Int32} (hT : Tb i T K bd) (hit : At0 T bd pc = some (.irem, len, a, b)) (hm : msk K pc ls = ls') (hy : ¬ y = 0) (h : Rc X d i (pc + 1) ls' (.int (x - x / y * y) :: st) M v M') : Rc X d i pc ls (.int y :: .int x :: st) M v M' := by
  refine Rc.st1 hT hit hm rfl rfl ?_ h
  simp only [astep]
  rw [decide_eq_false hy, cond_false]
/-- switches: where a number leads -/
def tsw (dd lo hi : Int) (offs : Array Int) (x : Int) : Int := bif decide (x < lo) || decide (hi < x) then dd else offs.getD (x - lo).toNat dd
theorem Rc.table {x : Int32} {dd lo hi off : Int} {offs : Array Int} (hT : Tb i T K bd) (hit : At0 T bd pc = some (.tableswitch dd lo hi offs, len, a, b)) (hm : msk K pc ls = ls') (hz : (hi - lo + 1).toNat ≤ offs.size) (ho : tsw dd lo hi offs x.toInt = off) (ht : tok pc off = true) (hg : tgt pc off = pc1) (h : Rc X d i pc1 ls' st M v M') : Rc X d i pc ls (.int x :: st) M v M' := by
  refine Rc.st1 hT hit hm rfl rfl ?_ h
  simp only [astep]
  unfold tsw at ho
  cases hc : (decide (x.toInt < lo) || decide (hi < x.toInt)) with
  | true =>
    rw [hc, cond_true] at ho
    subst ho
    rw [cond_true, ht, cond_true, hg]
  | false =>
    rw [hc, cond_false] at ho
    rw [cond_false]
    simp only [Bool.or_eq_false_iff, decide_eq_false_iff_not] at hc
    have hlt : (x.toInt - lo).toNat < offs.size := by omega
    have e : offs[(x.toInt - lo).toNat]? = some off := by
      rw [Array.getElem?_eq_getElem hlt, ← ho]
      simp [Array.getD, hlt]
    rw [e]
    dsimp only
    rw [ht, cond_true, hg]
theorem tsw_at {x : Int32} {k dd lo hi off : Int} {offs : Array Int} (hx : x.toInt = k) (h : tsw dd lo hi offs k = off) : tsw dd lo hi offs x.toInt = off := by rw [hx]; exact h
/-- away from the numbers that lead elsewhere -/
theorem tsw_df {x : Int32} {dd lo hi : Int} {offs : Array Int} (ks : List Int32) (hk : (List.range offs.size).all (fun j => decide (offs.getD j dd = dd) || ks.any (fun k => decide (k.toInt = lo + j))) = true) (hn : ∀ k ∈ ks, x ≠ k) : tsw dd lo hi offs x.toInt = dd := by
  unfold tsw
  cases hc : (decide (x.toInt < lo) || decide (hi < x.toInt)) with
  | true => rfl
  | false =>
    rw [cond_false]
    simp only [Bool.or_eq_false_iff, decide_eq_false_iff_not] at hc
    by_cases hl : (x.toInt - lo).toNat < offs.size
    · have := List.all_eq_true.mp hk _ (List.mem_range.mpr hl)
      simp only [Bool.or_eq_true, decide_eq_true_eq, List.any_eq_true] at this
      rcases this with q | ⟨k, hk1, hk2⟩
      · exact q
      · exfalso
        refine hn k hk1 ?_
        have : x.toInt = k.toInt := by omega
        exact Int32.toInt_inj.mp this
    · simp [Array.getD, hl]
theorem Rc.look {x : Int32} {dd off : Int} {ps : Array (Int × Int)} (hT : Tb i T K bd) (hit : At0 T bd pc = some (.lookupswitch dd ps, len, a, b)) (hm : msk K pc ls = ls') (hp : (ps.toList.zip (ps.toList.drop 1)).all (fun (a, next) => a.1 < next.1) = true) (ho : Op.lookupswitch.offset ps.toList dd x.toInt = off) (ht : tok pc off = true) (hg : tgt pc off = pc1) (h : Rc X d i pc1 ls' st M v M') : Rc X d i pc ls (.int x :: st) M v M' := by
  refine Rc.st1 hT hit hm rfl rfl ?_ h
  simp only [astep]
  rw [ho, hp, ht, hg]
  rfl
/-- calls -/
theorem Rc.callS {ix j : Nat} {as r : List Value} {v1 : Option Value} {M1 : IM} {np mx : Nat} (hT : Tb i T K bd) (hit : At0 T bd pc = some (.invokestatic ix, len, j, b)) (hm : msk K pc ls = ls') (hj : Nat.blt j 1000 = true) (hS : mS j = true) (hP : mP j = np) (hL : mL j = mx) (hta : atake np st [] = some (as, r)) (har : arest r = true) (hl : Nat.ble (aent as).length mx = true) (hc : Rc X d j 0 (apad as mx) [] M v1 M1) (h : Rc X (d + 1) i (pc + 3) ls' (v1.toList ++ r) M1 v M') : Rc X (d + 1) i pc ls st M v M' := by
  obtain ⟨f, hf⟩ := hc
  obtain ⟨g, hg⟩ := h
  have hj : j < 1000 := Nat.blt_eq.mp hj
  refine ⟨max f g + 1, ?_⟩
  show axB X (ax X (max f g)) (d + 1) i pc ls st 98 (emb M) = _
  unfold axB
  rw [hT.1 pc, show (bif Nat.blt pc bd then T pc else none) = some (.invokestatic ix, len, j, b) from hit]
  dsimp only [isend, acall]
  rw [cond_false, show Nat.beq 2 0 = false from rfl, cond_false, beqf (show ¬ j = 1000 by omega), beqf (show ¬ j = 1001 by omega), beqf (show ¬ j = 1002 by omega), beqf (show ¬ j = 1003 by omega)]
  simp only [cond_false, show Nat.beq 2 2 = true from rfl, cond_true]
  rw [hP, hta]
  dsimp only
  have e : (arest r && arecv 2 98 j as && Nat.ble (aent as).length (mL j)) = true := by
    rw [har, hL, hl]
    show (true && arecv 2 98 j as && true) = true
    unfold arecv
    rw [show Nat.beq 2 2 = true from rfl, cond_true, hS]
    rfl
  rw [e, cond_true, hL, ax_mono f _ _ _ _ _ _ _ _ hf (max f g) (Nat.le_max_left f g)]
  dsimp only
  rw [msk_eq hT, hm]
  exact ax_mono g _ _ _ _ _ _ _ _ hg (max f g) (Nat.le_max_right f g)
theorem Rc.callV {ix j k : Nat} {as r : List Value} {v1 : Option Value} {M1 : IM} {np mx oc : Nat} (hT : Tb i T K bd) (hit : At0 T bd pc = some (.invokevirtual ix, len, j, b)) (hm : msk K pc ls = ls') (hj : Nat.blt j 1000 = true) (hS : mS j = false) (hP : mP j = np) (hL : mL j = mx) (hO : mO j = oc) (hoc : Nat.blt oc 10 = true) (hta : atake (np + 1) st [] = some (.ref k :: as, r)) (hk : OB k oc) (har : arest r = true) (hl : Nat.ble (aent (.ref k :: as)).length mx = true) (hc : Rc X d j 0 (apad (.ref k :: as) mx) [] M v1 M1) (h : Rc X (d + 1) i (pc + 3) ls' (v1.toList ++ r) M1 v M') : Rc X (d + 1) i pc ls st M v M' := by
  obtain ⟨f, hf⟩ := hc
  obtain ⟨g, hg⟩ := h
  have hj : j < 1000 := Nat.blt_eq.mp hj
  refine ⟨max f g + 1, ?_⟩
  show axB X (ax X (max f g)) (d + 1) i pc ls st 98 (emb M) = _
  unfold axB
  rw [hT.1 pc, show (bif Nat.blt pc bd then T pc else none) = some (.invokevirtual ix, len, j, b) from hit]
  dsimp only [isend, acall]
  rw [cond_false, show Nat.beq 1 0 = false from rfl, cond_false, beqf (show ¬ j = 1000 by omega), beqf (show ¬ j = 1001 by omega), beqf (show ¬ j = 1002 by omega), beqf (show ¬ j = 1003 by omega)]
  simp only [cond_false, show Nat.beq 1 2 = false from rfl]
  rw [hP, hta]
  dsimp only
  have e : (arest r && arecv 1 98 j (.ref k :: as) && Nat.ble (aent (.ref k :: as)).length (mL j)) = true := by
    rw [har, hL, hl]
    show (true && arecv 1 98 j (.ref k :: as) && true) = true
    unfold arecv
    rw [show Nat.beq 1 2 = false from rfl, cond_false]
    dsimp only
    rw [hS, hO, Nat.blt_eq.mpr (show k < 999 by have := hk.1; omega), Nat.blt_eq.mpr hk.1, hk.2, hoc, Nat.beq_refl]
    rfl
  rw [e, cond_true, hL, ax_mono f _ _ _ _ _ _ _ _ hf (max f g) (Nat.le_max_left f g)]
  dsimp only
  rw [msk_eq hT, hm]
  exact ax_mono g _ _ _ _ _ _ _ _ hg (max f g) (Nat.le_max_right f g)
theorem Rc.minS {ix : Nat} {x y : Int32} (hT : Tb i T K bd) (hit : At0 T bd pc = some (.invokestatic ix, len, 1003, b)) (hm : msk K pc ls = ls') (har : arest st = true) (h : Rc X (d + 1) i (pc + 3) ls' (.int (bif decide (y < x) then y else x) :: st) M v M') : Rc X (d + 1) i pc ls (.int y :: .int x :: st) M v M' := by
  obtain ⟨f, hf⟩ := h
  refine ⟨f + 1, ?_⟩
  show axB X (ax X f) (d + 1) i pc ls _ 98 (emb M) = _
  unfold axB
  rw [hT.1 pc, show (bif Nat.blt pc bd then T pc else none) = some (.invokestatic ix, len, 1003, b) from hit]
  dsimp only [isend, acall]
  rw [har, msk_eq hT, hm]
  exact hf
theorem Rc.maxS {ix : Nat} {x y : Int32} (hT : Tb i T K bd) (hit : At0 T bd pc = some (.invokestatic ix, len, 1002, b)) (hm : msk K pc ls = ls') (har : arest st = true) (h : Rc X (d + 1) i (pc + 3) ls' (.int (bif decide (x < y) then y else x) :: st) M v M') : Rc X (d + 1) i pc ls (.int y :: .int x :: st) M v M' := by
  obtain ⟨f, hf⟩ := h
  refine ⟨f + 1, ?_⟩
  show axB X (ax X f) (d + 1) i pc ls _ 98 (emb M) = _
  unfold axB
  rw [hT.1 pc, show (bif Nat.blt pc bd then T pc else none) = some (.invokestatic ix, len, 1002, b) from hit]
  dsimp only [isend, acall]
  rw [har, msk_eq hT, hm]
  exact hf
/-- may a stretch be copied -/
def cpok (ns : Nat) (sp : Int32) (nd : Nat) (dp m : Int32) : Bool := !(decide (m < 0)) && !(decide (sp < 0)) && !(decide (dp < 0)) && Nat.ble (sp.toNatClampNeg + m.toNatClampNeg) ns && Nat.ble (dp.toNatClampNeg + m.toNatClampNeg) nd
theorem Rc.copy {ix sk dk ns nd : Nat} {m sp dp : Int32} (hT : Tb i T K bd) (hit : At0 T bd pc = some (.invokestatic ix, len, 1001, b)) (hm : msk K pc ls = ls') (har : arest st = true) (hsn : IAn sk ns) (hdn : IAn dk nd) (hc : cpok ns sp nd dp m = true) (h : Rc X (d + 1) i (pc + 3) ls' st (icpy M sk sp.toNatClampNeg dk dp.toNatClampNeg m.toNatClampNeg) v M') : Rc X (d + 1) i pc ls (.int m :: .int dp :: .ref dk :: .int sp :: .ref sk :: st) M v M' := by
  obtain ⟨hs, rfl⟩ := hsn
  obtain ⟨hd, rfl⟩ := hdn
  obtain ⟨f, hf⟩ := h
  refine ⟨f + 1, ?_⟩
  show axB X (ax X f) (d + 1) i pc ls _ 98 (emb M) = _
  unfold axB
  rw [hT.1 pc, show (bif Nat.blt pc bd then T pc else none) = some (.invokestatic ix, len, 1001, b) from hit]
  dsimp only [isend, acall]
  rw [hs.len X]
  unfold cpok at hc
  simp only [Bool.and_eq_true] at hc
  obtain ⟨⟨⟨⟨c1, c2⟩, c3⟩, c4⟩, c5⟩ := hc
  rw [← emb_cpy hs hd (X := X)] at hf
  have e0 : Nat.beq 2 2 = true := rfl
  simp only [cond_false, show Nat.beq 2 0 = false from rfl, show Nat.beq 1001 1000 = false from rfl, show Nat.beq 1001 1001 = true from rfl, cond_true, e0]
  rw [har, c1, c2, c3, c4, c5, hd.2.1, Nat.blt_eq.mpr (show dk < 999 by have := hd.1; omega), Nat.blt_eq.mpr (show sk < 999 by have := hs.1; omega), Nat.blt_eq.mpr hd.1, Nat.blt_eq.mpr (show 0 < d + 1 by omega), msk_eq hT, hm]
  exact hf
theorem Rc.bool {x : Int32} (hr : mR i = some .boolean) (h : Rc X d i pc ls st M (some (.int x)) M') : x = 0 ∨ x = 1 := by
  obtain ⟨f, h⟩ := h
  have key : ∀ (f d pc : Nat) (ls : AL) (st : List Value) (n : Nat) (μ : AM) (r : Option Value × Nat × AM), ax X f d i pc ls st n μ = some r → r.1 = some (.int 0) ∨ r.1 = some (.int 1) := by
    intro f
    induction f with
    | zero => intro d pc ls st n μ r h; cases h
    | succ f ih =>
      intro d pc ls st n μ r h
      unfold ax axB at h
      split at h
      · cases h
      · rename_i ins len a b hit
        cases he : isend ins with
        | true =>
          rw [he, cond_true] at h
          split at h
          · rename_i v' hv'
            cases h
            rcases aend_spec hv' with ⟨-, -, q, -⟩ | ⟨x, -, -, q, -⟩ | ⟨x, -, -, -, rfl, hx⟩ | ⟨x, -, -, q, -⟩
            · rw [hr] at q; cases q
            · rw [hr] at q; cases q
            · rcases hx with rfl | rfl
              · exact Or.inl rfl
              · exact Or.inr rfl
            · rw [hr] at q; cases q
          · cases h
        | false =>
          rw [he, cond_false] at h
          repeat' (first | (split at h) | (cases h; done) | exact ih _ _ _ _ _ _ _ h | (simp only [cond] at h))
  rcases key f d pc ls st 98 (emb M) _ h with q | q
  · cases q; exact Or.inl rfl
  · cases q; exact Or.inr rfl
end RC2
/-- loops -/
def loopN {σ ρ : Type} (body : σ → Option (σ ⊕ ρ)) : Nat → σ → Option ρ
  | 0, _ => none
  | n + 1, s => match body s with
    | none => none
    | some (.inl s') => loopN body n s'
    | some (.inr r) => some r
theorem loopN_rc {σ ρ : Type} {body : σ → Option (σ ⊕ ρ)} {P : σ → Prop} {E : ρ → Prop} (hb : ∀ s o, body s = some o → (∀ s', o = .inl s' → P s') → (∀ r, o = .inr r → E r) → P s) : ∀ (n : Nat) (s : σ) (r : ρ), loopN body n s = some r → E r → P s := by
  intro n
  induction n with
  | zero => intro s r h; cases h
  | succ n ih =>
    intro s r h hE
    unfold loopN at h
    split at h
    · cases h
    · rename_i s' hs
      exact hb s _ hs (fun s2 e => by cases e; exact ih s' r h hE) (fun r2 e => by cases e)
    · rename_i r2 hs
      cases h
      exact hb s _ hs (fun s2 e => by cases e) (fun r3 e => by cases e; exact hE)
def FU : Nat := 100000
