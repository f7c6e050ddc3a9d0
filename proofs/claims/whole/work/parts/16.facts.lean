/-! facts of the tables, one by one, for the methods' rows -/
theorem fokZ {x : Int32} (h : x = 0 ∨ x = 1) : fok .boolean (.int x) = true := by rcases h with rfl | rfl <;> rfl
theorem IAn.lt31 {k n : Nat} (h : IAn k n) : k < 2 ^ 31 := by have := h.1.1; omega
theorem Rc.getT4 {X : AX} {d i pc : Nat} {ls ls' : AL} {st : List Value} {M M' : IM} {v : Option Value} {T : Nat → Option (Instr × Nat × Nat × Nat)} {K : Nat → Nat} {bd len ix : Nat} (hT : Tb i T K bd) (hit : At0 T bd pc = some (.getfield ix, len, 5, 0)) (hm : msk K pc ls = ls') (hb : M 45 0 = 4) (h : Rc X d i (pc + 3) ls' (.ref 4 :: st) M v M') : Rc X d i pc ls (.ref 45 :: st) M v M' := by
  refine Rc.getT hT hit hm ?_
  rw [hb, show (4 : Int32).toNatClampNeg = 4 by decide]
  exact h
theorem Rc.slen {X : AX} {d i pc : Nat} {ls ls' : AL} {st : List Value} {M M' : IM} {v : Option Value} {T : Nat → Option (Instr × Nat × Nat × Nat)} {K : Nat → Nat} {bd len a b q n : Nat} {x : Int32} (hT : Tb i T K bd) (hit : At0 T bd pc = some (.arraylength, len, a, b)) (hm : msk K pc ls = ls') (hq : q < 7) (hn : sN q = n ∧ Int32.ofNat n = x) (h : Rc X d i (pc + 1) ls' (.int x :: st) M v M') : Rc X d i pc ls (.ref (1000 + q) :: st) M v M' := by
  obtain ⟨rfl, rfl⟩ := hn
  refine Rc.st1 hT hit hm rfl rfl ?_ h
  have e1 : Nat.blt (1000 + q) 999 = false := by
    cases e : Nat.blt (1000 + q) 999 with
    | false => rfl
    | true => exact absurd (Nat.blt_eq.mp e) (by omega)
  have e2 : Nat.beq (1000 + q) 999 = false := beqf (by omega)
  have e3 : Nat.blt (1000 + q) 1007 = true := Nat.blt_eq.mpr (by omega)
  have e4 : ial X 98 (1000 + q) = some (sN q) := by
    unfold ial
    rw [e1, e2, e3, cond_false, cond_false, cond_true, Nat.add_sub_cancel_left]
  simp only [astep]
  rw [e4]
theorem lks_df {x : Int32} {dd : Int} {ps : Array (Int × Int)} (ks : List Int32) (hk : ps.toList.all (fun q => ks.any (fun k => decide (k.toInt = q.1))) = true) (hn : ∀ k ∈ ks, x ≠ k) : Op.lookupswitch.offset ps.toList dd x.toInt = dd := by
  have key : ∀ l : List (Int × Int), l.all (fun q => ks.any (fun k => decide (k.toInt = q.1))) = true → Op.lookupswitch.offset l dd x.toInt = dd := by
    intro l
    induction l with
    | nil => intro _; rfl
    | cons q r ih =>
      intro hq
      simp only [List.all_cons, Bool.and_eq_true, List.any_eq_true, decide_eq_true_eq] at hq
      obtain ⟨⟨k, hk1, hk2⟩, hr⟩ := hq
      obtain ⟨a, o⟩ := q
      rw [Op.lookupswitch.offset_cons, if_neg, ih (by simpa using hr)]
      intro e
      have e' : x.toInt = a := by first | exact e | exact e.symm
      exact hn k hk1 (Int32.toInt_inj.mp (e'.trans hk2.symm))
  exact key _ hk
theorem tb_0 : Tb 0 it_0 mk_0 17 := ⟨fun _ => rfl, fun _ => rfl⟩
theorem mS_0 : mS 0 = true := rfl
theorem mP_0 : mP 0 = 1 := rfl
theorem mL_0 : mL 0 = 1 := rfl
theorem mO_0 : mO 0 = 10 := rfl
theorem mR_0 : mR 0 = some .int := rfl
theorem tb_1 : Tb 1 it_1 mk_1 15 := ⟨fun _ => rfl, fun _ => rfl⟩
theorem mS_1 : mS 1 = true := rfl
theorem mP_1 : mP 1 = 1 := rfl
theorem mL_1 : mL 1 = 1 := rfl
theorem mO_1 : mO 1 = 10 := rfl
theorem mR_1 : mR 1 = some .boolean := rfl
theorem tb_2 : Tb 2 it_2 mk_2 81 := ⟨fun _ => rfl, fun _ => rfl⟩
theorem mS_2 : mS 2 = true := rfl
theorem mP_2 : mP 2 = 2 := rfl
theorem mL_2 : mL 2 = 2 := rfl
theorem mO_2 : mO 2 = 10 := rfl
theorem mR_2 : mR 2 = some .int := rfl
theorem tb_3 : Tb 3 it_3 mk_3 84 := ⟨fun _ => rfl, fun _ => rfl⟩
theorem mS_3 : mS 3 = true := rfl
theorem mP_3 : mP 3 = 2 := rfl
theorem mL_3 : mL 3 = 3 := rfl
theorem mO_3 : mO 3 = 10 := rfl
theorem mR_3 : mR 3 = some .int := rfl
theorem tb_4 : Tb 4 it_4 mk_4 19 := ⟨fun _ => rfl, fun _ => rfl⟩
theorem mS_4 : mS 4 = true := rfl
theorem mP_4 : mP 4 = 1 := rfl
theorem mL_4 : mL 4 = 1 := rfl
theorem mO_4 : mO 4 = 10 := rfl
theorem mR_4 : mR 4 = some .int := rfl
theorem tb_5 : Tb 5 it_5 mk_5 16 := ⟨fun _ => rfl, fun _ => rfl⟩
theorem mS_5 : mS 5 = true := rfl
theorem mP_5 : mP 5 = 1 := rfl
theorem mL_5 : mL 5 = 1 := rfl
theorem mO_5 : mO 5 = 11 := rfl
theorem mR_5 : mR 5 = some .boolean := rfl
theorem tb_6 : Tb 6 it_6 mk_6 11 := ⟨fun _ => rfl, fun _ => rfl⟩
theorem mS_6 : mS 6 = true := rfl
theorem mP_6 : mP 6 = 1 := rfl
theorem mL_6 : mL 6 = 1 := rfl
theorem mO_6 : mO 6 = 11 := rfl
theorem mR_6 : mR 6 = some .int := rfl
theorem tb_7 : Tb 7 it_7 mk_7 11 := ⟨fun _ => rfl, fun _ => rfl⟩
theorem mS_7 : mS 7 = true := rfl
theorem mP_7 : mP 7 = 1 := rfl
theorem mL_7 : mL 7 = 1 := rfl
theorem mO_7 : mO 7 = 11 := rfl
theorem mR_7 : mR 7 = some .int := rfl
theorem tb_8 : Tb 8 it_8 mk_8 23 := ⟨fun _ => rfl, fun _ => rfl⟩
theorem mS_8 : mS 8 = true := rfl
theorem mP_8 : mP 8 = 2 := rfl
theorem mL_8 : mL 8 = 2 := rfl
theorem mO_8 : mO 8 = 11 := rfl
theorem mR_8 : mR 8 = some .int := rfl
theorem tb_9 : Tb 9 it_9 mk_9 10 := ⟨fun _ => rfl, fun _ => rfl⟩
theorem mS_9 : mS 9 = true := rfl
theorem mP_9 : mP 9 = 1 := rfl
theorem mL_9 : mL 9 = 1 := rfl
theorem mO_9 : mO 9 = 11 := rfl
theorem mR_9 : mR 9 = some .int := rfl
theorem tb_10 : Tb 10 it_10 mk_10 10 := ⟨fun _ => rfl, fun _ => rfl⟩
theorem mS_10 : mS 10 = true := rfl
theorem mP_10 : mP 10 = 1 := rfl
theorem mL_10 : mL 10 = 1 := rfl
theorem mO_10 : mO 10 = 11 := rfl
theorem mR_10 : mR 10 = some .int := rfl
theorem tb_11 : Tb 11 it_11 mk_11 16 := ⟨fun _ => rfl, fun _ => rfl⟩
theorem mS_11 : mS 11 = true := rfl
theorem mP_11 : mP 11 = 2 := rfl
theorem mL_11 : mL 11 = 2 := rfl
theorem mO_11 : mO 11 = 11 := rfl
theorem mR_11 : mR 11 = some .int := rfl
theorem tb_12 : Tb 12 it_12 mk_12 23 := ⟨fun _ => rfl, fun _ => rfl⟩
theorem mS_12 : mS 12 = true := rfl
theorem mP_12 : mP 12 = 1 := rfl
theorem mL_12 : mL 12 = 2 := rfl
theorem mO_12 : mO 12 = 11 := rfl
theorem mR_12 : mR 12 = some .int := rfl
theorem tb_13 : Tb 13 it_13 mk_13 143 := ⟨fun _ => rfl, fun _ => rfl⟩
theorem mS_13 : mS 13 = true := rfl
theorem mP_13 : mP 13 = 2 := rfl
theorem mL_13 : mL 13 = 2 := rfl
theorem mO_13 : mO 13 = 11 := rfl
theorem mR_13 : mR 13 = some .int := rfl
theorem tb_14 : Tb 14 it_14 mk_14 26 := ⟨fun _ => rfl, fun _ => rfl⟩
theorem mS_14 : mS 14 = true := rfl
theorem mP_14 : mP 14 = 2 := rfl
theorem mL_14 : mL 14 = 3 := rfl
theorem mO_14 : mO 14 = 11 := rfl
theorem mR_14 : mR 14 = some .int := rfl
theorem tb_15 : Tb 15 it_15 mk_15 22 := ⟨fun _ => rfl, fun _ => rfl⟩
theorem mS_15 : mS 15 = true := rfl
theorem mP_15 : mP 15 = 1 := rfl
theorem mL_15 : mL 15 = 1 := rfl
theorem mO_15 : mO 15 = 11 := rfl
theorem mR_15 : mR 15 = some .int := rfl
theorem tb_17 : Tb 17 it_17 mk_17 32 := ⟨fun _ => rfl, fun _ => rfl⟩
theorem mS_17 : mS 17 = false := rfl
theorem mP_17 : mP 17 = 1 := rfl
theorem mL_17 : mL 17 = 2 := rfl
theorem mO_17 : mO 17 = 0 := rfl
theorem mR_17 : mR 17 = none := rfl
theorem tb_18 : Tb 18 it_18 mk_18 16 := ⟨fun _ => rfl, fun _ => rfl⟩
theorem mS_18 : mS 18 = false := rfl
theorem mP_18 : mP 18 = 2 := rfl
theorem mL_18 : mL 18 = 3 := rfl
theorem mO_18 : mO 18 = 0 := rfl
theorem mR_18 : mR 18 = some .int := rfl
theorem tb_19 : Tb 19 it_19 mk_19 27 := ⟨fun _ => rfl, fun _ => rfl⟩
theorem mS_19 : mS 19 = false := rfl
theorem mP_19 : mP 19 = 2 := rfl
theorem mL_19 : mL 19 = 4 := rfl
theorem mO_19 : mO 19 = 0 := rfl
theorem mR_19 : mR 19 = some .int := rfl
theorem tb_20 : Tb 20 it_20 mk_20 60 := ⟨fun _ => rfl, fun _ => rfl⟩
theorem mS_20 : mS 20 = false := rfl
theorem mP_20 : mP 20 = 1 := rfl
theorem mL_20 : mL 20 = 5 := rfl
theorem mO_20 : mO 20 = 0 := rfl
theorem mR_20 : mR 20 = some .int := rfl
theorem tb_22 : Tb 22 it_22 mk_22 62 := ⟨fun _ => rfl, fun _ => rfl⟩
theorem mS_22 : mS 22 = false := rfl
theorem mP_22 : mP 22 = 2 := rfl
theorem mL_22 : mL 22 = 4 := rfl
theorem mO_22 : mO 22 = 1 := rfl
theorem mR_22 : mR 22 = none := rfl
theorem tb_23 : Tb 23 it_23 mk_23 96 := ⟨fun _ => rfl, fun _ => rfl⟩
theorem mS_23 : mS 23 = false := rfl
theorem mP_23 : mP 23 = 1 := rfl
theorem mL_23 : mL 23 = 4 := rfl
theorem mO_23 : mO 23 = 1 := rfl
theorem mR_23 : mR 23 = none := rfl
theorem tb_24 : Tb 24 it_24 mk_24 70 := ⟨fun _ => rfl, fun _ => rfl⟩
theorem mS_24 : mS 24 = false := rfl
theorem mP_24 : mP 24 = 4 := rfl
theorem mL_24 : mL 24 = 6 := rfl
theorem mO_24 : mO 24 = 1 := rfl
theorem mR_24 : mR 24 = none := rfl
theorem tb_25 : Tb 25 it_25 mk_25 48 := ⟨fun _ => rfl, fun _ => rfl⟩
theorem mS_25 : mS 25 = false := rfl
theorem mP_25 : mP 25 = 0 := rfl
theorem mL_25 : mL 25 = 1 := rfl
theorem mO_25 : mO 25 = 1 := rfl
theorem mR_25 : mR 25 = some .boolean := rfl
theorem tb_26 : Tb 26 it_26 mk_26 120 := ⟨fun _ => rfl, fun _ => rfl⟩
theorem mS_26 : mS 26 = false := rfl
theorem mP_26 : mP 26 = 3 := rfl
theorem mL_26 : mL 26 = 7 := rfl
theorem mO_26 : mO 26 = 1 := rfl
theorem mR_26 : mR 26 = some .boolean := rfl
theorem tb_27 : Tb 27 it_27 mk_27 87 := ⟨fun _ => rfl, fun _ => rfl⟩
theorem mS_27 : mS 27 = false := rfl
theorem mP_27 : mP 27 = 4 := rfl
theorem mL_27 : mL 27 = 8 := rfl
theorem mO_27 : mO 27 = 1 := rfl
theorem mR_27 : mR 27 = some .boolean := rfl
theorem tb_28 : Tb 28 it_28 mk_28 81 := ⟨fun _ => rfl, fun _ => rfl⟩
theorem mS_28 : mS 28 = false := rfl
theorem mP_28 : mP 28 = 0 := rfl
theorem mL_28 : mL 28 = 4 := rfl
theorem mO_28 : mO 28 = 1 := rfl
theorem mR_28 : mR 28 = some .int := rfl
theorem tb_29 : Tb 29 it_29 mk_29 33 := ⟨fun _ => rfl, fun _ => rfl⟩
theorem mS_29 : mS 29 = false := rfl
theorem mP_29 : mP 29 = 1 := rfl
theorem mL_29 : mL 29 = 3 := rfl
theorem mO_29 : mO 29 = 1 := rfl
theorem mR_29 : mR 29 = some .boolean := rfl
theorem tb_30 : Tb 30 it_30 mk_30 89 := ⟨fun _ => rfl, fun _ => rfl⟩
theorem mS_30 : mS 30 = false := rfl
theorem mP_30 : mP 30 = 1 := rfl
theorem mL_30 : mL 30 = 5 := rfl
theorem mO_30 : mO 30 = 1 := rfl
theorem mR_30 : mR 30 = none := rfl
theorem tb_31 : Tb 31 it_31 mk_31 59 := ⟨fun _ => rfl, fun _ => rfl⟩
theorem mS_31 : mS 31 = false := rfl
theorem mP_31 : mP 31 = 2 := rfl
theorem mL_31 : mL 31 = 5 := rfl
theorem mO_31 : mO 31 = 1 := rfl
theorem mR_31 : mR 31 = some .int := rfl
theorem tb_32 : Tb 32 it_32 mk_32 25 := ⟨fun _ => rfl, fun _ => rfl⟩
theorem mS_32 : mS 32 = true := rfl
theorem mP_32 : mP 32 = 1 := rfl
theorem mL_32 : mL 32 = 3 := rfl
theorem mO_32 : mO 32 = 1 := rfl
theorem mR_32 : mR 32 = some .int := rfl
theorem tb_34 : Tb 34 it_34 mk_34 13 := ⟨fun _ => rfl, fun _ => rfl⟩
theorem mS_34 : mS 34 = false := rfl
theorem mP_34 : mP 34 = 0 := rfl
theorem mL_34 : mL 34 = 1 := rfl
theorem mO_34 : mO 34 = 2 := rfl
theorem mR_34 : mR 34 = some .boolean := rfl
theorem tb_35 : Tb 35 it_35 mk_35 19 := ⟨fun _ => rfl, fun _ => rfl⟩
theorem mS_35 : mS 35 = false := rfl
theorem mP_35 : mP 35 = 2 := rfl
theorem mL_35 : mL 35 = 3 := rfl
theorem mO_35 : mO 35 = 2 := rfl
theorem mR_35 : mR 35 = none := rfl
theorem tb_36 : Tb 36 it_36 mk_36 28 := ⟨fun _ => rfl, fun _ => rfl⟩
theorem mS_36 : mS 36 = false := rfl
theorem mP_36 : mP 36 = 1 := rfl
theorem mL_36 : mL 36 = 2 := rfl
theorem mO_36 : mO 36 = 2 := rfl
theorem mR_36 : mR 36 = some .int := rfl
theorem tb_37 : Tb 37 it_37 mk_37 32 := ⟨fun _ => rfl, fun _ => rfl⟩
theorem mS_37 : mS 37 = false := rfl
theorem mP_37 : mP 37 = 2 := rfl
theorem mL_37 : mL 37 = 3 := rfl
theorem mO_37 : mO 37 = 2 := rfl
theorem mR_37 : mR 37 = some .boolean := rfl
theorem tb_39 : Tb 39 it_39 mk_39 20 := ⟨fun _ => rfl, fun _ => rfl⟩
theorem mS_39 : mS 39 = false := rfl
theorem mP_39 : mP 39 = 0 := rfl
theorem mL_39 : mL 39 = 1 := rfl
theorem mO_39 : mO 39 = 3 := rfl
theorem mR_39 : mR 39 = none := rfl
theorem tb_40 : Tb 40 it_40 mk_40 91 := ⟨fun _ => rfl, fun _ => rfl⟩
theorem mS_40 : mS 40 = false := rfl
theorem mP_40 : mP 40 = 2 := rfl
theorem mL_40 : mL 40 = 6 := rfl
theorem mO_40 : mO 40 = 3 := rfl
theorem mR_40 : mR 40 = none := rfl
theorem tb_41 : Tb 41 it_41 mk_41 161 := ⟨fun _ => rfl, fun _ => rfl⟩
theorem mS_41 : mS 41 = false := rfl
theorem mP_41 : mP 41 = 2 := rfl
theorem mL_41 : mL 41 = 7 := rfl
theorem mO_41 : mO 41 = 3 := rfl
theorem mR_41 : mR 41 = none := rfl
theorem tb_42 : Tb 42 it_42 mk_42 47 := ⟨fun _ => rfl, fun _ => rfl⟩
theorem mS_42 : mS 42 = false := rfl
theorem mP_42 : mP 42 = 3 := rfl
theorem mL_42 : mL 42 = 5 := rfl
theorem mO_42 : mO 42 = 3 := rfl
theorem mR_42 : mR 42 = some .boolean := rfl
theorem tb_43 : Tb 43 it_43 mk_43 39 := ⟨fun _ => rfl, fun _ => rfl⟩
theorem mS_43 : mS 43 = false := rfl
theorem mP_43 : mP 43 = 3 := rfl
theorem mL_43 : mL 43 = 4 := rfl
theorem mO_43 : mO 43 = 3 := rfl
theorem mR_43 : mR 43 = some .boolean := rfl
theorem tb_44 : Tb 44 it_44 mk_44 79 := ⟨fun _ => rfl, fun _ => rfl⟩
theorem mS_44 : mS 44 = false := rfl
theorem mP_44 : mP 44 = 3 := rfl
theorem mL_44 : mL 44 = 4 := rfl
theorem mO_44 : mO 44 = 3 := rfl
theorem mR_44 : mR 44 = none := rfl
theorem tb_45 : Tb 45 it_45 mk_45 87 := ⟨fun _ => rfl, fun _ => rfl⟩
theorem mS_45 : mS 45 = false := rfl
theorem mP_45 : mP 45 = 3 := rfl
theorem mL_45 : mL 45 = 7 := rfl
theorem mO_45 : mO 45 = 3 := rfl
theorem mR_45 : mR 45 = some .boolean := rfl
theorem tb_46 : Tb 46 it_46 mk_46 75 := ⟨fun _ => rfl, fun _ => rfl⟩
theorem mS_46 : mS 46 = false := rfl
theorem mP_46 : mP 46 = 3 := rfl
theorem mL_46 : mL 46 = 5 := rfl
theorem mO_46 : mO 46 = 3 := rfl
theorem mR_46 : mR 46 = some .boolean := rfl
theorem tb_48 : Tb 48 it_48 mk_48 97 := ⟨fun _ => rfl, fun _ => rfl⟩
theorem mS_48 : mS 48 = false := rfl
theorem mP_48 : mP 48 = 1 := rfl
theorem mL_48 : mL 48 = 3 := rfl
theorem mO_48 : mO 48 = 4 := rfl
theorem mR_48 : mR 48 = none := rfl
theorem tb_49 : Tb 49 it_49 mk_49 81 := ⟨fun _ => rfl, fun _ => rfl⟩
theorem mS_49 : mS 49 = false := rfl
theorem mP_49 : mP 49 = 0 := rfl
theorem mL_49 : mL 49 = 4 := rfl
theorem mO_49 : mO 49 = 4 := rfl
theorem mR_49 : mR 49 = some .int := rfl
theorem tb_50 : Tb 50 it_50 mk_50 51 := ⟨fun _ => rfl, fun _ => rfl⟩
theorem mS_50 : mS 50 = false := rfl
theorem mP_50 : mP 50 = 1 := rfl
theorem mL_50 : mL 50 = 4 := rfl
theorem mO_50 : mO 50 = 4 := rfl
theorem mR_50 : mR 50 = some .boolean := rfl
theorem tb_51 : Tb 51 it_51 mk_51 154 := ⟨fun _ => rfl, fun _ => rfl⟩
theorem mS_51 : mS 51 = false := rfl
theorem mP_51 : mP 51 = 4 := rfl
theorem mL_51 : mL 51 = 11 := rfl
theorem mO_51 : mO 51 = 4 := rfl
theorem mR_51 : mR 51 = none := rfl
theorem tb_52 : Tb 52 it_52 mk_52 16 := ⟨fun _ => rfl, fun _ => rfl⟩
theorem mS_52 : mS 52 = false := rfl
theorem mP_52 : mP 52 = 2 := rfl
theorem mL_52 : mL 52 = 3 := rfl
theorem mO_52 : mO 52 = 4 := rfl
theorem mR_52 : mR 52 = some .int := rfl
theorem tb_53 : Tb 53 it_53 mk_53 26 := ⟨fun _ => rfl, fun _ => rfl⟩
theorem mS_53 : mS 53 = false := rfl
theorem mP_53 : mP 53 = 2 := rfl
theorem mL_53 : mL 53 = 3 := rfl
theorem mO_53 : mO 53 = 4 := rfl
theorem mR_53 : mR 53 = some .int := rfl
theorem tb_54 : Tb 54 it_54 mk_54 86 := ⟨fun _ => rfl, fun _ => rfl⟩
theorem mS_54 : mS 54 = false := rfl
theorem mP_54 : mP 54 = 2 := rfl
theorem mL_54 : mL 54 = 6 := rfl
theorem mO_54 : mO 54 = 4 := rfl
theorem mR_54 : mR 54 = none := rfl
theorem tb_55 : Tb 55 it_55 mk_55 75 := ⟨fun _ => rfl, fun _ => rfl⟩
theorem mS_55 : mS 55 = false := rfl
theorem mP_55 : mP 55 = 3 := rfl
theorem mL_55 : mL 55 = 7 := rfl
theorem mO_55 : mO 55 = 4 := rfl
theorem mR_55 : mR 55 = some .boolean := rfl
theorem tb_56 : Tb 56 it_56 mk_56 48 := ⟨fun _ => rfl, fun _ => rfl⟩
theorem mS_56 : mS 56 = false := rfl
theorem mP_56 : mP 56 = 1 := rfl
theorem mL_56 : mL 56 = 4 := rfl
theorem mO_56 : mO 56 = 4 := rfl
theorem mR_56 : mR 56 = none := rfl
theorem tb_57 : Tb 57 it_57 mk_57 225 := ⟨fun _ => rfl, fun _ => rfl⟩
theorem mS_57 : mS 57 = false := rfl
theorem mP_57 : mP 57 = 2 := rfl
theorem mL_57 : mL 57 = 12 := rfl
theorem mO_57 : mO 57 = 4 := rfl
theorem mR_57 : mR 57 = none := rfl
theorem tb_58 : Tb 58 it_58 mk_58 16 := ⟨fun _ => rfl, fun _ => rfl⟩
theorem mS_58 : mS 58 = false := rfl
theorem mP_58 : mP 58 = 3 := rfl
theorem mL_58 : mL 58 = 4 := rfl
theorem mO_58 : mO 58 = 4 := rfl
theorem mR_58 : mR 58 = some .int := rfl
theorem tb_60 : Tb 60 it_60 mk_60 77 := ⟨fun _ => rfl, fun _ => rfl⟩
theorem mS_60 : mS 60 = false := rfl
theorem mP_60 : mP 60 = 3 := rfl
theorem mL_60 : mL 60 = 4 := rfl
theorem mO_60 : mO 60 = 5 := rfl
theorem mR_60 : mR 60 = some .int := rfl
theorem tb_61 : Tb 61 it_61 mk_61 51 := ⟨fun _ => rfl, fun _ => rfl⟩
theorem mS_61 : mS 61 = false := rfl
theorem mP_61 : mP 61 = 1 := rfl
theorem mL_61 : mL 61 = 3 := rfl
theorem mO_61 : mO 61 = 5 := rfl
theorem mR_61 : mR 61 = none := rfl
theorem tb_62 : Tb 62 it_62 mk_62 51 := ⟨fun _ => rfl, fun _ => rfl⟩
theorem mS_62 : mS 62 = false := rfl
theorem mP_62 : mP 62 = 1 := rfl
theorem mL_62 : mL 62 = 3 := rfl
theorem mO_62 : mO 62 = 5 := rfl
theorem mR_62 : mR 62 = none := rfl
theorem tb_63 : Tb 63 it_63 mk_63 53 := ⟨fun _ => rfl, fun _ => rfl⟩
theorem mS_63 : mS 63 = false := rfl
theorem mP_63 : mP 63 = 1 := rfl
theorem mL_63 : mL 63 = 3 := rfl
theorem mO_63 : mO 63 = 5 := rfl
theorem mR_63 : mR 63 = none := rfl
theorem tb_64 : Tb 64 it_64 mk_64 66 := ⟨fun _ => rfl, fun _ => rfl⟩
theorem mS_64 : mS 64 = false := rfl
theorem mP_64 : mP 64 = 1 := rfl
theorem mL_64 : mL 64 = 4 := rfl
theorem mO_64 : mO 64 = 5 := rfl
theorem mR_64 : mR 64 = none := rfl
theorem tb_65 : Tb 65 it_65 mk_65 72 := ⟨fun _ => rfl, fun _ => rfl⟩
theorem mS_65 : mS 65 = false := rfl
theorem mP_65 : mP 65 = 1 := rfl
theorem mL_65 : mL 65 = 4 := rfl
theorem mO_65 : mO 65 = 5 := rfl
theorem mR_65 : mR 65 = none := rfl
theorem tb_66 : Tb 66 it_66 mk_66 129 := ⟨fun _ => rfl, fun _ => rfl⟩
theorem mS_66 : mS 66 = false := rfl
theorem mP_66 : mP 66 = 1 := rfl
theorem mL_66 : mL 66 = 4 := rfl
theorem mO_66 : mO 66 = 5 := rfl
theorem mR_66 : mR 66 = none := rfl
theorem tb_67 : Tb 67 it_67 mk_67 54 := ⟨fun _ => rfl, fun _ => rfl⟩
theorem mS_67 : mS 67 = false := rfl
theorem mP_67 : mP 67 = 0 := rfl
theorem mL_67 : mL 67 = 3 := rfl
theorem mO_67 : mO 67 = 5 := rfl
theorem mR_67 : mR 67 = none := rfl
theorem tb_68 : Tb 68 it_68 mk_68 27 := ⟨fun _ => rfl, fun _ => rfl⟩
theorem mS_68 : mS 68 = false := rfl
theorem mP_68 : mP 68 = 0 := rfl
theorem mL_68 : mL 68 = 1 := rfl
theorem mO_68 : mO 68 = 5 := rfl
theorem mR_68 : mR 68 = none := rfl
theorem tb_69 : Tb 69 it_69 mk_69 45 := ⟨fun _ => rfl, fun _ => rfl⟩
theorem mS_69 : mS 69 = false := rfl
theorem mP_69 : mP 69 = 0 := rfl
theorem mL_69 : mL 69 = 1 := rfl
theorem mO_69 : mO 69 = 5 := rfl
theorem mR_69 : mR 69 = some .int := rfl
theorem tb_70 : Tb 70 it_70 mk_70 17 := ⟨fun _ => rfl, fun _ => rfl⟩
theorem mS_70 : mS 70 = false := rfl
theorem mP_70 : mP 70 = 0 := rfl
theorem mL_70 : mL 70 = 1 := rfl
theorem mO_70 : mO 70 = 5 := rfl
theorem mR_70 : mR 70 = none := rfl
theorem tb_71 : Tb 71 it_71 mk_71 18 := ⟨fun _ => rfl, fun _ => rfl⟩
theorem mS_71 : mS 71 = true := rfl
theorem mP_71 : mP 71 = 1 := rfl
theorem mL_71 : mL 71 = 1 := rfl
theorem mO_71 : mO 71 = 5 := rfl
theorem mR_71 : mR 71 = some .boolean := rfl
theorem tb_72 : Tb 72 it_72 mk_72 37 := ⟨fun _ => rfl, fun _ => rfl⟩
theorem mS_72 : mS 72 = false := rfl
theorem mP_72 : mP 72 = 1 := rfl
theorem mL_72 : mL 72 = 3 := rfl
theorem mO_72 : mO 72 = 5 := rfl
theorem mR_72 : mR 72 = some .int := rfl
theorem tb_73 : Tb 73 it_73 mk_73 33 := ⟨fun _ => rfl, fun _ => rfl⟩
theorem mS_73 : mS 73 = false := rfl
theorem mP_73 : mP 73 = 1 := rfl
theorem mL_73 : mL 73 = 2 := rfl
theorem mO_73 : mO 73 = 5 := rfl
theorem mR_73 : mR 73 = none := rfl
theorem tb_74 : Tb 74 it_74 mk_74 48 := ⟨fun _ => rfl, fun _ => rfl⟩
theorem mS_74 : mS 74 = false := rfl
theorem mP_74 : mP 74 = 2 := rfl
theorem mL_74 : mL 74 = 5 := rfl
theorem mO_74 : mO 74 = 5 := rfl
theorem mR_74 : mR 74 = some .int := rfl
theorem tb_75 : Tb 75 it_75 mk_75 60 := ⟨fun _ => rfl, fun _ => rfl⟩
theorem mS_75 : mS 75 = false := rfl
theorem mP_75 : mP 75 = 1 := rfl
theorem mL_75 : mL 75 = 4 := rfl
theorem mO_75 : mO 75 = 5 := rfl
theorem mR_75 : mR 75 = some .int := rfl
theorem tb_76 : Tb 76 it_76 mk_76 126 := ⟨fun _ => rfl, fun _ => rfl⟩
theorem mS_76 : mS 76 = false := rfl
theorem mP_76 : mP 76 = 2 := rfl
theorem mL_76 : mL 76 = 4 := rfl
theorem mO_76 : mO 76 = 5 := rfl
theorem mR_76 : mR 76 = none := rfl
theorem tb_77 : Tb 77 it_77 mk_77 92 := ⟨fun _ => rfl, fun _ => rfl⟩
theorem mS_77 : mS 77 = false := rfl
theorem mP_77 : mP 77 = 0 := rfl
theorem mL_77 : mL 77 = 4 := rfl
theorem mO_77 : mO 77 = 5 := rfl
theorem mR_77 : mR 77 = some .int := rfl
theorem tb_78 : Tb 78 it_78 mk_78 79 := ⟨fun _ => rfl, fun _ => rfl⟩
theorem mS_78 : mS 78 = false := rfl
theorem mP_78 : mP 78 = 2 := rfl
theorem mL_78 : mL 78 = 3 := rfl
theorem mO_78 : mO 78 = 5 := rfl
theorem mR_78 : mR 78 = some .int := rfl
theorem tb_79 : Tb 79 it_79 mk_79 196 := ⟨fun _ => rfl, fun _ => rfl⟩
theorem mS_79 : mS 79 = true := rfl
theorem mP_79 : mP 79 = 3 := rfl
theorem mL_79 : mL 79 = 3 := rfl
theorem mO_79 : mO 79 = 5 := rfl
theorem mR_79 : mR 79 = some .int := rfl
theorem tb_80 : Tb 80 it_80 mk_80 10 := ⟨fun _ => rfl, fun _ => rfl⟩
theorem mS_80 : mS 80 = true := rfl
theorem mP_80 : mP 80 = 1 := rfl
theorem mL_80 : mL 80 = 1 := rfl
theorem mO_80 : mO 80 = 5 := rfl
theorem mR_80 : mR 80 = some .int := rfl
theorem tb_82 : Tb 82 it_82 mk_82 101 := ⟨fun _ => rfl, fun _ => rfl⟩
theorem mS_82 : mS 82 = false := rfl
theorem mP_82 : mP 82 = 1 := rfl
theorem mL_82 : mL 82 = 3 := rfl
theorem mO_82 : mO 82 = 6 := rfl
theorem mR_82 : mR 82 = none := rfl
theorem tb_83 : Tb 83 it_83 mk_83 26 := ⟨fun _ => rfl, fun _ => rfl⟩
theorem mS_83 : mS 83 = false := rfl
theorem mP_83 : mP 83 = 2 := rfl
theorem mL_83 : mL 83 = 3 := rfl
theorem mO_83 : mO 83 = 6 := rfl
theorem mR_83 : mR 83 = some .boolean := rfl
theorem tb_84 : Tb 84 it_84 mk_84 41 := ⟨fun _ => rfl, fun _ => rfl⟩
theorem mS_84 : mS 84 = false := rfl
theorem mP_84 : mP 84 = 1 := rfl
theorem mL_84 : mL 84 = 4 := rfl
theorem mO_84 : mO 84 = 6 := rfl
theorem mR_84 : mR 84 = some .int := rfl
theorem tb_85 : Tb 85 it_85 mk_85 31 := ⟨fun _ => rfl, fun _ => rfl⟩
theorem mS_85 : mS 85 = false := rfl
theorem mP_85 : mP 85 = 0 := rfl
theorem mL_85 : mL 85 = 3 := rfl
theorem mO_85 : mO 85 = 6 := rfl
theorem mR_85 : mR 85 = some .int := rfl
theorem tb_86 : Tb 86 it_86 mk_86 42 := ⟨fun _ => rfl, fun _ => rfl⟩
theorem mS_86 : mS 86 = false := rfl
theorem mP_86 : mP 86 = 2 := rfl
theorem mL_86 : mL 86 = 4 := rfl
theorem mO_86 : mO 86 = 6 := rfl
theorem mR_86 : mR 86 = some .boolean := rfl
theorem tb_88 : Tb 88 it_88 mk_88 39 := ⟨fun _ => rfl, fun _ => rfl⟩
theorem mS_88 : mS 88 = false := rfl
theorem mP_88 : mP 88 = 4 := rfl
theorem mL_88 : mL 88 = 5 := rfl
theorem mO_88 : mO 88 = 7 := rfl
theorem mR_88 : mR 88 = some .int := rfl
theorem tb_89 : Tb 89 it_89 mk_89 342 := ⟨fun _ => rfl, fun _ => rfl⟩
theorem mS_89 : mS 89 = false := rfl
theorem mP_89 : mP 89 = 4 := rfl
theorem mL_89 : mL 89 = 9 := rfl
theorem mO_89 : mO 89 = 7 := rfl
theorem mR_89 : mR 89 = some .int := rfl
theorem tb_90 : Tb 90 it_90 mk_90 36 := ⟨fun _ => rfl, fun _ => rfl⟩
theorem mS_90 : mS 90 = true := rfl
theorem mP_90 : mP 90 = 2 := rfl
theorem mL_90 : mL 90 = 4 := rfl
theorem mO_90 : mO 90 = 7 := rfl
theorem mR_90 : mR 90 = some .int := rfl
theorem tb_91 : Tb 91 it_91 mk_91 30 := ⟨fun _ => rfl, fun _ => rfl⟩
theorem mS_91 : mS 91 = false := rfl
theorem mP_91 : mP 91 = 1 := rfl
theorem mL_91 : mL 91 = 2 := rfl
theorem mO_91 : mO 91 = 7 := rfl
theorem mR_91 : mR 91 = none := rfl
theorem tb_93 : Tb 93 it_93 mk_93 110 := ⟨fun _ => rfl, fun _ => rfl⟩
theorem mS_93 : mS 93 = false := rfl
theorem mP_93 : mP 93 = 2 := rfl
theorem mL_93 : mL 93 = 3 := rfl
theorem mO_93 : mO 93 = 8 := rfl
theorem mR_93 : mR 93 = some .int := rfl
theorem tb_94 : Tb 94 it_94 mk_94 42 := ⟨fun _ => rfl, fun _ => rfl⟩
theorem mS_94 : mS 94 = false := rfl
theorem mP_94 : mP 94 = 2 := rfl
theorem mL_94 : mL 94 = 3 := rfl
theorem mO_94 : mO 94 = 8 := rfl
theorem mR_94 : mR 94 = some .int := rfl
theorem tb_95 : Tb 95 it_95 mk_95 42 := ⟨fun _ => rfl, fun _ => rfl⟩
theorem mS_95 : mS 95 = false := rfl
theorem mP_95 : mP 95 = 2 := rfl
theorem mL_95 : mL 95 = 4 := rfl
theorem mO_95 : mO 95 = 8 := rfl
theorem mR_95 : mR 95 = some .int := rfl
theorem tb_96 : Tb 96 it_96 mk_96 25 := ⟨fun _ => rfl, fun _ => rfl⟩
theorem mS_96 : mS 96 = false := rfl
theorem mP_96 : mP 96 = 1 := rfl
theorem mL_96 : mL 96 = 2 := rfl
theorem mO_96 : mO 96 = 8 := rfl
theorem mR_96 : mR 96 = some .int := rfl
theorem tb_97 : Tb 97 it_97 mk_97 96 := ⟨fun _ => rfl, fun _ => rfl⟩
theorem mS_97 : mS 97 = false := rfl
theorem mP_97 : mP 97 = 1 := rfl
theorem mL_97 : mL 97 = 5 := rfl
theorem mO_97 : mO 97 = 8 := rfl
theorem mR_97 : mR 97 = some .int := rfl
theorem tb_98 : Tb 98 it_98 mk_98 69 := ⟨fun _ => rfl, fun _ => rfl⟩
theorem mS_98 : mS 98 = false := rfl
theorem mP_98 : mP 98 = 1 := rfl
theorem mL_98 : mL 98 = 5 := rfl
theorem mO_98 : mO 98 = 8 := rfl
theorem mR_98 : mR 98 = some .int := rfl
theorem tb_99 : Tb 99 it_99 mk_99 100 := ⟨fun _ => rfl, fun _ => rfl⟩
theorem mS_99 : mS 99 = false := rfl
theorem mP_99 : mP 99 = 2 := rfl
theorem mL_99 : mL 99 = 5 := rfl
theorem mO_99 : mO 99 = 8 := rfl
theorem mR_99 : mR 99 = some .int := rfl
theorem tb_100 : Tb 100 it_100 mk_100 165 := ⟨fun _ => rfl, fun _ => rfl⟩
theorem mS_100 : mS 100 = false := rfl
theorem mP_100 : mP 100 = 2 := rfl
theorem mL_100 : mL 100 = 6 := rfl
theorem mO_100 : mO 100 = 8 := rfl
theorem mR_100 : mR 100 = some .int := rfl
theorem tb_101 : Tb 101 it_101 mk_101 49 := ⟨fun _ => rfl, fun _ => rfl⟩
theorem mS_101 : mS 101 = false := rfl
theorem mP_101 : mP 101 = 2 := rfl
theorem mL_101 : mL 101 = 4 := rfl
theorem mO_101 : mO 101 = 8 := rfl
theorem mR_101 : mR 101 = some .int := rfl
theorem tb_102 : Tb 102 it_102 mk_102 53 := ⟨fun _ => rfl, fun _ => rfl⟩
theorem mS_102 : mS 102 = false := rfl
theorem mP_102 : mP 102 = 2 := rfl
theorem mL_102 : mL 102 = 4 := rfl
theorem mO_102 : mO 102 = 8 := rfl
theorem mR_102 : mR 102 = some .int := rfl
theorem tb_103 : Tb 103 it_103 mk_103 72 := ⟨fun _ => rfl, fun _ => rfl⟩
theorem mS_103 : mS 103 = false := rfl
theorem mP_103 : mP 103 = 3 := rfl
theorem mL_103 : mL 103 = 5 := rfl
theorem mO_103 : mO 103 = 8 := rfl
theorem mR_103 : mR 103 = some .int := rfl
theorem tb_104 : Tb 104 it_104 mk_104 95 := ⟨fun _ => rfl, fun _ => rfl⟩
theorem mS_104 : mS 104 = false := rfl
theorem mP_104 : mP 104 = 4 := rfl
theorem mL_104 : mL 104 = 6 := rfl
theorem mO_104 : mO 104 = 8 := rfl
theorem mR_104 : mR 104 = some .int := rfl
theorem tb_105 : Tb 105 it_105 mk_105 48 := ⟨fun _ => rfl, fun _ => rfl⟩
theorem mS_105 : mS 105 = false := rfl
theorem mP_105 : mP 105 = 1 := rfl
theorem mL_105 : mL 105 = 3 := rfl
theorem mO_105 : mO 105 = 8 := rfl
theorem mR_105 : mR 105 = some .int := rfl
theorem tb_106 : Tb 106 it_106 mk_106 51 := ⟨fun _ => rfl, fun _ => rfl⟩
theorem mS_106 : mS 106 = false := rfl
theorem mP_106 : mP 106 = 0 := rfl
theorem mL_106 : mL 106 = 3 := rfl
theorem mO_106 : mO 106 = 8 := rfl
theorem mR_106 : mR 106 = some .int := rfl
theorem tb_107 : Tb 107 it_107 mk_107 47 := ⟨fun _ => rfl, fun _ => rfl⟩
theorem mS_107 : mS 107 = false := rfl
theorem mP_107 : mP 107 = 2 := rfl
theorem mL_107 : mL 107 = 3 := rfl
theorem mO_107 : mO 107 = 8 := rfl
theorem mR_107 : mR 107 = some .int := rfl
theorem tb_108 : Tb 108 it_108 mk_108 57 := ⟨fun _ => rfl, fun _ => rfl⟩
theorem mS_108 : mS 108 = false := rfl
theorem mP_108 : mP 108 = 1 := rfl
theorem mL_108 : mL 108 = 2 := rfl
theorem mO_108 : mO 108 = 8 := rfl
theorem mR_108 : mR 108 = some .int := rfl
theorem tb_109 : Tb 109 it_109 mk_109 24 := ⟨fun _ => rfl, fun _ => rfl⟩
theorem mS_109 : mS 109 = false := rfl
theorem mP_109 : mP 109 = 1 := rfl
theorem mL_109 : mL 109 = 2 := rfl
theorem mO_109 : mO 109 = 8 := rfl
theorem mR_109 : mR 109 = some .long := rfl
theorem tb_110 : Tb 110 it_110 mk_110 109 := ⟨fun _ => rfl, fun _ => rfl⟩
theorem mS_110 : mS 110 = false := rfl
theorem mP_110 : mP 110 = 2 := rfl
theorem mL_110 : mL 110 = 6 := rfl
theorem mO_110 : mO 110 = 8 := rfl
theorem mR_110 : mR 110 = some .int := rfl
theorem tb_111 : Tb 111 it_111 mk_111 75 := ⟨fun _ => rfl, fun _ => rfl⟩
theorem mS_111 : mS 111 = false := rfl
theorem mP_111 : mP 111 = 1 := rfl
theorem mL_111 : mL 111 = 2 := rfl
theorem mO_111 : mO 111 = 8 := rfl
theorem mR_111 : mR 111 = some .int := rfl
theorem tb_112 : Tb 112 it_112 mk_112 76 := ⟨fun _ => rfl, fun _ => rfl⟩
theorem mS_112 : mS 112 = false := rfl
theorem mP_112 : mP 112 = 1 := rfl
theorem mL_112 : mL 112 = 4 := rfl
theorem mO_112 : mO 112 = 8 := rfl
theorem mR_112 : mR 112 = some .int := rfl
theorem tb_113 : Tb 113 it_113 mk_113 96 := ⟨fun _ => rfl, fun _ => rfl⟩
theorem mS_113 : mS 113 = false := rfl
theorem mP_113 : mP 113 = 2 := rfl
theorem mL_113 : mL 113 = 3 := rfl
theorem mO_113 : mO 113 = 8 := rfl
theorem mR_113 : mR 113 = some .int := rfl
theorem tb_114 : Tb 114 it_114 mk_114 114 := ⟨fun _ => rfl, fun _ => rfl⟩
theorem mS_114 : mS 114 = false := rfl
theorem mP_114 : mP 114 = 2 := rfl
theorem mL_114 : mL 114 = 5 := rfl
theorem mO_114 : mO 114 = 8 := rfl
theorem mR_114 : mR 114 = some .int := rfl
theorem tb_115 : Tb 115 it_115 mk_115 83 := ⟨fun _ => rfl, fun _ => rfl⟩
theorem mS_115 : mS 115 = false := rfl
theorem mP_115 : mP 115 = 1 := rfl
theorem mL_115 : mL 115 = 4 := rfl
theorem mO_115 : mO 115 = 8 := rfl
theorem mR_115 : mR 115 = some .int := rfl
theorem tb_116 : Tb 116 it_116 mk_116 48 := ⟨fun _ => rfl, fun _ => rfl⟩
theorem mS_116 : mS 116 = false := rfl
theorem mP_116 : mP 116 = 1 := rfl
theorem mL_116 : mL 116 = 2 := rfl
theorem mO_116 : mO 116 = 8 := rfl
theorem mR_116 : mR 116 = some .int := rfl
theorem tb_117 : Tb 117 it_117 mk_117 142 := ⟨fun _ => rfl, fun _ => rfl⟩
theorem mS_117 : mS 117 = false := rfl
theorem mP_117 : mP 117 = 2 := rfl
theorem mL_117 : mL 117 = 8 := rfl
theorem mO_117 : mO 117 = 8 := rfl
theorem mR_117 : mR 117 = some .int := rfl
theorem tb_118 : Tb 118 it_118 mk_118 37 := ⟨fun _ => rfl, fun _ => rfl⟩
theorem mS_118 : mS 118 = false := rfl
theorem mP_118 : mP 118 = 2 := rfl
theorem mL_118 : mL 118 = 3 := rfl
theorem mO_118 : mO 118 = 8 := rfl
theorem mR_118 : mR 118 = some .int := rfl
theorem tb_119 : Tb 119 it_119 mk_119 68 := ⟨fun _ => rfl, fun _ => rfl⟩
theorem mS_119 : mS 119 = false := rfl
theorem mP_119 : mP 119 = 1 := rfl
theorem mL_119 : mL 119 = 5 := rfl
theorem mO_119 : mO 119 = 8 := rfl
theorem mR_119 : mR 119 = some .int := rfl
theorem tb_120 : Tb 120 it_120 mk_120 54 := ⟨fun _ => rfl, fun _ => rfl⟩
theorem mS_120 : mS 120 = false := rfl
theorem mP_120 : mP 120 = 2 := rfl
theorem mL_120 : mL 120 = 4 := rfl
theorem mO_120 : mO 120 = 8 := rfl
theorem mR_120 : mR 120 = some .int := rfl
theorem tb_121 : Tb 121 it_121 mk_121 43 := ⟨fun _ => rfl, fun _ => rfl⟩
theorem mS_121 : mS 121 = false := rfl
theorem mP_121 : mP 121 = 3 := rfl
theorem mL_121 : mL 121 = 4 := rfl
theorem mO_121 : mO 121 = 8 := rfl
theorem mR_121 : mR 121 = some .int := rfl
theorem tb_122 : Tb 122 it_122 mk_122 33 := ⟨fun _ => rfl, fun _ => rfl⟩
theorem mS_122 : mS 122 = false := rfl
theorem mP_122 : mP 122 = 1 := rfl
theorem mL_122 : mL 122 = 2 := rfl
theorem mO_122 : mO 122 = 8 := rfl
theorem mR_122 : mR 122 = some .int := rfl
theorem tb_123 : Tb 123 it_123 mk_123 86 := ⟨fun _ => rfl, fun _ => rfl⟩
theorem mS_123 : mS 123 = false := rfl
theorem mP_123 : mP 123 = 3 := rfl
theorem mL_123 : mL 123 = 4 := rfl
theorem mO_123 : mO 123 = 8 := rfl
theorem mR_123 : mR 123 = some .int := rfl
theorem tb_124 : Tb 124 it_124 mk_124 69 := ⟨fun _ => rfl, fun _ => rfl⟩
theorem mS_124 : mS 124 = false := rfl
theorem mP_124 : mP 124 = 3 := rfl
theorem mL_124 : mL 124 = 5 := rfl
theorem mO_124 : mO 124 = 8 := rfl
theorem mR_124 : mR 124 = some .int := rfl
theorem tb_125 : Tb 125 it_125 mk_125 127 := ⟨fun _ => rfl, fun _ => rfl⟩
theorem mS_125 : mS 125 = false := rfl
theorem mP_125 : mP 125 = 5 := rfl
theorem mL_125 : mL 125 = 8 := rfl
theorem mO_125 : mO 125 = 8 := rfl
theorem mR_125 : mR 125 = some .int := rfl
theorem tb_126 : Tb 126 it_126 mk_126 26 := ⟨fun _ => rfl, fun _ => rfl⟩
theorem mS_126 : mS 126 = false := rfl
theorem mP_126 : mP 126 = 0 := rfl
theorem mL_126 : mL 126 = 1 := rfl
theorem mO_126 : mO 126 = 8 := rfl
theorem mR_126 : mR 126 = some .int := rfl
theorem tb_127 : Tb 127 it_127 mk_127 41 := ⟨fun _ => rfl, fun _ => rfl⟩
theorem mS_127 : mS 127 = false := rfl
theorem mP_127 : mP 127 = 0 := rfl
theorem mL_127 : mL 127 = 1 := rfl
theorem mO_127 : mO 127 = 8 := rfl
theorem mR_127 : mR 127 = some .int := rfl
theorem tb_128 : Tb 128 it_128 mk_128 55 := ⟨fun _ => rfl, fun _ => rfl⟩
theorem mS_128 : mS 128 = false := rfl
theorem mP_128 : mP 128 = 1 := rfl
theorem mL_128 : mL 128 = 2 := rfl
theorem mO_128 : mO 128 = 8 := rfl
theorem mR_128 : mR 128 = some .int := rfl
theorem tb_129 : Tb 129 it_129 mk_129 90 := ⟨fun _ => rfl, fun _ => rfl⟩
theorem mS_129 : mS 129 = false := rfl
theorem mP_129 : mP 129 = 1 := rfl
theorem mL_129 : mL 129 = 4 := rfl
theorem mO_129 : mO 129 = 8 := rfl
theorem mR_129 : mR 129 = some .int := rfl
theorem tb_130 : Tb 130 it_130 mk_130 105 := ⟨fun _ => rfl, fun _ => rfl⟩
theorem mS_130 : mS 130 = false := rfl
theorem mP_130 : mP 130 = 1 := rfl
theorem mL_130 : mL 130 = 2 := rfl
theorem mO_130 : mO 130 = 8 := rfl
theorem mR_130 : mR 130 = some .int := rfl
theorem tb_131 : Tb 131 it_131 mk_131 25 := ⟨fun _ => rfl, fun _ => rfl⟩
theorem mS_131 : mS 131 = false := rfl
theorem mP_131 : mP 131 = 1 := rfl
theorem mL_131 : mL 131 = 2 := rfl
theorem mO_131 : mO 131 = 8 := rfl
theorem mR_131 : mR 131 = some .int := rfl
theorem tb_132 : Tb 132 it_132 mk_132 16 := ⟨fun _ => rfl, fun _ => rfl⟩
theorem mS_132 : mS 132 = false := rfl
theorem mP_132 : mP 132 = 1 := rfl
theorem mL_132 : mL 132 = 2 := rfl
theorem mO_132 : mO 132 = 8 := rfl
theorem mR_132 : mR 132 = some .int := rfl
theorem tb_133 : Tb 133 it_133 mk_133 21 := ⟨fun _ => rfl, fun _ => rfl⟩
theorem mS_133 : mS 133 = false := rfl
theorem mP_133 : mP 133 = 1 := rfl
theorem mL_133 : mL 133 = 2 := rfl
theorem mO_133 : mO 133 = 8 := rfl
theorem mR_133 : mR 133 = some .boolean := rfl
theorem tb_134 : Tb 134 it_134 mk_134 37 := ⟨fun _ => rfl, fun _ => rfl⟩
theorem mS_134 : mS 134 = false := rfl
theorem mP_134 : mP 134 = 2 := rfl
theorem mL_134 : mL 134 = 3 := rfl
theorem mO_134 : mO 134 = 8 := rfl
theorem mR_134 : mR 134 = some .boolean := rfl
theorem tb_135 : Tb 135 it_135 mk_135 23 := ⟨fun _ => rfl, fun _ => rfl⟩
theorem mS_135 : mS 135 = false := rfl
theorem mP_135 : mP 135 = 1 := rfl
theorem mL_135 : mL 135 = 2 := rfl
theorem mO_135 : mO 135 = 8 := rfl
theorem mR_135 : mR 135 = some .boolean := rfl
theorem tb_136 : Tb 136 it_136 mk_136 15 := ⟨fun _ => rfl, fun _ => rfl⟩
theorem mS_136 : mS 136 = true := rfl
theorem mP_136 : mP 136 = 1 := rfl
theorem mL_136 : mL 136 = 1 := rfl
theorem mO_136 : mO 136 = 8 := rfl
theorem mR_136 : mR 136 = some .boolean := rfl
theorem tb_137 : Tb 137 it_137 mk_137 16 := ⟨fun _ => rfl, fun _ => rfl⟩
theorem mS_137 : mS 137 = true := rfl
theorem mP_137 : mP 137 = 1 := rfl
theorem mL_137 : mL 137 = 1 := rfl
theorem mO_137 : mO 137 = 8 := rfl
theorem mR_137 : mR 137 = some .boolean := rfl
theorem tb_138 : Tb 138 it_138 mk_138 16 := ⟨fun _ => rfl, fun _ => rfl⟩
theorem mS_138 : mS 138 = true := rfl
theorem mP_138 : mP 138 = 1 := rfl
theorem mL_138 : mL 138 = 1 := rfl
theorem mO_138 : mO 138 = 8 := rfl
theorem mR_138 : mR 138 = some .boolean := rfl
theorem tb_139 : Tb 139 it_139 mk_139 16 := ⟨fun _ => rfl, fun _ => rfl⟩
theorem mS_139 : mS 139 = true := rfl
theorem mP_139 : mP 139 = 1 := rfl
theorem mL_139 : mL 139 = 1 := rfl
theorem mO_139 : mO 139 = 8 := rfl
theorem mR_139 : mR 139 = some .boolean := rfl
theorem tb_140 : Tb 140 it_140 mk_140 20 := ⟨fun _ => rfl, fun _ => rfl⟩
theorem mS_140 : mS 140 = true := rfl
theorem mP_140 : mP 140 = 1 := rfl
theorem mL_140 : mL 140 = 1 := rfl
theorem mO_140 : mO 140 = 8 := rfl
theorem mR_140 : mR 140 = some .boolean := rfl
theorem tb_141 : Tb 141 it_141 mk_141 42 := ⟨fun _ => rfl, fun _ => rfl⟩
theorem mS_141 : mS 141 = true := rfl
theorem mP_141 : mP 141 = 2 := rfl
theorem mL_141 : mL 141 = 4 := rfl
theorem mO_141 : mO 141 = 8 := rfl
theorem mR_141 : mR 141 = some .boolean := rfl
theorem tb_142 : Tb 142 it_142 mk_142 6 := ⟨fun _ => rfl, fun _ => rfl⟩
theorem mS_142 : mS 142 = true := rfl
theorem mP_142 : mP 142 = 1 := rfl
theorem mL_142 : mL 142 = 1 := rfl
theorem mO_142 : mO 142 = 8 := rfl
theorem mR_142 : mR 142 = some .int := rfl
theorem tb_143 : Tb 143 it_143 mk_143 16 := ⟨fun _ => rfl, fun _ => rfl⟩
theorem mS_143 : mS 143 = true := rfl
theorem mP_143 : mP 143 = 2 := rfl
theorem mL_143 : mL 143 = 2 := rfl
theorem mO_143 : mO 143 = 8 := rfl
theorem mR_143 : mR 143 = some .boolean := rfl
theorem tb_144 : Tb 144 it_144 mk_144 24 := ⟨fun _ => rfl, fun _ => rfl⟩
theorem mS_144 : mS 144 = true := rfl
theorem mP_144 : mP 144 = 1 := rfl
theorem mL_144 : mL 144 = 1 := rfl
theorem mO_144 : mO 144 = 8 := rfl
theorem mR_144 : mR 144 = some .int := rfl
theorem tb_145 : Tb 145 it_145 mk_145 53 := ⟨fun _ => rfl, fun _ => rfl⟩
theorem mS_145 : mS 145 = false := rfl
theorem mP_145 : mP 145 = 2 := rfl
theorem mL_145 : mL 145 = 3 := rfl
theorem mO_145 : mO 145 = 8 := rfl
theorem mR_145 : mR 145 = some .int := rfl
theorem tb_146 : Tb 146 it_146 mk_146 59 := ⟨fun _ => rfl, fun _ => rfl⟩
theorem mS_146 : mS 146 = false := rfl
theorem mP_146 : mP 146 = 1 := rfl
theorem mL_146 : mL 146 = 2 := rfl
theorem mO_146 : mO 146 = 8 := rfl
theorem mR_146 : mR 146 = some .boolean := rfl
theorem tb_147 : Tb 147 it_147 mk_147 55 := ⟨fun _ => rfl, fun _ => rfl⟩
theorem mS_147 : mS 147 = false := rfl
theorem mP_147 : mP 147 = 1 := rfl
theorem mL_147 : mL 147 = 2 := rfl
theorem mO_147 : mO 147 = 8 := rfl
theorem mR_147 : mR 147 = some .int := rfl
theorem tb_148 : Tb 148 it_148 mk_148 30 := ⟨fun _ => rfl, fun _ => rfl⟩
theorem mS_148 : mS 148 = false := rfl
theorem mP_148 : mP 148 = 1 := rfl
theorem mL_148 : mL 148 = 2 := rfl
theorem mO_148 : mO 148 = 8 := rfl
theorem mR_148 : mR 148 = some .boolean := rfl
theorem tb_149 : Tb 149 it_149 mk_149 23 := ⟨fun _ => rfl, fun _ => rfl⟩
theorem mS_149 : mS 149 = false := rfl
theorem mP_149 : mP 149 = 2 := rfl
theorem mL_149 : mL 149 = 3 := rfl
theorem mO_149 : mO 149 = 8 := rfl
theorem mR_149 : mR 149 = some .boolean := rfl
theorem tb_151 : Tb 151 it_151 mk_151 11 := ⟨fun _ => rfl, fun _ => rfl⟩
theorem mS_151 : mS 151 = true := rfl
theorem mP_151 : mP 151 = 1 := rfl
theorem mL_151 : mL 151 = 1 := rfl
theorem mO_151 : mO 151 = 9 := rfl
theorem mR_151 : mR 151 = some .int := rfl
theorem tb_152 : Tb 152 it_152 mk_152 29 := ⟨fun _ => rfl, fun _ => rfl⟩
theorem mS_152 : mS 152 = true := rfl
theorem mP_152 : mP 152 = 2 := rfl
theorem mL_152 : mL 152 = 2 := rfl
theorem mO_152 : mO 152 = 9 := rfl
theorem mR_152 : mR 152 = some .int := rfl
theorem tb_153 : Tb 153 it_153 mk_153 19 := ⟨fun _ => rfl, fun _ => rfl⟩
theorem mS_153 : mS 153 = true := rfl
theorem mP_153 : mP 153 = 2 := rfl
theorem mL_153 : mL 153 = 2 := rfl
theorem mO_153 : mO 153 = 9 := rfl
theorem mR_153 : mR 153 = some .int := rfl
theorem tb_156 : Tb 156 it_156 mk_156 15 := ⟨fun _ => rfl, fun _ => rfl⟩
theorem mS_156 : mS 156 = false := rfl
theorem mP_156 : mP 156 = 1 := rfl
theorem mL_156 : mL 156 = 2 := rfl
theorem mO_156 : mO 156 = 9 := rfl
theorem mR_156 : mR 156 = some .int := rfl
theorem tb_157 : Tb 157 it_157 mk_157 16 := ⟨fun _ => rfl, fun _ => rfl⟩
theorem mS_157 : mS 157 = true := rfl
theorem mP_157 : mP 157 = 3 := rfl
theorem mL_157 : mL 157 = 3 := rfl
theorem mO_157 : mO 157 = 9 := rfl
theorem mR_157 : mR 157 = some .boolean := rfl
theorem tb_158 : Tb 158 it_158 mk_158 8 := ⟨fun _ => rfl, fun _ => rfl⟩
theorem mS_158 : mS 158 = true := rfl
theorem mP_158 : mP 158 = 1 := rfl
theorem mL_158 : mL 158 = 1 := rfl
theorem mO_158 : mO 158 = 9 := rfl
theorem mR_158 : mR 158 = some .boolean := rfl
theorem tb_159 : Tb 159 it_159 mk_159 7 := ⟨fun _ => rfl, fun _ => rfl⟩
theorem mS_159 : mS 159 = true := rfl
theorem mP_159 : mP 159 = 1 := rfl
theorem mL_159 : mL 159 = 1 := rfl
theorem mO_159 : mO 159 = 9 := rfl
theorem mR_159 : mR 159 = some .boolean := rfl
theorem tb_160 : Tb 160 it_160 mk_160 14 := ⟨fun _ => rfl, fun _ => rfl⟩
theorem mS_160 : mS 160 = false := rfl
theorem mP_160 : mP 160 = 1 := rfl
theorem mL_160 : mL 160 = 2 := rfl
theorem mO_160 : mO 160 = 9 := rfl
theorem mR_160 : mR 160 = some .boolean := rfl
theorem tb_161 : Tb 161 it_161 mk_161 16 := ⟨fun _ => rfl, fun _ => rfl⟩
theorem mS_161 : mS 161 = false := rfl
theorem mP_161 : mP 161 = 1 := rfl
theorem mL_161 : mL 161 = 2 := rfl
theorem mO_161 : mO 161 = 9 := rfl
theorem mR_161 : mR 161 = some .boolean := rfl
theorem tb_162 : Tb 162 it_162 mk_162 15 := ⟨fun _ => rfl, fun _ => rfl⟩
theorem mS_162 : mS 162 = true := rfl
theorem mP_162 : mP 162 = 2 := rfl
theorem mL_162 : mL 162 = 2 := rfl
theorem mO_162 : mO 162 = 9 := rfl
theorem mR_162 : mR 162 = some .boolean := rfl
theorem tb_163 : Tb 163 it_163 mk_163 10 := ⟨fun _ => rfl, fun _ => rfl⟩
theorem mS_163 : mS 163 = false := rfl
theorem mP_163 : mP 163 = 1 := rfl
theorem mL_163 : mL 163 = 2 := rfl
theorem mO_163 : mO 163 = 9 := rfl
theorem mR_163 : mR 163 = some .int := rfl
theorem tb_164 : Tb 164 it_164 mk_164 24 := ⟨fun _ => rfl, fun _ => rfl⟩
theorem mS_164 : mS 164 = false := rfl
theorem mP_164 : mP 164 = 1 := rfl
theorem mL_164 : mL 164 = 2 := rfl
theorem mO_164 : mO 164 = 9 := rfl
theorem mR_164 : mR 164 = some .int := rfl
theorem tb_165 : Tb 165 it_165 mk_165 23 := ⟨fun _ => rfl, fun _ => rfl⟩
theorem mS_165 : mS 165 = false := rfl
theorem mP_165 : mP 165 = 1 := rfl
theorem mL_165 : mL 165 = 2 := rfl
theorem mO_165 : mO 165 = 9 := rfl
theorem mR_165 : mR 165 = some .boolean := rfl
theorem tb_166 : Tb 166 it_166 mk_166 37 := ⟨fun _ => rfl, fun _ => rfl⟩
theorem mS_166 : mS 166 = true := rfl
theorem mP_166 : mP 166 = 2 := rfl
theorem mL_166 : mL 166 = 4 := rfl
theorem mO_166 : mO 166 = 9 := rfl
theorem mR_166 : mR 166 = some .int := rfl
theorem tb_167 : Tb 167 it_167 mk_167 69 := ⟨fun _ => rfl, fun _ => rfl⟩
theorem mS_167 : mS 167 = false := rfl
theorem mP_167 : mP 167 = 2 := rfl
theorem mL_167 : mL 167 = 3 := rfl
theorem mO_167 : mO 167 = 9 := rfl
theorem mR_167 : mR 167 = some .int := rfl
theorem tb_168 : Tb 168 it_168 mk_168 48 := ⟨fun _ => rfl, fun _ => rfl⟩
theorem mS_168 : mS 168 = false := rfl
theorem mP_168 : mP 168 = 2 := rfl
theorem mL_168 : mL 168 = 3 := rfl
theorem mO_168 : mO 168 = 9 := rfl
theorem mR_168 : mR 168 = some .int := rfl
theorem tb_169 : Tb 169 it_169 mk_169 43 := ⟨fun _ => rfl, fun _ => rfl⟩
theorem mS_169 : mS 169 = false := rfl
theorem mP_169 : mP 169 = 2 := rfl
theorem mL_169 : mL 169 = 4 := rfl
theorem mO_169 : mO 169 = 9 := rfl
theorem mR_169 : mR 169 = some .int := rfl
theorem tb_170 : Tb 170 it_170 mk_170 26 := ⟨fun _ => rfl, fun _ => rfl⟩
theorem mS_170 : mS 170 = false := rfl
theorem mP_170 : mP 170 = 1 := rfl
theorem mL_170 : mL 170 = 2 := rfl
theorem mO_170 : mO 170 = 9 := rfl
theorem mR_170 : mR 170 = some .int := rfl
theorem tb_171 : Tb 171 it_171 mk_171 114 := ⟨fun _ => rfl, fun _ => rfl⟩
theorem mS_171 : mS 171 = false := rfl
theorem mP_171 : mP 171 = 1 := rfl
theorem mL_171 : mL 171 = 4 := rfl
theorem mO_171 : mO 171 = 9 := rfl
theorem mR_171 : mR 171 = some .int := rfl
theorem tb_172 : Tb 172 it_172 mk_172 188 := ⟨fun _ => rfl, fun _ => rfl⟩
theorem mS_172 : mS 172 = true := rfl
theorem mP_172 : mP 172 = 2 := rfl
theorem mL_172 : mL 172 = 5 := rfl
theorem mO_172 : mO 172 = 9 := rfl
theorem mR_172 : mR 172 = some .int := rfl
theorem tb_173 : Tb 173 it_173 mk_173 74 := ⟨fun _ => rfl, fun _ => rfl⟩
theorem mS_173 : mS 173 = false := rfl
theorem mP_173 : mP 173 = 1 := rfl
theorem mL_173 : mL 173 = 4 := rfl
theorem mO_173 : mO 173 = 9 := rfl
theorem mR_173 : mR 173 = some .int := rfl
theorem tb_174 : Tb 174 it_174 mk_174 95 := ⟨fun _ => rfl, fun _ => rfl⟩
theorem mS_174 : mS 174 = false := rfl
theorem mP_174 : mP 174 = 2 := rfl
theorem mL_174 : mL 174 = 5 := rfl
theorem mO_174 : mO 174 = 9 := rfl
theorem mR_174 : mR 174 = some .int := rfl
theorem tb_175 : Tb 175 it_175 mk_175 37 := ⟨fun _ => rfl, fun _ => rfl⟩
theorem mS_175 : mS 175 = false := rfl
theorem mP_175 : mP 175 = 0 := rfl
theorem mL_175 : mL 175 = 1 := rfl
theorem mO_175 : mO 175 = 9 := rfl
theorem mR_175 : mR 175 = some .int := rfl
theorem tb_176 : Tb 176 it_176 mk_176 34 := ⟨fun _ => rfl, fun _ => rfl⟩
theorem mS_176 : mS 176 = false := rfl
theorem mP_176 : mP 176 = 1 := rfl
theorem mL_176 : mL 176 = 3 := rfl
theorem mO_176 : mO 176 = 9 := rfl
theorem mR_176 : mR 176 = some .boolean := rfl
theorem tb_177 : Tb 177 it_177 mk_177 28 := ⟨fun _ => rfl, fun _ => rfl⟩
theorem mS_177 : mS 177 = false := rfl
theorem mP_177 : mP 177 = 1 := rfl
theorem mL_177 : mL 177 = 2 := rfl
theorem mO_177 : mO 177 = 9 := rfl
theorem mR_177 : mR 177 = none := rfl
theorem tb_178 : Tb 178 it_178 mk_178 28 := ⟨fun _ => rfl, fun _ => rfl⟩
theorem mS_178 : mS 178 = false := rfl
theorem mP_178 : mP 178 = 0 := rfl
theorem mL_178 : mL 178 = 1 := rfl
theorem mO_178 : mO 178 = 9 := rfl
theorem mR_178 : mR 178 = none := rfl
theorem tb_179 : Tb 179 it_179 mk_179 28 := ⟨fun _ => rfl, fun _ => rfl⟩
theorem mS_179 : mS 179 = false := rfl
theorem mP_179 : mP 179 = 0 := rfl
theorem mL_179 : mL 179 = 1 := rfl
theorem mO_179 : mO 179 = 9 := rfl
theorem mR_179 : mR 179 = none := rfl
theorem tb_180 : Tb 180 it_180 mk_180 65 := ⟨fun _ => rfl, fun _ => rfl⟩
theorem mS_180 : mS 180 = false := rfl
theorem mP_180 : mP 180 = 0 := rfl
theorem mL_180 : mL 180 = 2 := rfl
theorem mO_180 : mO 180 = 9 := rfl
theorem mR_180 : mR 180 = none := rfl
theorem tb_181 : Tb 181 it_181 mk_181 85 := ⟨fun _ => rfl, fun _ => rfl⟩
theorem mS_181 : mS 181 = false := rfl
theorem mP_181 : mP 181 = 0 := rfl
theorem mL_181 : mL 181 = 2 := rfl
theorem mO_181 : mO 181 = 9 := rfl
theorem mR_181 : mR 181 = none := rfl
theorem tb_182 : Tb 182 it_182 mk_182 115 := ⟨fun _ => rfl, fun _ => rfl⟩
theorem mS_182 : mS 182 = false := rfl
theorem mP_182 : mP 182 = 0 := rfl
theorem mL_182 : mL 182 = 2 := rfl
theorem mO_182 : mO 182 = 9 := rfl
theorem mR_182 : mR 182 = none := rfl
theorem tb_183 : Tb 183 it_183 mk_183 134 := ⟨fun _ => rfl, fun _ => rfl⟩
theorem mS_183 : mS 183 = true := rfl
theorem mP_183 : mP 183 = 1 := rfl
theorem mL_183 : mL 183 = 1 := rfl
theorem mO_183 : mO 183 = 9 := rfl
theorem mR_183 : mR 183 = some .int := rfl
theorem tb_184 : Tb 184 it_184 mk_184 257 := ⟨fun _ => rfl, fun _ => rfl⟩
theorem mS_184 : mS 184 = false := rfl
theorem mP_184 : mP 184 = 0 := rfl
theorem mL_184 : mL 184 = 4 := rfl
theorem mO_184 : mO 184 = 9 := rfl
theorem mR_184 : mR 184 = none := rfl
theorem tb_185 : Tb 185 it_185 mk_185 154 := ⟨fun _ => rfl, fun _ => rfl⟩
theorem mS_185 : mS 185 = false := rfl
theorem mP_185 : mP 185 = 1 := rfl
theorem mL_185 : mL 185 = 3 := rfl
theorem mO_185 : mO 185 = 9 := rfl
theorem mR_185 : mR 185 = some .int := rfl
theorem tb_186 : Tb 186 it_186 mk_186 149 := ⟨fun _ => rfl, fun _ => rfl⟩
theorem mS_186 : mS 186 = true := rfl
theorem mP_186 : mP 186 = 3 := rfl
theorem mL_186 : mL 186 = 3 := rfl
theorem mO_186 : mO 186 = 9 := rfl
theorem mR_186 : mR 186 = some .int := rfl
theorem tb_187 : Tb 187 it_187 mk_187 142 := ⟨fun _ => rfl, fun _ => rfl⟩
theorem mS_187 : mS 187 = false := rfl
theorem mP_187 : mP 187 = 0 := rfl
theorem mL_187 : mL 187 = 4 := rfl
theorem mO_187 : mO 187 = 9 := rfl
theorem mR_187 : mR 187 = some .boolean := rfl
theorem tb_188 : Tb 188 it_188 mk_188 89 := ⟨fun _ => rfl, fun _ => rfl⟩
theorem mS_188 : mS 188 = false := rfl
theorem mP_188 : mP 188 = 3 := rfl
theorem mL_188 : mL 188 = 4 := rfl
theorem mO_188 : mO 188 = 9 := rfl
theorem mR_188 : mR 188 = some .boolean := rfl
theorem tb_189 : Tb 189 it_189 mk_189 105 := ⟨fun _ => rfl, fun _ => rfl⟩
theorem mS_189 : mS 189 = false := rfl
theorem mP_189 : mP 189 = 2 := rfl
theorem mL_189 : mL 189 = 6 := rfl
theorem mO_189 : mO 189 = 9 := rfl
theorem mR_189 : mR 189 = some .int := rfl
theorem tb_190 : Tb 190 it_190 mk_190 248 := ⟨fun _ => rfl, fun _ => rfl⟩
theorem mS_190 : mS 190 = false := rfl
theorem mP_190 : mP 190 = 2 := rfl
theorem mL_190 : mL 190 = 5 := rfl
theorem mO_190 : mO 190 = 9 := rfl
theorem mR_190 : mR 190 = some .int := rfl
theorem tb_191 : Tb 191 it_191 mk_191 47 := ⟨fun _ => rfl, fun _ => rfl⟩
theorem mS_191 : mS 191 = false := rfl
theorem mP_191 : mP 191 = 2 := rfl
theorem mL_191 : mL 191 = 4 := rfl
theorem mO_191 : mO 191 = 9 := rfl
theorem mR_191 : mR 191 = some .int := rfl
theorem tb_192 : Tb 192 it_192 mk_192 24 := ⟨fun _ => rfl, fun _ => rfl⟩
theorem mS_192 : mS 192 = true := rfl
theorem mP_192 : mP 192 = 1 := rfl
theorem mL_192 : mL 192 = 1 := rfl
theorem mO_192 : mO 192 = 9 := rfl
theorem mR_192 : mR 192 = some .int := rfl
theorem tb_193 : Tb 193 it_193 mk_193 66 := ⟨fun _ => rfl, fun _ => rfl⟩
theorem mS_193 : mS 193 = false := rfl
theorem mP_193 : mP 193 = 2 := rfl
theorem mL_193 : mL 193 = 4 := rfl
theorem mO_193 : mO 193 = 9 := rfl
theorem mR_193 : mR 193 = some .int := rfl
theorem tb_194 : Tb 194 it_194 mk_194 29 := ⟨fun _ => rfl, fun _ => rfl⟩
theorem mS_194 : mS 194 = false := rfl
theorem mP_194 : mP 194 = 2 := rfl
theorem mL_194 : mL 194 = 3 := rfl
theorem mO_194 : mO 194 = 9 := rfl
theorem mR_194 : mR 194 = some .boolean := rfl
theorem tb_195 : Tb 195 it_195 mk_195 18 := ⟨fun _ => rfl, fun _ => rfl⟩
theorem mS_195 : mS 195 = false := rfl
theorem mP_195 : mP 195 = 2 := rfl
theorem mL_195 : mL 195 = 3 := rfl
theorem mO_195 : mO 195 = 9 := rfl
theorem mR_195 : mR 195 = some .int := rfl
theorem tb_196 : Tb 196 it_196 mk_196 18 := ⟨fun _ => rfl, fun _ => rfl⟩
theorem mS_196 : mS 196 = false := rfl
theorem mP_196 : mP 196 = 2 := rfl
theorem mL_196 : mL 196 = 3 := rfl
theorem mO_196 : mO 196 = 9 := rfl
theorem mR_196 : mR 196 = some .int := rfl
theorem tb_197 : Tb 197 it_197 mk_197 60 := ⟨fun _ => rfl, fun _ => rfl⟩
theorem mS_197 : mS 197 = false := rfl
theorem mP_197 : mP 197 = 3 := rfl
theorem mL_197 : mL 197 = 4 := rfl
theorem mO_197 : mO 197 = 9 := rfl
theorem mR_197 : mR 197 = some .int := rfl
theorem tb_198 : Tb 198 it_198 mk_198 49 := ⟨fun _ => rfl, fun _ => rfl⟩
theorem mS_198 : mS 198 = false := rfl
theorem mP_198 : mP 198 = 4 := rfl
theorem mL_198 : mL 198 = 6 := rfl
theorem mO_198 : mO 198 = 9 := rfl
theorem mR_198 : mR 198 = some .boolean := rfl
theorem tb_199 : Tb 199 it_199 mk_199 57 := ⟨fun _ => rfl, fun _ => rfl⟩
theorem mS_199 : mS 199 = false := rfl
theorem mP_199 : mP 199 = 4 := rfl
theorem mL_199 : mL 199 = 5 := rfl
theorem mO_199 : mO 199 = 9 := rfl
theorem mR_199 : mR 199 = some .int := rfl
theorem tb_200 : Tb 200 it_200 mk_200 69 := ⟨fun _ => rfl, fun _ => rfl⟩
theorem mS_200 : mS 200 = false := rfl
theorem mP_200 : mP 200 = 3 := rfl
theorem mL_200 : mL 200 = 6 := rfl
theorem mO_200 : mO 200 = 9 := rfl
theorem mR_200 : mR 200 = some .int := rfl
theorem tb_201 : Tb 201 it_201 mk_201 42 := ⟨fun _ => rfl, fun _ => rfl⟩
theorem mS_201 : mS 201 = false := rfl
theorem mP_201 : mP 201 = 1 := rfl
theorem mL_201 : mL 201 = 3 := rfl
theorem mO_201 : mO 201 = 9 := rfl
theorem mR_201 : mR 201 = some .int := rfl
theorem tb_202 : Tb 202 it_202 mk_202 46 := ⟨fun _ => rfl, fun _ => rfl⟩
theorem mS_202 : mS 202 = false := rfl
theorem mP_202 : mP 202 = 0 := rfl
theorem mL_202 : mL 202 = 3 := rfl
theorem mO_202 : mO 202 = 9 := rfl
theorem mR_202 : mR 202 = some .int := rfl
theorem tb_203 : Tb 203 it_203 mk_203 56 := ⟨fun _ => rfl, fun _ => rfl⟩
theorem mS_203 : mS 203 = true := rfl
theorem mP_203 : mP 203 = 1 := rfl
theorem mL_203 : mL 203 = 4 := rfl
theorem mO_203 : mO 203 = 9 := rfl
theorem mR_203 : mR 203 = some .int := rfl
theorem tb_204 : Tb 204 it_204 mk_204 180 := ⟨fun _ => rfl, fun _ => rfl⟩
theorem mS_204 : mS 204 = false := rfl
theorem mP_204 : mP 204 = 1 := rfl
theorem mL_204 : mL 204 = 7 := rfl
theorem mO_204 : mO 204 = 9 := rfl
theorem mR_204 : mR 204 = none := rfl
theorem tb_205 : Tb 205 it_205 mk_205 84 := ⟨fun _ => rfl, fun _ => rfl⟩
theorem mS_205 : mS 205 = false := rfl
theorem mP_205 : mP 205 = 3 := rfl
theorem mL_205 : mL 205 = 6 := rfl
theorem mO_205 : mO 205 = 9 := rfl
theorem mR_205 : mR 205 = some .boolean := rfl
theorem tb_206 : Tb 206 it_206 mk_206 70 := ⟨fun _ => rfl, fun _ => rfl⟩
theorem mS_206 : mS 206 = false := rfl
theorem mP_206 : mP 206 = 2 := rfl
theorem mL_206 : mL 206 = 4 := rfl
theorem mO_206 : mO 206 = 9 := rfl
theorem mR_206 : mR 206 = some .boolean := rfl
theorem tb_207 : Tb 207 it_207 mk_207 14 := ⟨fun _ => rfl, fun _ => rfl⟩
theorem mS_207 : mS 207 = false := rfl
theorem mP_207 : mP 207 = 1 := rfl
theorem mL_207 : mL 207 = 2 := rfl
theorem mO_207 : mO 207 = 9 := rfl
theorem mR_207 : mR 207 = some .boolean := rfl
theorem tb_208 : Tb 208 it_208 mk_208 46 := ⟨fun _ => rfl, fun _ => rfl⟩
theorem mS_208 : mS 208 = false := rfl
theorem mP_208 : mP 208 = 2 := rfl
theorem mL_208 : mL 208 = 3 := rfl
theorem mO_208 : mO 208 = 9 := rfl
theorem mR_208 : mR 208 = some .int := rfl
theorem tb_209 : Tb 209 it_209 mk_209 81 := ⟨fun _ => rfl, fun _ => rfl⟩
theorem mS_209 : mS 209 = false := rfl
theorem mP_209 : mP 209 = 1 := rfl
theorem mL_209 : mL 209 = 4 := rfl
theorem mO_209 : mO 209 = 9 := rfl
theorem mR_209 : mR 209 = some .int := rfl
theorem tb_210 : Tb 210 it_210 mk_210 143 := ⟨fun _ => rfl, fun _ => rfl⟩
theorem mS_210 : mS 210 = false := rfl
theorem mP_210 : mP 210 = 1 := rfl
theorem mL_210 : mL 210 = 7 := rfl
theorem mO_210 : mO 210 = 9 := rfl
theorem mR_210 : mR 210 = some .int := rfl
theorem tb_211 : Tb 211 it_211 mk_211 170 := ⟨fun _ => rfl, fun _ => rfl⟩
theorem mS_211 : mS 211 = false := rfl
theorem mP_211 : mP 211 = 1 := rfl
theorem mL_211 : mL 211 = 7 := rfl
theorem mO_211 : mO 211 = 9 := rfl
theorem mR_211 : mR 211 = some .long := rfl
theorem tb_212 : Tb 212 it_212 mk_212 49 := ⟨fun _ => rfl, fun _ => rfl⟩
theorem mS_212 : mS 212 = false := rfl
theorem mP_212 : mP 212 = 1 := rfl
theorem mL_212 : mL 212 = 3 := rfl
theorem mO_212 : mO 212 = 9 := rfl
theorem mR_212 : mR 212 = some .long := rfl
theorem tb_213 : Tb 213 it_213 mk_213 93 := ⟨fun _ => rfl, fun _ => rfl⟩
theorem mS_213 : mS 213 = false := rfl
theorem mP_213 : mP 213 = 2 := rfl
theorem mL_213 : mL 213 = 6 := rfl
theorem mO_213 : mO 213 = 9 := rfl
theorem mR_213 : mR 213 = some .int := rfl
theorem tb_214 : Tb 214 it_214 mk_214 83 := ⟨fun _ => rfl, fun _ => rfl⟩
theorem mS_214 : mS 214 = false := rfl
theorem mP_214 : mP 214 = 2 := rfl
theorem mL_214 : mL 214 = 5 := rfl
theorem mO_214 : mO 214 = 9 := rfl
theorem mR_214 : mR 214 = some .boolean := rfl
theorem tb_215 : Tb 215 it_215 mk_215 49 := ⟨fun _ => rfl, fun _ => rfl⟩
theorem mS_215 : mS 215 = false := rfl
theorem mP_215 : mP 215 = 1 := rfl
theorem mL_215 : mL 215 = 3 := rfl
theorem mO_215 : mO 215 = 9 := rfl
theorem mR_215 : mR 215 = some .int := rfl
theorem tb_216 : Tb 216 it_216 mk_216 126 := ⟨fun _ => rfl, fun _ => rfl⟩
theorem mS_216 : mS 216 = false := rfl
theorem mP_216 : mP 216 = 1 := rfl
theorem mL_216 : mL 216 = 5 := rfl
theorem mO_216 : mO 216 = 9 := rfl
theorem mR_216 : mR 216 = some .int := rfl
theorem tb_217 : Tb 217 it_217 mk_217 120 := ⟨fun _ => rfl, fun _ => rfl⟩
theorem mS_217 : mS 217 = false := rfl
theorem mP_217 : mP 217 = 4 := rfl
theorem mL_217 : mL 217 = 8 := rfl
theorem mO_217 : mO 217 = 9 := rfl
theorem mR_217 : mR 217 = some .boolean := rfl
theorem tb_218 : Tb 218 it_218 mk_218 37 := ⟨fun _ => rfl, fun _ => rfl⟩
theorem mS_218 : mS 218 = false := rfl
theorem mP_218 : mP 218 = 0 := rfl
theorem mL_218 : mL 218 = 3 := rfl
theorem mO_218 : mO 218 = 9 := rfl
theorem mR_218 : mR 218 = some .boolean := rfl
theorem tb_219 : Tb 219 it_219 mk_219 28 := ⟨fun _ => rfl, fun _ => rfl⟩
theorem mS_219 : mS 219 = false := rfl
theorem mP_219 : mP 219 = 0 := rfl
theorem mL_219 : mL 219 = 2 := rfl
theorem mO_219 : mO 219 = 9 := rfl
theorem mR_219 : mR 219 = none := rfl
theorem tb_220 : Tb 220 it_220 mk_220 118 := ⟨fun _ => rfl, fun _ => rfl⟩
theorem mS_220 : mS 220 = false := rfl
theorem mP_220 : mP 220 = 3 := rfl
theorem mL_220 : mL 220 = 6 := rfl
theorem mO_220 : mO 220 = 9 := rfl
theorem mR_220 : mR 220 = none := rfl
theorem tb_221 : Tb 221 it_221 mk_221 99 := ⟨fun _ => rfl, fun _ => rfl⟩
theorem mS_221 : mS 221 = false := rfl
theorem mP_221 : mP 221 = 1 := rfl
theorem mL_221 : mL 221 = 5 := rfl
theorem mO_221 : mO 221 = 9 := rfl
theorem mR_221 : mR 221 = none := rfl
theorem tb_222 : Tb 222 it_222 mk_222 79 := ⟨fun _ => rfl, fun _ => rfl⟩
theorem mS_222 : mS 222 = false := rfl
theorem mP_222 : mP 222 = 2 := rfl
theorem mL_222 : mL 222 = 3 := rfl
theorem mO_222 : mO 222 = 9 := rfl
theorem mR_222 : mR 222 = some .int := rfl
theorem tb_223 : Tb 223 it_223 mk_223 147 := ⟨fun _ => rfl, fun _ => rfl⟩
theorem mS_223 : mS 223 = false := rfl
theorem mP_223 : mP 223 = 2 := rfl
theorem mL_223 : mL 223 = 8 := rfl
theorem mO_223 : mO 223 = 9 := rfl
theorem mR_223 : mR 223 = some .boolean := rfl
theorem tb_224 : Tb 224 it_224 mk_224 130 := ⟨fun _ => rfl, fun _ => rfl⟩
theorem mS_224 : mS 224 = false := rfl
theorem mP_224 : mP 224 = 2 := rfl
theorem mL_224 : mL 224 = 5 := rfl
theorem mO_224 : mO 224 = 9 := rfl
theorem mR_224 : mR 224 = some .int := rfl
theorem tb_225 : Tb 225 it_225 mk_225 26 := ⟨fun _ => rfl, fun _ => rfl⟩
theorem mS_225 : mS 225 = true := rfl
theorem mP_225 : mP 225 = 1 := rfl
theorem mL_225 : mL 225 = 3 := rfl
theorem mO_225 : mO 225 = 9 := rfl
theorem mR_225 : mR 225 = some .int := rfl
theorem tb_226 : Tb 226 it_226 mk_226 93 := ⟨fun _ => rfl, fun _ => rfl⟩
theorem mS_226 : mS 226 = false := rfl
theorem mP_226 : mP 226 = 1 := rfl
theorem mL_226 : mL 226 = 4 := rfl
theorem mO_226 : mO 226 = 9 := rfl
theorem mR_226 : mR 226 = some .int := rfl
theorem tb_227 : Tb 227 it_227 mk_227 83 := ⟨fun _ => rfl, fun _ => rfl⟩
theorem mS_227 : mS 227 = false := rfl
theorem mP_227 : mP 227 = 1 := rfl
theorem mL_227 : mL 227 = 4 := rfl
theorem mO_227 : mO 227 = 9 := rfl
theorem mR_227 : mR 227 = some .int := rfl
theorem tb_228 : Tb 228 it_228 mk_228 46 := ⟨fun _ => rfl, fun _ => rfl⟩
theorem mS_228 : mS 228 = false := rfl
theorem mP_228 : mP 228 = 1 := rfl
theorem mL_228 : mL 228 = 4 := rfl
theorem mO_228 : mO 228 = 9 := rfl
theorem mR_228 : mR 228 = some .int := rfl
theorem tb_229 : Tb 229 it_229 mk_229 150 := ⟨fun _ => rfl, fun _ => rfl⟩
theorem mS_229 : mS 229 = false := rfl
theorem mP_229 : mP 229 = 2 := rfl
theorem mL_229 : mL 229 = 7 := rfl
theorem mO_229 : mO 229 = 9 := rfl
theorem mR_229 : mR 229 = some .int := rfl
theorem tb_230 : Tb 230 it_230 mk_230 210 := ⟨fun _ => rfl, fun _ => rfl⟩
theorem mS_230 : mS 230 = false := rfl
theorem mP_230 : mP 230 = 2 := rfl
theorem mL_230 : mL 230 = 10 := rfl
theorem mO_230 : mO 230 = 9 := rfl
theorem mR_230 : mR 230 = some .boolean := rfl
theorem tb_231 : Tb 231 it_231 mk_231 38 := ⟨fun _ => rfl, fun _ => rfl⟩
theorem mS_231 : mS 231 = false := rfl
theorem mP_231 : mP 231 = 2 := rfl
theorem mL_231 : mL 231 = 3 := rfl
theorem mO_231 : mO 231 = 9 := rfl
theorem mR_231 : mR 231 = some .int := rfl
theorem tb_232 : Tb 232 it_232 mk_232 70 := ⟨fun _ => rfl, fun _ => rfl⟩
theorem mS_232 : mS 232 = false := rfl
theorem mP_232 : mP 232 = 1 := rfl
theorem mL_232 : mL 232 = 4 := rfl
theorem mO_232 : mO 232 = 9 := rfl
theorem mR_232 : mR 232 = some .int := rfl
theorem tb_233 : Tb 233 it_233 mk_233 53 := ⟨fun _ => rfl, fun _ => rfl⟩
theorem mS_233 : mS 233 = false := rfl
theorem mP_233 : mP 233 = 2 := rfl
theorem mL_233 : mL 233 = 5 := rfl
theorem mO_233 : mO 233 = 9 := rfl
theorem mR_233 : mR 233 = some .boolean := rfl
theorem tb_234 : Tb 234 it_234 mk_234 47 := ⟨fun _ => rfl, fun _ => rfl⟩
theorem mS_234 : mS 234 = false := rfl
theorem mP_234 : mP 234 = 2 := rfl
theorem mL_234 : mL 234 = 3 := rfl
theorem mO_234 : mO 234 = 9 := rfl
theorem mR_234 : mR 234 = some .int := rfl
theorem tb_235 : Tb 235 it_235 mk_235 30 := ⟨fun _ => rfl, fun _ => rfl⟩
theorem mS_235 : mS 235 = false := rfl
theorem mP_235 : mP 235 = 1 := rfl
theorem mL_235 : mL 235 = 2 := rfl
theorem mO_235 : mO 235 = 9 := rfl
theorem mR_235 : mR 235 = none := rfl
theorem tb_236 : Tb 236 it_236 mk_236 106 := ⟨fun _ => rfl, fun _ => rfl⟩
theorem mS_236 : mS 236 = true := rfl
theorem mP_236 : mP 236 = 2 := rfl
theorem mL_236 : mL 236 = 2 := rfl
theorem mO_236 : mO 236 = 9 := rfl
theorem mR_236 : mR 236 = some .boolean := rfl
theorem tb_237 : Tb 237 it_237 mk_237 15 := ⟨fun _ => rfl, fun _ => rfl⟩
theorem mS_237 : mS 237 = false := rfl
theorem mP_237 : mP 237 = 2 := rfl
theorem mL_237 : mL 237 = 3 := rfl
theorem mO_237 : mO 237 = 9 := rfl
theorem mR_237 : mR 237 = some .int := rfl
theorem tb_238 : Tb 238 it_238 mk_238 31 := ⟨fun _ => rfl, fun _ => rfl⟩
theorem mS_238 : mS 238 = false := rfl
theorem mP_238 : mP 238 = 3 := rfl
theorem mL_238 : mL 238 = 5 := rfl
theorem mO_238 : mO 238 = 9 := rfl
theorem mR_238 : mR 238 = some .int := rfl
theorem tb_239 : Tb 239 it_239 mk_239 334 := ⟨fun _ => rfl, fun _ => rfl⟩
theorem mS_239 : mS 239 = false := rfl
theorem mP_239 : mP 239 = 3 := rfl
theorem mL_239 : mL 239 = 6 := rfl
theorem mO_239 : mO 239 = 9 := rfl
theorem mR_239 : mR 239 = some .int := rfl
theorem tb_240 : Tb 240 it_240 mk_240 41 := ⟨fun _ => rfl, fun _ => rfl⟩
theorem mS_240 : mS 240 = false := rfl
theorem mP_240 : mP 240 = 3 := rfl
theorem mL_240 : mL 240 = 4 := rfl
theorem mO_240 : mO 240 = 9 := rfl
theorem mR_240 : mR 240 = some .int := rfl
theorem tb_241 : Tb 241 it_241 mk_241 30 := ⟨fun _ => rfl, fun _ => rfl⟩
theorem mS_241 : mS 241 = false := rfl
theorem mP_241 : mP 241 = 1 := rfl
theorem mL_241 : mL 241 = 2 := rfl
theorem mO_241 : mO 241 = 9 := rfl
theorem mR_241 : mR 241 = some .int := rfl
theorem tb_242 : Tb 242 it_242 mk_242 7 := ⟨fun _ => rfl, fun _ => rfl⟩
theorem mS_242 : mS 242 = true := rfl
theorem mP_242 : mP 242 = 1 := rfl
theorem mL_242 : mL 242 = 1 := rfl
theorem mO_242 : mO 242 = 9 := rfl
theorem mR_242 : mR 242 = some .boolean := rfl
theorem tb_243 : Tb 243 it_243 mk_243 122 := ⟨fun _ => rfl, fun _ => rfl⟩
theorem mS_243 : mS 243 = false := rfl
theorem mP_243 : mP 243 = 3 := rfl
theorem mL_243 : mL 243 = 5 := rfl
theorem mO_243 : mO 243 = 9 := rfl
theorem mR_243 : mR 243 = some .int := rfl
theorem tb_244 : Tb 244 it_244 mk_244 99 := ⟨fun _ => rfl, fun _ => rfl⟩
theorem mS_244 : mS 244 = false := rfl
theorem mP_244 : mP 244 = 3 := rfl
theorem mL_244 : mL 244 = 4 := rfl
theorem mO_244 : mO 244 = 9 := rfl
theorem mR_244 : mR 244 = some .int := rfl
theorem tb_245 : Tb 245 it_245 mk_245 202 := ⟨fun _ => rfl, fun _ => rfl⟩
theorem mS_245 : mS 245 = false := rfl
theorem mP_245 : mP 245 = 5 := rfl
theorem mL_245 : mL 245 = 7 := rfl
theorem mO_245 : mO 245 = 9 := rfl
theorem mR_245 : mR 245 = some .int := rfl
theorem tb_246 : Tb 246 it_246 mk_246 42 := ⟨fun _ => rfl, fun _ => rfl⟩
theorem mS_246 : mS 246 = false := rfl
theorem mP_246 : mP 246 = 0 := rfl
theorem mL_246 : mL 246 = 2 := rfl
theorem mO_246 : mO 246 = 9 := rfl
theorem mR_246 : mR 246 = some .int := rfl
theorem tb_247 : Tb 247 it_247 mk_247 48 := ⟨fun _ => rfl, fun _ => rfl⟩
theorem mS_247 : mS 247 = false := rfl
theorem mP_247 : mP 247 = 0 := rfl
theorem mL_247 : mL 247 = 2 := rfl
theorem mO_247 : mO 247 = 9 := rfl
theorem mR_247 : mR 247 = some .int := rfl
theorem tb_248 : Tb 248 it_248 mk_248 50 := ⟨fun _ => rfl, fun _ => rfl⟩
theorem mS_248 : mS 248 = false := rfl
theorem mP_248 : mP 248 = 1 := rfl
theorem mL_248 : mL 248 = 2 := rfl
theorem mO_248 : mO 248 = 9 := rfl
theorem mR_248 : mR 248 = some .int := rfl
theorem tb_249 : Tb 249 it_249 mk_249 87 := ⟨fun _ => rfl, fun _ => rfl⟩
theorem mS_249 : mS 249 = false := rfl
theorem mP_249 : mP 249 = 1 := rfl
theorem mL_249 : mL 249 = 4 := rfl
theorem mO_249 : mO 249 = 9 := rfl
theorem mR_249 : mR 249 = some .int := rfl
theorem tb_250 : Tb 250 it_250 mk_250 125 := ⟨fun _ => rfl, fun _ => rfl⟩
theorem mS_250 : mS 250 = false := rfl
theorem mP_250 : mP 250 = 1 := rfl
theorem mL_250 : mL 250 = 4 := rfl
theorem mO_250 : mO 250 = 9 := rfl
theorem mR_250 : mR 250 = some .int := rfl
theorem tb_251 : Tb 251 it_251 mk_251 25 := ⟨fun _ => rfl, fun _ => rfl⟩
theorem mS_251 : mS 251 = false := rfl
theorem mP_251 : mP 251 = 1 := rfl
theorem mL_251 : mL 251 = 2 := rfl
theorem mO_251 : mO 251 = 9 := rfl
theorem mR_251 : mR 251 = some .int := rfl
theorem tb_252 : Tb 252 it_252 mk_252 53 := ⟨fun _ => rfl, fun _ => rfl⟩
theorem mS_252 : mS 252 = true := rfl
theorem mP_252 : mP 252 = 1 := rfl
theorem mL_252 : mL 252 = 1 := rfl
theorem mO_252 : mO 252 = 13 := rfl
theorem mR_252 : mR 252 = some .int := rfl
theorem tb_255 : Tb 255 it_255 mk_255 74 := ⟨fun _ => rfl, fun _ => rfl⟩
theorem mS_255 : mS 255 = true := rfl
theorem mP_255 : mP 255 = 3 := rfl
theorem mL_255 : mL 255 = 3 := rfl
theorem mO_255 : mO 255 = 15 := rfl
theorem mR_255 : mR 255 = none := rfl
theorem tb_256 : Tb 256 it_256 mk_256 21 := ⟨fun _ => rfl, fun _ => rfl⟩
theorem mS_256 : mS 256 = true := rfl
theorem mP_256 : mP 256 = 2 := rfl
theorem mL_256 : mL 256 = 4 := rfl
theorem mO_256 : mO 256 = 15 := rfl
theorem mR_256 : mR 256 = none := rfl
theorem tb_257 : Tb 257 it_257 mk_257 28 := ⟨fun _ => rfl, fun _ => rfl⟩
theorem mS_257 : mS 257 = true := rfl
theorem mP_257 : mP 257 = 4 := rfl
theorem mL_257 : mL 257 = 5 := rfl
theorem mO_257 : mO 257 = 15 := rfl
theorem mR_257 : mR 257 = none := rfl
theorem tb_258 : Tb 258 it_258 mk_258 1400 := ⟨fun _ => rfl, fun _ => rfl⟩
theorem mS_258 : mS 258 = true := rfl
theorem mP_258 : mP 258 = 1 := rfl
theorem mL_258 : mL 258 = 4 := rfl
theorem mO_258 : mO 258 = 12 := rfl
theorem mR_258 : mR 258 = some .boolean := rfl
theorem ob_0 : OB 0 8 := ⟨by decide, by decide +kernel⟩
theorem tg_0_0 : tgR 0 0 = 1 := by decide +kernel
theorem tg_0_1 : tgR 0 1 = 22 := by decide +kernel
theorem tg_0_2 : tgR 0 2 = 5000 := by decide +kernel
theorem tg_0_3 : tgR 0 3 = 43 := by decide +kernel
theorem tg_0_4 : tgR 0 4 = 44 := by decide +kernel
theorem tg_0_5 : tgR 0 5 = 45 := by decide +kernel
theorem tg_0_6 : tgR 0 6 = 50 := by decide +kernel
theorem tg_0_7 : tgR 0 7 = 51 := by decide +kernel
theorem tg_0_8 : tgR 0 8 = 62 := by decide +kernel
theorem tg_0_9 : tgR 0 9 = 65 := by decide +kernel
theorem tg_0_10 : tgR 0 10 = 67 := by decide +kernel
theorem tg_0_11 : tgR 0 11 = 68 := by decide +kernel
theorem ia_2 : IAn 2 12 := ⟨⟨by decide, by decide +kernel, by decide +kernel⟩, by decide +kernel⟩
theorem ia_4 : IAn 4 50 := ⟨⟨by decide, by decide +kernel, by decide +kernel⟩, by decide +kernel⟩
theorem ia_5 : IAn 5 20 := ⟨⟨by decide, by decide +kernel, by decide +kernel⟩, by decide +kernel⟩
theorem ia_7 : IAn 7 32 := ⟨⟨by decide, by decide +kernel, by decide +kernel⟩, by decide +kernel⟩
theorem ia_9 : IAn 9 32 := ⟨⟨by decide, by decide +kernel, by decide +kernel⟩, by decide +kernel⟩
theorem ia_11 : IAn 11 32 := ⟨⟨by decide, by decide +kernel, by decide +kernel⟩, by decide +kernel⟩
theorem ia_13 : IAn 13 32 := ⟨⟨by decide, by decide +kernel, by decide +kernel⟩, by decide +kernel⟩
theorem ia_15 : IAn 15 32 := ⟨⟨by decide, by decide +kernel, by decide +kernel⟩, by decide +kernel⟩
theorem ia_17 : IAn 17 32 := ⟨⟨by decide, by decide +kernel, by decide +kernel⟩, by decide +kernel⟩
theorem ia_19 : IAn 19 32 := ⟨⟨by decide, by decide +kernel, by decide +kernel⟩, by decide +kernel⟩
theorem ia_21 : IAn 21 32 := ⟨⟨by decide, by decide +kernel, by decide +kernel⟩, by decide +kernel⟩
theorem ia_23 : IAn 23 12 := ⟨⟨by decide, by decide +kernel, by decide +kernel⟩, by decide +kernel⟩
theorem ia_25 : IAn 25 50 := ⟨⟨by decide, by decide +kernel, by decide +kernel⟩, by decide +kernel⟩
theorem ia_26 : IAn 26 20 := ⟨⟨by decide, by decide +kernel, by decide +kernel⟩, by decide +kernel⟩
theorem ia_28 : IAn 28 32 := ⟨⟨by decide, by decide +kernel, by decide +kernel⟩, by decide +kernel⟩
theorem ia_30 : IAn 30 32 := ⟨⟨by decide, by decide +kernel, by decide +kernel⟩, by decide +kernel⟩
theorem ia_32 : IAn 32 32 := ⟨⟨by decide, by decide +kernel, by decide +kernel⟩, by decide +kernel⟩
theorem ia_34 : IAn 34 32 := ⟨⟨by decide, by decide +kernel, by decide +kernel⟩, by decide +kernel⟩
theorem ia_36 : IAn 36 32 := ⟨⟨by decide, by decide +kernel, by decide +kernel⟩, by decide +kernel⟩
theorem ia_38 : IAn 38 32 := ⟨⟨by decide, by decide +kernel, by decide +kernel⟩, by decide +kernel⟩
theorem ia_40 : IAn 40 32 := ⟨⟨by decide, by decide +kernel, by decide +kernel⟩, by decide +kernel⟩
theorem ia_42 : IAn 42 32 := ⟨⟨by decide, by decide +kernel, by decide +kernel⟩, by decide +kernel⟩
theorem ia_43 : IAn 43 6 := ⟨⟨by decide, by decide +kernel, by decide +kernel⟩, by decide +kernel⟩
theorem ob_45 : OB 45 5 := ⟨by decide, by decide +kernel⟩
theorem tg_45_1 : tgR 45 1 = 5000 := by decide +kernel
theorem tg_45_2 : tgR 45 2 = 5000 := by decide +kernel
theorem tg_45_3 : tgR 45 3 = 5000 := by decide +kernel
theorem tg_45_4 : tgR 45 4 = 5000 := by decide +kernel
theorem tg_45_5 : tgR 45 5 = 47 := by decide +kernel
theorem tg_45_6 : tgR 45 6 = 5000 := by decide +kernel
theorem tg_45_7 : tgR 45 7 = 48 := by decide +kernel
theorem tg_45_8 : tgR 45 8 = 49 := by decide +kernel
theorem ia_46 : IAn 46 50 := ⟨⟨by decide, by decide +kernel, by decide +kernel⟩, by decide +kernel⟩
theorem ia_47 : IAn 47 50 := ⟨⟨by decide, by decide +kernel, by decide +kernel⟩, by decide +kernel⟩
theorem ia_48 : IAn 48 50 := ⟨⟨by decide, by decide +kernel, by decide +kernel⟩, by decide +kernel⟩
theorem ia_49 : IAn 49 10 := ⟨⟨by decide, by decide +kernel, by decide +kernel⟩, by decide +kernel⟩
theorem ob_50 : OB 50 4 := ⟨by decide, by decide +kernel⟩
theorem tg_50_0 : tgR 50 0 = 51 := by decide +kernel
theorem tg_50_1 : tgR 50 1 = 52 := by decide +kernel
theorem tg_50_2 : tgR 50 2 = 56 := by decide +kernel
theorem tg_50_3 : tgR 50 3 = 57 := by decide +kernel
theorem tg_50_4 : tgR 50 4 = 58 := by decide +kernel
theorem tg_50_5 : tgR 50 5 = 59 := by decide +kernel
theorem tg_50_6 : tgR 50 6 = 60 := by decide +kernel
theorem tg_50_7 : tgR 50 7 = 61 := by decide +kernel
theorem tg_50_8 : tgR 50 8 = 5000 := by decide +kernel
theorem tg_50_9 : tgR 50 9 = 5000 := by decide +kernel
theorem ob_51 : OB 51 1 := ⟨by decide, by decide +kernel⟩
theorem tg_51_0 : tgR 51 0 = 52 := by decide +kernel
theorem tg_51_1 : tgR 51 1 = 53 := by decide +kernel
theorem tg_51_2 : tgR 51 2 = 54 := by decide +kernel
theorem tg_51_3 : tgR 51 3 = 5000 := by decide +kernel
theorem tg_51_4 : tgR 51 4 = 55 := by decide +kernel
theorem tg_51_5 : tgR 51 5 = 5000 := by decide +kernel
theorem ia_52 : IAn 52 576 := ⟨⟨by decide, by decide +kernel, by decide +kernel⟩, by decide +kernel⟩
theorem ia_53 : IAn 53 156 := ⟨⟨by decide, by decide +kernel, by decide +kernel⟩, by decide +kernel⟩
theorem ia_54 : IAn 54 12 := ⟨⟨by decide, by decide +kernel, by decide +kernel⟩, by decide +kernel⟩
theorem ia_55 : IAn 55 64 := ⟨⟨by decide, by decide +kernel, by decide +kernel⟩, by decide +kernel⟩
theorem ia_56 : IAn 56 84 := ⟨⟨by decide, by decide +kernel, by decide +kernel⟩, by decide +kernel⟩
theorem ia_57 : IAn 57 12 := ⟨⟨by decide, by decide +kernel, by decide +kernel⟩, by decide +kernel⟩
theorem ia_58 : IAn 58 64 := ⟨⟨by decide, by decide +kernel, by decide +kernel⟩, by decide +kernel⟩
theorem ia_59 : IAn 59 64 := ⟨⟨by decide, by decide +kernel, by decide +kernel⟩, by decide +kernel⟩
theorem ia_60 : IAn 60 64 := ⟨⟨by decide, by decide +kernel, by decide +kernel⟩, by decide +kernel⟩
theorem ia_61 : IAn 61 64 := ⟨⟨by decide, by decide +kernel, by decide +kernel⟩, by decide +kernel⟩
theorem ob_62 : OB 62 3 := ⟨by decide, by decide +kernel⟩
theorem tg_62_0 : tgR 62 0 = 63 := by decide +kernel
theorem tg_62_1 : tgR 62 1 = 64 := by decide +kernel
theorem tg_62_2 : tgR 62 2 = 5000 := by decide +kernel
theorem tg_62_3 : tgR 62 3 = 5000 := by decide +kernel
theorem ia_63 : IAn 63 12 := ⟨⟨by decide, by decide +kernel, by decide +kernel⟩, by decide +kernel⟩
theorem ia_64 : IAn 64 36 := ⟨⟨by decide, by decide +kernel, by decide +kernel⟩, by decide +kernel⟩
theorem ob_65 : OB 65 7 := ⟨by decide, by decide +kernel⟩
theorem tg_65_0 : tgR 65 0 = 66 := by decide +kernel
theorem tg_65_1 : tgR 65 1 = 5000 := by decide +kernel
theorem tg_65_2 : tgR 65 2 = 5000 := by decide +kernel
theorem tg_65_3 : tgR 65 3 = 5000 := by decide +kernel
theorem tg_65_4 : tgR 65 4 = 5000 := by decide +kernel
theorem ia_66 : IAn 66 40 := ⟨⟨by decide, by decide +kernel, by decide +kernel⟩, by decide +kernel⟩
theorem ia_67 : IAn 67 12 := ⟨⟨by decide, by decide +kernel, by decide +kernel⟩, by decide +kernel⟩
theorem ia_68 : IAn 68 256 := ⟨⟨by decide, by decide +kernel, by decide +kernel⟩, by decide +kernel⟩
theorem ia_70 : IAn 70 40 := ⟨⟨by decide, by decide +kernel, by decide +kernel⟩, by decide +kernel⟩
theorem ia_72 : IAn 72 40 := ⟨⟨by decide, by decide +kernel, by decide +kernel⟩, by decide +kernel⟩
theorem ia_74 : IAn 74 40 := ⟨⟨by decide, by decide +kernel, by decide +kernel⟩, by decide +kernel⟩
theorem ia_76 : IAn 76 40 := ⟨⟨by decide, by decide +kernel, by decide +kernel⟩, by decide +kernel⟩
theorem ob_77 : OB 77 9 := ⟨by decide, by decide +kernel⟩
theorem tg_77_0 : tgR 77 0 = 78 := by decide +kernel
theorem tg_77_1 : tgR 77 1 = 79 := by decide +kernel
theorem tg_77_2 : tgR 77 2 = 5000 := by decide +kernel
theorem tg_77_3 : tgR 77 3 = 80 := by decide +kernel
theorem tg_77_4 : tgR 77 4 = 81 := by decide +kernel
theorem tg_77_5 : tgR 77 5 = 82 := by decide +kernel
theorem tg_77_6 : tgR 77 6 = 83 := by decide +kernel
theorem tg_77_7 : tgR 77 7 = 84 := by decide +kernel
theorem tg_77_8 : tgR 77 8 = 5000 := by decide +kernel
theorem tg_77_9 : tgR 77 9 = 5000 := by decide +kernel
theorem tg_77_10 : tgR 77 10 = 5000 := by decide +kernel
theorem tg_77_11 : tgR 77 11 = 5000 := by decide +kernel
theorem tg_77_12 : tgR 77 12 = 5000 := by decide +kernel
theorem tg_77_13 : tgR 77 13 = 85 := by decide +kernel
theorem tg_77_14 : tgR 77 14 = 5000 := by decide +kernel
theorem tg_77_15 : tgR 77 15 = 5000 := by decide +kernel
theorem tg_77_16 : tgR 77 16 = 5000 := by decide +kernel
theorem tg_77_17 : tgR 77 17 = 5000 := by decide +kernel
theorem tg_77_18 : tgR 77 18 = 86 := by decide +kernel
theorem tg_77_19 : tgR 77 19 = 87 := by decide +kernel
theorem tg_77_20 : tgR 77 20 = 88 := by decide +kernel
theorem tg_77_21 : tgR 77 21 = 89 := by decide +kernel
theorem tg_77_22 : tgR 77 22 = 90 := by decide +kernel
theorem tg_77_23 : tgR 77 23 = 91 := by decide +kernel
theorem tg_77_24 : tgR 77 24 = 92 := by decide +kernel
theorem tg_77_25 : tgR 77 25 = 5000 := by decide +kernel
theorem tg_77_26 : tgR 77 26 = 93 := by decide +kernel
theorem tg_77_27 : tgR 77 27 = 5000 := by decide +kernel
theorem tg_77_28 : tgR 77 28 = 5000 := by decide +kernel
theorem tg_77_29 : tgR 77 29 = 94 := by decide +kernel
theorem tg_77_30 : tgR 77 30 = 95 := by decide +kernel
theorem tg_77_31 : tgR 77 31 = 96 := by decide +kernel
theorem tg_77_32 : tgR 77 32 = 97 := by decide +kernel
theorem ia_78 : IAn 78 366 := ⟨⟨by decide, by decide +kernel, by decide +kernel⟩, by decide +kernel⟩
theorem ia_79 : IAn 79 366 := ⟨⟨by decide, by decide +kernel, by decide +kernel⟩, by decide +kernel⟩
theorem ia_80 : IAn 80 6 := ⟨⟨by decide, by decide +kernel, by decide +kernel⟩, by decide +kernel⟩
theorem ia_81 : IAn 81 7 := ⟨⟨by decide, by decide +kernel, by decide +kernel⟩, by decide +kernel⟩
theorem ia_82 : IAn 82 90 := ⟨⟨by decide, by decide +kernel, by decide +kernel⟩, by decide +kernel⟩
theorem ia_83 : IAn 83 90 := ⟨⟨by decide, by decide +kernel, by decide +kernel⟩, by decide +kernel⟩
theorem ia_84 : IAn 84 90 := ⟨⟨by decide, by decide +kernel, by decide +kernel⟩, by decide +kernel⟩
theorem ia_85 : IAn 85 60 := ⟨⟨by decide, by decide +kernel, by decide +kernel⟩, by decide +kernel⟩
theorem ia_86 : IAn 86 60 := ⟨⟨by decide, by decide +kernel, by decide +kernel⟩, by decide +kernel⟩
theorem ia_87 : IAn 87 12 := ⟨⟨by decide, by decide +kernel, by decide +kernel⟩, by decide +kernel⟩
theorem ia_88 : IAn 88 144 := ⟨⟨by decide, by decide +kernel, by decide +kernel⟩, by decide +kernel⟩
theorem ia_89 : IAn 89 12 := ⟨⟨by decide, by decide +kernel, by decide +kernel⟩, by decide +kernel⟩
theorem ia_90 : IAn 90 4096 := ⟨⟨by decide, by decide +kernel, by decide +kernel⟩, by decide +kernel⟩
theorem ia_91 : IAn 91 12 := ⟨⟨by decide, by decide +kernel, by decide +kernel⟩, by decide +kernel⟩
theorem ia_92 : IAn 92 36 := ⟨⟨by decide, by decide +kernel, by decide +kernel⟩, by decide +kernel⟩
theorem ia_93 : IAn 93 40 := ⟨⟨by decide, by decide +kernel, by decide +kernel⟩, by decide +kernel⟩
theorem ia_94 : IAn 94 4 := ⟨⟨by decide, by decide +kernel, by decide +kernel⟩, by decide +kernel⟩
theorem ia_95 : IAn 95 4 := ⟨⟨by decide, by decide +kernel, by decide +kernel⟩, by decide +kernel⟩
theorem ia_96 : IAn 96 160 := ⟨⟨by decide, by decide +kernel, by decide +kernel⟩, by decide +kernel⟩
theorem ia_97 : IAn 97 40 := ⟨⟨by decide, by decide +kernel, by decide +kernel⟩, by decide +kernel⟩
def LawH (t : Nat) : Prop := t ∈ [6, 8, 10, 12, 14, 16, 18, 20, 27, 29, 31, 33, 35, 37, 39, 41]
theorem LawH.ob {t : Nat} (h : LawH t) : OB t 0 := (by decide +kernel : ∀ t ∈ ([6, 8, 10, 12, 14, 16, 18, 20, 27, 29, 31, 33, 35, 37, 39, 41] : List Nat), t < 98 ∧ kd t = 0 + 3) t h
theorem LawH.lt {t : Nat} (h : LawH t) : t < 98 := h.ob.1
theorem LawH.lt0 {t : Nat} (h : LawH t) : t < 5000 := by have := h.lt; omega
theorem LawH.f0 {t : Nat} (h : LawH t) : tgR t 0 = 5000 := (by decide +kernel : ∀ t ∈ ([6, 8, 10, 12, 14, 16, 18, 20, 27, 29, 31, 33, 35, 37, 39, 41] : List Nat), tgR t 0 = 5000) t h
theorem LawH.f1 {t : Nat} (h : LawH t) : tgR t 1 = 5000 := (by decide +kernel : ∀ t ∈ ([6, 8, 10, 12, 14, 16, 18, 20, 27, 29, 31, 33, 35, 37, 39, 41] : List Nat), tgR t 1 = 5000) t h
theorem LawH.f2 {t : Nat} (h : LawH t) : tgR t 2 = t + 1 := (by decide +kernel : ∀ t ∈ ([6, 8, 10, 12, 14, 16, 18, 20, 27, 29, 31, 33, 35, 37, 39, 41] : List Nat), tgR t 2 = t + 1) t h
theorem LawH.row {t : Nat} (h : LawH t) : IAn (t + 1) 32 := (by decide +kernel : ∀ t ∈ ([6, 8, 10, 12, 14, 16, 18, 20, 27, 29, 31, 33, 35, 37, 39, 41] : List Nat), ((t + 1) < 98 ∧ kd (t + 1) = 0 ∧ rTl.getD (t + 1) [] = []) ∧ ln (t + 1) = 32) t h
def ShH (t : Nat) : Prop := t ∈ [69, 71, 73, 75]
theorem ShH.ob {t : Nat} (h : ShH t) : OB t 2 := (by decide +kernel : ∀ t ∈ ([69, 71, 73, 75] : List Nat), t < 98 ∧ kd t = 2 + 3) t h
theorem ShH.lt {t : Nat} (h : ShH t) : t < 98 := h.ob.1
theorem ShH.lt0 {t : Nat} (h : ShH t) : t < 5000 := by have := h.lt; omega
theorem ShH.f0 {t : Nat} (h : ShH t) : tgR t 0 = 5000 := (by decide +kernel : ∀ t ∈ ([69, 71, 73, 75] : List Nat), tgR t 0 = 5000) t h
theorem ShH.f1 {t : Nat} (h : ShH t) : tgR t 1 = 5000 := (by decide +kernel : ∀ t ∈ ([69, 71, 73, 75] : List Nat), tgR t 1 = 5000) t h
theorem ShH.f2 {t : Nat} (h : ShH t) : tgR t 2 = t + 1 := (by decide +kernel : ∀ t ∈ ([69, 71, 73, 75] : List Nat), tgR t 2 = t + 1) t h
theorem ShH.row {t : Nat} (h : ShH t) : IAn (t + 1) 40 := (by decide +kernel : ∀ t ∈ ([69, 71, 73, 75] : List Nat), ((t + 1) < 98 ∧ kd (t + 1) = 0 ∧ rTl.getD (t + 1) [] = []) ∧ ln (t + 1) = 40) t h
def VilH (t : Nat) : Prop := t ∈ [1, 22]
theorem VilH.ob {t : Nat} (h : VilH t) : OB t 6 := (by decide +kernel : ∀ t ∈ ([1, 22] : List Nat), t < 98 ∧ kd t = 6 + 3) t h
theorem VilH.lt {t : Nat} (h : VilH t) : t < 98 := h.ob.1
theorem VilH.lt0 {t : Nat} (h : VilH t) : t < 5000 := by have := h.lt; omega
theorem VilH.f0 {t : Nat} (h : VilH t) : tgR t 0 = t + 1 := (by decide +kernel : ∀ t ∈ ([1, 22] : List Nat), tgR t 0 = t + 1) t h
theorem VilH.f1 {t : Nat} (h : VilH t) : tgR t 1 = t + 2 := (by decide +kernel : ∀ t ∈ ([1, 22] : List Nat), tgR t 1 = t + 2) t h
theorem VilH.f2 {t : Nat} (h : VilH t) : tgR t 2 = 5000 := (by decide +kernel : ∀ t ∈ ([1, 22] : List Nat), tgR t 2 = 5000) t h
theorem VilH.f3 {t : Nat} (h : VilH t) : tgR t 3 = t + 3 := (by decide +kernel : ∀ t ∈ ([1, 22] : List Nat), tgR t 3 = t + 3) t h
theorem VilH.f4 {t : Nat} (h : VilH t) : tgR t 4 = 5000 := (by decide +kernel : ∀ t ∈ ([1, 22] : List Nat), tgR t 4 = 5000) t h
theorem VilH.f5 {t : Nat} (h : VilH t) : tgR t 5 = t + 4 := (by decide +kernel : ∀ t ∈ ([1, 22] : List Nat), tgR t 5 = t + 4) t h
theorem VilH.f6 {t : Nat} (h : VilH t) : tgR t 6 = 5000 := (by decide +kernel : ∀ t ∈ ([1, 22] : List Nat), tgR t 6 = 5000) t h
theorem VilH.row1 {t : Nat} (h : VilH t) : IAn (t + 1) 12 := (by decide +kernel : ∀ t ∈ ([1, 22] : List Nat), ((t + 1) < 98 ∧ kd (t + 1) = 0 ∧ rTl.getD (t + 1) [] = []) ∧ ln (t + 1) = 12) t h
theorem VilH.row3 {t : Nat} (h : VilH t) : IAn (t + 3) 50 := (by decide +kernel : ∀ t ∈ ([1, 22] : List Nat), ((t + 3) < 98 ∧ kd (t + 3) = 0 ∧ rTl.getD (t + 3) [] = []) ∧ ln (t + 3) = 50) t h
theorem VilH.row4 {t : Nat} (h : VilH t) : IAn (t + 4) 20 := (by decide +kernel : ∀ t ∈ ([1, 22] : List Nat), ((t + 4) < 98 ∧ kd (t + 4) = 0 ∧ rTl.getD (t + 4) [] = []) ∧ ln (t + 4) = 20) t h
theorem VilH.lt98 {t : Nat} (h : VilH t) : t + 2 < 98 := (by decide +kernel : ∀ t ∈ ([1, 22] : List Nat), t + 2 < 98) t h
theorem VilH.kd2 {t : Nat} (h : VilH t) : kd (t + 2) = 1 := (by decide +kernel : ∀ t ∈ ([1, 22] : List Nat), kd (t + 2) = 1) t h
theorem VilH.ln2 {t : Nat} (h : VilH t) : ln (t + 2) = 8 := (by decide +kernel : ∀ t ∈ ([1, 22] : List Nat), ln (t + 2) = 8) t h
theorem VilH.tg2 {t : Nat} {x : Int32} (h : VilH t) (hb : inb x 8 = true) : tgR (t + 2) x.toNatClampNeg = t + 5 + 2 * x.toNatClampNeg := (by decide +kernel : ∀ t ∈ ([1, 22] : List Nat), ∀ n, n < 8 → tgR (t + 2) n = t + 5 + 2 * n) t h _ (inb_in hb).2.2
theorem VilH.el {t : Nat} {x : Int32} (h : VilH t) (hb : inb x 8 = true) : LawH (t + 5 + 2 * x.toNatClampNeg) := (by decide +kernel : ∀ t ∈ ([1, 22] : List Nat), ∀ n, n < 8 → (t + 5 + 2 * n) ∈ ([6, 8, 10, 12, 14, 16, 18, 20, 27, 29, 31, 33, 35, 37, 39, 41] : List Nat)) t h _ (inb_in hb).2.2
theorem ln_3 : ln 3 = 8 := by decide +kernel
theorem la_3 {x : Int32} (hb : inb x 8 = true) : tgR 3 x.toNatClampNeg = 6 + 2 * x.toNatClampNeg := (by decide +kernel : ∀ n, n < 8 → tgR 3 n = 6 + 2 * n) _ (inb_in hb).2.2
theorem lawEl_1 {x : Int32} (hb : inb x 8 = true) : LawH (6 + 2 * x.toNatClampNeg) := (by decide +kernel : ∀ n, n < 8 → (6 + 2 * n) ∈ ([6, 8, 10, 12, 14, 16, 18, 20, 27, 29, 31, 33, 35, 37, 39, 41] : List Nat)) _ (inb_in hb).2.2
theorem ln_24 : ln 24 = 8 := by decide +kernel
theorem la_24 {x : Int32} (hb : inb x 8 = true) : tgR 24 x.toNatClampNeg = 27 + 2 * x.toNatClampNeg := (by decide +kernel : ∀ n, n < 8 → tgR 24 n = 27 + 2 * n) _ (inb_in hb).2.2
theorem lawEl_22 {x : Int32} (hb : inb x 8 = true) : LawH (27 + 2 * x.toNatClampNeg) := (by decide +kernel : ∀ n, n < 8 → (27 + 2 * n) ∈ ([6, 8, 10, 12, 14, 16, 18, 20, 27, 29, 31, 33, 35, 37, 39, 41] : List Nat)) _ (inb_in hb).2.2
theorem ln_44 : ln 44 = 4 := by decide +kernel
theorem sa_44 {x : Int32} (hb : inb x 4 = true) : tgR 44 x.toNatClampNeg = 69 + 2 * x.toNatClampNeg := (by decide +kernel : ∀ n, n < 4 → tgR 44 n = 69 + 2 * n) _ (inb_in hb).2.2
theorem shEl {x : Int32} (hb : inb x 4 = true) : ShH (69 + 2 * x.toNatClampNeg) := (by decide +kernel : ∀ n, n < 4 → (69 + 2 * n) ∈ ([69, 71, 73, 75] : List Nat)) _ (inb_in hb).2.2
