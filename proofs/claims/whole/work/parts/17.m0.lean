/-! methods as functions, printed by wip/gen/emit.py -/
theorem IA.n {k : Nat} (h : IA k) : IAn k (ln k) := ⟨h, rfl⟩
/-! 137: NineDemands.isKind -/
def F_137 (a1 : Int32) : Int32 := if a1 < 0 then 0 else (if (6 : Int32) ≤ a1 then 0 else 1)
theorem TF_137 {X : AX} {d : Nat} (hd : 0 ≤ d) {a1 : Int32} {M : IM} {v : Option Value} {M' : IM} {o : Int32} (h : F_137 a1 = o) (hC : v = some (.int o) ∧ M' = M) : Rc X d 137 0 [some (.int (a1))] [] M v M' := by
  unfold F_137 at h
  refine Rc.run tb_137 1 (pc' := 1) (ls' := [some (.int (a1))]) (st' := [.int (a1)]) rfl rfl ?_
  refine Rc.if_lt (pc1 := 14) tb_137 rfl rfl (by decide) (by decide) (fun hb2 => ?_) (fun hb2 => ?_)
  · rw [if_pos hb2] at h
    refine Rc.run tb_137 1 (pc' := 15) (ls' := [none]) (st' := [.int (0)]) rfl rfl ?_
    subst h
    obtain ⟨rfl, rfl⟩ := hC
    exact Rc.zret tb_137 rfl mR_137 (Or.inl rfl)
  · rw [if_neg hb2] at h
    refine Rc.run tb_137 2 (pc' := 7) (ls' := [some (.int (a1))]) (st' := [.int (6), .int (a1)]) rfl rfl ?_
    refine Rc.icmp_ge (pc1 := 14) tb_137 rfl rfl (by decide) (by decide) (fun hb1 => ?_) (fun hb1 => ?_)
    · rw [if_pos hb1] at h
      refine Rc.run tb_137 1 (pc' := 15) (ls' := [none]) (st' := [.int (0)]) rfl rfl ?_
      subst h
      obtain ⟨rfl, rfl⟩ := hC
      exact Rc.zret tb_137 rfl mR_137 (Or.inl rfl)
    · rw [if_neg hb1] at h
      refine Rc.run tb_137 2 (pc' := 15) (ls' := [some (.int (a1))]) (st' := [.int (1)]) rfl rfl ?_
      subst h
      obtain ⟨rfl, rfl⟩ := hC
      exact Rc.zret tb_137 rfl mR_137 (Or.inr rfl)
theorem T_137 {X : AX} {d : Nat} (hd : 0 ≤ d) (a1 : Int32) (M : IM) : Rc X d 137 0 [some (.int (a1))] [] M (some (.int (F_137 a1))) M := TF_137 hd rfl ⟨rfl, rfl⟩
/-! 0: NineDemands$Cases.many -/
def F_0 (a1 : Int32) : Option (Int32) := if F_137 a1 = 0 then (some (0)) else (if inb a1 6 = true then (some (sT 1 a1.toNatClampNeg)) else none)
theorem TF_0 {X : AX} {d : Nat} (hd : 1 ≤ d) {a1 : Int32} {M : IM} {v : Option Value} {M' : IM} {o : Int32} (h : F_0 a1 = some o) (hC : v = some (.int o) ∧ M' = M) : Rc X d 0 0 [some (.int (a1))] [] M v M' := by
  obtain ⟨d, rfl⟩ : ∃ e, d = e + 1 := ⟨d - 1, by omega⟩
  unfold F_0 at h
  refine Rc.run tb_0 1 (pc' := 1) (ls' := [some (.int (a1))]) (st' := [.int (a1)]) rfl rfl ?_
  have hq1 := T_137 (X := X) (d := d) (by omega) a1 M
  have hz1 := Rc.bool mR_137 hq1
  refine Rc.callS tb_0 rfl rfl rfl mS_137 mP_137 mL_137 rfl rfl rfl hq1 ?_
  refine Rc.if_eq (pc1 := 15) tb_0 rfl rfl (by decide) (by decide) (fun hb3 => ?_) (fun hb3 => ?_)
  · rw [if_pos hb3] at h
    refine Rc.run tb_0 1 (pc' := 16) (ls' := [some (.int (a1))]) (st' := [.int (0)]) rfl rfl ?_
    obtain rfl := Option.some.inj h
    obtain ⟨rfl, rfl⟩ := hC
    exact Rc.iret (ins := .ireturn) tb_0 rfl mR_0
  · rw [if_neg hb3] at h
    refine Rc.run tb_0 2 (pc' := 11) (ls' := [some (.int (a1))]) (st' := [.int (a1), .ref (1001)]) rfl rfl ?_
    by_cases hb2 : inb a1 6 = true
    · rw [if_pos hb2] at h
      refine Rc.sald tb_0 rfl rfl (q := 1) (by decide) hb2 ?_
      refine Rc.run tb_0 1 (pc' := 16) (ls' := [some (.int (a1))]) (st' := [.int (sT 1 a1.toNatClampNeg)]) rfl rfl ?_
      obtain rfl := Option.some.inj h
      obtain ⟨rfl, rfl⟩ := hC
      exact Rc.iret (ins := .ireturn) tb_0 rfl mR_0
    · rw [if_neg hb2] at h
      cases h
theorem T_0 {X : AX} {d : Nat} (hd : 1 ≤ d) {a1 : Int32} {M : IM} {x : Int32} (h : F_0 a1 = some x) : Rc X d 0 0 [some (.int (a1))] [] M (some (.int x)) M := TF_0 hd h ⟨rfl, rfl⟩
/-! 1: NineDemands$Cases.isPair -/
def F_1 (a1 : Int32) : Int32 := if a1 = 0 then 0 else (if a1 = 5 then 0 else 1)
theorem TF_1 {X : AX} {d : Nat} (hd : 0 ≤ d) {a1 : Int32} {M : IM} {v : Option Value} {M' : IM} {o : Int32} (h : F_1 a1 = o) (hC : v = some (.int o) ∧ M' = M) : Rc X d 1 0 [some (.int (a1))] [] M v M' := by
  unfold F_1 at h
  refine Rc.run tb_1 1 (pc' := 1) (ls' := [some (.int (a1))]) (st' := [.int (a1)]) rfl rfl ?_
  refine Rc.if_eq (pc1 := 13) tb_1 rfl rfl (by decide) (by decide) (fun hb2 => ?_) (fun hb2 => ?_)
  · rw [if_pos hb2] at h
    refine Rc.run tb_1 1 (pc' := 14) (ls' := [none]) (st' := [.int (0)]) rfl rfl ?_
    subst h
    obtain ⟨rfl, rfl⟩ := hC
    exact Rc.zret tb_1 rfl mR_1 (Or.inl rfl)
  · rw [if_neg hb2] at h
    refine Rc.run tb_1 2 (pc' := 6) (ls' := [some (.int (a1))]) (st' := [.int (5), .int (a1)]) rfl rfl ?_
    refine Rc.icmp_eq (pc1 := 13) tb_1 rfl rfl (by decide) (by decide) (fun hb1 => ?_) (fun hb1 => ?_)
    · rw [if_pos hb1] at h
      refine Rc.run tb_1 1 (pc' := 14) (ls' := [none]) (st' := [.int (0)]) rfl rfl ?_
      subst h
      obtain ⟨rfl, rfl⟩ := hC
      exact Rc.zret tb_1 rfl mR_1 (Or.inl rfl)
    · rw [if_neg hb1] at h
      refine Rc.run tb_1 2 (pc' := 14) (ls' := [some (.int (a1))]) (st' := [.int (1)]) rfl rfl ?_
      subst h
      obtain ⟨rfl, rfl⟩ := hC
      exact Rc.zret tb_1 rfl mR_1 (Or.inr rfl)
theorem T_1 {X : AX} {d : Nat} (hd : 0 ≤ d) (a1 : Int32) (M : IM) : Rc X d 1 0 [some (.int (a1))] [] M (some (.int (F_1 a1))) M := TF_1 hd rfl ⟨rfl, rfl⟩
/-! 2: NineDemands$Cases.first -/
def F_2 (a1 : Int32) (a2 : Int32) : Option (Int32) := if a1 = 1 then (if (8 : Int32) ≤ a2 then (some (4 + ((a2 - 8) / 3))) else (some (a2 / 2))) else (if a1 = 2 then (if a2 < 0 then (some (0)) else (if (14 : Int32) ≤ a2 then (some (0)) else (if inb a2 14 = true then (some (sT 2 a2.toNatClampNeg)) else none))) else (if a1 = 4 then (some (a2 / 2)) else (some (a2))))
theorem TF_2 {X : AX} {d : Nat} (hd : 0 ≤ d) {a1 : Int32} {a2 : Int32} {M : IM} {v : Option Value} {M' : IM} {o : Int32} (h : F_2 a1 a2 = some o) (hC : v = some (.int o) ∧ M' = M) : Rc X d 2 0 [some (.int (a1)), some (.int (a2))] [] M v M' := by
  unfold F_2 at h
  refine Rc.run tb_2 1 (pc' := 1) (ls' := [some (.int (a1)), some (.int (a2))]) (st' := [.int (a1)]) rfl rfl ?_
  by_cases hk1 : a1 = 1
  · rw [if_pos hk1] at h
    refine Rc.table (off := 31) (pc1 := 32) tb_2 rfl rfl (by decide) (tsw_at (k := 1) (by rw [hk1]; decide) (by decide +kernel)) (by decide) (by decide) ?_
    refine Rc.run tb_2 2 (pc' := 35) (ls' := [some (.int (a1)), some (.int (a2))]) (st' := [.int (8), .int (a2)]) rfl rfl ?_
    refine Rc.icmp_ge (pc1 := 44) tb_2 rfl rfl (by decide) (by decide) (fun hb7 => ?_) (fun hb7 => ?_)
    · rw [if_pos hb7] at h
      refine Rc.run tb_2 5 (pc' := 50) (ls' := [some (.int (a1)), some (.int (a2))]) (st' := [.int (3), .int (a2 - 8), .int (4)]) rfl rfl ?_
      refine Rc.idiv tb_2 rfl rfl (by decide) ?_
      refine Rc.run tb_2 1 (pc' := 52) (ls' := [some (.int (a1)), some (.int (a2))]) (st' := [.int (4 + ((a2 - 8) / 3))]) rfl rfl ?_
      obtain rfl := Option.some.inj h
      obtain ⟨rfl, rfl⟩ := hC
      exact Rc.iret (ins := .ireturn) tb_2 rfl mR_2
    · rw [if_neg hb7] at h
      refine Rc.run tb_2 2 (pc' := 40) (ls' := [some (.int (a1)), some (.int (a2))]) (st' := [.int (2), .int (a2)]) rfl rfl ?_
      refine Rc.idiv tb_2 rfl rfl (by decide) ?_
      refine Rc.run tb_2 1 (pc' := 52) (ls' := [some (.int (a1)), some (.int (a2))]) (st' := [.int (a2 / 2)]) rfl rfl ?_
      obtain rfl := Option.some.inj h
      obtain ⟨rfl, rfl⟩ := hC
      exact Rc.iret (ins := .ireturn) tb_2 rfl mR_2
  · rw [if_neg hk1] at h
    by_cases hk2 : a1 = 2
    · rw [if_pos hk2] at h
      refine Rc.table (off := 52) (pc1 := 53) tb_2 rfl rfl (by decide) (tsw_at (k := 2) (by rw [hk2]; decide) (by decide +kernel)) (by decide) (by decide) ?_
      refine Rc.run tb_2 1 (pc' := 54) (ls' := [some (.int (a1)), some (.int (a2))]) (st' := [.int (a2)]) rfl rfl ?_
      refine Rc.if_lt (pc1 := 73) tb_2 rfl rfl (by decide) (by decide) (fun hb6 => ?_) (fun hb6 => ?_)
      · rw [if_pos hb6] at h
        refine Rc.run tb_2 1 (pc' := 74) (ls' := [none, none]) (st' := [.int (0)]) rfl rfl ?_
        obtain rfl := Option.some.inj h
        obtain ⟨rfl, rfl⟩ := hC
        exact Rc.iret (ins := .ireturn) tb_2 rfl mR_2
      · rw [if_neg hb6] at h
        refine Rc.run tb_2 2 (pc' := 61) (ls' := [some (.int (a1)), some (.int (a2))]) (st' := [.ref (1002), .int (a2)]) rfl rfl ?_
        refine Rc.slen tb_2 rfl rfl (q := 2) (n := 14) (x := 14) (by decide) (by decide +kernel) ?_
        refine Rc.icmp_ge (pc1 := 73) tb_2 rfl rfl (by decide) (by decide) (fun hb5 => ?_) (fun hb5 => ?_)
        · rw [if_pos hb5] at h
          refine Rc.run tb_2 1 (pc' := 74) (ls' := [none, none]) (st' := [.int (0)]) rfl rfl ?_
          obtain rfl := Option.some.inj h
          obtain ⟨rfl, rfl⟩ := hC
          exact Rc.iret (ins := .ireturn) tb_2 rfl mR_2
        · rw [if_neg hb5] at h
          refine Rc.run tb_2 2 (pc' := 69) (ls' := [some (.int (a1)), some (.int (a2))]) (st' := [.int (a2), .ref (1002)]) rfl rfl ?_
          by_cases hb4 : inb a2 14 = true
          · rw [if_pos hb4] at h
            refine Rc.sald tb_2 rfl rfl (q := 2) (by decide) hb4 ?_
            refine Rc.run tb_2 1 (pc' := 74) (ls' := [some (.int (a1)), some (.int (a2))]) (st' := [.int (sT 2 a2.toNatClampNeg)]) rfl rfl ?_
            obtain rfl := Option.some.inj h
            obtain ⟨rfl, rfl⟩ := hC
            exact Rc.iret (ins := .ireturn) tb_2 rfl mR_2
          · rw [if_neg hb4] at h
            cases h
    · rw [if_neg hk2] at h
      by_cases hk3 : a1 = 4
      · rw [if_pos hk3] at h
        refine Rc.table (off := 74) (pc1 := 75) tb_2 rfl rfl (by decide) (tsw_at (k := 4) (by rw [hk3]; decide) (by decide +kernel)) (by decide) (by decide) ?_
        refine Rc.run tb_2 2 (pc' := 77) (ls' := [some (.int (a1)), some (.int (a2))]) (st' := [.int (2), .int (a2)]) rfl rfl ?_
        refine Rc.idiv tb_2 rfl rfl (by decide) ?_
        obtain rfl := Option.some.inj h
        obtain ⟨rfl, rfl⟩ := hC
        exact Rc.iret (ins := .ireturn) tb_2 rfl mR_2
      · rw [if_neg hk3] at h
        refine Rc.table (off := 78) (pc1 := 79) tb_2 rfl rfl (by decide) (tsw_df [1, 2, 4] (by decide +kernel) (fun k hk => by simp only [List.mem_cons, List.not_mem_nil, or_false] at hk; rcases hk with rfl | rfl | rfl <;> assumption)) (by decide) (by decide) ?_
        refine Rc.run tb_2 1 (pc' := 80) (ls' := [some (.int (a1)), some (.int (a2))]) (st' := [.int (a2)]) rfl rfl ?_
        obtain rfl := Option.some.inj h
        obtain ⟨rfl, rfl⟩ := hC
        exact Rc.iret (ins := .ireturn) tb_2 rfl mR_2
theorem T_2 {X : AX} {d : Nat} (hd : 0 ≤ d) {a1 : Int32} {a2 : Int32} {M : IM} {x : Int32} (h : F_2 a1 a2 = some x) : Rc X d 2 0 [some (.int (a1)), some (.int (a2))] [] M (some (.int x)) M := TF_2 hd h ⟨rfl, rfl⟩
/-! 4: NineDemands$Cases.changer -/
def F_4 (a1 : Int32) : Int32 := if (8 : Int32) ≤ a1 then ((a1 - 8) - (a1 - 8) / 3 * 3) else (a1 - a1 / 2 * 2)
theorem TF_4 {X : AX} {d : Nat} (hd : 0 ≤ d) {a1 : Int32} {M : IM} {v : Option Value} {M' : IM} {o : Int32} (h : F_4 a1 = o) (hC : v = some (.int o) ∧ M' = M) : Rc X d 4 0 [some (.int (a1))] [] M v M' := by
  unfold F_4 at h
  refine Rc.run tb_4 2 (pc' := 3) (ls' := [some (.int (a1))]) (st' := [.int (8), .int (a1)]) rfl rfl ?_
  refine Rc.icmp_ge (pc1 := 12) tb_4 rfl rfl (by decide) (by decide) (fun hb1 => ?_) (fun hb1 => ?_)
  · rw [if_pos hb1] at h
    refine Rc.run tb_4 4 (pc' := 17) (ls' := [some (.int (a1))]) (st' := [.int (3), .int (a1 - 8)]) rfl rfl ?_
    refine Rc.irem tb_4 rfl rfl (by decide) ?_
    subst h
    obtain ⟨rfl, rfl⟩ := hC
    exact Rc.iret (ins := .ireturn) tb_4 rfl mR_4
  · rw [if_neg hb1] at h
    refine Rc.run tb_4 2 (pc' := 8) (ls' := [some (.int (a1))]) (st' := [.int (2), .int (a1)]) rfl rfl ?_
    refine Rc.irem tb_4 rfl rfl (by decide) ?_
    refine Rc.run tb_4 1 (pc' := 18) (ls' := [some (.int (a1))]) (st' := [.int (a1 - a1 / 2 * 2)]) rfl rfl ?_
    subst h
    obtain ⟨rfl, rfl⟩ := hC
    exact Rc.iret (ins := .ireturn) tb_4 rfl mR_4
theorem T_4 {X : AX} {d : Nat} (hd : 0 ≤ d) (a1 : Int32) (M : IM) : Rc X d 4 0 [some (.int (a1))] [] M (some (.int (F_4 a1))) M := TF_4 hd rfl ⟨rfl, rfl⟩
/-! 7: NineDemands$Halls.base -/
def F_7 (a1 : Int32) : Int32 := if (4 : Int32) ≤ a1 then 4 else 0
theorem TF_7 {X : AX} {d : Nat} (hd : 0 ≤ d) {a1 : Int32} {M : IM} {v : Option Value} {M' : IM} {o : Int32} (h : F_7 a1 = o) (hC : v = some (.int o) ∧ M' = M) : Rc X d 7 0 [some (.int (a1))] [] M v M' := by
  unfold F_7 at h
  refine Rc.run tb_7 2 (pc' := 2) (ls' := [some (.int (a1))]) (st' := [.int (4), .int (a1)]) rfl rfl ?_
  refine Rc.icmp_ge (pc1 := 9) tb_7 rfl rfl (by decide) (by decide) (fun hb1 => ?_) (fun hb1 => ?_)
  · rw [if_pos hb1] at h
    refine Rc.run tb_7 1 (pc' := 10) (ls' := [some (.int (a1))]) (st' := [.int (4)]) rfl rfl ?_
    subst h
    obtain ⟨rfl, rfl⟩ := hC
    exact Rc.iret (ins := .ireturn) tb_7 rfl mR_7
  · rw [if_neg hb1] at h
    refine Rc.run tb_7 2 (pc' := 10) (ls' := [some (.int (a1))]) (st' := [.int (0)]) rfl rfl ?_
    subst h
    obtain ⟨rfl, rfl⟩ := hC
    exact Rc.iret (ins := .ireturn) tb_7 rfl mR_7
theorem T_7 {X : AX} {d : Nat} (hd : 0 ≤ d) (a1 : Int32) (M : IM) : Rc X d 7 0 [some (.int (a1))] [] M (some (.int (F_7 a1))) M := TF_7 hd rfl ⟨rfl, rfl⟩
/-! 11: NineDemands$Halls.withOther -/
def F_11 (a1 : Int32) (a2 : Int32) : Int32 := (F_7 a1) + ((a1 - (F_7 a1)) ^^^ ((1 : Int32) <<< (a2 &&& 31)))
theorem TF_11 {X : AX} {d : Nat} (hd : 1 ≤ d) {a1 : Int32} {a2 : Int32} {M : IM} {v : Option Value} {M' : IM} {o : Int32} (h : F_11 a1 a2 = o) (hC : v = some (.int o) ∧ M' = M) : Rc X d 11 0 [some (.int (a1)), some (.int (a2))] [] M v M' := by
  obtain ⟨d, rfl⟩ : ∃ e, d = e + 1 := ⟨d - 1, by omega⟩
  unfold F_11 at h
  refine Rc.run tb_11 1 (pc' := 1) (ls' := [some (.int (a1)), some (.int (a2))]) (st' := [.int (a1)]) rfl rfl ?_
  have hq1 := T_7 (X := X) (d := d) (by omega) a1 M
  refine Rc.callS tb_11 rfl rfl rfl mS_7 mP_7 mL_7 rfl rfl rfl hq1 ?_
  refine Rc.run tb_11 2 (pc' := 6) (ls' := [some (.int (a1)), some (.int (a2))]) (st' := [.int (a1), .int (a1), .int (F_7 a1)]) rfl rfl ?_
  have hq2 := T_7 (X := X) (d := d) (by omega) a1 M
  refine Rc.callS tb_11 rfl rfl rfl mS_7 mP_7 mL_7 rfl rfl rfl hq2 ?_
  refine Rc.run tb_11 6 (pc' := 15) (ls' := [some (.int (a1)), some (.int (a2))]) (st' := [.int ((F_7 a1) + ((a1 - (F_7 a1)) ^^^ ((1 : Int32) <<< (a2 &&& 31))))]) rfl rfl ?_
  subst h
  obtain ⟨rfl, rfl⟩ := hC
  exact Rc.iret (ins := .ireturn) tb_11 rfl mR_11
theorem T_11 {X : AX} {d : Nat} (hd : 1 ≤ d) (a1 : Int32) (a2 : Int32) (M : IM) : Rc X d 11 0 [some (.int (a1)), some (.int (a2))] [] M (some (.int (F_11 a1 a2))) M := TF_11 hd rfl ⟨rfl, rfl⟩
/-! 6: NineDemands$Halls.people -/
def F_6 (a1 : Int32) : Int32 := if (4 : Int32) ≤ a1 then 3 else 2
theorem TF_6 {X : AX} {d : Nat} (hd : 0 ≤ d) {a1 : Int32} {M : IM} {v : Option Value} {M' : IM} {o : Int32} (h : F_6 a1 = o) (hC : v = some (.int o) ∧ M' = M) : Rc X d 6 0 [some (.int (a1))] [] M v M' := by
  unfold F_6 at h
  refine Rc.run tb_6 2 (pc' := 2) (ls' := [some (.int (a1))]) (st' := [.int (4), .int (a1)]) rfl rfl ?_
  refine Rc.icmp_ge (pc1 := 9) tb_6 rfl rfl (by decide) (by decide) (fun hb1 => ?_) (fun hb1 => ?_)
  · rw [if_pos hb1] at h
    refine Rc.run tb_6 1 (pc' := 10) (ls' := [some (.int (a1))]) (st' := [.int (3)]) rfl rfl ?_
    subst h
    obtain ⟨rfl, rfl⟩ := hC
    exact Rc.iret (ins := .ireturn) tb_6 rfl mR_6
  · rw [if_neg hb1] at h
    refine Rc.run tb_6 2 (pc' := 10) (ls' := [some (.int (a1))]) (st' := [.int (2)]) rfl rfl ?_
    subst h
    obtain ⟨rfl, rfl⟩ := hC
    exact Rc.iret (ins := .ireturn) tb_6 rfl mR_6
theorem T_6 {X : AX} {d : Nat} (hd : 0 ≤ d) (a1 : Int32) (M : IM) : Rc X d 6 0 [some (.int (a1))] [] M (some (.int (F_6 a1))) M := TF_6 hd rfl ⟨rfl, rfl⟩
/-! 12: NineDemands$Halls.allOther -/
def F_12 (a1 : Int32) : Int32 := (F_7 a1) + ((a1 - (F_7 a1)) ^^^ (((1 : Int32) <<< ((F_6 a1) &&& 31)) - 1))
theorem TF_12 {X : AX} {d : Nat} (hd : 1 ≤ d) {a1 : Int32} {M : IM} {v : Option Value} {M' : IM} {o : Int32} (h : F_12 a1 = o) (hC : v = some (.int o) ∧ M' = M) : Rc X d 12 0 [some (.int (a1)), none] [] M v M' := by
  obtain ⟨d, rfl⟩ : ∃ e, d = e + 1 := ⟨d - 1, by omega⟩
  unfold F_12 at h
  refine Rc.run tb_12 2 (pc' := 2) (ls' := [some (.int (a1)), none]) (st' := [.int (a1), .int (1)]) rfl rfl ?_
  have hq1 := T_6 (X := X) (d := d) (by omega) a1 M
  refine Rc.callS tb_12 rfl rfl rfl mS_6 mP_6 mL_6 rfl rfl rfl hq1 ?_
  refine Rc.run tb_12 5 (pc' := 10) (ls' := [some (.int (a1)), some (.int (((1 : Int32) <<< ((F_6 a1) &&& 31)) - 1))]) (st' := [.int (a1)]) rfl rfl ?_
  have hq2 := T_7 (X := X) (d := d) (by omega) a1 M
  refine Rc.callS tb_12 rfl rfl rfl mS_7 mP_7 mL_7 rfl rfl rfl hq2 ?_
  refine Rc.run tb_12 2 (pc' := 15) (ls' := [some (.int (a1)), some (.int (((1 : Int32) <<< ((F_6 a1) &&& 31)) - 1))]) (st' := [.int (a1), .int (a1), .int (F_7 a1)]) rfl rfl ?_
  have hq3 := T_7 (X := X) (d := d) (by omega) a1 M
  refine Rc.callS tb_12 rfl rfl rfl mS_7 mP_7 mL_7 rfl rfl rfl hq3 ?_
  refine Rc.run tb_12 4 (pc' := 22) (ls' := [some (.int (a1)), some (.int (((1 : Int32) <<< ((F_6 a1) &&& 31)) - 1))]) (st' := [.int ((F_7 a1) + ((a1 - (F_7 a1)) ^^^ (((1 : Int32) <<< ((F_6 a1) &&& 31)) - 1)))]) rfl rfl ?_
  subst h
  obtain ⟨rfl, rfl⟩ := hC
  exact Rc.iret (ins := .ireturn) tb_12 rfl mR_12
theorem T_12 {X : AX} {d : Nat} (hd : 1 ≤ d) (a1 : Int32) (M : IM) : Rc X d 12 0 [some (.int (a1)), none] [] M (some (.int (F_12 a1))) M := TF_12 hd rfl ⟨rfl, rfl⟩
/-! 3: NineDemands$Cases.second -/
def F_3 (a1 : Int32) (a2 : Int32) : Option (Int32) := (match F_2 a1 a2 with | none => none | some c1 => (if a1 = 1 then (some (F_11 c1 (F_4 a2))) else (if a1 = 2 then (if a2 < 0 then (some (0)) else (if (14 : Int32) ≤ a2 then (some (0)) else (if inb a2 14 = true then (some (sT 3 a2.toNatClampNeg)) else none))) else (if a1 = 3 then (some (F_12 c1)) else (if a1 = 4 then (some ((4 + c1) + (4 * (a2 - a2 / 2 * 2)))) else (some (c1)))))))
theorem TF_3 {X : AX} {d : Nat} (hd : 2 ≤ d) {a1 : Int32} {a2 : Int32} {M : IM} {v : Option Value} {M' : IM} {o : Int32} (h : F_3 a1 a2 = some o) (hC : v = some (.int o) ∧ M' = M) : Rc X d 3 0 [some (.int (a1)), some (.int (a2)), none] [] M v M' := by
  obtain ⟨d, rfl⟩ : ∃ e, d = e + 1 := ⟨d - 1, by omega⟩
  unfold F_3 at h
  refine Rc.run tb_3 2 (pc' := 2) (ls' := [some (.int (a1)), some (.int (a2)), none]) (st' := [.int (a2), .int (a1)]) rfl rfl ?_
  cases hc1 : F_2 a1 a2 with
  | none => rw [hc1] at h; cases h
  | some c1 =>
    rw [hc1] at h
    dsimp only at h
    have hq1 := T_2 (X := X) (d := d) (by omega) (M := M) hc1
    refine Rc.callS tb_3 rfl rfl rfl mS_2 mP_2 mL_2 rfl rfl rfl hq1 ?_
    refine Rc.run tb_3 2 (pc' := 7) (ls' := [some (.int (a1)), some (.int (a2)), some (.int (c1))]) (st' := [.int (a1)]) rfl rfl ?_
    by_cases hk2 : a1 = 1
    · rw [if_pos hk2] at h
      refine Rc.table (off := 29) (pc1 := 36) tb_3 rfl rfl (by decide) (tsw_at (k := 1) (by rw [hk2]; decide) (by decide +kernel)) (by decide) (by decide) ?_
      refine Rc.run tb_3 2 (pc' := 38) (ls' := [some (.int (a1)), some (.int (a2)), some (.int (c1))]) (st' := [.int (a2), .int (c1)]) rfl rfl ?_
      have hq10 := T_4 (X := X) (d := d) (by omega) a2 M
      refine Rc.callS tb_3 rfl rfl rfl mS_4 mP_4 mL_4 rfl rfl rfl hq10 ?_
      have hq11 := T_11 (X := X) (d := d) (by omega) c1 (F_4 a2) M
      refine Rc.callS tb_3 rfl rfl rfl mS_11 mP_11 mL_11 rfl rfl rfl hq11 ?_
      obtain rfl := Option.some.inj h
      obtain ⟨rfl, rfl⟩ := hC
      exact Rc.iret (ins := .ireturn) tb_3 rfl mR_3
    · rw [if_neg hk2] at h
      by_cases hk3 : a1 = 2
      · rw [if_pos hk3] at h
        refine Rc.table (off := 38) (pc1 := 45) tb_3 rfl rfl (by decide) (tsw_at (k := 2) (by rw [hk3]; decide) (by decide +kernel)) (by decide) (by decide) ?_
        refine Rc.run tb_3 1 (pc' := 46) (ls' := [some (.int (a1)), some (.int (a2)), some (.int (c1))]) (st' := [.int (a2)]) rfl rfl ?_
        refine Rc.if_lt (pc1 := 65) tb_3 rfl rfl (by decide) (by decide) (fun hb9 => ?_) (fun hb9 => ?_)
        · rw [if_pos hb9] at h
          refine Rc.run tb_3 1 (pc' := 66) (ls' := [none, none, none]) (st' := [.int (0)]) rfl rfl ?_
          obtain rfl := Option.some.inj h
          obtain ⟨rfl, rfl⟩ := hC
          exact Rc.iret (ins := .ireturn) tb_3 rfl mR_3
        · rw [if_neg hb9] at h
          refine Rc.run tb_3 2 (pc' := 53) (ls' := [some (.int (a1)), some (.int (a2)), some (.int (c1))]) (st' := [.ref (1003), .int (a2)]) rfl rfl ?_
          refine Rc.slen tb_3 rfl rfl (q := 3) (n := 14) (x := 14) (by decide) (by decide +kernel) ?_
          refine Rc.icmp_ge (pc1 := 65) tb_3 rfl rfl (by decide) (by decide) (fun hb8 => ?_) (fun hb8 => ?_)
          · rw [if_pos hb8] at h
            refine Rc.run tb_3 1 (pc' := 66) (ls' := [none, none, none]) (st' := [.int (0)]) rfl rfl ?_
            obtain rfl := Option.some.inj h
            obtain ⟨rfl, rfl⟩ := hC
            exact Rc.iret (ins := .ireturn) tb_3 rfl mR_3
          · rw [if_neg hb8] at h
            refine Rc.run tb_3 2 (pc' := 61) (ls' := [some (.int (a1)), some (.int (a2)), some (.int (c1))]) (st' := [.int (a2), .ref (1003)]) rfl rfl ?_
            by_cases hb7 : inb a2 14 = true
            · rw [if_pos hb7] at h
              refine Rc.sald tb_3 rfl rfl (q := 3) (by decide) hb7 ?_
              refine Rc.run tb_3 1 (pc' := 66) (ls' := [some (.int (a1)), some (.int (a2)), some (.int (c1))]) (st' := [.int (sT 3 a2.toNatClampNeg)]) rfl rfl ?_
              obtain rfl := Option.some.inj h
              obtain ⟨rfl, rfl⟩ := hC
              exact Rc.iret (ins := .ireturn) tb_3 rfl mR_3
            · rw [if_neg hb7] at h
              cases h
      · rw [if_neg hk3] at h
        by_cases hk4 : a1 = 3
        · rw [if_pos hk4] at h
          refine Rc.table (off := 60) (pc1 := 67) tb_3 rfl rfl (by decide) (tsw_at (k := 3) (by rw [hk4]; decide) (by decide +kernel)) (by decide) (by decide) ?_
          refine Rc.run tb_3 1 (pc' := 68) (ls' := [some (.int (a1)), some (.int (a2)), some (.int (c1))]) (st' := [.int (c1)]) rfl rfl ?_
          have hq6 := T_12 (X := X) (d := d) (by omega) c1 M
          refine Rc.callS tb_3 rfl rfl rfl mS_12 mP_12 mL_12 rfl rfl rfl hq6 ?_
          obtain rfl := Option.some.inj h
          obtain ⟨rfl, rfl⟩ := hC
          exact Rc.iret (ins := .ireturn) tb_3 rfl mR_3
        · rw [if_neg hk4] at h
          by_cases hk5 : a1 = 4
          · rw [if_pos hk5] at h
            refine Rc.table (off := 65) (pc1 := 72) tb_3 rfl rfl (by decide) (tsw_at (k := 4) (by rw [hk5]; decide) (by decide +kernel)) (by decide) (by decide) ?_
            refine Rc.run tb_3 6 (pc' := 78) (ls' := [some (.int (a1)), some (.int (a2)), some (.int (c1))]) (st' := [.int (2), .int (a2), .int (4), .int (4 + c1)]) rfl rfl ?_
            refine Rc.irem tb_3 rfl rfl (by decide) ?_
            refine Rc.run tb_3 2 (pc' := 81) (ls' := [some (.int (a1)), some (.int (a2)), some (.int (c1))]) (st' := [.int ((4 + c1) + (4 * (a2 - a2 / 2 * 2)))]) rfl rfl ?_
            obtain rfl := Option.some.inj h
            obtain ⟨rfl, rfl⟩ := hC
            exact Rc.iret (ins := .ireturn) tb_3 rfl mR_3
          · rw [if_neg hk5] at h
            refine Rc.table (off := 75) (pc1 := 82) tb_3 rfl rfl (by decide) (tsw_df [1, 2, 3, 4] (by decide +kernel) (fun k hk => by simp only [List.mem_cons, List.not_mem_nil, or_false] at hk; rcases hk with rfl | rfl | rfl | rfl <;> assumption)) (by decide) (by decide) ?_
            refine Rc.run tb_3 1 (pc' := 83) (ls' := [some (.int (a1)), some (.int (a2)), some (.int (c1))]) (st' := [.int (c1)]) rfl rfl ?_
            obtain rfl := Option.some.inj h
            obtain ⟨rfl, rfl⟩ := hC
            exact Rc.iret (ins := .ireturn) tb_3 rfl mR_3
theorem T_3 {X : AX} {d : Nat} (hd : 2 ≤ d) {a1 : Int32} {a2 : Int32} {M : IM} {x : Int32} (h : F_3 a1 a2 = some x) : Rc X d 3 0 [some (.int (a1)), some (.int (a2)), none] [] M (some (.int x)) M := TF_3 hd h ⟨rfl, rfl⟩
/-! 5: NineDemands$Halls.exists -/
def F_5 (a1 : Int32) : Int32 := if a1 < 0 then 0 else (if (12 : Int32) ≤ a1 then 0 else 1)
theorem TF_5 {X : AX} {d : Nat} (hd : 0 ≤ d) {a1 : Int32} {M : IM} {v : Option Value} {M' : IM} {o : Int32} (h : F_5 a1 = o) (hC : v = some (.int o) ∧ M' = M) : Rc X d 5 0 [some (.int (a1))] [] M v M' := by
  unfold F_5 at h
  refine Rc.run tb_5 1 (pc' := 1) (ls' := [some (.int (a1))]) (st' := [.int (a1)]) rfl rfl ?_
  refine Rc.if_lt (pc1 := 14) tb_5 rfl rfl (by decide) (by decide) (fun hb2 => ?_) (fun hb2 => ?_)
  · rw [if_pos hb2] at h
    refine Rc.run tb_5 1 (pc' := 15) (ls' := [none]) (st' := [.int (0)]) rfl rfl ?_
    subst h
    obtain ⟨rfl, rfl⟩ := hC
    exact Rc.zret tb_5 rfl mR_5 (Or.inl rfl)
  · rw [if_neg hb2] at h
    refine Rc.run tb_5 2 (pc' := 7) (ls' := [some (.int (a1))]) (st' := [.int (12), .int (a1)]) rfl rfl ?_
    refine Rc.icmp_ge (pc1 := 14) tb_5 rfl rfl (by decide) (by decide) (fun hb1 => ?_) (fun hb1 => ?_)
    · rw [if_pos hb1] at h
      refine Rc.run tb_5 1 (pc' := 15) (ls' := [none]) (st' := [.int (0)]) rfl rfl ?_
      subst h
      obtain ⟨rfl, rfl⟩ := hC
      exact Rc.zret tb_5 rfl mR_5 (Or.inl rfl)
    · rw [if_neg hb1] at h
      refine Rc.run tb_5 2 (pc' := 15) (ls' := [some (.int (a1))]) (st' := [.int (1)]) rfl rfl ?_
      subst h
      obtain ⟨rfl, rfl⟩ := hC
      exact Rc.zret tb_5 rfl mR_5 (Or.inr rfl)
theorem T_5 {X : AX} {d : Nat} (hd : 0 ≤ d) (a1 : Int32) (M : IM) : Rc X d 5 0 [some (.int (a1))] [] M (some (.int (F_5 a1))) M := TF_5 hd rfl ⟨rfl, rfl⟩
/-! 8: NineDemands$Halls.wants -/
def F_8 (a1 : Int32) (a2 : Int32) : Int32 := if F_6 a1 ≤ a2 then 2 else (((a1 - (F_7 a1)) >>> (a2 &&& 31)) &&& 1)
theorem TF_8 {X : AX} {d : Nat} (hd : 1 ≤ d) {a1 : Int32} {a2 : Int32} {M : IM} {v : Option Value} {M' : IM} {o : Int32} (h : F_8 a1 a2 = o) (hC : v = some (.int o) ∧ M' = M) : Rc X d 8 0 [some (.int (a1)), some (.int (a2))] [] M v M' := by
  obtain ⟨d, rfl⟩ : ∃ e, d = e + 1 := ⟨d - 1, by omega⟩
  unfold F_8 at h
  refine Rc.run tb_8 2 (pc' := 2) (ls' := [some (.int (a1)), some (.int (a2))]) (st' := [.int (a1), .int (a2)]) rfl rfl ?_
  have hq1 := T_6 (X := X) (d := d) (by omega) a1 M
  refine Rc.callS tb_8 rfl rfl rfl mS_6 mP_6 mL_6 rfl rfl rfl hq1 ?_
  refine Rc.icmp_ge (pc1 := 21) tb_8 rfl rfl (by decide) (by decide) (fun hb3 => ?_) (fun hb3 => ?_)
  · rw [if_pos hb3] at h
    refine Rc.run tb_8 1 (pc' := 22) (ls' := [some (.int (a1)), some (.int (a2))]) (st' := [.int (2)]) rfl rfl ?_
    subst h
    obtain ⟨rfl, rfl⟩ := hC
    exact Rc.iret (ins := .ireturn) tb_8 rfl mR_8
  · rw [if_neg hb3] at h
    refine Rc.run tb_8 2 (pc' := 10) (ls' := [some (.int (a1)), some (.int (a2))]) (st' := [.int (a1), .int (a1)]) rfl rfl ?_
    have hq2 := T_7 (X := X) (d := d) (by omega) a1 M
    refine Rc.callS tb_8 rfl rfl rfl mS_7 mP_7 mL_7 rfl rfl rfl hq2 ?_
    refine Rc.run tb_8 6 (pc' := 22) (ls' := [some (.int (a1)), some (.int (a2))]) (st' := [.int (((a1 - (F_7 a1)) >>> (a2 &&& 31)) &&& 1)]) rfl rfl ?_
    subst h
    obtain ⟨rfl, rfl⟩ := hC
    exact Rc.iret (ins := .ireturn) tb_8 rfl mR_8
theorem T_8 {X : AX} {d : Nat} (hd : 1 ≤ d) (a1 : Int32) (a2 : Int32) (M : IM) : Rc X d 8 0 [some (.int (a1)), some (.int (a2))] [] M (some (.int (F_8 a1 a2))) M := TF_8 hd rfl ⟨rfl, rfl⟩
/-! 252: java/lang/Integer.bitCount -/
def J_252_41 (x0 : Int32) : Int32 := (x0 + (((x0).toUInt32 >>> (((16 : Int32)).toUInt32 &&& Int32.toUInt32 31)).toInt32)) &&& 63
def J_252_34 (x0 : Int32) : Int32 := J_252_41 (x0 + (((x0).toUInt32 >>> (((8 : Int32)).toUInt32 &&& Int32.toUInt32 31)).toInt32))
def J_252_24 (x0 : Int32) : Int32 := J_252_34 ((x0 + (((x0).toUInt32 >>> (((4 : Int32)).toUInt32 &&& Int32.toUInt32 31)).toInt32)) &&& 252645135)
def J_252_10 (x0 : Int32) : Int32 := J_252_24 ((x0 &&& 858993459) + ((((x0).toUInt32 >>> (((2 : Int32)).toUInt32 &&& Int32.toUInt32 31)).toInt32) &&& 858993459))
def F_252 (a1 : Int32) : Int32 := J_252_10 (a1 - ((((a1).toUInt32 >>> (((1 : Int32)).toUInt32 &&& Int32.toUInt32 31)).toInt32) &&& 1431655765))
theorem TJ_252_41 {X : AX} {d : Nat} (hd : 0 ≤ d) {x0 : Int32} {M : IM} {v : Option Value} {M' : IM} {o : Int32} (h : J_252_41 x0 = o) (hC : v = some (.int o) ∧ M' = M) : Rc X d 252 41 [some (.int (x0))] [] M v M' := by
  unfold J_252_41 at h
  refine Rc.run tb_252 9 (pc' := 52) (ls' := [some (.int (x0 + (((x0).toUInt32 >>> (((16 : Int32)).toUInt32 &&& Int32.toUInt32 31)).toInt32)))]) (st' := [.int ((x0 + (((x0).toUInt32 >>> (((16 : Int32)).toUInt32 &&& Int32.toUInt32 31)).toInt32)) &&& 63)]) rfl rfl ?_
  subst h
  obtain ⟨rfl, rfl⟩ := hC
  exact Rc.iret (ins := .ireturn) tb_252 rfl mR_252
theorem TJ_252_34 {X : AX} {d : Nat} (hd : 0 ≤ d) {x0 : Int32} {M : IM} {v : Option Value} {M' : IM} {o : Int32} (h : J_252_34 x0 = o) (hC : v = some (.int o) ∧ M' = M) : Rc X d 252 34 [some (.int (x0))] [] M v M' := by
  unfold J_252_34 at h
  refine Rc.run tb_252 6 (pc' := 41) (ls' := [some (.int (x0 + (((x0).toUInt32 >>> (((8 : Int32)).toUInt32 &&& Int32.toUInt32 31)).toInt32)))]) (st' := []) rfl rfl ?_
  exact TJ_252_41 (X := X) (d := d) (by omega) h hC
theorem TJ_252_24 {X : AX} {d : Nat} (hd : 0 ≤ d) {x0 : Int32} {M : IM} {v : Option Value} {M' : IM} {o : Int32} (h : J_252_24 x0 = o) (hC : v = some (.int o) ∧ M' = M) : Rc X d 252 24 [some (.int (x0))] [] M v M' := by
  unfold J_252_24 at h
  refine Rc.run tb_252 8 (pc' := 34) (ls' := [some (.int ((x0 + (((x0).toUInt32 >>> (((4 : Int32)).toUInt32 &&& Int32.toUInt32 31)).toInt32)) &&& 252645135))]) (st' := []) rfl rfl ?_
  exact TJ_252_34 (X := X) (d := d) (by omega) h hC
theorem TJ_252_10 {X : AX} {d : Nat} (hd : 0 ≤ d) {x0 : Int32} {M : IM} {v : Option Value} {M' : IM} {o : Int32} (h : J_252_10 x0 = o) (hC : v = some (.int o) ∧ M' = M) : Rc X d 252 10 [some (.int (x0))] [] M v M' := by
  unfold J_252_10 at h
  refine Rc.run tb_252 10 (pc' := 24) (ls' := [some (.int ((x0 &&& 858993459) + ((((x0).toUInt32 >>> (((2 : Int32)).toUInt32 &&& Int32.toUInt32 31)).toInt32) &&& 858993459)))]) (st' := []) rfl rfl ?_
  exact TJ_252_24 (X := X) (d := d) (by omega) h hC
theorem TF_252 {X : AX} {d : Nat} (hd : 0 ≤ d) {a1 : Int32} {M : IM} {v : Option Value} {M' : IM} {o : Int32} (h : F_252 a1 = o) (hC : v = some (.int o) ∧ M' = M) : Rc X d 252 0 [some (.int (a1))] [] M v M' := by
  unfold F_252 at h
  refine Rc.run tb_252 8 (pc' := 10) (ls' := [some (.int (a1 - ((((a1).toUInt32 >>> (((1 : Int32)).toUInt32 &&& Int32.toUInt32 31)).toInt32) &&& 1431655765)))]) (st' := []) rfl rfl ?_
  exact TJ_252_10 (X := X) (d := d) (by omega) h hC
theorem T_252 {X : AX} {d : Nat} (hd : 0 ≤ d) (a1 : Int32) (M : IM) : Rc X d 252 0 [some (.int (a1))] [] M (some (.int (F_252 a1))) M := TF_252 hd rfl ⟨rfl, rfl⟩
/-! 9: NineDemands$Halls.wantB -/
def F_9 (a1 : Int32) : Int32 := F_252 (a1 - (F_7 a1))
theorem TF_9 {X : AX} {d : Nat} (hd : 1 ≤ d) {a1 : Int32} {M : IM} {v : Option Value} {M' : IM} {o : Int32} (h : F_9 a1 = o) (hC : v = some (.int o) ∧ M' = M) : Rc X d 9 0 [some (.int (a1))] [] M v M' := by
  obtain ⟨d, rfl⟩ : ∃ e, d = e + 1 := ⟨d - 1, by omega⟩
  unfold F_9 at h
  refine Rc.run tb_9 2 (pc' := 2) (ls' := [some (.int (a1))]) (st' := [.int (a1), .int (a1)]) rfl rfl ?_
  have hq1 := T_7 (X := X) (d := d) (by omega) a1 M
  refine Rc.callS tb_9 rfl rfl rfl mS_7 mP_7 mL_7 rfl rfl rfl hq1 ?_
  refine Rc.run tb_9 1 (pc' := 6) (ls' := [some (.int (a1))]) (st' := [.int (a1 - (F_7 a1))]) rfl rfl ?_
  have hq2 := T_252 (X := X) (d := d) (by omega) (a1 - (F_7 a1)) M
  refine Rc.callS tb_9 rfl rfl rfl mS_252 mP_252 mL_252 rfl rfl rfl hq2 ?_
  subst h
  obtain ⟨rfl, rfl⟩ := hC
  exact Rc.iret (ins := .ireturn) tb_9 rfl mR_9
theorem T_9 {X : AX} {d : Nat} (hd : 1 ≤ d) (a1 : Int32) (M : IM) : Rc X d 9 0 [some (.int (a1))] [] M (some (.int (F_9 a1))) M := TF_9 hd rfl ⟨rfl, rfl⟩
/-! 10: NineDemands$Halls.wantA -/
def F_10 (a1 : Int32) : Int32 := (F_6 a1) - (F_9 a1)
theorem TF_10 {X : AX} {d : Nat} (hd : 2 ≤ d) {a1 : Int32} {M : IM} {v : Option Value} {M' : IM} {o : Int32} (h : F_10 a1 = o) (hC : v = some (.int o) ∧ M' = M) : Rc X d 10 0 [some (.int (a1))] [] M v M' := by
  obtain ⟨d, rfl⟩ : ∃ e, d = e + 1 := ⟨d - 1, by omega⟩
  unfold F_10 at h
  refine Rc.run tb_10 1 (pc' := 1) (ls' := [some (.int (a1))]) (st' := [.int (a1)]) rfl rfl ?_
  have hq1 := T_6 (X := X) (d := d) (by omega) a1 M
  refine Rc.callS tb_10 rfl rfl rfl mS_6 mP_6 mL_6 rfl rfl rfl hq1 ?_
  refine Rc.run tb_10 1 (pc' := 5) (ls' := [some (.int (a1))]) (st' := [.int (a1), .int (F_6 a1)]) rfl rfl ?_
  have hq2 := T_9 (X := X) (d := d) (by omega) a1 M
  refine Rc.callS tb_10 rfl rfl rfl mS_9 mP_9 mL_9 rfl rfl rfl hq2 ?_
  refine Rc.run tb_10 1 (pc' := 9) (ls' := [some (.int (a1))]) (st' := [.int ((F_6 a1) - (F_9 a1))]) rfl rfl ?_
  subst h
  obtain ⟨rfl, rfl⟩ := hC
  exact Rc.iret (ins := .ireturn) tb_10 rfl mR_10
theorem T_10 {X : AX} {d : Nat} (hd : 2 ≤ d) (a1 : Int32) (M : IM) : Rc X d 10 0 [some (.int (a1))] [] M (some (.int (F_10 a1))) M := TF_10 hd rfl ⟨rfl, rfl⟩
/-! 14: NineDemands$Halls.ofMost -/
def F_14 (a1 : Int32) (a2 : Int32) : Int32 := if (F_10 a1) - (F_9 a1) = 0 then a2 else (if (F_10 a1) - (F_9 a1) ≤ 0 then 2 else 1)
theorem TF_14 {X : AX} {d : Nat} (hd : 3 ≤ d) {a1 : Int32} {a2 : Int32} {M : IM} {v : Option Value} {M' : IM} {o : Int32} (h : F_14 a1 a2 = o) (hC : v = some (.int o) ∧ M' = M) : Rc X d 14 0 [some (.int (a1)), some (.int (a2)), none] [] M v M' := by
  obtain ⟨d, rfl⟩ : ∃ e, d = e + 1 := ⟨d - 1, by omega⟩
  unfold F_14 at h
  refine Rc.run tb_14 1 (pc' := 1) (ls' := [some (.int (a1)), some (.int (a2)), none]) (st' := [.int (a1)]) rfl rfl ?_
  have hq1 := T_10 (X := X) (d := d) (by omega) a1 M
  refine Rc.callS tb_14 rfl rfl rfl mS_10 mP_10 mL_10 rfl rfl rfl hq1 ?_
  refine Rc.run tb_14 1 (pc' := 5) (ls' := [some (.int (a1)), some (.int (a2)), none]) (st' := [.int (a1), .int (F_10 a1)]) rfl rfl ?_
  have hq2 := T_9 (X := X) (d := d) (by omega) a1 M
  refine Rc.callS tb_14 rfl rfl rfl mS_9 mP_9 mL_9 rfl rfl rfl hq2 ?_
  refine Rc.run tb_14 3 (pc' := 11) (ls' := [some (.int (a1)), some (.int (a2)), some (.int ((F_10 a1) - (F_9 a1)))]) (st' := [.int ((F_10 a1) - (F_9 a1))]) rfl rfl ?_
  refine Rc.if_ne (pc1 := 16) tb_14 rfl rfl (by decide) (by decide) (fun hb4 => ?_) (fun hb4 => ?_)
  · rw [if_pos hb4] at h
    refine Rc.run tb_14 1 (pc' := 15) (ls' := [some (.int (a1)), some (.int (a2)), some (.int ((F_10 a1) - (F_9 a1)))]) (st' := [.int (a2)]) rfl rfl ?_
    subst h
    obtain ⟨rfl, rfl⟩ := hC
    exact Rc.iret (ins := .ireturn) tb_14 rfl mR_14
  · rw [if_neg hb4] at h
    refine Rc.run tb_14 1 (pc' := 17) (ls' := [some (.int (a1)), some (.int (a2)), some (.int ((F_10 a1) - (F_9 a1)))]) (st' := [.int ((F_10 a1) - (F_9 a1))]) rfl rfl ?_
    refine Rc.if_le (pc1 := 24) tb_14 rfl rfl (by decide) (by decide) (fun hb3 => ?_) (fun hb3 => ?_)
    · rw [if_pos hb3] at h
      refine Rc.run tb_14 1 (pc' := 25) (ls' := [some (.int (a1)), some (.int (a2)), some (.int ((F_10 a1) - (F_9 a1)))]) (st' := [.int (2)]) rfl rfl ?_
      subst h
      obtain ⟨rfl, rfl⟩ := hC
      exact Rc.iret (ins := .ireturn) tb_14 rfl mR_14
    · rw [if_neg hb3] at h
      refine Rc.run tb_14 2 (pc' := 25) (ls' := [some (.int (a1)), some (.int (a2)), some (.int ((F_10 a1) - (F_9 a1)))]) (st' := [.int (1)]) rfl rfl ?_
      subst h
      obtain ⟨rfl, rfl⟩ := hC
      exact Rc.iret (ins := .ireturn) tb_14 rfl mR_14
theorem T_14 {X : AX} {d : Nat} (hd : 3 ≤ d) (a1 : Int32) (a2 : Int32) (M : IM) : Rc X d 14 0 [some (.int (a1)), some (.int (a2)), none] [] M (some (.int (F_14 a1 a2))) M := TF_14 hd rfl ⟨rfl, rfl⟩
/-! 15: NineDemands$Halls.ofAll -/
def F_15 (a1 : Int32) : Int32 := if F_9 a1 = 0 then 1 else (if F_10 a1 = 0 then 2 else 3)
theorem TF_15 {X : AX} {d : Nat} (hd : 3 ≤ d) {a1 : Int32} {M : IM} {v : Option Value} {M' : IM} {o : Int32} (h : F_15 a1 = o) (hC : v = some (.int o) ∧ M' = M) : Rc X d 15 0 [some (.int (a1))] [] M v M' := by
  obtain ⟨d, rfl⟩ : ∃ e, d = e + 1 := ⟨d - 1, by omega⟩
  unfold F_15 at h
  refine Rc.run tb_15 1 (pc' := 1) (ls' := [some (.int (a1))]) (st' := [.int (a1)]) rfl rfl ?_
  have hq1 := T_9 (X := X) (d := d) (by omega) a1 M
  refine Rc.callS tb_15 rfl rfl rfl mS_9 mP_9 mL_9 rfl rfl rfl hq1 ?_
  refine Rc.if_ne (pc1 := 9) tb_15 rfl rfl (by decide) (by decide) (fun hb4 => ?_) (fun hb4 => ?_)
  · rw [if_pos hb4] at h
    refine Rc.run tb_15 1 (pc' := 8) (ls' := [some (.int (a1))]) (st' := [.int (1)]) rfl rfl ?_
    subst h
    obtain ⟨rfl, rfl⟩ := hC
    exact Rc.iret (ins := .ireturn) tb_15 rfl mR_15
  · rw [if_neg hb4] at h
    refine Rc.run tb_15 1 (pc' := 10) (ls' := [some (.int (a1))]) (st' := [.int (a1)]) rfl rfl ?_
    have hq2 := T_10 (X := X) (d := d) (by omega) a1 M
    refine Rc.callS tb_15 rfl rfl rfl mS_10 mP_10 mL_10 rfl rfl rfl hq2 ?_
    refine Rc.if_ne (pc1 := 20) tb_15 rfl rfl (by decide) (by decide) (fun hb3 => ?_) (fun hb3 => ?_)
    · rw [if_pos hb3] at h
      refine Rc.run tb_15 2 (pc' := 21) (ls' := [some (.int (a1))]) (st' := [.int (2)]) rfl rfl ?_
      subst h
      obtain ⟨rfl, rfl⟩ := hC
      exact Rc.iret (ins := .ireturn) tb_15 rfl mR_15
    · rw [if_neg hb3] at h
      refine Rc.run tb_15 1 (pc' := 21) (ls' := [some (.int (a1))]) (st' := [.int (3)]) rfl rfl ?_
      subst h
      obtain ⟨rfl, rfl⟩ := hC
      exact Rc.iret (ins := .ireturn) tb_15 rfl mR_15
theorem T_15 {X : AX} {d : Nat} (hd : 3 ≤ d) (a1 : Int32) (M : IM) : Rc X d 15 0 [some (.int (a1))] [] M (some (.int (F_15 a1))) M := TF_15 hd rfl ⟨rfl, rfl⟩
/-! 13: NineDemands$Halls.chosenBy -/
def F_13 (a1 : Int32) (a2 : Int32) : Int32 := if a1 = 0 then 1 else (if a1 = 1 then 2 else (if a1 = 2 then 3 else (if a1 = 3 then (1 + (F_8 a2 (0 : Int32))) else (if a1 = 4 then (1 + (F_8 a2 (1 : Int32))) else (if a1 = 5 then (F_14 a2 (3 : Int32)) else (if a1 = 6 then (F_14 a2 (1 : Int32)) else (if a1 = 7 then (F_14 a2 (2 : Int32)) else (if a1 = 8 then (F_14 a2 (1 + (F_8 a2 (0 : Int32)))) else (if a1 = 9 then (F_15 a2) else (if a1 = 10 then (if F_9 a2 ≤ 0 then 1 else 2) else (if F_10 a2 ≤ 0 then 2 else 1)))))))))))
theorem TF_13 {X : AX} {d : Nat} (hd : 4 ≤ d) {a1 : Int32} {a2 : Int32} {M : IM} {v : Option Value} {M' : IM} {o : Int32} (h : F_13 a1 a2 = o) (hC : v = some (.int o) ∧ M' = M) : Rc X d 13 0 [some (.int (a1)), some (.int (a2))] [] M v M' := by
  obtain ⟨d, rfl⟩ : ∃ e, d = e + 1 := ⟨d - 1, by omega⟩
  unfold F_13 at h
  refine Rc.run tb_13 1 (pc' := 1) (ls' := [some (.int (a1)), some (.int (a2))]) (st' := [.int (a1)]) rfl rfl ?_
  by_cases hk3 : a1 = 0
  · rw [if_pos hk3] at h
    refine Rc.table (off := 59) (pc1 := 60) tb_13 rfl rfl (by decide) (tsw_at (k := 0) (by rw [hk3]; decide) (by decide +kernel)) (by decide) (by decide) ?_
    refine Rc.run tb_13 1 (pc' := 61) (ls' := [some (.int (a1)), some (.int (a2))]) (st' := [.int (1)]) rfl rfl ?_
    subst h
    obtain ⟨rfl, rfl⟩ := hC
    exact Rc.iret (ins := .ireturn) tb_13 rfl mR_13
  · rw [if_neg hk3] at h
    by_cases hk4 : a1 = 1
    · rw [if_pos hk4] at h
      refine Rc.table (off := 61) (pc1 := 62) tb_13 rfl rfl (by decide) (tsw_at (k := 1) (by rw [hk4]; decide) (by decide +kernel)) (by decide) (by decide) ?_
      refine Rc.run tb_13 1 (pc' := 63) (ls' := [some (.int (a1)), some (.int (a2))]) (st' := [.int (2)]) rfl rfl ?_
      subst h
      obtain ⟨rfl, rfl⟩ := hC
      exact Rc.iret (ins := .ireturn) tb_13 rfl mR_13
    · rw [if_neg hk4] at h
      by_cases hk5 : a1 = 2
      · rw [if_pos hk5] at h
        refine Rc.table (off := 63) (pc1 := 64) tb_13 rfl rfl (by decide) (tsw_at (k := 2) (by rw [hk5]; decide) (by decide +kernel)) (by decide) (by decide) ?_
        refine Rc.run tb_13 1 (pc' := 65) (ls' := [some (.int (a1)), some (.int (a2))]) (st' := [.int (3)]) rfl rfl ?_
        subst h
        obtain ⟨rfl, rfl⟩ := hC
        exact Rc.iret (ins := .ireturn) tb_13 rfl mR_13
      · rw [if_neg hk5] at h
        by_cases hk6 : a1 = 3
        · rw [if_pos hk6] at h
          refine Rc.table (off := 65) (pc1 := 66) tb_13 rfl rfl (by decide) (tsw_at (k := 3) (by rw [hk6]; decide) (by decide +kernel)) (by decide) (by decide) ?_
          refine Rc.run tb_13 3 (pc' := 69) (ls' := [some (.int (a1)), some (.int (a2))]) (st' := [.int (0), .int (a2), .int (1)]) rfl rfl ?_
          have hq23 := T_8 (X := X) (d := d) (by omega) a2 (0 : Int32) M
          refine Rc.callS tb_13 rfl rfl rfl mS_8 mP_8 mL_8 rfl rfl rfl hq23 ?_
          refine Rc.run tb_13 1 (pc' := 73) (ls' := [some (.int (a1)), some (.int (a2))]) (st' := [.int (1 + (F_8 a2 (0 : Int32)))]) rfl rfl ?_
          subst h
          obtain ⟨rfl, rfl⟩ := hC
          exact Rc.iret (ins := .ireturn) tb_13 rfl mR_13
        · rw [if_neg hk6] at h
          by_cases hk7 : a1 = 4
          · rw [if_pos hk7] at h
            refine Rc.table (off := 73) (pc1 := 74) tb_13 rfl rfl (by decide) (tsw_at (k := 4) (by rw [hk7]; decide) (by decide +kernel)) (by decide) (by decide) ?_
            refine Rc.run tb_13 3 (pc' := 77) (ls' := [some (.int (a1)), some (.int (a2))]) (st' := [.int (1), .int (a2), .int (1)]) rfl rfl ?_
            have hq22 := T_8 (X := X) (d := d) (by omega) a2 (1 : Int32) M
            refine Rc.callS tb_13 rfl rfl rfl mS_8 mP_8 mL_8 rfl rfl rfl hq22 ?_
            refine Rc.run tb_13 1 (pc' := 81) (ls' := [some (.int (a1)), some (.int (a2))]) (st' := [.int (1 + (F_8 a2 (1 : Int32)))]) rfl rfl ?_
            subst h
            obtain ⟨rfl, rfl⟩ := hC
            exact Rc.iret (ins := .ireturn) tb_13 rfl mR_13
          · rw [if_neg hk7] at h
            by_cases hk8 : a1 = 5
            · rw [if_pos hk8] at h
              refine Rc.table (off := 81) (pc1 := 82) tb_13 rfl rfl (by decide) (tsw_at (k := 5) (by rw [hk8]; decide) (by decide +kernel)) (by decide) (by decide) ?_
              refine Rc.run tb_13 2 (pc' := 84) (ls' := [some (.int (a1)), some (.int (a2))]) (st' := [.int (3), .int (a2)]) rfl rfl ?_
              have hq21 := T_14 (X := X) (d := d) (by omega) a2 (3 : Int32) M
              refine Rc.callS tb_13 rfl rfl rfl mS_14 mP_14 mL_14 rfl rfl rfl hq21 ?_
              subst h
              obtain ⟨rfl, rfl⟩ := hC
              exact Rc.iret (ins := .ireturn) tb_13 rfl mR_13
            · rw [if_neg hk8] at h
              by_cases hk9 : a1 = 6
              · rw [if_pos hk9] at h
                refine Rc.table (off := 87) (pc1 := 88) tb_13 rfl rfl (by decide) (tsw_at (k := 6) (by rw [hk9]; decide) (by decide +kernel)) (by decide) (by decide) ?_
                refine Rc.run tb_13 2 (pc' := 90) (ls' := [some (.int (a1)), some (.int (a2))]) (st' := [.int (1), .int (a2)]) rfl rfl ?_
                have hq20 := T_14 (X := X) (d := d) (by omega) a2 (1 : Int32) M
                refine Rc.callS tb_13 rfl rfl rfl mS_14 mP_14 mL_14 rfl rfl rfl hq20 ?_
                subst h
                obtain ⟨rfl, rfl⟩ := hC
                exact Rc.iret (ins := .ireturn) tb_13 rfl mR_13
              · rw [if_neg hk9] at h
                by_cases hk10 : a1 = 7
                · rw [if_pos hk10] at h
                  refine Rc.table (off := 93) (pc1 := 94) tb_13 rfl rfl (by decide) (tsw_at (k := 7) (by rw [hk10]; decide) (by decide +kernel)) (by decide) (by decide) ?_
                  refine Rc.run tb_13 2 (pc' := 96) (ls' := [some (.int (a1)), some (.int (a2))]) (st' := [.int (2), .int (a2)]) rfl rfl ?_
                  have hq19 := T_14 (X := X) (d := d) (by omega) a2 (2 : Int32) M
                  refine Rc.callS tb_13 rfl rfl rfl mS_14 mP_14 mL_14 rfl rfl rfl hq19 ?_
                  subst h
                  obtain ⟨rfl, rfl⟩ := hC
                  exact Rc.iret (ins := .ireturn) tb_13 rfl mR_13
                · rw [if_neg hk10] at h
                  by_cases hk11 : a1 = 8
                  · rw [if_pos hk11] at h
                    refine Rc.table (off := 99) (pc1 := 100) tb_13 rfl rfl (by decide) (tsw_at (k := 8) (by rw [hk11]; decide) (by decide +kernel)) (by decide) (by decide) ?_
                    refine Rc.run tb_13 4 (pc' := 104) (ls' := [some (.int (a1)), some (.int (a2))]) (st' := [.int (0), .int (a2), .int (1), .int (a2)]) rfl rfl ?_
                    have hq17 := T_8 (X := X) (d := d) (by omega) a2 (0 : Int32) M
                    refine Rc.callS tb_13 rfl rfl rfl mS_8 mP_8 mL_8 rfl rfl rfl hq17 ?_
                    refine Rc.run tb_13 1 (pc' := 108) (ls' := [some (.int (a1)), some (.int (a2))]) (st' := [.int (1 + (F_8 a2 (0 : Int32))), .int (a2)]) rfl rfl ?_
                    have hq18 := T_14 (X := X) (d := d) (by omega) a2 (1 + (F_8 a2 (0 : Int32))) M
                    refine Rc.callS tb_13 rfl rfl rfl mS_14 mP_14 mL_14 rfl rfl rfl hq18 ?_
                    subst h
                    obtain ⟨rfl, rfl⟩ := hC
                    exact Rc.iret (ins := .ireturn) tb_13 rfl mR_13
                  · rw [if_neg hk11] at h
                    by_cases hk12 : a1 = 9
                    · rw [if_pos hk12] at h
                      refine Rc.table (off := 111) (pc1 := 112) tb_13 rfl rfl (by decide) (tsw_at (k := 9) (by rw [hk12]; decide) (by decide +kernel)) (by decide) (by decide) ?_
                      refine Rc.run tb_13 1 (pc' := 113) (ls' := [some (.int (a1)), some (.int (a2))]) (st' := [.int (a2)]) rfl rfl ?_
                      have hq16 := T_15 (X := X) (d := d) (by omega) a2 M
                      refine Rc.callS tb_13 rfl rfl rfl mS_15 mP_15 mL_15 rfl rfl rfl hq16 ?_
                      subst h
                      obtain ⟨rfl, rfl⟩ := hC
                      exact Rc.iret (ins := .ireturn) tb_13 rfl mR_13
                    · rw [if_neg hk12] at h
                      by_cases hk13 : a1 = 10
                      · rw [if_pos hk13] at h
                        refine Rc.table (off := 116) (pc1 := 117) tb_13 rfl rfl (by decide) (tsw_at (k := 10) (by rw [hk13]; decide) (by decide +kernel)) (by decide) (by decide) ?_
                        refine Rc.run tb_13 1 (pc' := 118) (ls' := [some (.int (a1)), some (.int (a2))]) (st' := [.int (a2)]) rfl rfl ?_
                        have hq14 := T_9 (X := X) (d := d) (by omega) a2 M
                        refine Rc.callS tb_13 rfl rfl rfl mS_9 mP_9 mL_9 rfl rfl rfl hq14 ?_
                        refine Rc.if_le (pc1 := 128) tb_13 rfl rfl (by decide) (by decide) (fun hb15 => ?_) (fun hb15 => ?_)
                        · rw [if_pos hb15] at h
                          refine Rc.run tb_13 1 (pc' := 129) (ls' := [some (.int (a1)), some (.int (a2))]) (st' := [.int (1)]) rfl rfl ?_
                          subst h
                          obtain ⟨rfl, rfl⟩ := hC
                          exact Rc.iret (ins := .ireturn) tb_13 rfl mR_13
                        · rw [if_neg hb15] at h
                          refine Rc.run tb_13 2 (pc' := 129) (ls' := [some (.int (a1)), some (.int (a2))]) (st' := [.int (2)]) rfl rfl ?_
                          subst h
                          obtain ⟨rfl, rfl⟩ := hC
                          exact Rc.iret (ins := .ireturn) tb_13 rfl mR_13
                      · rw [if_neg hk13] at h
                        refine Rc.table (off := 129) (pc1 := 130) tb_13 rfl rfl (by decide) (tsw_df [0, 1, 2, 3, 4, 5, 6, 7, 8, 9, 10] (by decide +kernel) (fun k hk => by simp only [List.mem_cons, List.not_mem_nil, or_false] at hk; rcases hk with rfl | rfl | rfl | rfl | rfl | rfl | rfl | rfl | rfl | rfl | rfl <;> assumption)) (by decide) (by decide) ?_
                        refine Rc.run tb_13 1 (pc' := 131) (ls' := [some (.int (a1)), some (.int (a2))]) (st' := [.int (a2)]) rfl rfl ?_
                        have hq1 := T_10 (X := X) (d := d) (by omega) a2 M
                        refine Rc.callS tb_13 rfl rfl rfl mS_10 mP_10 mL_10 rfl rfl rfl hq1 ?_
                        refine Rc.if_le (pc1 := 141) tb_13 rfl rfl (by decide) (by decide) (fun hb2 => ?_) (fun hb2 => ?_)
                        · rw [if_pos hb2] at h
                          refine Rc.run tb_13 1 (pc' := 142) (ls' := [some (.int (a1)), some (.int (a2))]) (st' := [.int (2)]) rfl rfl ?_
                          subst h
                          obtain ⟨rfl, rfl⟩ := hC
                          exact Rc.iret (ins := .ireturn) tb_13 rfl mR_13
                        · rw [if_neg hb2] at h
                          refine Rc.run tb_13 2 (pc' := 142) (ls' := [some (.int (a1)), some (.int (a2))]) (st' := [.int (1)]) rfl rfl ?_
                          subst h
                          obtain ⟨rfl, rfl⟩ := hC
                          exact Rc.iret (ins := .ireturn) tb_13 rfl mR_13
theorem T_13 {X : AX} {d : Nat} (hd : 4 ≤ d) (a1 : Int32) (a2 : Int32) (M : IM) : Rc X d 13 0 [some (.int (a1)), some (.int (a2))] [] M (some (.int (F_13 a1 a2))) M := TF_13 hd rfl ⟨rfl, rfl⟩
/-! 17: NineDemands$Law.becomeLike -/
def F_17 (t0 : Nat) (t1 : Nat) (M : IM) : IM := icpy (iset (iset M t0 0 (M t1 0)) t0 1 ((iset M t0 0 (M t1 0)) t1 1)) (t1 + 1) (0 : Int32).toNatClampNeg (t0 + 1) (0 : Int32).toNatClampNeg (32 : Int32).toNatClampNeg
theorem TF_17 {X : AX} {d : Nat} (hd : 1 ≤ d) {t0 : Nat} {t1 : Nat} {M : IM} (ht0 : LawH t0) (ht1 : LawH t1) {v : Option Value} {M' : IM} {o : IM} (h : F_17 t0 t1 M = o) (hC : v = none ∧ M' = o) : Rc X d 17 0 [some (.ref (t0)), some (.ref (t1))] [] M v M' := by
  obtain ⟨d, rfl⟩ : ∃ e, d = e + 1 := ⟨d - 1, by omega⟩
  unfold F_17 at h
  refine Rc.run tb_17 2 (pc' := 2) (ls' := [some (.ref (t0)), some (.ref (t1))]) (st' := [.ref (t1), .ref (t0)]) rfl rfl ?_
  refine Rc.getI tb_17 rfl rfl (LawH.ob ht1) (by decide +kernel) (LawH.f0 ht1) ?_
  refine Rc.putI tb_17 rfl rfl (LawH.ob ht0) (by decide +kernel) (LawH.f0 ht0) rfl ?_
  refine Rc.run tb_17 2 (pc' := 10) (ls' := [some (.ref (t0)), some (.ref (t1))]) (st' := [.ref (t1), .ref (t0)]) rfl rfl ?_
  refine Rc.getI tb_17 rfl rfl (LawH.ob ht1) (by decide +kernel) (LawH.f1 ht1) ?_
  refine Rc.putI tb_17 rfl rfl (LawH.ob ht0) (by decide +kernel) (LawH.f1 ht0) rfl ?_
  refine Rc.run tb_17 1 (pc' := 17) (ls' := [some (.ref (t0)), some (.ref (t1))]) (st' := [.ref (t1)]) rfl rfl ?_
  refine Rc.getR tb_17 rfl rfl (LawH.ob ht1) (by decide +kernel) (LawH.f2 ht1) (by have := LawH.lt ht1; omega) ?_
  refine Rc.run tb_17 2 (pc' := 22) (ls' := [some (.ref (t0)), some (.ref (t1))]) (st' := [.ref (t0), .int (0), .ref ((t1 + 1))]) rfl rfl ?_
  refine Rc.getR tb_17 rfl rfl (LawH.ob ht0) (by decide +kernel) (LawH.f2 ht0) (by have := LawH.lt ht0; omega) ?_
  refine Rc.run tb_17 2 (pc' := 28) (ls' := [some (.ref (t0)), some (.ref (t1))]) (st' := [.int (32), .int (0), .ref ((t0 + 1)), .int (0), .ref ((t1 + 1))]) rfl rfl ?_
  refine Rc.copy tb_17 rfl rfl rfl (LawH.row ht1) (LawH.row ht0) (by decide) ?_
  subst h
  obtain ⟨rfl, rfl⟩ := hC
  exact Rc.vret tb_17 rfl mR_17
theorem T_17 {X : AX} {d : Nat} (hd : 1 ≤ d) {t0 : Nat} {t1 : Nat} (ht0 : LawH t0) (ht1 : LawH t1) (M : IM) : Rc X d 17 0 [some (.ref (t0)), some (.ref (t1))] [] M none (F_17 t0 t1 M) := TF_17 hd ht0 ht1 rfl ⟨rfl, rfl⟩
/-! 18: NineDemands$Law.goesWith -/
def F_18 (t0 : Nat) (a1 : Int32) (a2 : Int32) (M : IM) : Option (Int32) := if inb a1 32 = true then (some (((M (t0 + 1) a1.toNatClampNeg) >>> ((3 * (a2 - 1)) &&& 31)) &&& 7)) else none
theorem TF_18 {X : AX} {d : Nat} (hd : 0 ≤ d) {t0 : Nat} {a1 : Int32} {a2 : Int32} {M : IM} (ht0 : LawH t0) {v : Option Value} {M' : IM} {o : Int32} (h : F_18 t0 a1 a2 M = some o) (hC : v = some (.int o) ∧ M' = M) : Rc X d 18 0 [some (.ref (t0)), some (.int (a1)), some (.int (a2))] [] M v M' := by
  unfold F_18 at h
  refine Rc.run tb_18 1 (pc' := 1) (ls' := [some (.ref (t0)), some (.int (a1)), some (.int (a2))]) (st' := [.ref (t0)]) rfl rfl ?_
  refine Rc.getR tb_18 rfl rfl (LawH.ob ht0) (by decide +kernel) (LawH.f2 ht0) (by have := LawH.lt ht0; omega) ?_
  refine Rc.run tb_18 1 (pc' := 5) (ls' := [some (.ref (t0)), some (.int (a1)), some (.int (a2))]) (st' := [.int (a1), .ref ((t0 + 1))]) rfl rfl ?_
  by_cases hb1 : inb a1 32 = true
  · rw [if_pos hb1] at h
    refine Rc.iald tb_18 rfl rfl (LawH.row ht0) hb1 ?_
    refine Rc.run tb_18 8 (pc' := 15) (ls' := [some (.ref (t0)), some (.int (a1)), some (.int (a2))]) (st' := [.int (((M (t0 + 1) a1.toNatClampNeg) >>> ((3 * (a2 - 1)) &&& 31)) &&& 7)]) rfl rfl ?_
    obtain rfl := Option.some.inj h
    obtain ⟨rfl, rfl⟩ := hC
    exact Rc.iret (ins := .ireturn) tb_18 rfl mR_18
  · rw [if_neg hb1] at h
    cases h
theorem T_18 {X : AX} {d : Nat} (hd : 0 ≤ d) {t0 : Nat} {a1 : Int32} {a2 : Int32} {M : IM} (ht0 : LawH t0) {x : Int32} (h : F_18 t0 a1 a2 M = some x) : Rc X d 18 0 [some (.ref (t0)), some (.int (a1)), some (.int (a2))] [] M (some (.int x)) M := TF_18 hd ht0 h ⟨rfl, rfl⟩
/-! 19: NineDemands$Law.comesWith -/
def F_19 (t0 : Nat) (a1 : Int32) (a2 : Int32) (M : IM) : Option (Int32) := if inb a1 32 = true then (some (((((M (t0 + 1) a1.toNatClampNeg) >>> ((a2 - 1) &&& 31)) &&& 1) ||| ((((M (t0 + 1) a1.toNatClampNeg) >>> ((a2 - 1) &&& 31)) >>> ((2 : Int32) &&& 31)) &&& 2)) ||| ((((M (t0 + 1) a1.toNatClampNeg) >>> ((a2 - 1) &&& 31)) >>> ((4 : Int32) &&& 31)) &&& 4))) else none
theorem TF_19 {X : AX} {d : Nat} (hd : 0 ≤ d) {t0 : Nat} {a1 : Int32} {a2 : Int32} {M : IM} (ht0 : LawH t0) {v : Option Value} {M' : IM} {o : Int32} (h : F_19 t0 a1 a2 M = some o) (hC : v = some (.int o) ∧ M' = M) : Rc X d 19 0 [some (.ref (t0)), some (.int (a1)), some (.int (a2)), none] [] M v M' := by
  unfold F_19 at h
  refine Rc.run tb_19 1 (pc' := 1) (ls' := [some (.ref (t0)), some (.int (a1)), some (.int (a2)), none]) (st' := [.ref (t0)]) rfl rfl ?_
  refine Rc.getR tb_19 rfl rfl (LawH.ob ht0) (by decide +kernel) (LawH.f2 ht0) (by have := LawH.lt ht0; omega) ?_
  refine Rc.run tb_19 1 (pc' := 5) (ls' := [some (.ref (t0)), some (.int (a1)), some (.int (a2)), none]) (st' := [.int (a1), .ref ((t0 + 1))]) rfl rfl ?_
  by_cases hb1 : inb a1 32 = true
  · rw [if_pos hb1] at h
    refine Rc.iald tb_19 rfl rfl (LawH.row ht0) hb1 ?_
    refine Rc.run tb_19 20 (pc' := 26) (ls' := [some (.ref (t0)), some (.int (a1)), some (.int (a2)), some (.int ((M (t0 + 1) a1.toNatClampNeg) >>> ((a2 - 1) &&& 31)))]) (st' := [.int (((((M (t0 + 1) a1.toNatClampNeg) >>> ((a2 - 1) &&& 31)) &&& 1) ||| ((((M (t0 + 1) a1.toNatClampNeg) >>> ((a2 - 1) &&& 31)) >>> ((2 : Int32) &&& 31)) &&& 2)) ||| ((((M (t0 + 1) a1.toNatClampNeg) >>> ((a2 - 1) &&& 31)) >>> ((4 : Int32) &&& 31)) &&& 4))]) rfl rfl ?_
    obtain rfl := Option.some.inj h
    obtain ⟨rfl, rfl⟩ := hC
    exact Rc.iret (ins := .ireturn) tb_19 rfl mR_19
  · rw [if_neg hb1] at h
    cases h
theorem T_19 {X : AX} {d : Nat} (hd : 0 ≤ d) {t0 : Nat} {a1 : Int32} {a2 : Int32} {M : IM} (ht0 : LawH t0) {x : Int32} (h : F_19 t0 a1 a2 M = some x) : Rc X d 19 0 [some (.ref (t0)), some (.int (a1)), some (.int (a2)), none] [] M (some (.int x)) M := TF_19 hd ht0 h ⟨rfl, rfl⟩
/-! 143: NineDemands.holds -/
def F_143 (a1 : Int32) (a2 : Int32) : Int32 := if (a1 >>> ((a2 - 1) &&& 31)) &&& 1 = 0 then 0 else 1
theorem TF_143 {X : AX} {d : Nat} (hd : 0 ≤ d) {a1 : Int32} {a2 : Int32} {M : IM} {v : Option Value} {M' : IM} {o : Int32} (h : F_143 a1 a2 = o) (hC : v = some (.int o) ∧ M' = M) : Rc X d 143 0 [some (.int (a1)), some (.int (a2))] [] M v M' := by
  unfold F_143 at h
  refine Rc.run tb_143 7 (pc' := 7) (ls' := [some (.int (a1)), some (.int (a2))]) (st' := [.int ((a1 >>> ((a2 - 1) &&& 31)) &&& 1)]) rfl rfl ?_
  refine Rc.if_eq (pc1 := 14) tb_143 rfl rfl (by decide) (by decide) (fun hb1 => ?_) (fun hb1 => ?_)
  · rw [if_pos hb1] at h
    refine Rc.run tb_143 1 (pc' := 15) (ls' := [some (.int (a1)), some (.int (a2))]) (st' := [.int (0)]) rfl rfl ?_
    subst h
    obtain ⟨rfl, rfl⟩ := hC
    exact Rc.zret tb_143 rfl mR_143 (Or.inl rfl)
  · rw [if_neg hb1] at h
    refine Rc.run tb_143 2 (pc' := 15) (ls' := [some (.int (a1)), some (.int (a2))]) (st' := [.int (1)]) rfl rfl ?_
    subst h
    obtain ⟨rfl, rfl⟩ := hC
    exact Rc.zret tb_143 rfl mR_143 (Or.inr rfl)
theorem T_143 {X : AX} {d : Nat} (hd : 0 ≤ d) (a1 : Int32) (a2 : Int32) (M : IM) : Rc X d 143 0 [some (.int (a1)), some (.int (a2))] [] M (some (.int (F_143 a1 a2))) M := TF_143 hd rfl ⟨rfl, rfl⟩
/-! 20: NineDemands$Law.firstBreach -/
def B_20_2 (t0 : Nat) (t1 : Nat) (M : IM) : (Int32) → Option ((Int32) ⊕ ((Int32) ⊕ (Int32))) := fun x2 => (match F_0 (M t0 0) with | none => none | some c1 => (if c1 ≤ x2 then (some (Sum.inr (Sum.inl x2))) else (match F_2 (M t0 0) x2 with | none => none | some c2 => (if inb c2 (ln t1) = true then (match F_3 (M t0 0) x2 with | none => none | some c3 => (if inb c3 (ln t1) = true then (match F_18 t0 x2 (M t1 c2.toNatClampNeg) M with | none => none | some c4 => (if F_143 c4 (M t1 c3.toNatClampNeg) = 0 then (some (Sum.inr (Sum.inr x2))) else (some (Sum.inl (x2 + 1))))) else none)) else none))))
def L_20_2 (t0 : Nat) (t1 : Nat) (M : IM) (x2 : Int32) : Option ((Int32) ⊕ (Int32)) := loopN (B_20_2 t0 t1 M) FU x2
def F_20 (t0 : Nat) (r1 : Nat) (M : IM) : Option (Int32) := (match L_20_2 t0 r1 M 0 with | none => none | some (.inl x2_10) => (some ((-1))) | some (.inr q) => some (q))
theorem TB_20_2 {X : AX} {d : Nat} (hd : 3 ≤ d) {t0 : Nat} {t1 : Nat} {M : IM} (ht0 : LawH t0) (ht1 : IA t1) {v : Option Value} {M' : IM} : ∀ (s : Int32) (o : (Int32) ⊕ ((Int32) ⊕ (Int32))), B_20_2 t0 t1 M s = some o → (∀ s', o = .inl s' → (fun x2 => Rc X d 20 2 [some (.ref (t0)), some (.ref (t1)), some (.int (x2)), none, none] [] M v M') s') → (∀ r, o = .inr r → (fun r => match r with | .inl x2 => Rc X d 20 58 [none, none, none, none, none] [] M v M' | .inr q => v = some (.int q) ∧ M' = M) r) → (fun x2 => Rc X d 20 2 [some (.ref (t0)), some (.ref (t1)), some (.int (x2)), none, none] [] M v M') s := by
  intro x2 o h hP hE
  show Rc X d 20 2 [some (.ref (t0)), some (.ref (t1)), some (.int (x2)), none, none] [] M v M'
  obtain ⟨d, rfl⟩ : ∃ e, d = e + 1 := ⟨d - 1, by omega⟩
  unfold B_20_2 at h
  dsimp only at h hP hE
  refine Rc.run tb_20 2 (pc' := 4) (ls' := [some (.ref (t0)), some (.ref (t1)), some (.int (x2)), none, none]) (st' := [.ref (t0), .int (x2)]) rfl rfl ?_
  refine Rc.getI tb_20 rfl rfl (LawH.ob ht0) (by decide +kernel) (LawH.f0 ht0) ?_
  cases hc1 : F_0 (M t0 0) with
  | none => rw [hc1] at h; cases h
  | some c1 =>
    rw [hc1] at h
    dsimp only at h
    have hq1 := T_0 (X := X) (d := d) (by omega) (M := M) hc1
    refine Rc.callS tb_20 rfl rfl rfl mS_0 mP_0 mL_0 rfl rfl rfl hq1 ?_
    refine Rc.icmp_ge (pc1 := 58) tb_20 rfl rfl (by decide) (by decide) (fun hb9 => ?_) (fun hb9 => ?_)
    · rw [if_pos hb9] at h
      refine Rc.mask (b := 0) ((tb_20.2 58).trans rfl) (ls' := [none, none, none, none, none]) rfl ?_
      obtain rfl := Option.some.inj h
      exact hE _ rfl
    · rw [if_neg hb9] at h
      refine Rc.run tb_20 2 (pc' := 15) (ls' := [some (.ref (t0)), some (.ref (t1)), some (.int (x2)), none, none]) (st' := [.ref (t0), .ref (t1)]) rfl rfl ?_
      refine Rc.getI tb_20 rfl rfl (LawH.ob ht0) (by decide +kernel) (LawH.f0 ht0) ?_
      refine Rc.run tb_20 1 (pc' := 19) (ls' := [some (.ref (t0)), some (.ref (t1)), some (.int (x2)), none, none]) (st' := [.int (x2), .int (M t0 0), .ref (t1)]) rfl rfl ?_
      cases hc2 : F_2 (M t0 0) x2 with
      | none => rw [hc2] at h; cases h
      | some c2 =>
        rw [hc2] at h
        dsimp only at h
        have hq2 := T_2 (X := X) (d := d) (by omega) (M := M) hc2
        refine Rc.callS tb_20 rfl rfl rfl mS_2 mP_2 mL_2 rfl rfl rfl hq2 ?_
        by_cases hb8 : inb c2 (ln t1) = true
        · rw [if_pos hb8] at h
          refine Rc.iald tb_20 rfl rfl (IA.n ht1) hb8 ?_
          refine Rc.run tb_20 3 (pc' := 26) (ls' := [some (.ref (t0)), some (.ref (t1)), some (.int (x2)), some (.int (M t1 c2.toNatClampNeg)), none]) (st' := [.ref (t0), .ref (t1)]) rfl rfl ?_
          refine Rc.getI tb_20 rfl rfl (LawH.ob ht0) (by decide +kernel) (LawH.f0 ht0) ?_
          refine Rc.run tb_20 1 (pc' := 30) (ls' := [some (.ref (t0)), some (.ref (t1)), some (.int (x2)), some (.int (M t1 c2.toNatClampNeg)), none]) (st' := [.int (x2), .int (M t0 0), .ref (t1)]) rfl rfl ?_
          cases hc3 : F_3 (M t0 0) x2 with
          | none => rw [hc3] at h; cases h
          | some c3 =>
            rw [hc3] at h
            dsimp only at h
            have hq3 := T_3 (X := X) (d := d) (by omega) (M := M) hc3
            refine Rc.callS tb_20 rfl rfl rfl mS_3 mP_3 mL_3 rfl rfl rfl hq3 ?_
            by_cases hb7 : inb c3 (ln t1) = true
            · rw [if_pos hb7] at h
              refine Rc.iald tb_20 rfl rfl (IA.n ht1) hb7 ?_
              refine Rc.run tb_20 4 (pc' := 39) (ls' := [some (.ref (t0)), some (.ref (t1)), some (.int (x2)), some (.int (M t1 c2.toNatClampNeg)), some (.int (M t1 c3.toNatClampNeg))]) (st' := [.int (M t1 c2.toNatClampNeg), .int (x2), .ref (t0)]) rfl rfl ?_
              cases hc4 : F_18 t0 x2 (M t1 c2.toNatClampNeg) M with
              | none => rw [hc4] at h; cases h
              | some c4 =>
                rw [hc4] at h
                dsimp only at h
                have hq4 := T_18 (X := X) (d := d) (by omega) (M := M) ht0 hc4
                refine Rc.callV tb_20 rfl rfl rfl mS_18 mP_18 mL_18 mO_18 rfl rfl (LawH.ob ht0) rfl rfl hq4 ?_
                refine Rc.run tb_20 1 (pc' := 44) (ls' := [some (.ref (t0)), some (.ref (t1)), some (.int (x2)), some (.int (M t1 c2.toNatClampNeg)), some (.int (M t1 c3.toNatClampNeg))]) (st' := [.int (M t1 c3.toNatClampNeg), .int (c4)]) rfl rfl ?_
                have hq5 := T_143 (X := X) (d := d) (by omega) c4 (M t1 c3.toNatClampNeg) M
                have hz5 := Rc.bool mR_143 hq5
                refine Rc.callS tb_20 rfl rfl rfl mS_143 mP_143 mL_143 rfl rfl rfl hq5 ?_
                refine Rc.if_ne (pc1 := 52) tb_20 rfl rfl (by decide) (by decide) (fun hb6 => ?_) (fun hb6 => ?_)
                · rw [if_pos hb6] at h
                  refine Rc.run tb_20 1 (pc' := 51) (ls' := [some (.ref (t0)), some (.ref (t1)), some (.int (x2)), some (.int (M t1 c2.toNatClampNeg)), some (.int (M t1 c3.toNatClampNeg))]) (st' := [.int (x2)]) rfl rfl ?_
                  obtain rfl := Option.some.inj h
                  obtain ⟨rfl, rfl⟩ := hE _ rfl
                  exact Rc.iret (ins := .ireturn) tb_20 rfl mR_20
                · rw [if_neg hb6] at h
                  refine Rc.run tb_20 2 (pc' := 2) (ls' := [some (.ref (t0)), some (.ref (t1)), some (.int (x2 + 1)), some (.int (M t1 c2.toNatClampNeg)), some (.int (M t1 c3.toNatClampNeg))]) (st' := []) rfl rfl ?_
                  refine Rc.mask (b := 7) ((tb_20.2 2).trans rfl) (ls' := [some (.ref (t0)), some (.ref (t1)), some (.int (x2 + 1)), none, none]) rfl ?_
                  obtain rfl := Option.some.inj h
                  exact hP _ rfl
            · rw [if_neg hb7] at h
              cases h
        · rw [if_neg hb8] at h
          cases h
theorem TL_20_2 {X : AX} {d : Nat} (hd : 3 ≤ d) {t0 : Nat} {t1 : Nat} {M : IM} {x2 : Int32} (ht0 : LawH t0) (ht1 : IA t1) {v : Option Value} {M' : IM} {r : (Int32) ⊕ (Int32)} (h : L_20_2 t0 t1 M x2 = some r) (hE : (fun r => match r with | .inl x2 => Rc X d 20 58 [none, none, none, none, none] [] M v M' | .inr q => v = some (.int q) ∧ M' = M) r) : Rc X d 20 2 [some (.ref (t0)), some (.ref (t1)), some (.int (x2)), none, none] [] M v M' := by
  exact loopN_rc (P := fun x2 => Rc X d 20 2 [some (.ref (t0)), some (.ref (t1)), some (.int (x2)), none, none] [] M v M') (E := fun r => match r with | .inl x2 => Rc X d 20 58 [none, none, none, none, none] [] M v M' | .inr q => v = some (.int q) ∧ M' = M) (TB_20_2 (X := X) hd ht0 ht1) FU _ r h hE
theorem TF_20 {X : AX} {d : Nat} (hd : 3 ≤ d) {t0 : Nat} {r1 : Nat} {M : IM} (ht0 : LawH t0) (hr1 : IA r1) {v : Option Value} {M' : IM} {o : Int32} (h : F_20 t0 r1 M = some o) (hC : v = some (.int o) ∧ M' = M) : Rc X d 20 0 [some (.ref (t0)), some (.ref (r1)), none, none, none] [] M v M' := by
  obtain ⟨d, rfl⟩ : ∃ e, d = e + 1 := ⟨d - 1, by omega⟩
  unfold F_20 at h
  refine Rc.run tb_20 2 (pc' := 2) (ls' := [some (.ref (t0)), some (.ref (r1)), some (.int (0)), none, none]) (st' := []) rfl rfl ?_
  refine Rc.mask (b := 7) ((tb_20.2 2).trans rfl) (ls' := [some (.ref (t0)), some (.ref (r1)), some (.int (0)), none, none]) rfl ?_
  cases hl10 : L_20_2 t0 r1 M 0 with
  | none => rw [hl10] at h; cases h
  | some rr10 =>
    rw [hl10] at h
    cases rr10 with
    | inl x2_10 =>
      dsimp only at h
      refine TL_20_2 (X := X) (d := d + 1) (by omega) ht0 ((IA.n hr1)).1 hl10 ?_
      refine Rc.run tb_20 1 (pc' := 59) (ls' := [none, none, none, none, none]) (st' := [.int ((-1))]) rfl rfl ?_
      obtain rfl := Option.some.inj h
      obtain ⟨rfl, rfl⟩ := hC
      exact Rc.iret (ins := .ireturn) tb_20 rfl mR_20
    | inr q =>
      dsimp only at h
      refine TL_20_2 (X := X) (d := d + 1) (by omega) ht0 ((IA.n hr1)).1 hl10 ?_
      obtain rfl := Option.some.inj h
      obtain ⟨rfl, rfl⟩ := hC
      exact ⟨rfl, rfl⟩
theorem T_20 {X : AX} {d : Nat} (hd : 3 ≤ d) {t0 : Nat} {r1 : Nat} {M : IM} (ht0 : LawH t0) (hr1 : IA r1) {x : Int32} (h : F_20 t0 r1 M = some x) : Rc X d 20 0 [some (.ref (t0)), some (.ref (r1)), none, none, none] [] M (some (.int x)) M := TF_20 hd ht0 hr1 h ⟨rfl, rfl⟩
/-! 24: NineDemands$Seeker.addPair -/
def B_24_3 (t1 : Nat) (x2 : Int32) (x3 : Int32) (x4 : Int32) : (Int32 × IM) → Option ((Int32 × IM) ⊕ (Int32 × IM)) := fun (x5, M) => if (3 : Int32) < x5 then (some (Sum.inr (x5, M))) else (if inb ((((x3 * 12) + x4) * 4) + x5) 576 = true then (match F_18 t1 x2 x5 M with | none => none | some c1 => (if inb ((((x3 * 12) + x4) * 4) + x5) 576 = true then (if inb ((((x4 * 12) + x3) * 4) + x5) 576 = true then (match F_19 t1 x2 x5 (iset M 52 ((((x3 * 12) + x4) * 4) + x5).toNatClampNeg ((M 52 ((((x3 * 12) + x4) * 4) + x5).toNatClampNeg) &&& c1)) with | none => none | some c2 => (if inb ((((x4 * 12) + x3) * 4) + x5) 576 = true then (some (Sum.inl (x5 + 1, iset (iset M 52 ((((x3 * 12) + x4) * 4) + x5).toNatClampNeg ((M 52 ((((x3 * 12) + x4) * 4) + x5).toNatClampNeg) &&& c1)) 52 ((((x4 * 12) + x3) * 4) + x5).toNatClampNeg (((iset M 52 ((((x3 * 12) + x4) * 4) + x5).toNatClampNeg ((M 52 ((((x3 * 12) + x4) * 4) + x5).toNatClampNeg) &&& c1)) 52 ((((x4 * 12) + x3) * 4) + x5).toNatClampNeg) &&& c2)))) else none)) else none) else none)) else none)
def L_24_3 (t1 : Nat) (x2 : Int32) (x3 : Int32) (x4 : Int32) (x5 : Int32) (M : IM) : Option (Int32 × IM) := loopN (B_24_3 t1 x2 x3 x4) FU (x5, M)
def F_24 (t1 : Nat) (a2 : Int32) (a3 : Int32) (a4 : Int32) (M : IM) : Option (IM) := (match L_24_3 t1 a2 a3 a4 1 M with | none => none | some (x5_8, M8) => (some (M8)))
theorem TB_24_3 {X : AX} {d : Nat} (hd : 1 ≤ d) {t1 : Nat} {x2 : Int32} {x3 : Int32} {x4 : Int32} (ht1 : LawH t1) {v : Option Value} {M' : IM} : ∀ (s : Int32 × IM) (o : (Int32 × IM) ⊕ (Int32 × IM)), B_24_3 t1 x2 x3 x4 s = some o → (∀ s', o = .inl s' → (fun (x5, M) => Rc X d 24 3 [some (.ref (51)), some (.ref (t1)), some (.int (x2)), some (.int (x3)), some (.int (x4)), some (.int (x5))] [] M v M') s') → (∀ r, o = .inr r → (fun (x5, M) => Rc X d 24 69 [none, none, none, none, none, none] [] M v M') r) → (fun (x5, M) => Rc X d 24 3 [some (.ref (51)), some (.ref (t1)), some (.int (x2)), some (.int (x3)), some (.int (x4)), some (.int (x5))] [] M v M') s := by
  rintro ⟨x5, M⟩ o h hP hE
  show Rc X d 24 3 [some (.ref (51)), some (.ref (t1)), some (.int (x2)), some (.int (x3)), some (.int (x4)), some (.int (x5))] [] M v M'
  obtain ⟨d, rfl⟩ : ∃ e, d = e + 1 := ⟨d - 1, by omega⟩
  unfold B_24_3 at h
  dsimp only at h hP hE
  refine Rc.run tb_24 2 (pc' := 6) (ls' := [some (.ref (51)), some (.ref (t1)), some (.int (x2)), some (.int (x3)), some (.int (x4)), some (.int (x5))]) (st' := [.int (3), .int (x5)]) rfl rfl ?_
  refine Rc.icmp_gt (pc1 := 69) tb_24 rfl rfl (by decide) (by decide) (fun hb7 => ?_) (fun hb7 => ?_)
  · rw [if_pos hb7] at h
    refine Rc.mask (b := 0) ((tb_24.2 69).trans rfl) (ls' := [none, none, none, none, none, none]) rfl ?_
    obtain rfl := Option.some.inj h
    exact hE _ rfl
  · rw [if_neg hb7] at h
    refine Rc.run tb_24 1 (pc' := 10) (ls' := [some (.ref (51)), some (.ref (t1)), some (.int (x2)), some (.int (x3)), some (.int (x4)), some (.int (x5))]) (st' := [.ref (51)]) rfl rfl ?_
    refine Rc.getR tb_24 rfl rfl ob_51 (by decide +kernel) tg_51_0 (by decide) ?_
    refine Rc.run tb_24 10 (pc' := 26) (ls' := [some (.ref (51)), some (.ref (t1)), some (.int (x2)), some (.int (x3)), some (.int (x4)), some (.int (x5))]) (st' := [.int ((((x3 * 12) + x4) * 4) + x5), .ref (52), .int ((((x3 * 12) + x4) * 4) + x5), .ref (52)]) rfl rfl ?_
    by_cases hb6 : inb ((((x3 * 12) + x4) * 4) + x5) 576 = true
    · rw [if_pos hb6] at h
      refine Rc.iald tb_24 rfl rfl ia_52 hb6 ?_
      refine Rc.run tb_24 3 (pc' := 31) (ls' := [some (.ref (51)), some (.ref (t1)), some (.int (x2)), some (.int (x3)), some (.int (x4)), some (.int (x5))]) (st' := [.int (x5), .int (x2), .ref (t1), .int (M 52 ((((x3 * 12) + x4) * 4) + x5).toNatClampNeg), .int ((((x3 * 12) + x4) * 4) + x5), .ref (52)]) rfl rfl ?_
      cases hc1 : F_18 t1 x2 x5 M with
      | none => rw [hc1] at h; cases h
      | some c1 =>
        rw [hc1] at h
        dsimp only at h
        have hq1 := T_18 (X := X) (d := d) (by omega) (M := M) ht1 hc1
        refine Rc.callV tb_24 rfl rfl rfl mS_18 mP_18 mL_18 mO_18 rfl rfl (LawH.ob ht1) rfl rfl hq1 ?_
        refine Rc.run tb_24 1 (pc' := 35) (ls' := [some (.ref (51)), some (.ref (t1)), some (.int (x2)), some (.int (x3)), some (.int (x4)), some (.int (x5))]) (st' := [.int ((M 52 ((((x3 * 12) + x4) * 4) + x5).toNatClampNeg) &&& c1), .int ((((x3 * 12) + x4) * 4) + x5), .ref (52)]) rfl rfl ?_
        by_cases hb5 : inb ((((x3 * 12) + x4) * 4) + x5) 576 = true
        · rw [if_pos hb5] at h
          refine Rc.iast tb_24 rfl rfl ia_52 hb5 ?_
          refine Rc.run tb_24 1 (pc' := 37) (ls' := [some (.ref (51)), some (.ref (t1)), some (.int (x2)), some (.int (x3)), some (.int (x4)), some (.int (x5))]) (st' := [.ref (51)]) rfl rfl ?_
          refine Rc.getR tb_24 rfl rfl ob_51 (by decide +kernel) tg_51_0 (by decide) ?_
          refine Rc.run tb_24 10 (pc' := 53) (ls' := [some (.ref (51)), some (.ref (t1)), some (.int (x2)), some (.int (x3)), some (.int (x4)), some (.int (x5))]) (st' := [.int ((((x4 * 12) + x3) * 4) + x5), .ref (52), .int ((((x4 * 12) + x3) * 4) + x5), .ref (52)]) rfl rfl ?_
          by_cases hb4 : inb ((((x4 * 12) + x3) * 4) + x5) 576 = true
          · rw [if_pos hb4] at h
            refine Rc.iald tb_24 rfl rfl ia_52 hb4 ?_
            refine Rc.run tb_24 3 (pc' := 58) (ls' := [some (.ref (51)), some (.ref (t1)), some (.int (x2)), some (.int (x3)), some (.int (x4)), some (.int (x5))]) (st' := [.int (x5), .int (x2), .ref (t1), .int ((iset M 52 ((((x3 * 12) + x4) * 4) + x5).toNatClampNeg ((M 52 ((((x3 * 12) + x4) * 4) + x5).toNatClampNeg) &&& c1)) 52 ((((x4 * 12) + x3) * 4) + x5).toNatClampNeg), .int ((((x4 * 12) + x3) * 4) + x5), .ref (52)]) rfl rfl ?_
            cases hc2 : F_19 t1 x2 x5 (iset M 52 ((((x3 * 12) + x4) * 4) + x5).toNatClampNeg ((M 52 ((((x3 * 12) + x4) * 4) + x5).toNatClampNeg) &&& c1)) with
            | none => rw [hc2] at h; cases h
            | some c2 =>
              rw [hc2] at h
              dsimp only at h
              have hq2 := T_19 (X := X) (d := d) (by omega) (M := iset M 52 ((((x3 * 12) + x4) * 4) + x5).toNatClampNeg ((M 52 ((((x3 * 12) + x4) * 4) + x5).toNatClampNeg) &&& c1)) ht1 hc2
              refine Rc.callV tb_24 rfl rfl rfl mS_19 mP_19 mL_19 mO_19 rfl rfl (LawH.ob ht1) rfl rfl hq2 ?_
              refine Rc.run tb_24 1 (pc' := 62) (ls' := [some (.ref (51)), some (.ref (t1)), some (.int (x2)), some (.int (x3)), some (.int (x4)), some (.int (x5))]) (st' := [.int (((iset M 52 ((((x3 * 12) + x4) * 4) + x5).toNatClampNeg ((M 52 ((((x3 * 12) + x4) * 4) + x5).toNatClampNeg) &&& c1)) 52 ((((x4 * 12) + x3) * 4) + x5).toNatClampNeg) &&& c2), .int ((((x4 * 12) + x3) * 4) + x5), .ref (52)]) rfl rfl ?_
              by_cases hb3 : inb ((((x4 * 12) + x3) * 4) + x5) 576 = true
              · rw [if_pos hb3] at h
                refine Rc.iast tb_24 rfl rfl ia_52 hb3 ?_
                refine Rc.run tb_24 2 (pc' := 3) (ls' := [some (.ref (51)), some (.ref (t1)), some (.int (x2)), some (.int (x3)), some (.int (x4)), some (.int (x5 + 1))]) (st' := []) rfl rfl ?_
                refine Rc.mask (b := 63) ((tb_24.2 3).trans rfl) (ls' := [some (.ref (51)), some (.ref (t1)), some (.int (x2)), some (.int (x3)), some (.int (x4)), some (.int (x5 + 1))]) rfl ?_
                obtain rfl := Option.some.inj h
                exact hP _ rfl
              · rw [if_neg hb3] at h
                cases h
          · rw [if_neg hb4] at h
            cases h
        · rw [if_neg hb5] at h
          cases h
    · rw [if_neg hb6] at h
      cases h
theorem TL_24_3 {X : AX} {d : Nat} (hd : 1 ≤ d) {t1 : Nat} {x2 : Int32} {x3 : Int32} {x4 : Int32} {x5 : Int32} {M : IM} (ht1 : LawH t1) {v : Option Value} {M' : IM} {r : Int32 × IM} (h : L_24_3 t1 x2 x3 x4 x5 M = some r) (hE : (fun (x5, M) => Rc X d 24 69 [none, none, none, none, none, none] [] M v M') r) : Rc X d 24 3 [some (.ref (51)), some (.ref (t1)), some (.int (x2)), some (.int (x3)), some (.int (x4)), some (.int (x5))] [] M v M' := by
  exact loopN_rc (P := fun (x5, M) => Rc X d 24 3 [some (.ref (51)), some (.ref (t1)), some (.int (x2)), some (.int (x3)), some (.int (x4)), some (.int (x5))] [] M v M') (E := fun (x5, M) => Rc X d 24 69 [none, none, none, none, none, none] [] M v M') (TB_24_3 (X := X) hd ht1) FU _ r h hE
theorem TF_24 {X : AX} {d : Nat} (hd : 1 ≤ d) {t1 : Nat} {a2 : Int32} {a3 : Int32} {a4 : Int32} {M : IM} (ht1 : LawH t1) {v : Option Value} {M' : IM} {o : IM} (h : F_24 t1 a2 a3 a4 M = some o) (hC : v = none ∧ M' = o) : Rc X d 24 0 [some (.ref (51)), some (.ref (t1)), some (.int (a2)), some (.int (a3)), some (.int (a4)), none] [] M v M' := by
  obtain ⟨d, rfl⟩ : ∃ e, d = e + 1 := ⟨d - 1, by omega⟩
  unfold F_24 at h
  refine Rc.run tb_24 2 (pc' := 3) (ls' := [some (.ref (51)), some (.ref (t1)), some (.int (a2)), some (.int (a3)), some (.int (a4)), some (.int (1))]) (st' := []) rfl rfl ?_
  refine Rc.mask (b := 63) ((tb_24.2 3).trans rfl) (ls' := [some (.ref (51)), some (.ref (t1)), some (.int (a2)), some (.int (a3)), some (.int (a4)), some (.int (1))]) rfl ?_
  cases hl8 : L_24_3 t1 a2 a3 a4 1 M with
  | none => rw [hl8] at h; cases h
  | some r8 =>
    obtain ⟨x5_8, M8⟩ := r8
    rw [hl8] at h
    dsimp only at h
    refine TL_24_3 (X := X) (d := d + 1) (by omega) ht1 hl8 ?_
    obtain rfl := Option.some.inj h
    obtain ⟨rfl, rfl⟩ := hC
    exact Rc.vret tb_24 rfl mR_24
theorem T_24 {X : AX} {d : Nat} (hd : 1 ≤ d) {t1 : Nat} {a2 : Int32} {a3 : Int32} {a4 : Int32} {M : IM} (ht1 : LawH t1) {M1 : IM} (h : F_24 t1 a2 a3 a4 M = some M1) : Rc X d 24 0 [some (.ref (51)), some (.ref (t1)), some (.int (a2)), some (.int (a3)), some (.int (a4)), none] [] M none M1 := TF_24 hd ht1 h ⟨rfl, rfl⟩
/-! 23: NineDemands$Seeker.add -/
def J_23_89_26 (t1 : Nat) (x2 : Int32) (M : IM) : Option ((Int32 × IM) ⊕ (Int32 × IM)) := some (Sum.inl (x2 + 1, M))
def B_23_26 (t1 : Nat) : (Int32 × IM) → Option ((Int32 × IM) ⊕ (Int32 × IM)) := fun (x2, M) => (match F_0 (M t1 0) with | none => none | some c1 => (if c1 ≤ x2 then (some (Sum.inr (x2, M))) else (match F_2 (M t1 0) x2 with | none => none | some c2 => (if F_1 (M t1 0) = 0 then (if inb c2 156 = true then (match F_19 t1 x2 (1 : Int32) M with | none => none | some c4 => (if inb c2 156 = true then (J_23_89_26 t1 x2 (iset M 53 c2.toNatClampNeg ((M 53 c2.toNatClampNeg) &&& c4))) else none)) else none) else (match F_3 (M t1 0) x2 with | none => none | some c7 => (match F_24 t1 x2 c2 c7 M with | none => none | some M8 => (J_23_89_26 t1 x2 M8)))))))
def L_23_26 (t1 : Nat) (x2 : Int32) (M : IM) : Option (Int32 × IM) := loopN (B_23_26 t1) FU (x2, M)
def J_23_21 (t1 : Nat) (s0 : Int32) (M : IM) : Option (IM) := (match L_23_26 t1 0 (iset M 51 3 s0) with | none => none | some (x2_11, M11) => (some (M11)))
def J_23_16 (t1 : Nat) (M : IM) : Option (IM) := J_23_21 t1 (1 : Int32) M
def F_23 (t1 : Nat) (M : IM) : Option (IM) := if M 51 3 = 0 then (if M t1 0 = 4 then (J_23_16 t1 M) else (J_23_21 t1 (0 : Int32) M)) else (J_23_16 t1 M)
theorem TJ_23_89_26 {X : AX} {d : Nat} (hd : 3 ≤ d) {t1 : Nat} {x2 : Int32} {M : IM} (ht1 : LawH t1) {v : Option Value} {M' : IM} {o : (Int32 × IM) ⊕ (Int32 × IM)} (h : J_23_89_26 t1 x2 M = some o) (hP : ∀ s', o = .inl s' → (fun (x2, M) => Rc X d 23 26 [some (.ref (51)), some (.ref (t1)), some (.int (x2)), none] [] M v M') s') (hE : ∀ r, o = .inr r → (fun (x2, M) => Rc X d 23 95 [none, none, none, none] [] M v M') r) : Rc X d 23 89 [some (.ref (51)), some (.ref (t1)), some (.int (x2)), none] [] M v M' := by
  obtain ⟨d, rfl⟩ : ∃ e, d = e + 1 := ⟨d - 1, by omega⟩
  unfold J_23_89_26 at h
  dsimp only at hP hE
  refine Rc.run tb_23 2 (pc' := 26) (ls' := [some (.ref (51)), some (.ref (t1)), some (.int (x2 + 1)), none]) (st' := []) rfl rfl ?_
  refine Rc.mask (b := 7) ((tb_23.2 26).trans rfl) (ls' := [some (.ref (51)), some (.ref (t1)), some (.int (x2 + 1)), none]) rfl ?_
  obtain rfl := Option.some.inj h
  exact hP _ rfl
theorem TB_23_26 {X : AX} {d : Nat} (hd : 3 ≤ d) {t1 : Nat} (ht1 : LawH t1) {v : Option Value} {M' : IM} : ∀ (s : Int32 × IM) (o : (Int32 × IM) ⊕ (Int32 × IM)), B_23_26 t1 s = some o → (∀ s', o = .inl s' → (fun (x2, M) => Rc X d 23 26 [some (.ref (51)), some (.ref (t1)), some (.int (x2)), none] [] M v M') s') → (∀ r, o = .inr r → (fun (x2, M) => Rc X d 23 95 [none, none, none, none] [] M v M') r) → (fun (x2, M) => Rc X d 23 26 [some (.ref (51)), some (.ref (t1)), some (.int (x2)), none] [] M v M') s := by
  rintro ⟨x2, M⟩ o h hP hE
  show Rc X d 23 26 [some (.ref (51)), some (.ref (t1)), some (.int (x2)), none] [] M v M'
  obtain ⟨d, rfl⟩ : ∃ e, d = e + 1 := ⟨d - 1, by omega⟩
  unfold B_23_26 at h
  dsimp only at h hP hE
  refine Rc.run tb_23 2 (pc' := 28) (ls' := [some (.ref (51)), some (.ref (t1)), some (.int (x2)), none]) (st' := [.ref (t1), .int (x2)]) rfl rfl ?_
  refine Rc.getI tb_23 rfl rfl (LawH.ob ht1) (by decide +kernel) (LawH.f0 ht1) ?_
  cases hc1 : F_0 (M t1 0) with
  | none => rw [hc1] at h; cases h
  | some c1 =>
    rw [hc1] at h
    dsimp only at h
    have hq1 := T_0 (X := X) (d := d) (by omega) (M := M) hc1
    refine Rc.callS tb_23 rfl rfl rfl mS_0 mP_0 mL_0 rfl rfl rfl hq1 ?_
    refine Rc.icmp_ge (pc1 := 95) tb_23 rfl rfl (by decide) (by decide) (fun hb10 => ?_) (fun hb10 => ?_)
    · rw [if_pos hb10] at h
      refine Rc.mask (b := 0) ((tb_23.2 95).trans rfl) (ls' := [none, none, none, none]) rfl ?_
      obtain rfl := Option.some.inj h
      exact hE _ rfl
    · rw [if_neg hb10] at h
      refine Rc.run tb_23 1 (pc' := 38) (ls' := [some (.ref (51)), some (.ref (t1)), some (.int (x2)), none]) (st' := [.ref (t1)]) rfl rfl ?_
      refine Rc.getI tb_23 rfl rfl (LawH.ob ht1) (by decide +kernel) (LawH.f0 ht1) ?_
      refine Rc.run tb_23 1 (pc' := 42) (ls' := [some (.ref (51)), some (.ref (t1)), some (.int (x2)), none]) (st' := [.int (x2), .int (M t1 0)]) rfl rfl ?_
      cases hc2 : F_2 (M t1 0) x2 with
      | none => rw [hc2] at h; cases h
      | some c2 =>
        rw [hc2] at h
        dsimp only at h
        have hq2 := T_2 (X := X) (d := d) (by omega) (M := M) hc2
        refine Rc.callS tb_23 rfl rfl rfl mS_2 mP_2 mL_2 rfl rfl rfl hq2 ?_
        refine Rc.run tb_23 2 (pc' := 47) (ls' := [some (.ref (51)), some (.ref (t1)), some (.int (x2)), some (.int (c2))]) (st' := [.ref (t1)]) rfl rfl ?_
        refine Rc.getI tb_23 rfl rfl (LawH.ob ht1) (by decide +kernel) (LawH.f0 ht1) ?_
        have hq3 := T_1 (X := X) (d := d) (by omega) (M t1 0) M
        have hz3 := Rc.bool mR_1 hq3
        refine Rc.callS tb_23 rfl rfl rfl mS_1 mP_1 mL_1 rfl rfl rfl hq3 ?_
        refine Rc.if_eq (pc1 := 74) tb_23 rfl rfl (by decide) (by decide) (fun hb9 => ?_) (fun hb9 => ?_)
        · rw [if_pos hb9] at h
          refine Rc.run tb_23 1 (pc' := 75) (ls' := [some (.ref (51)), some (.ref (t1)), some (.int (x2)), some (.int (c2))]) (st' := [.ref (51)]) rfl rfl ?_
          refine Rc.getR tb_23 rfl rfl ob_51 (by decide +kernel) tg_51_1 (by decide) ?_
          refine Rc.run tb_23 2 (pc' := 80) (ls' := [some (.ref (51)), some (.ref (t1)), some (.int (x2)), some (.int (c2))]) (st' := [.int (c2), .ref (53), .int (c2), .ref (53)]) rfl rfl ?_
          by_cases hb6 : inb c2 156 = true
          · rw [if_pos hb6] at h
            refine Rc.iald tb_23 rfl rfl ia_53 hb6 ?_
            refine Rc.run tb_23 3 (pc' := 84) (ls' := [some (.ref (51)), some (.ref (t1)), some (.int (x2)), some (.int (c2))]) (st' := [.int (1), .int (x2), .ref (t1), .int (M 53 c2.toNatClampNeg), .int (c2), .ref (53)]) rfl rfl ?_
            cases hc4 : F_19 t1 x2 (1 : Int32) M with
            | none => rw [hc4] at h; cases h
            | some c4 =>
              rw [hc4] at h
              dsimp only at h
              have hq4 := T_19 (X := X) (d := d) (by omega) (M := M) ht1 hc4
              refine Rc.callV tb_23 rfl rfl rfl mS_19 mP_19 mL_19 mO_19 rfl rfl (LawH.ob ht1) rfl rfl hq4 ?_
              refine Rc.run tb_23 1 (pc' := 88) (ls' := [some (.ref (51)), some (.ref (t1)), some (.int (x2)), some (.int (c2))]) (st' := [.int ((M 53 c2.toNatClampNeg) &&& c4), .int (c2), .ref (53)]) rfl rfl ?_
              by_cases hb5 : inb c2 156 = true
              · rw [if_pos hb5] at h
                refine Rc.iast tb_23 rfl rfl ia_53 hb5 ?_
                refine Rc.mask (b := 7) ((tb_23.2 89).trans rfl) (ls' := [some (.ref (51)), some (.ref (t1)), some (.int (x2)), none]) rfl ?_
                exact TJ_23_89_26 (X := X) (d := d + 1) (by omega) ht1 h hP hE
              · rw [if_neg hb5] at h
                cases h
          · rw [if_neg hb6] at h
            cases h
        · rw [if_neg hb9] at h
          refine Rc.run tb_23 5 (pc' := 61) (ls' := [some (.ref (51)), some (.ref (t1)), some (.int (x2)), some (.int (c2))]) (st' := [.ref (t1), .int (c2), .int (x2), .ref (t1), .ref (51)]) rfl rfl ?_
          refine Rc.getI tb_23 rfl rfl (LawH.ob ht1) (by decide +kernel) (LawH.f0 ht1) ?_
          refine Rc.run tb_23 1 (pc' := 65) (ls' := [some (.ref (51)), some (.ref (t1)), some (.int (x2)), some (.int (c2))]) (st' := [.int (x2), .int (M t1 0), .int (c2), .int (x2), .ref (t1), .ref (51)]) rfl rfl ?_
          cases hc7 : F_3 (M t1 0) x2 with
          | none => rw [hc7] at h; cases h
          | some c7 =>
            rw [hc7] at h
            dsimp only at h
            have hq7 := T_3 (X := X) (d := d) (by omega) (M := M) hc7
            refine Rc.callS tb_23 rfl rfl rfl mS_3 mP_3 mL_3 rfl rfl rfl hq7 ?_
            cases hc8 : F_24 t1 x2 c2 c7 M with
            | none => rw [hc8] at h; cases h
            | some M8 =>
              rw [hc8] at h
              dsimp only at h
              have hq8 := T_24 (X := X) (d := d) (by omega) (M := M) ht1 hc8
              refine Rc.callV tb_23 rfl rfl rfl mS_24 mP_24 mL_24 mO_24 rfl rfl ob_51 rfl rfl hq8 ?_
              refine Rc.run tb_23 1 (pc' := 89) (ls' := [some (.ref (51)), some (.ref (t1)), some (.int (x2)), some (.int (c2))]) (st' := []) rfl rfl ?_
              refine Rc.mask (b := 7) ((tb_23.2 89).trans rfl) (ls' := [some (.ref (51)), some (.ref (t1)), some (.int (x2)), none]) rfl ?_
              exact TJ_23_89_26 (X := X) (d := d + 1) (by omega) ht1 h hP hE
theorem TL_23_26 {X : AX} {d : Nat} (hd : 3 ≤ d) {t1 : Nat} {x2 : Int32} {M : IM} (ht1 : LawH t1) {v : Option Value} {M' : IM} {r : Int32 × IM} (h : L_23_26 t1 x2 M = some r) (hE : (fun (x2, M) => Rc X d 23 95 [none, none, none, none] [] M v M') r) : Rc X d 23 26 [some (.ref (51)), some (.ref (t1)), some (.int (x2)), none] [] M v M' := by
  exact loopN_rc (P := fun (x2, M) => Rc X d 23 26 [some (.ref (51)), some (.ref (t1)), some (.int (x2)), none] [] M v M') (E := fun (x2, M) => Rc X d 23 95 [none, none, none, none] [] M v M') (TB_23_26 (X := X) hd ht1) FU _ r h hE
theorem TJ_23_21 {X : AX} {d : Nat} (hd : 3 ≤ d) {t1 : Nat} {s0 : Int32} {M : IM} (ht1 : LawH t1) (hs0 : s0 = 0 ∨ s0 = 1) {v : Option Value} {M' : IM} {o : IM} (h : J_23_21 t1 s0 M = some o) (hC : v = none ∧ M' = o) : Rc X d 23 21 [some (.ref (51)), some (.ref (t1)), none, none] [.int (s0), .ref (51)] M v M' := by
  obtain ⟨d, rfl⟩ : ∃ e, d = e + 1 := ⟨d - 1, by omega⟩
  unfold J_23_21 at h
  refine Rc.putI tb_23 rfl rfl ob_51 (by decide +kernel) tg_51_3 (fokZ hs0) ?_
  refine Rc.run tb_23 2 (pc' := 26) (ls' := [some (.ref (51)), some (.ref (t1)), some (.int (0)), none]) (st' := []) rfl rfl ?_
  refine Rc.mask (b := 7) ((tb_23.2 26).trans rfl) (ls' := [some (.ref (51)), some (.ref (t1)), some (.int (0)), none]) rfl ?_
  cases hl11 : L_23_26 t1 0 (iset M 51 3 s0) with
  | none => rw [hl11] at h; cases h
  | some r11 =>
    obtain ⟨x2_11, M11⟩ := r11
    rw [hl11] at h
    dsimp only at h
    refine TL_23_26 (X := X) (d := d + 1) (by omega) ht1 hl11 ?_
    obtain rfl := Option.some.inj h
    obtain ⟨rfl, rfl⟩ := hC
    exact Rc.vret tb_23 rfl mR_23
theorem TJ_23_16 {X : AX} {d : Nat} (hd : 3 ≤ d) {t1 : Nat} {M : IM} (ht1 : LawH t1) {v : Option Value} {M' : IM} {o : IM} (h : J_23_16 t1 M = some o) (hC : v = none ∧ M' = o) : Rc X d 23 16 [some (.ref (51)), some (.ref (t1)), none, none] [.ref (51)] M v M' := by
  obtain ⟨d, rfl⟩ : ∃ e, d = e + 1 := ⟨d - 1, by omega⟩
  unfold J_23_16 at h
  refine Rc.run tb_23 2 (pc' := 21) (ls' := [some (.ref (51)), some (.ref (t1)), none, none]) (st' := [.int (1), .ref (51)]) rfl rfl ?_
  refine Rc.mask (b := 3) ((tb_23.2 21).trans rfl) (ls' := [some (.ref (51)), some (.ref (t1)), none, none]) rfl ?_
  exact TJ_23_21 (X := X) (d := d + 1) (by omega) ht1 (Or.inr rfl) h hC
theorem TF_23 {X : AX} {d : Nat} (hd : 3 ≤ d) {t1 : Nat} {M : IM} (ht1 : LawH t1) {v : Option Value} {M' : IM} {o : IM} (h : F_23 t1 M = some o) (hC : v = none ∧ M' = o) : Rc X d 23 0 [some (.ref (51)), some (.ref (t1)), none, none] [] M v M' := by
  obtain ⟨d, rfl⟩ : ∃ e, d = e + 1 := ⟨d - 1, by omega⟩
  unfold F_23 at h
  refine Rc.run tb_23 2 (pc' := 2) (ls' := [some (.ref (51)), some (.ref (t1)), none, none]) (st' := [.ref (51), .ref (51)]) rfl rfl ?_
  refine Rc.getI tb_23 rfl rfl ob_51 (by decide +kernel) tg_51_3 ?_
  refine Rc.if_ne (pc1 := 16) tb_23 rfl rfl (by decide) (by decide) (fun hb13 => ?_) (fun hb13 => ?_)
  · rw [if_pos hb13] at h
    refine Rc.run tb_23 1 (pc' := 9) (ls' := [some (.ref (51)), some (.ref (t1)), none, none]) (st' := [.ref (t1), .ref (51)]) rfl rfl ?_
    refine Rc.getI tb_23 rfl rfl (LawH.ob ht1) (by decide +kernel) (LawH.f0 ht1) ?_
    refine Rc.run tb_23 1 (pc' := 13) (ls' := [some (.ref (51)), some (.ref (t1)), none, none]) (st' := [.int (4), .int (M t1 0), .ref (51)]) rfl rfl ?_
    refine Rc.icmp_ne (pc1 := 20) tb_23 rfl rfl (by decide) (by decide) (fun hb12 => ?_) (fun hb12 => ?_)
    · rw [if_pos hb12] at h
      refine Rc.mask (b := 3) ((tb_23.2 16).trans rfl) (ls' := [some (.ref (51)), some (.ref (t1)), none, none]) rfl ?_
      exact TJ_23_16 (X := X) (d := d + 1) (by omega) ht1 h hC
    · rw [if_neg hb12] at h
      refine Rc.run tb_23 1 (pc' := 21) (ls' := [some (.ref (51)), some (.ref (t1)), none, none]) (st' := [.int (0), .ref (51)]) rfl rfl ?_
      refine Rc.mask (b := 3) ((tb_23.2 21).trans rfl) (ls' := [some (.ref (51)), some (.ref (t1)), none, none]) rfl ?_
      exact TJ_23_21 (X := X) (d := d + 1) (by omega) ht1 (Or.inl rfl) h hC
  · rw [if_neg hb13] at h
    refine Rc.mask (b := 3) ((tb_23.2 16).trans rfl) (ls' := [some (.ref (51)), some (.ref (t1)), none, none]) rfl ?_
    exact TJ_23_16 (X := X) (d := d + 1) (by omega) ht1 h hC
theorem T_23 {X : AX} {d : Nat} (hd : 3 ≤ d) {t1 : Nat} {M : IM} (ht1 : LawH t1) {M1 : IM} (h : F_23 t1 M = some M1) : Rc X d 23 0 [some (.ref (51)), some (.ref (t1)), none, none] [] M none M1 := TF_23 hd ht1 h ⟨rfl, rfl⟩
/-! 83: NineDemands$Village.isOf -/
def F_83 (t0 : Nat) (a1 : Int32) (a2 : Int32) (M : IM) : Int32 := if a2 < 0 then 0 else (if M t0 2 ≤ a2 then 0 else (if (a1 >>> (a2 &&& 31)) &&& 1 = 0 then 0 else 1))
theorem TF_83 {X : AX} {d : Nat} (hd : 0 ≤ d) {t0 : Nat} {a1 : Int32} {a2 : Int32} {M : IM} (ht0 : VilH t0) {v : Option Value} {M' : IM} {o : Int32} (h : F_83 t0 a1 a2 M = o) (hC : v = some (.int o) ∧ M' = M) : Rc X d 83 0 [some (.ref (t0)), some (.int (a1)), some (.int (a2))] [] M v M' := by
  unfold F_83 at h
  refine Rc.run tb_83 1 (pc' := 1) (ls' := [some (.ref (t0)), some (.int (a1)), some (.int (a2))]) (st' := [.int (a2)]) rfl rfl ?_
  refine Rc.if_lt (pc1 := 24) tb_83 rfl rfl (by decide) (by decide) (fun hb3 => ?_) (fun hb3 => ?_)
  · rw [if_pos hb3] at h
    refine Rc.run tb_83 1 (pc' := 25) (ls' := [none, none, none]) (st' := [.int (0)]) rfl rfl ?_
    subst h
    obtain ⟨rfl, rfl⟩ := hC
    exact Rc.zret tb_83 rfl mR_83 (Or.inl rfl)
  · rw [if_neg hb3] at h
    refine Rc.run tb_83 2 (pc' := 6) (ls' := [some (.ref (t0)), some (.int (a1)), some (.int (a2))]) (st' := [.ref (t0), .int (a2)]) rfl rfl ?_
    refine Rc.getI tb_83 rfl rfl (VilH.ob ht0) (by decide +kernel) (VilH.f2 ht0) ?_
    refine Rc.icmp_ge (pc1 := 24) tb_83 rfl rfl (by decide) (by decide) (fun hb2 => ?_) (fun hb2 => ?_)
    · rw [if_pos hb2] at h
      refine Rc.run tb_83 1 (pc' := 25) (ls' := [none, none, none]) (st' := [.int (0)]) rfl rfl ?_
      subst h
      obtain ⟨rfl, rfl⟩ := hC
      exact Rc.zret tb_83 rfl mR_83 (Or.inl rfl)
    · rw [if_neg hb2] at h
      refine Rc.run tb_83 5 (pc' := 17) (ls' := [some (.ref (t0)), some (.int (a1)), some (.int (a2))]) (st' := [.int ((a1 >>> (a2 &&& 31)) &&& 1)]) rfl rfl ?_
      refine Rc.if_eq (pc1 := 24) tb_83 rfl rfl (by decide) (by decide) (fun hb1 => ?_) (fun hb1 => ?_)
      · rw [if_pos hb1] at h
        refine Rc.run tb_83 1 (pc' := 25) (ls' := [none, none, none]) (st' := [.int (0)]) rfl rfl ?_
        subst h
        obtain ⟨rfl, rfl⟩ := hC
        exact Rc.zret tb_83 rfl mR_83 (Or.inl rfl)
      · rw [if_neg hb1] at h
        refine Rc.run tb_83 2 (pc' := 25) (ls' := [some (.ref (t0)), some (.int (a1)), some (.int (a2))]) (st' := [.int (1)]) rfl rfl ?_
        subst h
        obtain ⟨rfl, rfl⟩ := hC
        exact Rc.zret tb_83 rfl mR_83 (Or.inr rfl)
theorem T_83 {X : AX} {d : Nat} (hd : 0 ≤ d) {t0 : Nat} (ht0 : VilH t0) (a1 : Int32) (a2 : Int32) (M : IM) : Rc X d 83 0 [some (.ref (t0)), some (.int (a1)), some (.int (a2))] [] M (some (.int (F_83 t0 a1 a2 M))) M := TF_83 hd ht0 rfl ⟨rfl, rfl⟩
/-! 256: java/util/Arrays.fill -/
def B_256_5 (t0 : Nat) (x1 : Int32) (x3 : Int32) : (Int32 × IM) → Option ((Int32 × IM) ⊕ (Int32 × IM)) := fun (x2, M) => if x3 ≤ x2 then (some (Sum.inr (x2, M))) else (if inb x2 (ln t0) = true then (some (Sum.inl (x2 + 1, iset M t0 x2.toNatClampNeg x1))) else none)
def L_256_5 (t0 : Nat) (x1 : Int32) (x3 : Int32) (x2 : Int32) (M : IM) : Option (Int32 × IM) := loopN (B_256_5 t0 x1 x3) FU (x2, M)
def F_256 (r1 : Nat) (a2 : Int32) (M : IM) : Option (IM) := (match L_256_5 r1 a2 (Int32.ofNat (ln r1)) 0 M with | none => none | some (x2_3, M3) => (some (M3)))
theorem TB_256_5 {X : AX} {d : Nat} (hd : 0 ≤ d) {t0 : Nat} {x1 : Int32} {x3 : Int32} (ht0 : IA t0) {v : Option Value} {M' : IM} : ∀ (s : Int32 × IM) (o : (Int32 × IM) ⊕ (Int32 × IM)), B_256_5 t0 x1 x3 s = some o → (∀ s', o = .inl s' → (fun (x2, M) => Rc X d 256 5 [some (.ref (t0)), some (.int (x1)), some (.int (x2)), some (.int (x3))] [] M v M') s') → (∀ r, o = .inr r → (fun (x2, M) => Rc X d 256 20 [none, none, none, none] [] M v M') r) → (fun (x2, M) => Rc X d 256 5 [some (.ref (t0)), some (.int (x1)), some (.int (x2)), some (.int (x3))] [] M v M') s := by
  rintro ⟨x2, M⟩ o h hP hE
  show Rc X d 256 5 [some (.ref (t0)), some (.int (x1)), some (.int (x2)), some (.int (x3))] [] M v M'
  unfold B_256_5 at h
  dsimp only at h hP hE
  refine Rc.run tb_256 2 (pc' := 7) (ls' := [some (.ref (t0)), some (.int (x1)), some (.int (x2)), some (.int (x3))]) (st' := [.int (x3), .int (x2)]) rfl rfl ?_
  refine Rc.icmp_ge (pc1 := 20) tb_256 rfl rfl (by decide) (by decide) (fun hb2 => ?_) (fun hb2 => ?_)
  · rw [if_pos hb2] at h
    refine Rc.mask (b := 0) ((tb_256.2 20).trans rfl) (ls' := [none, none, none, none]) rfl ?_
    obtain rfl := Option.some.inj h
    exact hE _ rfl
  · rw [if_neg hb2] at h
    refine Rc.run tb_256 3 (pc' := 13) (ls' := [some (.ref (t0)), some (.int (x1)), some (.int (x2)), some (.int (x3))]) (st' := [.int (x1), .int (x2), .ref (t0)]) rfl rfl ?_
    by_cases hb1 : inb x2 (ln t0) = true
    · rw [if_pos hb1] at h
      refine Rc.iast tb_256 rfl rfl (IA.n ht0) hb1 ?_
      refine Rc.run tb_256 2 (pc' := 5) (ls' := [some (.ref (t0)), some (.int (x1)), some (.int (x2 + 1)), some (.int (x3))]) (st' := []) rfl rfl ?_
      refine Rc.mask (b := 15) ((tb_256.2 5).trans rfl) (ls' := [some (.ref (t0)), some (.int (x1)), some (.int (x2 + 1)), some (.int (x3))]) rfl ?_
      obtain rfl := Option.some.inj h
      exact hP _ rfl
    · rw [if_neg hb1] at h
      cases h
theorem TL_256_5 {X : AX} {d : Nat} (hd : 0 ≤ d) {t0 : Nat} {x1 : Int32} {x3 : Int32} {x2 : Int32} {M : IM} (ht0 : IA t0) {v : Option Value} {M' : IM} {r : Int32 × IM} (h : L_256_5 t0 x1 x3 x2 M = some r) (hE : (fun (x2, M) => Rc X d 256 20 [none, none, none, none] [] M v M') r) : Rc X d 256 5 [some (.ref (t0)), some (.int (x1)), some (.int (x2)), some (.int (x3))] [] M v M' := by
  exact loopN_rc (P := fun (x2, M) => Rc X d 256 5 [some (.ref (t0)), some (.int (x1)), some (.int (x2)), some (.int (x3))] [] M v M') (E := fun (x2, M) => Rc X d 256 20 [none, none, none, none] [] M v M') (TB_256_5 (X := X) hd ht0) FU _ r h hE
theorem TF_256 {X : AX} {d : Nat} (hd : 0 ≤ d) {r1 : Nat} {a2 : Int32} {M : IM} (hr1 : IA r1) {v : Option Value} {M' : IM} {o : IM} (h : F_256 r1 a2 M = some o) (hC : v = none ∧ M' = o) : Rc X d 256 0 [some (.ref (r1)), some (.int (a2)), none, none] [] M v M' := by
  unfold F_256 at h
  refine Rc.run tb_256 3 (pc' := 3) (ls' := [some (.ref (r1)), some (.int (a2)), some (.int (0)), none]) (st' := [.ref (r1)]) rfl rfl ?_
  refine Rc.alen tb_256 rfl rfl (IA.n hr1) ?_
  refine Rc.run tb_256 1 (pc' := 5) (ls' := [some (.ref (r1)), some (.int (a2)), some (.int (0)), some (.int (Int32.ofNat (ln r1)))]) (st' := []) rfl rfl ?_
  refine Rc.mask (b := 15) ((tb_256.2 5).trans rfl) (ls' := [some (.ref (r1)), some (.int (a2)), some (.int (0)), some (.int (Int32.ofNat (ln r1)))]) rfl ?_
  cases hl3 : L_256_5 r1 a2 (Int32.ofNat (ln r1)) 0 M with
  | none => rw [hl3] at h; cases h
  | some r3 =>
    obtain ⟨x2_3, M3⟩ := r3
    rw [hl3] at h
    dsimp only at h
    refine TL_256_5 (X := X) (d := d) (by omega) ((IA.n hr1)).1 hl3 ?_
    obtain rfl := Option.some.inj h
    obtain ⟨rfl, rfl⟩ := hC
    exact Rc.vret tb_256 rfl mR_256
theorem T_256 {X : AX} {d : Nat} (hd : 0 ≤ d) {r1 : Nat} {a2 : Int32} {M : IM} (hr1 : IA r1) {M1 : IM} (h : F_256 r1 a2 M = some M1) : Rc X d 256 0 [some (.ref (r1)), some (.int (a2)), none, none] [] M none M1 := TF_256 hd hr1 h ⟨rfl, rfl⟩
/-! 27: NineDemands$Seeker.narrow -/
def J_27_79_11 (x2 : Int32) (x3 : Int32) (x4 : Int32) (x5 : Int32) (x6 : Int32) (M : IM) : Option ((Int32 × IM) ⊕ ((Int32 × IM) ⊕ (Int32 × IM))) := some (Sum.inl (x6 + 1, M))
def B_27_11 (x2 : Int32) (x3 : Int32) (x4 : Int32) (x5 : Int32) : (Int32 × IM) → Option ((Int32 × IM) ⊕ ((Int32 × IM) ⊕ (Int32 × IM))) := fun (x6, M) => if (12 : Int32) ≤ x6 then (some (Sum.inr (Sum.inl (x6, M)))) else (if (x4 >>> (x6 &&& 31)) &&& 1 = 0 then (J_27_79_11 x2 x3 x4 x5 x6 M) else (if inb (x5 + x6) 156 = true then (if inb ((((x2 * 12) + x6) * 4) + x3) 576 = true then (if (M 53 (x5 + x6).toNatClampNeg) &&& (M 52 ((((x2 * 12) + x6) * 4) + x3).toNatClampNeg) = 0 then (some (Sum.inr (Sum.inr (0, M)))) else (if inb ((x5 + 12) + x6) 156 = true then (J_27_79_11 x2 x3 x4 x5 x6 (iset M 53 ((x5 + 12) + x6).toNatClampNeg ((M 53 (x5 + x6).toNatClampNeg) &&& (M 52 ((((x2 * 12) + x6) * 4) + x3).toNatClampNeg)))) else none)) else none) else none))
def L_27_11 (x2 : Int32) (x3 : Int32) (x4 : Int32) (x5 : Int32) (x6 : Int32) (M : IM) : Option ((Int32 × IM) ⊕ (Int32 × IM)) := loopN (B_27_11 x2 x3 x4 x5) FU (x6, M)
def F_27 (a1 : Int32) (a2 : Int32) (a3 : Int32) (a4 : Int32) (M : IM) : Option (Int32 × IM) := (match L_27_11 a2 a3 a4 (a1 * 12) (a2 + 1) M with | none => none | some (.inl (x6_7, M7)) => (some ((1, M7))) | some (.inr q) => some (q))
theorem TJ_27_79_11 {X : AX} {d : Nat} (hd : 0 ≤ d) {x2 : Int32} {x3 : Int32} {x4 : Int32} {x5 : Int32} {x6 : Int32} {M : IM} {v : Option Value} {M' : IM} {o : (Int32 × IM) ⊕ ((Int32 × IM) ⊕ (Int32 × IM))} (h : J_27_79_11 x2 x3 x4 x5 x6 M = some o) (hP : ∀ s', o = .inl s' → (fun (x6, M) => Rc X d 27 11 [some (.ref (51)), none, some (.int (x2)), some (.int (x3)), some (.int (x4)), some (.int (x5)), some (.int (x6)), none] [] M v M') s') (hE : ∀ r, o = .inr r → (fun r => match r with | .inl (x6, M) => Rc X d 27 85 [none, none, none, none, none, none, none, none] [] M v M' | .inr q => v = some (.int q.1) ∧ M' = q.2) r) : Rc X d 27 79 [some (.ref (51)), none, some (.int (x2)), some (.int (x3)), some (.int (x4)), some (.int (x5)), some (.int (x6)), none] [] M v M' := by
  unfold J_27_79_11 at h
  dsimp only at hP hE
  refine Rc.run tb_27 2 (pc' := 11) (ls' := [some (.ref (51)), none, some (.int (x2)), some (.int (x3)), some (.int (x4)), some (.int (x5)), some (.int (x6 + 1)), none]) (st' := []) rfl rfl ?_
  refine Rc.mask (b := 125) ((tb_27.2 11).trans rfl) (ls' := [some (.ref (51)), none, some (.int (x2)), some (.int (x3)), some (.int (x4)), some (.int (x5)), some (.int (x6 + 1)), none]) rfl ?_
  obtain rfl := Option.some.inj h
  exact hP _ rfl
theorem TB_27_11 {X : AX} {d : Nat} (hd : 0 ≤ d) {x2 : Int32} {x3 : Int32} {x4 : Int32} {x5 : Int32} {v : Option Value} {M' : IM} : ∀ (s : Int32 × IM) (o : (Int32 × IM) ⊕ ((Int32 × IM) ⊕ (Int32 × IM))), B_27_11 x2 x3 x4 x5 s = some o → (∀ s', o = .inl s' → (fun (x6, M) => Rc X d 27 11 [some (.ref (51)), none, some (.int (x2)), some (.int (x3)), some (.int (x4)), some (.int (x5)), some (.int (x6)), none] [] M v M') s') → (∀ r, o = .inr r → (fun r => match r with | .inl (x6, M) => Rc X d 27 85 [none, none, none, none, none, none, none, none] [] M v M' | .inr q => v = some (.int q.1) ∧ M' = q.2) r) → (fun (x6, M) => Rc X d 27 11 [some (.ref (51)), none, some (.int (x2)), some (.int (x3)), some (.int (x4)), some (.int (x5)), some (.int (x6)), none] [] M v M') s := by
  rintro ⟨x6, M⟩ o h hP hE
  show Rc X d 27 11 [some (.ref (51)), none, some (.int (x2)), some (.int (x3)), some (.int (x4)), some (.int (x5)), some (.int (x6)), none] [] M v M'
  unfold B_27_11 at h
  dsimp only at h hP hE
  refine Rc.run tb_27 2 (pc' := 15) (ls' := [some (.ref (51)), none, some (.int (x2)), some (.int (x3)), some (.int (x4)), some (.int (x5)), some (.int (x6)), none]) (st' := [.int (12), .int (x6)]) rfl rfl ?_
  refine Rc.icmp_ge (pc1 := 85) tb_27 rfl rfl (by decide) (by decide) (fun hb6 => ?_) (fun hb6 => ?_)
  · rw [if_pos hb6] at h
    refine Rc.mask (b := 0) ((tb_27.2 85).trans rfl) (ls' := [none, none, none, none, none, none, none, none]) rfl ?_
    obtain rfl := Option.some.inj h
    exact hE _ rfl
  · rw [if_neg hb6] at h
    refine Rc.run tb_27 5 (pc' := 25) (ls' := [some (.ref (51)), none, some (.int (x2)), some (.int (x3)), some (.int (x4)), some (.int (x5)), some (.int (x6)), none]) (st' := [.int ((x4 >>> (x6 &&& 31)) &&& 1)]) rfl rfl ?_
    refine Rc.if_eq (pc1 := 79) tb_27 rfl rfl (by decide) (by decide) (fun hb5 => ?_) (fun hb5 => ?_)
    · rw [if_pos hb5] at h
      refine Rc.mask (b := 125) ((tb_27.2 79).trans rfl) (ls' := [some (.ref (51)), none, some (.int (x2)), some (.int (x3)), some (.int (x4)), some (.int (x5)), some (.int (x6)), none]) rfl ?_
      exact TJ_27_79_11 (X := X) (d := d) (by omega) h hP hE
    · rw [if_neg hb5] at h
      refine Rc.run tb_27 1 (pc' := 29) (ls' := [some (.ref (51)), none, some (.int (x2)), some (.int (x3)), some (.int (x4)), some (.int (x5)), some (.int (x6)), none]) (st' := [.ref (51)]) rfl rfl ?_
      refine Rc.getR tb_27 rfl rfl ob_51 (by decide +kernel) tg_51_1 (by decide) ?_
      refine Rc.run tb_27 3 (pc' := 37) (ls' := [some (.ref (51)), none, some (.int (x2)), some (.int (x3)), some (.int (x4)), some (.int (x5)), some (.int (x6)), none]) (st' := [.int (x5 + x6), .ref (53)]) rfl rfl ?_
      by_cases hb4 : inb (x5 + x6) 156 = true
      · rw [if_pos hb4] at h
        refine Rc.iald tb_27 rfl rfl ia_53 hb4 ?_
        refine Rc.run tb_27 1 (pc' := 39) (ls' := [some (.ref (51)), none, some (.int (x2)), some (.int (x3)), some (.int (x4)), some (.int (x5)), some (.int (x6)), none]) (st' := [.ref (51), .int (M 53 (x5 + x6).toNatClampNeg)]) rfl rfl ?_
        refine Rc.getR tb_27 rfl rfl ob_51 (by decide +kernel) tg_51_0 (by decide) ?_
        refine Rc.run tb_27 9 (pc' := 53) (ls' := [some (.ref (51)), none, some (.int (x2)), some (.int (x3)), some (.int (x4)), some (.int (x5)), some (.int (x6)), none]) (st' := [.int ((((x2 * 12) + x6) * 4) + x3), .ref (52), .int (M 53 (x5 + x6).toNatClampNeg)]) rfl rfl ?_
        by_cases hb3 : inb ((((x2 * 12) + x6) * 4) + x3) 576 = true
        · rw [if_pos hb3] at h
          refine Rc.iald tb_27 rfl rfl ia_52 hb3 ?_
          refine Rc.run tb_27 3 (pc' := 59) (ls' := [some (.ref (51)), none, some (.int (x2)), some (.int (x3)), some (.int (x4)), some (.int (x5)), some (.int (x6)), some (.int ((M 53 (x5 + x6).toNatClampNeg) &&& (M 52 ((((x2 * 12) + x6) * 4) + x3).toNatClampNeg)))]) (st' := [.int ((M 53 (x5 + x6).toNatClampNeg) &&& (M 52 ((((x2 * 12) + x6) * 4) + x3).toNatClampNeg))]) rfl rfl ?_
          refine Rc.if_ne (pc1 := 64) tb_27 rfl rfl (by decide) (by decide) (fun hb2 => ?_) (fun hb2 => ?_)
          · rw [if_pos hb2] at h
            refine Rc.run tb_27 1 (pc' := 63) (ls' := [some (.ref (51)), none, some (.int (x2)), some (.int (x3)), some (.int (x4)), some (.int (x5)), some (.int (x6)), some (.int ((M 53 (x5 + x6).toNatClampNeg) &&& (M 52 ((((x2 * 12) + x6) * 4) + x3).toNatClampNeg)))]) (st' := [.int (0)]) rfl rfl ?_
            obtain rfl := Option.some.inj h
            obtain ⟨rfl, rfl⟩ := hE _ rfl
            exact Rc.zret tb_27 rfl mR_27 (Or.inl rfl)
          · rw [if_neg hb2] at h
            refine Rc.run tb_27 1 (pc' := 65) (ls' := [some (.ref (51)), none, some (.int (x2)), some (.int (x3)), some (.int (x4)), some (.int (x5)), some (.int (x6)), some (.int ((M 53 (x5 + x6).toNatClampNeg) &&& (M 52 ((((x2 * 12) + x6) * 4) + x3).toNatClampNeg)))]) (st' := [.ref (51)]) rfl rfl ?_
            refine Rc.getR tb_27 rfl rfl ob_51 (by decide +kernel) tg_51_1 (by decide) ?_
            refine Rc.run tb_27 6 (pc' := 78) (ls' := [some (.ref (51)), none, some (.int (x2)), some (.int (x3)), some (.int (x4)), some (.int (x5)), some (.int (x6)), some (.int ((M 53 (x5 + x6).toNatClampNeg) &&& (M 52 ((((x2 * 12) + x6) * 4) + x3).toNatClampNeg)))]) (st' := [.int ((M 53 (x5 + x6).toNatClampNeg) &&& (M 52 ((((x2 * 12) + x6) * 4) + x3).toNatClampNeg)), .int ((x5 + 12) + x6), .ref (53)]) rfl rfl ?_
            by_cases hb1 : inb ((x5 + 12) + x6) 156 = true
            · rw [if_pos hb1] at h
              refine Rc.iast tb_27 rfl rfl ia_53 hb1 ?_
              refine Rc.mask (b := 125) ((tb_27.2 79).trans rfl) (ls' := [some (.ref (51)), none, some (.int (x2)), some (.int (x3)), some (.int (x4)), some (.int (x5)), some (.int (x6)), none]) rfl ?_
              exact TJ_27_79_11 (X := X) (d := d) (by omega) h hP hE
            · rw [if_neg hb1] at h
              cases h
        · rw [if_neg hb3] at h
          cases h
      · rw [if_neg hb4] at h
        cases h
theorem TL_27_11 {X : AX} {d : Nat} (hd : 0 ≤ d) {x2 : Int32} {x3 : Int32} {x4 : Int32} {x5 : Int32} {x6 : Int32} {M : IM} {v : Option Value} {M' : IM} {r : (Int32 × IM) ⊕ (Int32 × IM)} (h : L_27_11 x2 x3 x4 x5 x6 M = some r) (hE : (fun r => match r with | .inl (x6, M) => Rc X d 27 85 [none, none, none, none, none, none, none, none] [] M v M' | .inr q => v = some (.int q.1) ∧ M' = q.2) r) : Rc X d 27 11 [some (.ref (51)), none, some (.int (x2)), some (.int (x3)), some (.int (x4)), some (.int (x5)), some (.int (x6)), none] [] M v M' := by
  exact loopN_rc (P := fun (x6, M) => Rc X d 27 11 [some (.ref (51)), none, some (.int (x2)), some (.int (x3)), some (.int (x4)), some (.int (x5)), some (.int (x6)), none] [] M v M') (E := fun r => match r with | .inl (x6, M) => Rc X d 27 85 [none, none, none, none, none, none, none, none] [] M v M' | .inr q => v = some (.int q.1) ∧ M' = q.2) (TB_27_11 (X := X) hd) FU _ r h hE
theorem TF_27 {X : AX} {d : Nat} (hd : 0 ≤ d) {a1 : Int32} {a2 : Int32} {a3 : Int32} {a4 : Int32} {M : IM} {v : Option Value} {M' : IM} {o : Int32 × IM} (h : F_27 a1 a2 a3 a4 M = some o) (hC : v = some (.int o.1) ∧ M' = o.2) : Rc X d 27 0 [some (.ref (51)), some (.int (a1)), some (.int (a2)), some (.int (a3)), some (.int (a4)), none, none, none] [] M v M' := by
  unfold F_27 at h
  refine Rc.run tb_27 8 (pc' := 11) (ls' := [some (.ref (51)), some (.int (a1)), some (.int (a2)), some (.int (a3)), some (.int (a4)), some (.int (a1 * 12)), some (.int (a2 + 1)), none]) (st' := []) rfl rfl ?_
  refine Rc.mask (b := 125) ((tb_27.2 11).trans rfl) (ls' := [some (.ref (51)), none, some (.int (a2)), some (.int (a3)), some (.int (a4)), some (.int (a1 * 12)), some (.int (a2 + 1)), none]) rfl ?_
  cases hl7 : L_27_11 a2 a3 a4 (a1 * 12) (a2 + 1) M with
  | none => rw [hl7] at h; cases h
  | some rr7 =>
    rw [hl7] at h
    cases rr7 with
    | inl r7 =>
      obtain ⟨x6_7, M7⟩ := r7
      dsimp only at h
      refine TL_27_11 (X := X) (d := d) (by omega) hl7 ?_
      refine Rc.run tb_27 1 (pc' := 86) (ls' := [none, none, none, none, none, none, none, none]) (st' := [.int (1)]) rfl rfl ?_
      obtain rfl := Option.some.inj h
      obtain ⟨rfl, rfl⟩ := hC
      exact Rc.zret tb_27 rfl mR_27 (Or.inr rfl)
    | inr q =>
      dsimp only at h
      refine TL_27_11 (X := X) (d := d) (by omega) hl7 ?_
      obtain rfl := Option.some.inj h
      obtain ⟨rfl, rfl⟩ := hC
      exact ⟨rfl, rfl⟩
theorem T_27 {X : AX} {d : Nat} (hd : 0 ≤ d) {a1 : Int32} {a2 : Int32} {a3 : Int32} {a4 : Int32} {M : IM} {x : Int32} {M1 : IM} (h : F_27 a1 a2 a3 a4 M = some (x, M1)) : Rc X d 27 0 [some (.ref (51)), some (.int (a1)), some (.int (a2)), some (.int (a3)), some (.int (a4)), none, none, none] [] M (some (.int x)) M1 := TF_27 hd h ⟨rfl, rfl⟩
/-! 29: NineDemands$Seeker.wasSeen -/
def B_29_2 (x1 : Int32) (M : IM) : (Int32) → Option ((Int32) ⊕ ((Int32) ⊕ (Int32))) := fun x2 => if M 51 5 ≤ x2 then (some (Sum.inr (Sum.inl x2))) else (if inb x2 64 = true then (if x1 &&& ((M 55 x2.toNatClampNeg) ^^^ (-1)) = 0 then (some (Sum.inr (Sum.inr 1))) else (some (Sum.inl (x2 + 1)))) else none)
def L_29_2 (x1 : Int32) (M : IM) (x2 : Int32) : Option ((Int32) ⊕ (Int32)) := loopN (B_29_2 x1 M) FU x2
def F_29 (a1 : Int32) (M : IM) : Option (Int32) := (match L_29_2 a1 M 0 with | none => none | some (.inl x2_4) => (some (0)) | some (.inr q) => some (q))
theorem TB_29_2 {X : AX} {d : Nat} (hd : 0 ≤ d) {x1 : Int32} {M : IM} {v : Option Value} {M' : IM} : ∀ (s : Int32) (o : (Int32) ⊕ ((Int32) ⊕ (Int32))), B_29_2 x1 M s = some o → (∀ s', o = .inl s' → (fun x2 => Rc X d 29 2 [some (.ref (51)), some (.int (x1)), some (.int (x2))] [] M v M') s') → (∀ r, o = .inr r → (fun r => match r with | .inl x2 => Rc X d 29 31 [none, none, none] [] M v M' | .inr q => v = some (.int q) ∧ M' = M) r) → (fun x2 => Rc X d 29 2 [some (.ref (51)), some (.int (x1)), some (.int (x2))] [] M v M') s := by
  intro x2 o h hP hE
  show Rc X d 29 2 [some (.ref (51)), some (.int (x1)), some (.int (x2))] [] M v M'
  unfold B_29_2 at h
  dsimp only at h hP hE
  refine Rc.run tb_29 2 (pc' := 4) (ls' := [some (.ref (51)), some (.int (x1)), some (.int (x2))]) (st' := [.ref (51), .int (x2)]) rfl rfl ?_
  refine Rc.getI tb_29 rfl rfl ob_51 (by decide +kernel) tg_51_5 ?_
  refine Rc.icmp_ge (pc1 := 31) tb_29 rfl rfl (by decide) (by decide) (fun hb3 => ?_) (fun hb3 => ?_)
  · rw [if_pos hb3] at h
    refine Rc.mask (b := 0) ((tb_29.2 31).trans rfl) (ls' := [none, none, none]) rfl ?_
    obtain rfl := Option.some.inj h
    exact hE _ rfl
  · rw [if_neg hb3] at h
    refine Rc.run tb_29 2 (pc' := 12) (ls' := [some (.ref (51)), some (.int (x1)), some (.int (x2))]) (st' := [.ref (51), .int (x1)]) rfl rfl ?_
    refine Rc.getR tb_29 rfl rfl ob_51 (by decide +kernel) tg_51_4 (by decide) ?_
    refine Rc.run tb_29 1 (pc' := 16) (ls' := [some (.ref (51)), some (.int (x1)), some (.int (x2))]) (st' := [.int (x2), .ref (55), .int (x1)]) rfl rfl ?_
    by_cases hb2 : inb x2 64 = true
    · rw [if_pos hb2] at h
      refine Rc.iald tb_29 rfl rfl ia_55 hb2 ?_
      refine Rc.run tb_29 3 (pc' := 20) (ls' := [some (.ref (51)), some (.int (x1)), some (.int (x2))]) (st' := [.int (x1 &&& ((M 55 x2.toNatClampNeg) ^^^ (-1)))]) rfl rfl ?_
      refine Rc.if_ne (pc1 := 25) tb_29 rfl rfl (by decide) (by decide) (fun hb1 => ?_) (fun hb1 => ?_)
      · rw [if_pos hb1] at h
        refine Rc.run tb_29 1 (pc' := 24) (ls' := [some (.ref (51)), some (.int (x1)), some (.int (x2))]) (st' := [.int (1)]) rfl rfl ?_
        obtain rfl := Option.some.inj h
        obtain ⟨rfl, rfl⟩ := hE _ rfl
        exact Rc.zret tb_29 rfl mR_29 (Or.inr rfl)
      · rw [if_neg hb1] at h
        refine Rc.run tb_29 2 (pc' := 2) (ls' := [some (.ref (51)), some (.int (x1)), some (.int (x2 + 1))]) (st' := []) rfl rfl ?_
        refine Rc.mask (b := 7) ((tb_29.2 2).trans rfl) (ls' := [some (.ref (51)), some (.int (x1)), some (.int (x2 + 1))]) rfl ?_
        obtain rfl := Option.some.inj h
        exact hP _ rfl
    · rw [if_neg hb2] at h
      cases h
theorem TL_29_2 {X : AX} {d : Nat} (hd : 0 ≤ d) {x1 : Int32} {M : IM} {x2 : Int32} {v : Option Value} {M' : IM} {r : (Int32) ⊕ (Int32)} (h : L_29_2 x1 M x2 = some r) (hE : (fun r => match r with | .inl x2 => Rc X d 29 31 [none, none, none] [] M v M' | .inr q => v = some (.int q) ∧ M' = M) r) : Rc X d 29 2 [some (.ref (51)), some (.int (x1)), some (.int (x2))] [] M v M' := by
  exact loopN_rc (P := fun x2 => Rc X d 29 2 [some (.ref (51)), some (.int (x1)), some (.int (x2))] [] M v M') (E := fun r => match r with | .inl x2 => Rc X d 29 31 [none, none, none] [] M v M' | .inr q => v = some (.int q) ∧ M' = M) (TB_29_2 (X := X) hd) FU _ r h hE
theorem TF_29 {X : AX} {d : Nat} (hd : 0 ≤ d) {a1 : Int32} {M : IM} {v : Option Value} {M' : IM} {o : Int32} (h : F_29 a1 M = some o) (hC : v = some (.int o) ∧ M' = M) : Rc X d 29 0 [some (.ref (51)), some (.int (a1)), none] [] M v M' := by
  unfold F_29 at h
  refine Rc.run tb_29 2 (pc' := 2) (ls' := [some (.ref (51)), some (.int (a1)), some (.int (0))]) (st' := []) rfl rfl ?_
  refine Rc.mask (b := 7) ((tb_29.2 2).trans rfl) (ls' := [some (.ref (51)), some (.int (a1)), some (.int (0))]) rfl ?_
  cases hl4 : L_29_2 a1 M 0 with
  | none => rw [hl4] at h; cases h
  | some rr4 =>
    rw [hl4] at h
    cases rr4 with
    | inl x2_4 =>
      dsimp only at h
      refine TL_29_2 (X := X) (d := d) (by omega) hl4 ?_
      refine Rc.run tb_29 1 (pc' := 32) (ls' := [none, none, none]) (st' := [.int (0)]) rfl rfl ?_
      obtain rfl := Option.some.inj h
      obtain ⟨rfl, rfl⟩ := hC
      exact Rc.zret tb_29 rfl mR_29 (Or.inl rfl)
    | inr q =>
      dsimp only at h
      refine TL_29_2 (X := X) (d := d) (by omega) hl4 ?_
      obtain rfl := Option.some.inj h
      obtain ⟨rfl, rfl⟩ := hC
      exact ⟨rfl, rfl⟩
theorem T_29 {X : AX} {d : Nat} (hd : 0 ≤ d) {a1 : Int32} {M : IM} {x : Int32} (h : F_29 a1 M = some x) : Rc X d 29 0 [some (.ref (51)), some (.int (a1)), none] [] M (some (.int x)) M := TF_29 hd h ⟨rfl, rfl⟩
/-! 31: NineDemands$Seeker.leftBeside -/
def J_31_51_10 (x1 : Int32) (x2 : Int32) (x3 : Int32) (x4 : Int32) (M : IM) : Option ((Int32 × Int32) ⊕ (Int32 × Int32)) := some (Sum.inl (x3, x4 + 1))
def B_31_10 (x1 : Int32) (x2 : Int32) (M : IM) : (Int32 × Int32) → Option ((Int32 × Int32) ⊕ (Int32 × Int32)) := fun (x3, x4) => if (12 : Int32) ≤ x4 then (some (Sum.inr (x3, x4))) else (if (x2 >>> (x4 &&& 31)) &&& 1 = 0 then (J_31_51_10 x1 x2 x3 x4 M) else (if inb x4 12 = true then (if inb ((((x4 * 12) + x1) * 4) + (M 54 x4.toNatClampNeg)) 576 = true then (J_31_51_10 x1 x2 (x3 &&& (M 52 ((((x4 * 12) + x1) * 4) + (M 54 x4.toNatClampNeg)).toNatClampNeg)) x4 M) else none) else none))
def L_31_10 (x1 : Int32) (x2 : Int32) (M : IM) (x3 : Int32) (x4 : Int32) : Option (Int32 × Int32) := loopN (B_31_10 x1 x2 M) FU (x3, x4)
def F_31 (a1 : Int32) (a2 : Int32) (M : IM) : Option (Int32) := if inb a1 156 = true then (match L_31_10 a1 a2 M (M 53 a1.toNatClampNeg) 0 with | none => none | some (x3_5, x4_5) => (some (x3_5))) else none
theorem TJ_31_51_10 {X : AX} {d : Nat} (hd : 0 ≤ d) {x1 : Int32} {x2 : Int32} {x3 : Int32} {x4 : Int32} {M : IM} {v : Option Value} {M' : IM} {o : (Int32 × Int32) ⊕ (Int32 × Int32)} (h : J_31_51_10 x1 x2 x3 x4 M = some o) (hP : ∀ s', o = .inl s' → (fun (x3, x4) => Rc X d 31 10 [some (.ref (51)), some (.int (x1)), some (.int (x2)), some (.int (x3)), some (.int (x4))] [] M v M') s') (hE : ∀ r, o = .inr r → (fun (x3, x4) => Rc X d 31 57 [none, none, none, some (.int (x3)), none] [] M v M') r) : Rc X d 31 51 [some (.ref (51)), some (.int (x1)), some (.int (x2)), some (.int (x3)), some (.int (x4))] [] M v M' := by
  unfold J_31_51_10 at h
  dsimp only at hP hE
  refine Rc.run tb_31 2 (pc' := 10) (ls' := [some (.ref (51)), some (.int (x1)), some (.int (x2)), some (.int (x3)), some (.int (x4 + 1))]) (st' := []) rfl rfl ?_
  refine Rc.mask (b := 31) ((tb_31.2 10).trans rfl) (ls' := [some (.ref (51)), some (.int (x1)), some (.int (x2)), some (.int (x3)), some (.int (x4 + 1))]) rfl ?_
  obtain rfl := Option.some.inj h
  exact hP _ rfl
theorem TB_31_10 {X : AX} {d : Nat} (hd : 0 ≤ d) {x1 : Int32} {x2 : Int32} {M : IM} {v : Option Value} {M' : IM} : ∀ (s : Int32 × Int32) (o : (Int32 × Int32) ⊕ (Int32 × Int32)), B_31_10 x1 x2 M s = some o → (∀ s', o = .inl s' → (fun (x3, x4) => Rc X d 31 10 [some (.ref (51)), some (.int (x1)), some (.int (x2)), some (.int (x3)), some (.int (x4))] [] M v M') s') → (∀ r, o = .inr r → (fun (x3, x4) => Rc X d 31 57 [none, none, none, some (.int (x3)), none] [] M v M') r) → (fun (x3, x4) => Rc X d 31 10 [some (.ref (51)), some (.int (x1)), some (.int (x2)), some (.int (x3)), some (.int (x4))] [] M v M') s := by
  rintro ⟨x3, x4⟩ o h hP hE
  show Rc X d 31 10 [some (.ref (51)), some (.int (x1)), some (.int (x2)), some (.int (x3)), some (.int (x4))] [] M v M'
  unfold B_31_10 at h
  dsimp only at h hP hE
  refine Rc.run tb_31 2 (pc' := 14) (ls' := [some (.ref (51)), some (.int (x1)), some (.int (x2)), some (.int (x3)), some (.int (x4))]) (st' := [.int (12), .int (x4)]) rfl rfl ?_
  refine Rc.icmp_ge (pc1 := 57) tb_31 rfl rfl (by decide) (by decide) (fun hb4 => ?_) (fun hb4 => ?_)
  · rw [if_pos hb4] at h
    refine Rc.mask (b := 8) ((tb_31.2 57).trans rfl) (ls' := [none, none, none, some (.int (x3)), none]) rfl ?_
    obtain rfl := Option.some.inj h
    exact hE _ rfl
  · rw [if_neg hb4] at h
    refine Rc.run tb_31 5 (pc' := 23) (ls' := [some (.ref (51)), some (.int (x1)), some (.int (x2)), some (.int (x3)), some (.int (x4))]) (st' := [.int ((x2 >>> (x4 &&& 31)) &&& 1)]) rfl rfl ?_
    refine Rc.if_eq (pc1 := 51) tb_31 rfl rfl (by decide) (by decide) (fun hb3 => ?_) (fun hb3 => ?_)
    · rw [if_pos hb3] at h
      refine Rc.mask (b := 31) ((tb_31.2 51).trans rfl) (ls' := [some (.ref (51)), some (.int (x1)), some (.int (x2)), some (.int (x3)), some (.int (x4))]) rfl ?_
      exact TJ_31_51_10 (X := X) (d := d) (by omega) h hP hE
    · rw [if_neg hb3] at h
      refine Rc.run tb_31 2 (pc' := 28) (ls' := [some (.ref (51)), some (.int (x1)), some (.int (x2)), some (.int (x3)), some (.int (x4))]) (st' := [.ref (51), .int (x3)]) rfl rfl ?_
      refine Rc.getR tb_31 rfl rfl ob_51 (by decide +kernel) tg_51_0 (by decide) ?_
      refine Rc.run tb_31 8 (pc' := 41) (ls' := [some (.ref (51)), some (.int (x1)), some (.int (x2)), some (.int (x3)), some (.int (x4))]) (st' := [.ref (51), .int (((x4 * 12) + x1) * 4), .ref (52), .int (x3)]) rfl rfl ?_
      refine Rc.getR tb_31 rfl rfl ob_51 (by decide +kernel) tg_51_2 (by decide) ?_
      refine Rc.run tb_31 1 (pc' := 46) (ls' := [some (.ref (51)), some (.int (x1)), some (.int (x2)), some (.int (x3)), some (.int (x4))]) (st' := [.int (x4), .ref (54), .int (((x4 * 12) + x1) * 4), .ref (52), .int (x3)]) rfl rfl ?_
      by_cases hb2 : inb x4 12 = true
      · rw [if_pos hb2] at h
        refine Rc.iald tb_31 rfl rfl ia_54 hb2 ?_
        refine Rc.run tb_31 1 (pc' := 48) (ls' := [some (.ref (51)), some (.int (x1)), some (.int (x2)), some (.int (x3)), some (.int (x4))]) (st' := [.int ((((x4 * 12) + x1) * 4) + (M 54 x4.toNatClampNeg)), .ref (52), .int (x3)]) rfl rfl ?_
        by_cases hb1 : inb ((((x4 * 12) + x1) * 4) + (M 54 x4.toNatClampNeg)) 576 = true
        · rw [if_pos hb1] at h
          refine Rc.iald tb_31 rfl rfl ia_52 hb1 ?_
          refine Rc.run tb_31 2 (pc' := 51) (ls' := [some (.ref (51)), some (.int (x1)), some (.int (x2)), some (.int (x3 &&& (M 52 ((((x4 * 12) + x1) * 4) + (M 54 x4.toNatClampNeg)).toNatClampNeg))), some (.int (x4))]) (st' := []) rfl rfl ?_
          refine Rc.mask (b := 31) ((tb_31.2 51).trans rfl) (ls' := [some (.ref (51)), some (.int (x1)), some (.int (x2)), some (.int (x3 &&& (M 52 ((((x4 * 12) + x1) * 4) + (M 54 x4.toNatClampNeg)).toNatClampNeg))), some (.int (x4))]) rfl ?_
          exact TJ_31_51_10 (X := X) (d := d) (by omega) h hP hE
        · rw [if_neg hb1] at h
          cases h
      · rw [if_neg hb2] at h
        cases h
theorem TL_31_10 {X : AX} {d : Nat} (hd : 0 ≤ d) {x1 : Int32} {x2 : Int32} {M : IM} {x3 : Int32} {x4 : Int32} {v : Option Value} {M' : IM} {r : Int32 × Int32} (h : L_31_10 x1 x2 M x3 x4 = some r) (hE : (fun (x3, x4) => Rc X d 31 57 [none, none, none, some (.int (x3)), none] [] M v M') r) : Rc X d 31 10 [some (.ref (51)), some (.int (x1)), some (.int (x2)), some (.int (x3)), some (.int (x4))] [] M v M' := by
  exact loopN_rc (P := fun (x3, x4) => Rc X d 31 10 [some (.ref (51)), some (.int (x1)), some (.int (x2)), some (.int (x3)), some (.int (x4))] [] M v M') (E := fun (x3, x4) => Rc X d 31 57 [none, none, none, some (.int (x3)), none] [] M v M') (TB_31_10 (X := X) hd) FU _ r h hE
theorem TF_31 {X : AX} {d : Nat} (hd : 0 ≤ d) {a1 : Int32} {a2 : Int32} {M : IM} {v : Option Value} {M' : IM} {o : Int32} (h : F_31 a1 a2 M = some o) (hC : v = some (.int o) ∧ M' = M) : Rc X d 31 0 [some (.ref (51)), some (.int (a1)), some (.int (a2)), none, none] [] M v M' := by
  unfold F_31 at h
  refine Rc.run tb_31 1 (pc' := 1) (ls' := [some (.ref (51)), some (.int (a1)), some (.int (a2)), none, none]) (st' := [.ref (51)]) rfl rfl ?_
  refine Rc.getR tb_31 rfl rfl ob_51 (by decide +kernel) tg_51_1 (by decide) ?_
  refine Rc.run tb_31 1 (pc' := 5) (ls' := [some (.ref (51)), some (.int (a1)), some (.int (a2)), none, none]) (st' := [.int (a1), .ref (53)]) rfl rfl ?_
  by_cases hb6 : inb a1 156 = true
  · rw [if_pos hb6] at h
    refine Rc.iald tb_31 rfl rfl ia_53 hb6 ?_
    refine Rc.run tb_31 3 (pc' := 10) (ls' := [some (.ref (51)), some (.int (a1)), some (.int (a2)), some (.int (M 53 a1.toNatClampNeg)), some (.int (0))]) (st' := []) rfl rfl ?_
    refine Rc.mask (b := 31) ((tb_31.2 10).trans rfl) (ls' := [some (.ref (51)), some (.int (a1)), some (.int (a2)), some (.int (M 53 a1.toNatClampNeg)), some (.int (0))]) rfl ?_
    cases hl5 : L_31_10 a1 a2 M (M 53 a1.toNatClampNeg) 0 with
    | none => rw [hl5] at h; cases h
    | some r5 =>
      obtain ⟨x3_5, x4_5⟩ := r5
      rw [hl5] at h
      dsimp only at h
      refine TL_31_10 (X := X) (d := d) (by omega) hl5 ?_
      refine Rc.run tb_31 1 (pc' := 58) (ls' := [none, none, none, some (.int (x3_5)), none]) (st' := [.int (x3_5)]) rfl rfl ?_
      obtain rfl := Option.some.inj h
      obtain ⟨rfl, rfl⟩ := hC
      exact Rc.iret (ins := .ireturn) tb_31 rfl mR_31
  · rw [if_neg hb6] at h
    cases h
theorem T_31 {X : AX} {d : Nat} (hd : 0 ≤ d) {a1 : Int32} {a2 : Int32} {M : IM} {x : Int32} (h : F_31 a1 a2 M = some x) : Rc X d 31 0 [some (.ref (51)), some (.int (a1)), some (.int (a2)), none, none] [] M (some (.int x)) M := TF_31 hd h ⟨rfl, rfl⟩
/-! 144: NineDemands.leastOf -/
def F_144 (a1 : Int32) : Int32 := if F_143 a1 (1 : Int32) = 0 then (if F_143 a1 (2 : Int32) = 0 then 3 else 2) else 1
theorem TF_144 {X : AX} {d : Nat} (hd : 1 ≤ d) {a1 : Int32} {M : IM} {v : Option Value} {M' : IM} {o : Int32} (h : F_144 a1 = o) (hC : v = some (.int o) ∧ M' = M) : Rc X d 144 0 [some (.int (a1))] [] M v M' := by
  obtain ⟨d, rfl⟩ : ∃ e, d = e + 1 := ⟨d - 1, by omega⟩
  unfold F_144 at h
  refine Rc.run tb_144 2 (pc' := 2) (ls' := [some (.int (a1))]) (st' := [.int (1), .int (a1)]) rfl rfl ?_
  have hq1 := T_143 (X := X) (d := d) (by omega) a1 (1 : Int32) M
  have hz1 := Rc.bool mR_143 hq1
  refine Rc.callS tb_144 rfl rfl rfl mS_143 mP_143 mL_143 rfl rfl rfl hq1 ?_
  refine Rc.if_eq (pc1 := 10) tb_144 rfl rfl (by decide) (by decide) (fun hb4 => ?_) (fun hb4 => ?_)
  · rw [if_pos hb4] at h
    refine Rc.run tb_144 2 (pc' := 12) (ls' := [some (.int (a1))]) (st' := [.int (2), .int (a1)]) rfl rfl ?_
    have hq2 := T_143 (X := X) (d := d) (by omega) a1 (2 : Int32) M
    have hz2 := Rc.bool mR_143 hq2
    refine Rc.callS tb_144 rfl rfl rfl mS_143 mP_143 mL_143 rfl rfl rfl hq2 ?_
    refine Rc.if_eq (pc1 := 22) tb_144 rfl rfl (by decide) (by decide) (fun hb3 => ?_) (fun hb3 => ?_)
    · rw [if_pos hb3] at h
      refine Rc.run tb_144 1 (pc' := 23) (ls' := [some (.int (a1))]) (st' := [.int (3)]) rfl rfl ?_
      subst h
      obtain ⟨rfl, rfl⟩ := hC
      exact Rc.iret (ins := .ireturn) tb_144 rfl mR_144
    · rw [if_neg hb3] at h
      refine Rc.run tb_144 2 (pc' := 23) (ls' := [some (.int (a1))]) (st' := [.int (2)]) rfl rfl ?_
      subst h
      obtain ⟨rfl, rfl⟩ := hC
      exact Rc.iret (ins := .ireturn) tb_144 rfl mR_144
  · rw [if_neg hb4] at h
    refine Rc.run tb_144 1 (pc' := 9) (ls' := [some (.int (a1))]) (st' := [.int (1)]) rfl rfl ?_
    subst h
    obtain ⟨rfl, rfl⟩ := hC
    exact Rc.iret (ins := .ireturn) tb_144 rfl mR_144
theorem T_144 {X : AX} {d : Nat} (hd : 1 ≤ d) (a1 : Int32) (M : IM) : Rc X d 144 0 [some (.int (a1))] [] M (some (.int (F_144 a1))) M := TF_144 hd rfl ⟨rfl, rfl⟩
/-! 30: NineDemands$Seeker.keepSeen -/
def J_30_62_14 (x2 : Int32) (x3 : Int32) (M : IM) : Option ((Int32 × Int32 × IM) ⊕ (Int32 × Int32 × IM)) := some (Sum.inl (x2, x3 + 1, M))
def J_30_38_14 (x2 : Int32) (x3 : Int32) (s0 : Int32) (M : IM) : Option ((Int32 × Int32 × IM) ⊕ (Int32 × Int32 × IM)) := if s0 = 0 then (J_30_62_14 x2 x3 M) else (if inb x3 12 = true then (J_30_62_14 (x2 ||| ((1 : Int32) <<< (x3 &&& 31))) x3 (iset M 54 x3.toNatClampNeg (F_144 s0))) else none)
def B_30_14 : (Int32 × Int32 × IM) → Option ((Int32 × Int32 × IM) ⊕ (Int32 × Int32 × IM)) := fun (x2, x3, M) => if (12 : Int32) ≤ x3 then (some (Sum.inr (x2, x3, M))) else (if (x2 >>> (x3 &&& 31)) &&& 1 = 0 then (match F_31 x3 x2 M with | none => none | some c1 => (J_30_38_14 x2 x3 c1 M)) else (J_30_38_14 x2 x3 (0 : Int32) M))
def L_30_14 (x2 : Int32) (x3 : Int32) (M : IM) : Option (Int32 × Int32 × IM) := loopN (B_30_14) FU (x2, x3, M)
def J_30_68 (x2 : Int32) (M : IM) : Option (IM) := if inb (M 51 5) 64 = true then (some (iset (iset M 55 (M 51 5).toNatClampNeg x2) 51 5 (((iset M 55 (M 51 5).toNatClampNeg x2) 51 5) + 1))) else none
def F_30 (a1 : Int32) (M : IM) : Option (IM) := if M 51 5 < 64 then (match L_30_14 a1 0 M with | none => none | some (x2_7, x3_7, M7) => (J_30_68 x2_7 M7)) else (some (M))
theorem TJ_30_62_14 {X : AX} {d : Nat} (hd : 2 ≤ d) {x2 : Int32} {x3 : Int32} {M : IM} {v : Option Value} {M' : IM} {o : (Int32 × Int32 × IM) ⊕ (Int32 × Int32 × IM)} (h : J_30_62_14 x2 x3 M = some o) (hP : ∀ s', o = .inl s' → (fun (x2, x3, M) => Rc X d 30 14 [some (.ref (51)), none, some (.int (x2)), some (.int (x3)), none] [] M v M') s') (hE : ∀ r, o = .inr r → (fun (x2, x3, M) => Rc X d 30 68 [some (.ref (51)), none, some (.int (x2)), none, none] [] M v M') r) : Rc X d 30 62 [some (.ref (51)), none, some (.int (x2)), some (.int (x3)), none] [] M v M' := by
  obtain ⟨d, rfl⟩ : ∃ e, d = e + 1 := ⟨d - 1, by omega⟩
  unfold J_30_62_14 at h
  dsimp only at hP hE
  refine Rc.run tb_30 2 (pc' := 14) (ls' := [some (.ref (51)), none, some (.int (x2)), some (.int (x3 + 1)), none]) (st' := []) rfl rfl ?_
  refine Rc.mask (b := 13) ((tb_30.2 14).trans rfl) (ls' := [some (.ref (51)), none, some (.int (x2)), some (.int (x3 + 1)), none]) rfl ?_
  obtain rfl := Option.some.inj h
  exact hP _ rfl
theorem TJ_30_38_14 {X : AX} {d : Nat} (hd : 2 ≤ d) {x2 : Int32} {x3 : Int32} {s0 : Int32} {M : IM} {v : Option Value} {M' : IM} {o : (Int32 × Int32 × IM) ⊕ (Int32 × Int32 × IM)} (h : J_30_38_14 x2 x3 s0 M = some o) (hP : ∀ s', o = .inl s' → (fun (x2, x3, M) => Rc X d 30 14 [some (.ref (51)), none, some (.int (x2)), some (.int (x3)), none] [] M v M') s') (hE : ∀ r, o = .inr r → (fun (x2, x3, M) => Rc X d 30 68 [some (.ref (51)), none, some (.int (x2)), none, none] [] M v M') r) : Rc X d 30 38 [some (.ref (51)), none, some (.int (x2)), some (.int (x3)), none] [.int (s0)] M v M' := by
  obtain ⟨d, rfl⟩ : ∃ e, d = e + 1 := ⟨d - 1, by omega⟩
  unfold J_30_38_14 at h
  dsimp only at hP hE
  refine Rc.run tb_30 2 (pc' := 42) (ls' := [some (.ref (51)), none, some (.int (x2)), some (.int (x3)), some (.int (s0))]) (st' := [.int (s0)]) rfl rfl ?_
  refine Rc.if_eq (pc1 := 62) tb_30 rfl rfl (by decide) (by decide) (fun hb4 => ?_) (fun hb4 => ?_)
  · rw [if_pos hb4] at h
    refine Rc.mask (b := 13) ((tb_30.2 62).trans rfl) (ls' := [some (.ref (51)), none, some (.int (x2)), some (.int (x3)), none]) rfl ?_
    exact TJ_30_62_14 (X := X) (d := d + 1) (by omega) h hP hE
  · rw [if_neg hb4] at h
    refine Rc.run tb_30 1 (pc' := 46) (ls' := [some (.ref (51)), none, some (.int (x2)), some (.int (x3)), some (.int (s0))]) (st' := [.ref (51)]) rfl rfl ?_
    refine Rc.getR tb_30 rfl rfl ob_51 (by decide +kernel) tg_51_2 (by decide) ?_
    refine Rc.run tb_30 2 (pc' := 52) (ls' := [some (.ref (51)), none, some (.int (x2)), some (.int (x3)), some (.int (s0))]) (st' := [.int (s0), .int (x3), .ref (54)]) rfl rfl ?_
    have hq2 := T_144 (X := X) (d := d) (by omega) s0 M
    refine Rc.callS tb_30 rfl rfl rfl mS_144 mP_144 mL_144 rfl rfl rfl hq2 ?_
    by_cases hb3 : inb x3 12 = true
    · rw [if_pos hb3] at h
      refine Rc.iast tb_30 rfl rfl ia_54 hb3 ?_
      refine Rc.run tb_30 6 (pc' := 62) (ls' := [some (.ref (51)), none, some (.int (x2 ||| ((1 : Int32) <<< (x3 &&& 31)))), some (.int (x3)), some (.int (s0))]) (st' := []) rfl rfl ?_
      refine Rc.mask (b := 13) ((tb_30.2 62).trans rfl) (ls' := [some (.ref (51)), none, some (.int (x2 ||| ((1 : Int32) <<< (x3 &&& 31)))), some (.int (x3)), none]) rfl ?_
      exact TJ_30_62_14 (X := X) (d := d + 1) (by omega) h hP hE
    · rw [if_neg hb3] at h
      cases h
theorem TB_30_14 {X : AX} {d : Nat} (hd : 2 ≤ d) {v : Option Value} {M' : IM} : ∀ (s : Int32 × Int32 × IM) (o : (Int32 × Int32 × IM) ⊕ (Int32 × Int32 × IM)), B_30_14 s = some o → (∀ s', o = .inl s' → (fun (x2, x3, M) => Rc X d 30 14 [some (.ref (51)), none, some (.int (x2)), some (.int (x3)), none] [] M v M') s') → (∀ r, o = .inr r → (fun (x2, x3, M) => Rc X d 30 68 [some (.ref (51)), none, some (.int (x2)), none, none] [] M v M') r) → (fun (x2, x3, M) => Rc X d 30 14 [some (.ref (51)), none, some (.int (x2)), some (.int (x3)), none] [] M v M') s := by
  rintro ⟨x2, x3, M⟩ o h hP hE
  show Rc X d 30 14 [some (.ref (51)), none, some (.int (x2)), some (.int (x3)), none] [] M v M'
  obtain ⟨d, rfl⟩ : ∃ e, d = e + 1 := ⟨d - 1, by omega⟩
  unfold B_30_14 at h
  dsimp only at h hP hE
  refine Rc.run tb_30 2 (pc' := 17) (ls' := [some (.ref (51)), none, some (.int (x2)), some (.int (x3)), none]) (st' := [.int (12), .int (x3)]) rfl rfl ?_
  refine Rc.icmp_ge (pc1 := 68) tb_30 rfl rfl (by decide) (by decide) (fun hb6 => ?_) (fun hb6 => ?_)
  · rw [if_pos hb6] at h
    refine Rc.mask (b := 5) ((tb_30.2 68).trans rfl) (ls' := [some (.ref (51)), none, some (.int (x2)), none, none]) rfl ?_
    obtain rfl := Option.some.inj h
    exact hE _ rfl
  · rw [if_neg hb6] at h
    refine Rc.run tb_30 5 (pc' := 25) (ls' := [some (.ref (51)), none, some (.int (x2)), some (.int (x3)), none]) (st' := [.int ((x2 >>> (x3 &&& 31)) &&& 1)]) rfl rfl ?_
    refine Rc.if_eq (pc1 := 32) tb_30 rfl rfl (by decide) (by decide) (fun hb5 => ?_) (fun hb5 => ?_)
    · rw [if_pos hb5] at h
      refine Rc.run tb_30 3 (pc' := 35) (ls' := [some (.ref (51)), none, some (.int (x2)), some (.int (x3)), none]) (st' := [.int (x2), .int (x3), .ref (51)]) rfl rfl ?_
      cases hc1 : F_31 x3 x2 M with
      | none => rw [hc1] at h; cases h
      | some c1 =>
        rw [hc1] at h
        dsimp only at h
        have hq1 := T_31 (X := X) (d := d) (by omega) (M := M) hc1
        refine Rc.callV tb_30 rfl rfl rfl mS_31 mP_31 mL_31 mO_31 rfl rfl ob_51 rfl rfl hq1 ?_
        refine Rc.mask (b := 13) ((tb_30.2 38).trans rfl) (ls' := [some (.ref (51)), none, some (.int (x2)), some (.int (x3)), none]) rfl ?_
        exact TJ_30_38_14 (X := X) (d := d + 1) (by omega) h hP hE
    · rw [if_neg hb5] at h
      refine Rc.run tb_30 2 (pc' := 38) (ls' := [some (.ref (51)), none, some (.int (x2)), some (.int (x3)), none]) (st' := [.int (0)]) rfl rfl ?_
      refine Rc.mask (b := 13) ((tb_30.2 38).trans rfl) (ls' := [some (.ref (51)), none, some (.int (x2)), some (.int (x3)), none]) rfl ?_
      exact TJ_30_38_14 (X := X) (d := d + 1) (by omega) h hP hE
theorem TL_30_14 {X : AX} {d : Nat} (hd : 2 ≤ d) {x2 : Int32} {x3 : Int32} {M : IM} {v : Option Value} {M' : IM} {r : Int32 × Int32 × IM} (h : L_30_14 x2 x3 M = some r) (hE : (fun (x2, x3, M) => Rc X d 30 68 [some (.ref (51)), none, some (.int (x2)), none, none] [] M v M') r) : Rc X d 30 14 [some (.ref (51)), none, some (.int (x2)), some (.int (x3)), none] [] M v M' := by
  exact loopN_rc (P := fun (x2, x3, M) => Rc X d 30 14 [some (.ref (51)), none, some (.int (x2)), some (.int (x3)), none] [] M v M') (E := fun (x2, x3, M) => Rc X d 30 68 [some (.ref (51)), none, some (.int (x2)), none, none] [] M v M') (TB_30_14 (X := X) hd) FU _ r h hE
theorem TJ_30_68 {X : AX} {d : Nat} (hd : 2 ≤ d) {x2 : Int32} {M : IM} {v : Option Value} {M' : IM} {o : IM} (h : J_30_68 x2 M = some o) (hC : v = none ∧ M' = o) : Rc X d 30 68 [some (.ref (51)), none, some (.int (x2)), none, none] [] M v M' := by
  obtain ⟨d, rfl⟩ : ∃ e, d = e + 1 := ⟨d - 1, by omega⟩
  unfold J_30_68 at h
  refine Rc.run tb_30 1 (pc' := 69) (ls' := [some (.ref (51)), none, some (.int (x2)), none, none]) (st' := [.ref (51)]) rfl rfl ?_
  refine Rc.getR tb_30 rfl rfl ob_51 (by decide +kernel) tg_51_4 (by decide) ?_
  refine Rc.run tb_30 1 (pc' := 73) (ls' := [some (.ref (51)), none, some (.int (x2)), none, none]) (st' := [.ref (51), .ref (55)]) rfl rfl ?_
  refine Rc.getI tb_30 rfl rfl ob_51 (by decide +kernel) tg_51_5 ?_
  refine Rc.run tb_30 1 (pc' := 77) (ls' := [some (.ref (51)), none, some (.int (x2)), none, none]) (st' := [.int (x2), .int (M 51 5), .ref (55)]) rfl rfl ?_
  by_cases hb8 : inb (M 51 5) 64 = true
  · rw [if_pos hb8] at h
    refine Rc.iast tb_30 rfl rfl ia_55 hb8 ?_
    refine Rc.run tb_30 2 (pc' := 80) (ls' := [some (.ref (51)), none, some (.int (x2)), none, none]) (st' := [.ref (51), .ref (51)]) rfl rfl ?_
    refine Rc.getI tb_30 rfl rfl ob_51 (by decide +kernel) tg_51_5 ?_
    refine Rc.run tb_30 2 (pc' := 85) (ls' := [some (.ref (51)), none, some (.int (x2)), none, none]) (st' := [.int (((iset M 55 (M 51 5).toNatClampNeg x2) 51 5) + 1), .ref (51)]) rfl rfl ?_
    refine Rc.putI tb_30 rfl rfl ob_51 (by decide +kernel) tg_51_5 rfl ?_
    obtain rfl := Option.some.inj h
    obtain ⟨rfl, rfl⟩ := hC
    exact Rc.vret tb_30 rfl mR_30
  · rw [if_neg hb8] at h
    cases h
theorem TF_30 {X : AX} {d : Nat} (hd : 2 ≤ d) {a1 : Int32} {M : IM} {v : Option Value} {M' : IM} {o : IM} (h : F_30 a1 M = some o) (hC : v = none ∧ M' = o) : Rc X d 30 0 [some (.ref (51)), some (.int (a1)), none, none, none] [] M v M' := by
  obtain ⟨d, rfl⟩ : ∃ e, d = e + 1 := ⟨d - 1, by omega⟩
  unfold F_30 at h
  refine Rc.run tb_30 1 (pc' := 1) (ls' := [some (.ref (51)), some (.int (a1)), none, none, none]) (st' := [.ref (51)]) rfl rfl ?_
  refine Rc.getI tb_30 rfl rfl ob_51 (by decide +kernel) tg_51_5 ?_
  refine Rc.run tb_30 1 (pc' := 6) (ls' := [some (.ref (51)), some (.int (a1)), none, none, none]) (st' := [.int (64), .int (M 51 5)]) rfl rfl ?_
  refine Rc.icmp_lt (pc1 := 10) tb_30 rfl rfl (by decide) (by decide) (fun hb9 => ?_) (fun hb9 => ?_)
  · rw [if_pos hb9] at h
    refine Rc.run tb_30 4 (pc' := 14) (ls' := [some (.ref (51)), some (.int (a1)), some (.int (a1)), some (.int (0)), none]) (st' := []) rfl rfl ?_
    refine Rc.mask (b := 13) ((tb_30.2 14).trans rfl) (ls' := [some (.ref (51)), none, some (.int (a1)), some (.int (0)), none]) rfl ?_
    cases hl7 : L_30_14 a1 0 M with
    | none => rw [hl7] at h; cases h
    | some r7 =>
      obtain ⟨x2_7, x3_7, M7⟩ := r7
      rw [hl7] at h
      dsimp only at h
      refine TL_30_14 (X := X) (d := d + 1) (by omega) hl7 ?_
      refine Rc.mask (b := 5) ((tb_30.2 68).trans rfl) (ls' := [some (.ref (51)), none, some (.int (x2_7)), none, none]) rfl ?_
      exact TJ_30_68 (X := X) (d := d + 1) (by omega) h hC
  · rw [if_neg hb9] at h
    obtain rfl := Option.some.inj h
    obtain ⟨rfl, rfl⟩ := hC
    exact Rc.vret tb_30 rfl mR_30
theorem T_30 {X : AX} {d : Nat} (hd : 2 ≤ d) {a1 : Int32} {M : IM} {M1 : IM} (h : F_30 a1 M = some M1) : Rc X d 30 0 [some (.ref (51)), some (.int (a1)), none, none, none] [] M none M1 := TF_30 hd h ⟨rfl, rfl⟩
/-! 32: NineDemands$Seeker.nextOfSize -/
def F_32 (a1 : Int32) : Option (Int32) := if a1 &&& (-a1) = 0 then (some (a1)) else (if (a1 &&& (-a1)) = 0 then none else (some ((a1 + (a1 &&& (-a1))) ||| (((a1 ^^^ (a1 + (a1 &&& (-a1)))) / (a1 &&& (-a1))) >>> ((2 : Int32) &&& 31)))))
theorem TF_32 {X : AX} {d : Nat} (hd : 0 ≤ d) {a1 : Int32} {M : IM} {v : Option Value} {M' : IM} {o : Int32} (h : F_32 a1 = some o) (hC : v = some (.int o) ∧ M' = M) : Rc X d 32 0 [some (.int (a1)), none, none] [] M v M' := by
  unfold F_32 at h
  refine Rc.run tb_32 6 (pc' := 6) (ls' := [some (.int (a1)), some (.int (a1 &&& (-a1))), none]) (st' := [.int (a1 &&& (-a1))]) rfl rfl ?_
  refine Rc.if_ne (pc1 := 11) tb_32 rfl rfl (by decide) (by decide) (fun hb2 => ?_) (fun hb2 => ?_)
  · rw [if_pos hb2] at h
    refine Rc.run tb_32 1 (pc' := 10) (ls' := [some (.int (a1)), some (.int (a1 &&& (-a1))), none]) (st' := [.int (a1)]) rfl rfl ?_
    obtain rfl := Option.some.inj h
    obtain ⟨rfl, rfl⟩ := hC
    exact Rc.iret (ins := .ireturn) tb_32 rfl mR_32
  · rw [if_neg hb2] at h
    refine Rc.run tb_32 9 (pc' := 20) (ls' := [some (.int (a1)), some (.int (a1 &&& (-a1))), some (.int (a1 + (a1 &&& (-a1))))]) (st' := [.int (a1 &&& (-a1)), .int (a1 ^^^ (a1 + (a1 &&& (-a1)))), .int (a1 + (a1 &&& (-a1)))]) rfl rfl ?_
    by_cases hb1 : (a1 &&& (-a1)) = 0
    · rw [if_pos hb1] at h
      cases h
    · rw [if_neg hb1] at h
      refine Rc.idiv tb_32 rfl rfl hb1 ?_
      refine Rc.run tb_32 3 (pc' := 24) (ls' := [some (.int (a1)), some (.int (a1 &&& (-a1))), some (.int (a1 + (a1 &&& (-a1))))]) (st' := [.int ((a1 + (a1 &&& (-a1))) ||| (((a1 ^^^ (a1 + (a1 &&& (-a1)))) / (a1 &&& (-a1))) >>> ((2 : Int32) &&& 31)))]) rfl rfl ?_
      obtain rfl := Option.some.inj h
      obtain ⟨rfl, rfl⟩ := hC
      exact Rc.iret (ins := .ireturn) tb_32 rfl mR_32
theorem T_32 {X : AX} {d : Nat} (hd : 0 ≤ d) {a1 : Int32} {M : IM} {x : Int32} (h : F_32 a1 = some x) : Rc X d 32 0 [some (.int (a1)), none, none] [] M (some (.int x)) M := TF_32 hd h ⟨rfl, rfl⟩
/-! 34: NineDemands$Sheet.isMissing -/
def F_34 (t0 : Nat) (M : IM) : Int32 := if M t0 0 = 0 then 1 else 0
theorem TF_34 {X : AX} {d : Nat} (hd : 0 ≤ d) {t0 : Nat} {M : IM} (ht0 : ShH t0) {v : Option Value} {M' : IM} {o : Int32} (h : F_34 t0 M = o) (hC : v = some (.int o) ∧ M' = M) : Rc X d 34 0 [some (.ref (t0))] [] M v M' := by
  unfold F_34 at h
  refine Rc.run tb_34 1 (pc' := 1) (ls' := [some (.ref (t0))]) (st' := [.ref (t0)]) rfl rfl ?_
  refine Rc.getI tb_34 rfl rfl (ShH.ob ht0) (by decide +kernel) (ShH.f0 ht0) ?_
  refine Rc.if_ne (pc1 := 11) tb_34 rfl rfl (by decide) (by decide) (fun hb1 => ?_) (fun hb1 => ?_)
  · rw [if_pos hb1] at h
    refine Rc.run tb_34 2 (pc' := 12) (ls' := [some (.ref (t0))]) (st' := [.int (1)]) rfl rfl ?_
    subst h
    obtain ⟨rfl, rfl⟩ := hC
    exact Rc.zret tb_34 rfl mR_34 (Or.inr rfl)
  · rw [if_neg hb1] at h
    refine Rc.run tb_34 1 (pc' := 12) (ls' := [some (.ref (t0))]) (st' := [.int (0)]) rfl rfl ?_
    subst h
    obtain ⟨rfl, rfl⟩ := hC
    exact Rc.zret tb_34 rfl mR_34 (Or.inl rfl)
theorem T_34 {X : AX} {d : Nat} (hd : 0 ≤ d) {t0 : Nat} (ht0 : ShH t0) (M : IM) : Rc X d 34 0 [some (.ref (t0))] [] M (some (.int (F_34 t0 M))) M := TF_34 hd ht0 rfl ⟨rfl, rfl⟩
/-! 35: NineDemands$Sheet.begin -/
def F_35 (t0 : Nat) (a1 : Int32) (a2 : Int32) (M : IM) : Option (IM) := (match F_256 (t0 + 1) (0 : Int32) (iset (iset M t0 0 a1) t0 1 a2) with | none => none | some M1 => (some (M1)))
theorem TF_35 {X : AX} {d : Nat} (hd : 1 ≤ d) {t0 : Nat} {a1 : Int32} {a2 : Int32} {M : IM} (ht0 : ShH t0) {v : Option Value} {M' : IM} {o : IM} (h : F_35 t0 a1 a2 M = some o) (hC : v = none ∧ M' = o) : Rc X d 35 0 [some (.ref (t0)), some (.int (a1)), some (.int (a2))] [] M v M' := by
  obtain ⟨d, rfl⟩ : ∃ e, d = e + 1 := ⟨d - 1, by omega⟩
  unfold F_35 at h
  refine Rc.run tb_35 2 (pc' := 2) (ls' := [some (.ref (t0)), some (.int (a1)), some (.int (a2))]) (st' := [.int (a1), .ref (t0)]) rfl rfl ?_
  refine Rc.putI tb_35 rfl rfl (ShH.ob ht0) (by decide +kernel) (ShH.f0 ht0) rfl ?_
  refine Rc.run tb_35 2 (pc' := 7) (ls' := [some (.ref (t0)), some (.int (a1)), some (.int (a2))]) (st' := [.int (a2), .ref (t0)]) rfl rfl ?_
  refine Rc.putI tb_35 rfl rfl (ShH.ob ht0) (by decide +kernel) (ShH.f1 ht0) rfl ?_
  refine Rc.run tb_35 1 (pc' := 11) (ls' := [some (.ref (t0)), some (.int (a1)), some (.int (a2))]) (st' := [.ref (t0)]) rfl rfl ?_
  refine Rc.getR tb_35 rfl rfl (ShH.ob ht0) (by decide +kernel) (ShH.f2 ht0) (by have := ShH.lt ht0; omega) ?_
  refine Rc.run tb_35 1 (pc' := 15) (ls' := [some (.ref (t0)), some (.int (a1)), some (.int (a2))]) (st' := [.int (0), .ref ((t0 + 1))]) rfl rfl ?_
  cases hc1 : F_256 (t0 + 1) (0 : Int32) (iset (iset M t0 0 a1) t0 1 a2) with
  | none => rw [hc1] at h; cases h
  | some M1 =>
    rw [hc1] at h
    dsimp only at h
    have hq1 := T_256 (X := X) (d := d) (by omega) (M := iset (iset M t0 0 a1) t0 1 a2) ((ShH.row ht0)).1 hc1
    refine Rc.callS tb_35 rfl rfl rfl mS_256 mP_256 mL_256 rfl rfl rfl hq1 ?_
    obtain rfl := Option.some.inj h
    obtain ⟨rfl, rfl⟩ := hC
    exact Rc.vret tb_35 rfl mR_35
theorem T_35 {X : AX} {d : Nat} (hd : 1 ≤ d) {t0 : Nat} {a1 : Int32} {a2 : Int32} {M : IM} (ht0 : ShH t0) {M1 : IM} (h : F_35 t0 a1 a2 M = some M1) : Rc X d 35 0 [some (.ref (t0)), some (.int (a1)), some (.int (a2))] [] M none M1 := TF_35 hd ht0 h ⟨rfl, rfl⟩
/-! 36: NineDemands$Sheet.cut -/
def F_36 (t0 : Nat) (a1 : Int32) (M : IM) : Int32 := if M t0 0 = 8 then a1.toInt8.toInt32 else (if M t0 0 = 16 then a1.toInt16.toInt32 else a1)
theorem TF_36 {X : AX} {d : Nat} (hd : 0 ≤ d) {t0 : Nat} {a1 : Int32} {M : IM} (ht0 : ShH t0) {v : Option Value} {M' : IM} {o : Int32} (h : F_36 t0 a1 M = o) (hC : v = some (.int o) ∧ M' = M) : Rc X d 36 0 [some (.ref (t0)), some (.int (a1))] [] M v M' := by
  unfold F_36 at h
  refine Rc.run tb_36 1 (pc' := 1) (ls' := [some (.ref (t0)), some (.int (a1))]) (st' := [.ref (t0)]) rfl rfl ?_
  refine Rc.getI tb_36 rfl rfl (ShH.ob ht0) (by decide +kernel) (ShH.f0 ht0) ?_
  refine Rc.run tb_36 1 (pc' := 6) (ls' := [some (.ref (t0)), some (.int (a1))]) (st' := [.int (8), .int (M t0 0)]) rfl rfl ?_
  refine Rc.icmp_ne (pc1 := 12) tb_36 rfl rfl (by decide) (by decide) (fun hb2 => ?_) (fun hb2 => ?_)
  · rw [if_pos hb2] at h
    refine Rc.run tb_36 2 (pc' := 11) (ls' := [some (.ref (t0)), some (.int (a1))]) (st' := [.int (a1.toInt8.toInt32)]) rfl rfl ?_
    subst h
    obtain ⟨rfl, rfl⟩ := hC
    exact Rc.iret (ins := .ireturn) tb_36 rfl mR_36
  · rw [if_neg hb2] at h
    refine Rc.run tb_36 1 (pc' := 13) (ls' := [some (.ref (t0)), some (.int (a1))]) (st' := [.ref (t0)]) rfl rfl ?_
    refine Rc.getI tb_36 rfl rfl (ShH.ob ht0) (by decide +kernel) (ShH.f0 ht0) ?_
    refine Rc.run tb_36 1 (pc' := 18) (ls' := [some (.ref (t0)), some (.int (a1))]) (st' := [.int (16), .int (M t0 0)]) rfl rfl ?_
    refine Rc.icmp_ne (pc1 := 26) tb_36 rfl rfl (by decide) (by decide) (fun hb1 => ?_) (fun hb1 => ?_)
    · rw [if_pos hb1] at h
      refine Rc.run tb_36 3 (pc' := 27) (ls' := [some (.ref (t0)), some (.int (a1))]) (st' := [.int (a1.toInt16.toInt32)]) rfl rfl ?_
      subst h
      obtain ⟨rfl, rfl⟩ := hC
      exact Rc.iret (ins := .ireturn) tb_36 rfl mR_36
    · rw [if_neg hb1] at h
      refine Rc.run tb_36 1 (pc' := 27) (ls' := [some (.ref (t0)), some (.int (a1))]) (st' := [.int (a1)]) rfl rfl ?_
      subst h
      obtain ⟨rfl, rfl⟩ := hC
      exact Rc.iret (ins := .ireturn) tb_36 rfl mR_36
theorem T_36 {X : AX} {d : Nat} (hd : 0 ≤ d) {t0 : Nat} (ht0 : ShH t0) (a1 : Int32) (M : IM) : Rc X d 36 0 [some (.ref (t0)), some (.int (a1))] [] M (some (.int (F_36 t0 a1 M))) M := TF_36 hd ht0 rfl ⟨rfl, rfl⟩
/-! 37: NineDemands$Sheet.hasRow -/
def F_37 (t0 : Nat) (a1 : Int32) (a2 : Int32) (M : IM) : Int32 := if a1 < 0 then 0 else (if a2 < 0 then 0 else (if M t0 1 < a2 then 0 else (if (M t0 1) - a2 < a1 then 0 else 1)))
theorem TF_37 {X : AX} {d : Nat} (hd : 0 ≤ d) {t0 : Nat} {a1 : Int32} {a2 : Int32} {M : IM} (ht0 : ShH t0) {v : Option Value} {M' : IM} {o : Int32} (h : F_37 t0 a1 a2 M = o) (hC : v = some (.int o) ∧ M' = M) : Rc X d 37 0 [some (.ref (t0)), some (.int (a1)), some (.int (a2))] [] M v M' := by
  unfold F_37 at h
  refine Rc.run tb_37 1 (pc' := 1) (ls' := [some (.ref (t0)), some (.int (a1)), some (.int (a2))]) (st' := [.int (a1)]) rfl rfl ?_
  refine Rc.if_lt (pc1 := 30) tb_37 rfl rfl (by decide) (by decide) (fun hb4 => ?_) (fun hb4 => ?_)
  · rw [if_pos hb4] at h
    refine Rc.run tb_37 1 (pc' := 31) (ls' := [none, none, none]) (st' := [.int (0)]) rfl rfl ?_
    subst h
    obtain ⟨rfl, rfl⟩ := hC
    exact Rc.zret tb_37 rfl mR_37 (Or.inl rfl)
  · rw [if_neg hb4] at h
    refine Rc.run tb_37 1 (pc' := 5) (ls' := [some (.ref (t0)), some (.int (a1)), some (.int (a2))]) (st' := [.int (a2)]) rfl rfl ?_
    refine Rc.if_lt (pc1 := 30) tb_37 rfl rfl (by decide) (by decide) (fun hb3 => ?_) (fun hb3 => ?_)
    · rw [if_pos hb3] at h
      refine Rc.run tb_37 1 (pc' := 31) (ls' := [none, none, none]) (st' := [.int (0)]) rfl rfl ?_
      subst h
      obtain ⟨rfl, rfl⟩ := hC
      exact Rc.zret tb_37 rfl mR_37 (Or.inl rfl)
    · rw [if_neg hb3] at h
      refine Rc.run tb_37 2 (pc' := 10) (ls' := [some (.ref (t0)), some (.int (a1)), some (.int (a2))]) (st' := [.ref (t0), .int (a2)]) rfl rfl ?_
      refine Rc.getI tb_37 rfl rfl (ShH.ob ht0) (by decide +kernel) (ShH.f1 ht0) ?_
      refine Rc.icmp_gt (pc1 := 30) tb_37 rfl rfl (by decide) (by decide) (fun hb2 => ?_) (fun hb2 => ?_)
      · rw [if_pos hb2] at h
        refine Rc.run tb_37 1 (pc' := 31) (ls' := [none, none, none]) (st' := [.int (0)]) rfl rfl ?_
        subst h
        obtain ⟨rfl, rfl⟩ := hC
        exact Rc.zret tb_37 rfl mR_37 (Or.inl rfl)
      · rw [if_neg hb2] at h
        refine Rc.run tb_37 2 (pc' := 18) (ls' := [some (.ref (t0)), some (.int (a1)), some (.int (a2))]) (st' := [.ref (t0), .int (a1)]) rfl rfl ?_
        refine Rc.getI tb_37 rfl rfl (ShH.ob ht0) (by decide +kernel) (ShH.f1 ht0) ?_
        refine Rc.run tb_37 2 (pc' := 23) (ls' := [some (.ref (t0)), some (.int (a1)), some (.int (a2))]) (st' := [.int ((M t0 1) - a2), .int (a1)]) rfl rfl ?_
        refine Rc.icmp_gt (pc1 := 30) tb_37 rfl rfl (by decide) (by decide) (fun hb1 => ?_) (fun hb1 => ?_)
        · rw [if_pos hb1] at h
          refine Rc.run tb_37 1 (pc' := 31) (ls' := [none, none, none]) (st' := [.int (0)]) rfl rfl ?_
          subst h
          obtain ⟨rfl, rfl⟩ := hC
          exact Rc.zret tb_37 rfl mR_37 (Or.inl rfl)
        · rw [if_neg hb1] at h
          refine Rc.run tb_37 2 (pc' := 31) (ls' := [some (.ref (t0)), some (.int (a1)), some (.int (a2))]) (st' := [.int (1)]) rfl rfl ?_
          subst h
          obtain ⟨rfl, rfl⟩ := hC
          exact Rc.zret tb_37 rfl mR_37 (Or.inr rfl)
theorem T_37 {X : AX} {d : Nat} (hd : 0 ≤ d) {t0 : Nat} (ht0 : ShH t0) (a1 : Int32) (a2 : Int32) (M : IM) : Rc X d 37 0 [some (.ref (t0)), some (.int (a1)), some (.int (a2))] [] M (some (.int (F_37 t0 a1 a2 M))) M := TF_37 hd ht0 rfl ⟨rfl, rfl⟩
/-! 39: NineDemands$Showing.begin -/
def F_39 (M : IM) : Option (IM) := (match F_256 63 (7 : Int32) M with | none => none | some M1 => (some (iset (iset M1 62 2 0) 62 3 0)))
theorem TF_39 {X : AX} {d : Nat} (hd : 1 ≤ d) {M : IM} {v : Option Value} {M' : IM} {o : IM} (h : F_39 M = some o) (hC : v = none ∧ M' = o) : Rc X d 39 0 [some (.ref (62))] [] M v M' := by
  obtain ⟨d, rfl⟩ : ∃ e, d = e + 1 := ⟨d - 1, by omega⟩
  unfold F_39 at h
  refine Rc.run tb_39 1 (pc' := 1) (ls' := [some (.ref (62))]) (st' := [.ref (62)]) rfl rfl ?_
  refine Rc.getR tb_39 rfl rfl ob_62 (by decide +kernel) tg_62_0 (by decide) ?_
  refine Rc.run tb_39 1 (pc' := 6) (ls' := [some (.ref (62))]) (st' := [.int (7), .ref (63)]) rfl rfl ?_
  cases hc1 : F_256 63 (7 : Int32) M with
  | none => rw [hc1] at h; cases h
  | some M1 =>
    rw [hc1] at h
    dsimp only at h
    have hq1 := T_256 (X := X) (d := d) (by omega) (M := M) (ia_63).1 hc1
    refine Rc.callS tb_39 rfl rfl rfl mS_256 mP_256 mL_256 rfl rfl rfl hq1 ?_
    refine Rc.run tb_39 2 (pc' := 11) (ls' := [some (.ref (62))]) (st' := [.int (0), .ref (62)]) rfl rfl ?_
    refine Rc.putI tb_39 rfl rfl ob_62 (by decide +kernel) tg_62_2 rfl ?_
    refine Rc.run tb_39 2 (pc' := 16) (ls' := [some (.ref (62))]) (st' := [.int (0), .ref (62)]) rfl rfl ?_
    refine Rc.putI tb_39 rfl rfl ob_62 (by decide +kernel) tg_62_3 (fokZ (Or.inl rfl)) ?_
    obtain rfl := Option.some.inj h
    obtain ⟨rfl, rfl⟩ := hC
    exact Rc.vret tb_39 rfl mR_39
theorem T_39 {X : AX} {d : Nat} (hd : 1 ≤ d) {M : IM} {M1 : IM} (h : F_39 M = some M1) : Rc X d 39 0 [some (.ref (62))] [] M none M1 := TF_39 hd h ⟨rfl, rfl⟩
/-! 42: NineDemands$Showing.failsAsFirst -/
def J_42_36 (x4 : Int32) (M : IM) : Option (Int32) := if x4 = 0 then (some (1)) else (some (0))
def F_42 (t1 : Nat) (a2 : Int32) (a3 : Int32) (M : IM) : Option (Int32) := (match F_18 t1 a2 a3 M with | none => none | some c1 => (if F_1 (M t1 0) = 0 then (J_42_36 c1 M) else (match F_3 (M t1 0) a2 with | none => none | some c4 => (if inb c4 12 = true then (J_42_36 (c1 &&& (M 63 c4.toNatClampNeg)) M) else none))))
theorem TJ_42_36 {X : AX} {d : Nat} (hd : 3 ≤ d) {x4 : Int32} {M : IM} {v : Option Value} {M' : IM} {o : Int32} (h : J_42_36 x4 M = some o) (hC : v = some (.int o) ∧ M' = M) : Rc X d 42 36 [none, none, none, none, some (.int (x4))] [] M v M' := by
  obtain ⟨d, rfl⟩ : ∃ e, d = e + 1 := ⟨d - 1, by omega⟩
  unfold J_42_36 at h
  refine Rc.run tb_42 1 (pc' := 38) (ls' := [none, none, none, none, some (.int (x4))]) (st' := [.int (x4)]) rfl rfl ?_
  refine Rc.if_ne (pc1 := 45) tb_42 rfl rfl (by decide) (by decide) (fun hb3 => ?_) (fun hb3 => ?_)
  · rw [if_pos hb3] at h
    refine Rc.run tb_42 2 (pc' := 46) (ls' := [none, none, none, none, some (.int (x4))]) (st' := [.int (1)]) rfl rfl ?_
    obtain rfl := Option.some.inj h
    obtain ⟨rfl, rfl⟩ := hC
    exact Rc.zret tb_42 rfl mR_42 (Or.inr rfl)
  · rw [if_neg hb3] at h
    refine Rc.run tb_42 1 (pc' := 46) (ls' := [none, none, none, none, some (.int (x4))]) (st' := [.int (0)]) rfl rfl ?_
    obtain rfl := Option.some.inj h
    obtain ⟨rfl, rfl⟩ := hC
    exact Rc.zret tb_42 rfl mR_42 (Or.inl rfl)
theorem TF_42 {X : AX} {d : Nat} (hd : 3 ≤ d) {t1 : Nat} {a2 : Int32} {a3 : Int32} {M : IM} (ht1 : LawH t1) {v : Option Value} {M' : IM} {o : Int32} (h : F_42 t1 a2 a3 M = some o) (hC : v = some (.int o) ∧ M' = M) : Rc X d 42 0 [some (.ref (62)), some (.ref (t1)), some (.int (a2)), some (.int (a3)), none] [] M v M' := by
  obtain ⟨d, rfl⟩ : ∃ e, d = e + 1 := ⟨d - 1, by omega⟩
  unfold F_42 at h
  refine Rc.run tb_42 3 (pc' := 3) (ls' := [some (.ref (62)), some (.ref (t1)), some (.int (a2)), some (.int (a3)), none]) (st' := [.int (a3), .int (a2), .ref (t1)]) rfl rfl ?_
  cases hc1 : F_18 t1 a2 a3 M with
  | none => rw [hc1] at h; cases h
  | some c1 =>
    rw [hc1] at h
    dsimp only at h
    have hq1 := T_18 (X := X) (d := d) (by omega) (M := M) ht1 hc1
    refine Rc.callV tb_42 rfl rfl rfl mS_18 mP_18 mL_18 mO_18 rfl rfl (LawH.ob ht1) rfl rfl hq1 ?_
    refine Rc.run tb_42 2 (pc' := 9) (ls' := [some (.ref (62)), some (.ref (t1)), some (.int (a2)), some (.int (a3)), some (.int (c1))]) (st' := [.ref (t1)]) rfl rfl ?_
    refine Rc.getI tb_42 rfl rfl (LawH.ob ht1) (by decide +kernel) (LawH.f0 ht1) ?_
    have hq2 := T_1 (X := X) (d := d) (by omega) (M t1 0) M
    have hz2 := Rc.bool mR_1 hq2
    refine Rc.callS tb_42 rfl rfl rfl mS_1 mP_1 mL_1 rfl rfl rfl hq2 ?_
    refine Rc.if_eq (pc1 := 36) tb_42 rfl rfl (by decide) (by decide) (fun hb6 => ?_) (fun hb6 => ?_)
    · rw [if_pos hb6] at h
      refine Rc.mask (b := 16) ((tb_42.2 36).trans rfl) (ls' := [none, none, none, none, some (.int (c1))]) rfl ?_
      exact TJ_42_36 (X := X) (d := d + 1) (by omega) h hC
    · rw [if_neg hb6] at h
      refine Rc.run tb_42 2 (pc' := 21) (ls' := [some (.ref (62)), some (.ref (t1)), some (.int (a2)), some (.int (a3)), some (.int (c1))]) (st' := [.ref (62), .int (c1)]) rfl rfl ?_
      refine Rc.getR tb_42 rfl rfl ob_62 (by decide +kernel) tg_62_0 (by decide) ?_
      refine Rc.run tb_42 1 (pc' := 25) (ls' := [some (.ref (62)), some (.ref (t1)), some (.int (a2)), some (.int (a3)), some (.int (c1))]) (st' := [.ref (t1), .ref (63), .int (c1)]) rfl rfl ?_
      refine Rc.getI tb_42 rfl rfl (LawH.ob ht1) (by decide +kernel) (LawH.f0 ht1) ?_
      refine Rc.run tb_42 1 (pc' := 29) (ls' := [some (.ref (62)), some (.ref (t1)), some (.int (a2)), some (.int (a3)), some (.int (c1))]) (st' := [.int (a2), .int (M t1 0), .ref (63), .int (c1)]) rfl rfl ?_
      cases hc4 : F_3 (M t1 0) a2 with
      | none => rw [hc4] at h; cases h
      | some c4 =>
        rw [hc4] at h
        dsimp only at h
        have hq4 := T_3 (X := X) (d := d) (by omega) (M := M) hc4
        refine Rc.callS tb_42 rfl rfl rfl mS_3 mP_3 mL_3 rfl rfl rfl hq4 ?_
        by_cases hb5 : inb c4 12 = true
        · rw [if_pos hb5] at h
          refine Rc.iald tb_42 rfl rfl ia_63 hb5 ?_
          refine Rc.run tb_42 2 (pc' := 36) (ls' := [some (.ref (62)), some (.ref (t1)), some (.int (a2)), some (.int (a3)), some (.int (c1 &&& (M 63 c4.toNatClampNeg)))]) (st' := []) rfl rfl ?_
          refine Rc.mask (b := 16) ((tb_42.2 36).trans rfl) (ls' := [none, none, none, none, some (.int (c1 &&& (M 63 c4.toNatClampNeg)))]) rfl ?_
          exact TJ_42_36 (X := X) (d := d + 1) (by omega) h hC
        · rw [if_neg hb5] at h
          cases h
theorem T_42 {X : AX} {d : Nat} (hd : 3 ≤ d) {t1 : Nat} {a2 : Int32} {a3 : Int32} {M : IM} (ht1 : LawH t1) {x : Int32} (h : F_42 t1 a2 a3 M = some x) : Rc X d 42 0 [some (.ref (62)), some (.ref (t1)), some (.int (a2)), some (.int (a3)), none] [] M (some (.int x)) M := TF_42 hd ht1 h ⟨rfl, rfl⟩
/-! 43: NineDemands$Showing.failsAsSecond -/
def F_43 (t1 : Nat) (a2 : Int32) (a3 : Int32) (M : IM) : Option (Int32) := if F_1 (M t1 0) = 0 then (some (0)) else (match F_19 t1 a2 a3 M with | none => none | some c2 => (match F_2 (M t1 0) a2 with | none => none | some c3 => (if inb c3 12 = true then (if c2 &&& (M 63 c3.toNatClampNeg) = 0 then (some (1)) else (some (0))) else none)))
theorem TF_43 {X : AX} {d : Nat} (hd : 1 ≤ d) {t1 : Nat} {a2 : Int32} {a3 : Int32} {M : IM} (ht1 : LawH t1) {v : Option Value} {M' : IM} {o : Int32} (h : F_43 t1 a2 a3 M = some o) (hC : v = some (.int o) ∧ M' = M) : Rc X d 43 0 [some (.ref (62)), some (.ref (t1)), some (.int (a2)), some (.int (a3))] [] M v M' := by
  obtain ⟨d, rfl⟩ : ∃ e, d = e + 1 := ⟨d - 1, by omega⟩
  unfold F_43 at h
  refine Rc.run tb_43 1 (pc' := 1) (ls' := [some (.ref (62)), some (.ref (t1)), some (.int (a2)), some (.int (a3))]) (st' := [.ref (t1)]) rfl rfl ?_
  refine Rc.getI tb_43 rfl rfl (LawH.ob ht1) (by decide +kernel) (LawH.f0 ht1) ?_
  have hq1 := T_1 (X := X) (d := d) (by omega) (M t1 0) M
  have hz1 := Rc.bool mR_1 hq1
  refine Rc.callS tb_43 rfl rfl rfl mS_1 mP_1 mL_1 rfl rfl rfl hq1 ?_
  refine Rc.if_eq (pc1 := 37) tb_43 rfl rfl (by decide) (by decide) (fun hb6 => ?_) (fun hb6 => ?_)
  · rw [if_pos hb6] at h
    refine Rc.run tb_43 1 (pc' := 38) (ls' := [none, none, none, none]) (st' := [.int (0)]) rfl rfl ?_
    obtain rfl := Option.some.inj h
    obtain ⟨rfl, rfl⟩ := hC
    exact Rc.zret tb_43 rfl mR_43 (Or.inl rfl)
  · rw [if_neg hb6] at h
    refine Rc.run tb_43 3 (pc' := 13) (ls' := [some (.ref (62)), some (.ref (t1)), some (.int (a2)), some (.int (a3))]) (st' := [.int (a3), .int (a2), .ref (t1)]) rfl rfl ?_
    cases hc2 : F_19 t1 a2 a3 M with
    | none => rw [hc2] at h; cases h
    | some c2 =>
      rw [hc2] at h
      dsimp only at h
      have hq2 := T_19 (X := X) (d := d) (by omega) (M := M) ht1 hc2
      refine Rc.callV tb_43 rfl rfl rfl mS_19 mP_19 mL_19 mO_19 rfl rfl (LawH.ob ht1) rfl rfl hq2 ?_
      refine Rc.run tb_43 1 (pc' := 17) (ls' := [some (.ref (62)), some (.ref (t1)), some (.int (a2)), some (.int (a3))]) (st' := [.ref (62), .int (c2)]) rfl rfl ?_
      refine Rc.getR tb_43 rfl rfl ob_62 (by decide +kernel) tg_62_0 (by decide) ?_
      refine Rc.run tb_43 1 (pc' := 21) (ls' := [some (.ref (62)), some (.ref (t1)), some (.int (a2)), some (.int (a3))]) (st' := [.ref (t1), .ref (63), .int (c2)]) rfl rfl ?_
      refine Rc.getI tb_43 rfl rfl (LawH.ob ht1) (by decide +kernel) (LawH.f0 ht1) ?_
      refine Rc.run tb_43 1 (pc' := 25) (ls' := [some (.ref (62)), some (.ref (t1)), some (.int (a2)), some (.int (a3))]) (st' := [.int (a2), .int (M t1 0), .ref (63), .int (c2)]) rfl rfl ?_
      cases hc3 : F_2 (M t1 0) a2 with
      | none => rw [hc3] at h; cases h
      | some c3 =>
        rw [hc3] at h
        dsimp only at h
        have hq3 := T_2 (X := X) (d := d) (by omega) (M := M) hc3
        refine Rc.callS tb_43 rfl rfl rfl mS_2 mP_2 mL_2 rfl rfl rfl hq3 ?_
        by_cases hb5 : inb c3 12 = true
        · rw [if_pos hb5] at h
          refine Rc.iald tb_43 rfl rfl ia_63 hb5 ?_
          refine Rc.run tb_43 1 (pc' := 30) (ls' := [some (.ref (62)), some (.ref (t1)), some (.int (a2)), some (.int (a3))]) (st' := [.int (c2 &&& (M 63 c3.toNatClampNeg))]) rfl rfl ?_
          refine Rc.if_ne (pc1 := 37) tb_43 rfl rfl (by decide) (by decide) (fun hb4 => ?_) (fun hb4 => ?_)
          · rw [if_pos hb4] at h
            refine Rc.run tb_43 2 (pc' := 38) (ls' := [some (.ref (62)), some (.ref (t1)), some (.int (a2)), some (.int (a3))]) (st' := [.int (1)]) rfl rfl ?_
            obtain rfl := Option.some.inj h
            obtain ⟨rfl, rfl⟩ := hC
            exact Rc.zret tb_43 rfl mR_43 (Or.inr rfl)
          · rw [if_neg hb4] at h
            refine Rc.run tb_43 1 (pc' := 38) (ls' := [none, none, none, none]) (st' := [.int (0)]) rfl rfl ?_
            obtain rfl := Option.some.inj h
            obtain ⟨rfl, rfl⟩ := hC
            exact Rc.zret tb_43 rfl mR_43 (Or.inl rfl)
        · rw [if_neg hb5] at h
          cases h
theorem T_43 {X : AX} {d : Nat} (hd : 1 ≤ d) {t1 : Nat} {a2 : Int32} {a3 : Int32} {M : IM} (ht1 : LawH t1) {x : Int32} (h : F_43 t1 a2 a3 M = some x) : Rc X d 43 0 [some (.ref (62)), some (.ref (t1)), some (.int (a2)), some (.int (a3))] [] M (some (.int x)) M := TF_43 hd ht1 h ⟨rfl, rfl⟩
/-! 142: NineDemands.bit -/
def F_142 (a1 : Int32) : Int32 := (1 : Int32) <<< ((a1 - 1) &&& 31)
theorem TF_142 {X : AX} {d : Nat} (hd : 0 ≤ d) {a1 : Int32} {M : IM} {v : Option Value} {M' : IM} {o : Int32} (h : F_142 a1 = o) (hC : v = some (.int o) ∧ M' = M) : Rc X d 142 0 [some (.int (a1))] [] M v M' := by
  unfold F_142 at h
  refine Rc.run tb_142 5 (pc' := 5) (ls' := [some (.int (a1))]) (st' := [.int ((1 : Int32) <<< ((a1 - 1) &&& 31))]) rfl rfl ?_
  subst h
  obtain ⟨rfl, rfl⟩ := hC
  exact Rc.iret (ins := .ireturn) tb_142 rfl mR_142
theorem T_142 {X : AX} {d : Nat} (hd : 0 ≤ d) (a1 : Int32) (M : IM) : Rc X d 142 0 [some (.int (a1))] [] M (some (.int (F_142 a1))) M := TF_142 hd rfl ⟨rfl, rfl⟩
/-! 44: NineDemands$Showing.strike -/
def J_44_75 (s0 : Int32) (M : IM) : Option (IM) := some (iset M 62 3 s0)
def J_44_70 (M : IM) : Option (IM) := J_44_75 (1 : Int32) M
def J_44_53 (x2 : Int32) (M : IM) : Option (IM) := if M 62 3 = 0 then (if inb x2 12 = true then (if M 63 x2.toNatClampNeg = 0 then (J_44_70 M) else (J_44_75 (0 : Int32) M)) else none) else (J_44_70 M)
def F_44 (a1 : Int32) (a2 : Int32) (a3 : Int32) (M : IM) : Option (IM) := if inb a2 12 = true then (if inb a2 12 = true then (if (36 : Int32) ≤ (iset M 63 a2.toNatClampNeg ((M 63 a2.toNatClampNeg) &&& ((F_142 a3) ^^^ (-1)))) 62 2 then (J_44_53 a2 (iset M 63 a2.toNatClampNeg ((M 63 a2.toNatClampNeg) &&& ((F_142 a3) ^^^ (-1))))) else (if inb ((iset M 63 a2.toNatClampNeg ((M 63 a2.toNatClampNeg) &&& ((F_142 a3) ^^^ (-1)))) 62 2) 36 = true then (J_44_53 a2 (iset (iset (iset M 63 a2.toNatClampNeg ((M 63 a2.toNatClampNeg) &&& ((F_142 a3) ^^^ (-1)))) 64 ((iset M 63 a2.toNatClampNeg ((M 63 a2.toNatClampNeg) &&& ((F_142 a3) ^^^ (-1)))) 62 2).toNatClampNeg (((48 * a1) + (4 * a2)) + a3)) 62 2 (((iset (iset M 63 a2.toNatClampNeg ((M 63 a2.toNatClampNeg) &&& ((F_142 a3) ^^^ (-1)))) 64 ((iset M 63 a2.toNatClampNeg ((M 63 a2.toNatClampNeg) &&& ((F_142 a3) ^^^ (-1)))) 62 2).toNatClampNeg (((48 * a1) + (4 * a2)) + a3)) 62 2) + 1))) else none)) else none) else none
theorem TJ_44_75 {X : AX} {d : Nat} (hd : 1 ≤ d) {s0 : Int32} {M : IM} (hs0 : s0 = 0 ∨ s0 = 1) {v : Option Value} {M' : IM} {o : IM} (h : J_44_75 s0 M = some o) (hC : v = none ∧ M' = o) : Rc X d 44 75 [none, none, none, none] [.int (s0), .ref (62)] M v M' := by
  obtain ⟨d, rfl⟩ : ∃ e, d = e + 1 := ⟨d - 1, by omega⟩
  unfold J_44_75 at h
  refine Rc.putI tb_44 rfl rfl ob_62 (by decide +kernel) tg_62_3 (fokZ hs0) ?_
  obtain rfl := Option.some.inj h
  obtain ⟨rfl, rfl⟩ := hC
  exact Rc.vret tb_44 rfl mR_44
theorem TJ_44_70 {X : AX} {d : Nat} (hd : 1 ≤ d) {M : IM} {v : Option Value} {M' : IM} {o : IM} (h : J_44_70 M = some o) (hC : v = none ∧ M' = o) : Rc X d 44 70 [none, none, none, none] [.ref (62)] M v M' := by
  obtain ⟨d, rfl⟩ : ∃ e, d = e + 1 := ⟨d - 1, by omega⟩
  unfold J_44_70 at h
  refine Rc.run tb_44 2 (pc' := 75) (ls' := [none, none, none, none]) (st' := [.int (1), .ref (62)]) rfl rfl ?_
  refine Rc.mask (b := 0) ((tb_44.2 75).trans rfl) (ls' := [none, none, none, none]) rfl ?_
  exact TJ_44_75 (X := X) (d := d + 1) (by omega) (Or.inr rfl) h hC
theorem TJ_44_53 {X : AX} {d : Nat} (hd : 1 ≤ d) {x2 : Int32} {M : IM} {v : Option Value} {M' : IM} {o : IM} (h : J_44_53 x2 M = some o) (hC : v = none ∧ M' = o) : Rc X d 44 53 [some (.ref (62)), none, some (.int (x2)), none] [] M v M' := by
  obtain ⟨d, rfl⟩ : ∃ e, d = e + 1 := ⟨d - 1, by omega⟩
  unfold J_44_53 at h
  refine Rc.run tb_44 2 (pc' := 55) (ls' := [some (.ref (62)), none, some (.int (x2)), none]) (st' := [.ref (62), .ref (62)]) rfl rfl ?_
  refine Rc.getI tb_44 rfl rfl ob_62 (by decide +kernel) tg_62_3 ?_
  refine Rc.if_ne (pc1 := 70) tb_44 rfl rfl (by decide) (by decide) (fun hb4 => ?_) (fun hb4 => ?_)
  · rw [if_pos hb4] at h
    refine Rc.run tb_44 1 (pc' := 62) (ls' := [some (.ref (62)), none, some (.int (x2)), none]) (st' := [.ref (62), .ref (62)]) rfl rfl ?_
    refine Rc.getR tb_44 rfl rfl ob_62 (by decide +kernel) tg_62_0 (by decide) ?_
    refine Rc.run tb_44 1 (pc' := 66) (ls' := [some (.ref (62)), none, some (.int (x2)), none]) (st' := [.int (x2), .ref (63), .ref (62)]) rfl rfl ?_
    by_cases hb3 : inb x2 12 = true
    · rw [if_pos hb3] at h
      refine Rc.iald tb_44 rfl rfl ia_63 hb3 ?_
      refine Rc.if_ne (pc1 := 74) tb_44 rfl rfl (by decide) (by decide) (fun hb2 => ?_) (fun hb2 => ?_)
      · rw [if_pos hb2] at h
        refine Rc.mask (b := 0) ((tb_44.2 70).trans rfl) (ls' := [none, none, none, none]) rfl ?_
        exact TJ_44_70 (X := X) (d := d + 1) (by omega) h hC
      · rw [if_neg hb2] at h
        refine Rc.run tb_44 1 (pc' := 75) (ls' := [some (.ref (62)), none, some (.int (x2)), none]) (st' := [.int (0), .ref (62)]) rfl rfl ?_
        refine Rc.mask (b := 0) ((tb_44.2 75).trans rfl) (ls' := [none, none, none, none]) rfl ?_
        exact TJ_44_75 (X := X) (d := d + 1) (by omega) (Or.inl rfl) h hC
    · rw [if_neg hb3] at h
      cases h
  · rw [if_neg hb4] at h
    refine Rc.mask (b := 0) ((tb_44.2 70).trans rfl) (ls' := [none, none, none, none]) rfl ?_
    exact TJ_44_70 (X := X) (d := d + 1) (by omega) h hC
theorem TF_44 {X : AX} {d : Nat} (hd : 1 ≤ d) {a1 : Int32} {a2 : Int32} {a3 : Int32} {M : IM} {v : Option Value} {M' : IM} {o : IM} (h : F_44 a1 a2 a3 M = some o) (hC : v = none ∧ M' = o) : Rc X d 44 0 [some (.ref (62)), some (.int (a1)), some (.int (a2)), some (.int (a3))] [] M v M' := by
  obtain ⟨d, rfl⟩ : ∃ e, d = e + 1 := ⟨d - 1, by omega⟩
  unfold F_44 at h
  refine Rc.run tb_44 1 (pc' := 1) (ls' := [some (.ref (62)), some (.int (a1)), some (.int (a2)), some (.int (a3))]) (st' := [.ref (62)]) rfl rfl ?_
  refine Rc.getR tb_44 rfl rfl ob_62 (by decide +kernel) tg_62_0 (by decide) ?_
  refine Rc.run tb_44 2 (pc' := 6) (ls' := [some (.ref (62)), some (.int (a1)), some (.int (a2)), some (.int (a3))]) (st' := [.int (a2), .ref (63), .int (a2), .ref (63)]) rfl rfl ?_
  by_cases hb8 : inb a2 12 = true
  · rw [if_pos hb8] at h
    refine Rc.iald tb_44 rfl rfl ia_63 hb8 ?_
    refine Rc.run tb_44 1 (pc' := 8) (ls' := [some (.ref (62)), some (.int (a1)), some (.int (a2)), some (.int (a3))]) (st' := [.int (a3), .int (M 63 a2.toNatClampNeg), .int (a2), .ref (63)]) rfl rfl ?_
    have hq1 := T_142 (X := X) (d := d) (by omega) a3 M
    refine Rc.callS tb_44 rfl rfl rfl mS_142 mP_142 mL_142 rfl rfl rfl hq1 ?_
    refine Rc.run tb_44 3 (pc' := 14) (ls' := [some (.ref (62)), some (.int (a1)), some (.int (a2)), some (.int (a3))]) (st' := [.int ((M 63 a2.toNatClampNeg) &&& ((F_142 a3) ^^^ (-1))), .int (a2), .ref (63)]) rfl rfl ?_
    by_cases hb7 : inb a2 12 = true
    · rw [if_pos hb7] at h
      refine Rc.iast tb_44 rfl rfl ia_63 hb7 ?_
      refine Rc.run tb_44 1 (pc' := 16) (ls' := [some (.ref (62)), some (.int (a1)), some (.int (a2)), some (.int (a3))]) (st' := [.ref (62)]) rfl rfl ?_
      refine Rc.getI tb_44 rfl rfl ob_62 (by decide +kernel) tg_62_2 ?_
      refine Rc.run tb_44 1 (pc' := 21) (ls' := [some (.ref (62)), some (.int (a1)), some (.int (a2)), some (.int (a3))]) (st' := [.int (36), .int ((iset M 63 a2.toNatClampNeg ((M 63 a2.toNatClampNeg) &&& ((F_142 a3) ^^^ (-1)))) 62 2)]) rfl rfl ?_
      refine Rc.icmp_ge (pc1 := 53) tb_44 rfl rfl (by decide) (by decide) (fun hb6 => ?_) (fun hb6 => ?_)
      · rw [if_pos hb6] at h
        refine Rc.mask (b := 5) ((tb_44.2 53).trans rfl) (ls' := [some (.ref (62)), none, some (.int (a2)), none]) rfl ?_
        exact TJ_44_53 (X := X) (d := d + 1) (by omega) h hC
      · rw [if_neg hb6] at h
        refine Rc.run tb_44 1 (pc' := 25) (ls' := [some (.ref (62)), some (.int (a1)), some (.int (a2)), some (.int (a3))]) (st' := [.ref (62)]) rfl rfl ?_
        refine Rc.getR tb_44 rfl rfl ob_62 (by decide +kernel) tg_62_1 (by decide) ?_
        refine Rc.run tb_44 1 (pc' := 29) (ls' := [some (.ref (62)), some (.int (a1)), some (.int (a2)), some (.int (a3))]) (st' := [.ref (62), .ref (64)]) rfl rfl ?_
        refine Rc.getI tb_44 rfl rfl ob_62 (by decide +kernel) tg_62_2 ?_
        refine Rc.run tb_44 9 (pc' := 42) (ls' := [some (.ref (62)), some (.int (a1)), some (.int (a2)), some (.int (a3))]) (st' := [.int (((48 * a1) + (4 * a2)) + a3), .int ((iset M 63 a2.toNatClampNeg ((M 63 a2.toNatClampNeg) &&& ((F_142 a3) ^^^ (-1)))) 62 2), .ref (64)]) rfl rfl ?_
        by_cases hb5 : inb ((iset M 63 a2.toNatClampNeg ((M 63 a2.toNatClampNeg) &&& ((F_142 a3) ^^^ (-1)))) 62 2) 36 = true
        · rw [if_pos hb5] at h
          refine Rc.iast tb_44 rfl rfl ia_64 hb5 ?_
          refine Rc.run tb_44 2 (pc' := 45) (ls' := [some (.ref (62)), some (.int (a1)), some (.int (a2)), some (.int (a3))]) (st' := [.ref (62), .ref (62)]) rfl rfl ?_
          refine Rc.getI tb_44 rfl rfl ob_62 (by decide +kernel) tg_62_2 ?_
          refine Rc.run tb_44 2 (pc' := 50) (ls' := [some (.ref (62)), some (.int (a1)), some (.int (a2)), some (.int (a3))]) (st' := [.int (((iset (iset M 63 a2.toNatClampNeg ((M 63 a2.toNatClampNeg) &&& ((F_142 a3) ^^^ (-1)))) 64 ((iset M 63 a2.toNatClampNeg ((M 63 a2.toNatClampNeg) &&& ((F_142 a3) ^^^ (-1)))) 62 2).toNatClampNeg (((48 * a1) + (4 * a2)) + a3)) 62 2) + 1), .ref (62)]) rfl rfl ?_
          refine Rc.putI tb_44 rfl rfl ob_62 (by decide +kernel) tg_62_2 rfl ?_
          refine Rc.mask (b := 5) ((tb_44.2 53).trans rfl) (ls' := [some (.ref (62)), none, some (.int (a2)), none]) rfl ?_
          exact TJ_44_53 (X := X) (d := d + 1) (by omega) h hC
        · rw [if_neg hb5] at h
          cases h
    · rw [if_neg hb7] at h
      cases h
  · rw [if_neg hb8] at h
    cases h
theorem T_44 {X : AX} {d : Nat} (hd : 1 ≤ d) {a1 : Int32} {a2 : Int32} {a3 : Int32} {M : IM} {M1 : IM} (h : F_44 a1 a2 a3 M = some M1) : Rc X d 44 0 [some (.ref (62)), some (.int (a1)), some (.int (a2)), some (.int (a3))] [] M none M1 := TF_44 hd h ⟨rfl, rfl⟩
/-! 41: NineDemands$Showing.goThrough -/
def J_41_91_43 (t1 : Nat) (x2 : Int32) (x3 : Int32) (x4 : Int32) (x5 : Int32) (x6 : Int32) (M : IM) : Option ((Int32 × IM) ⊕ (Int32 × IM)) := some (Sum.inl (x6 + 1, M))
def B_41_43 (t1 : Nat) (x2 : Int32) (x3 : Int32) (x4 : Int32) (x5 : Int32) : (Int32 × IM) → Option ((Int32 × IM) ⊕ (Int32 × IM)) := fun (x6, M) => if (3 : Int32) < x6 then (some (Sum.inr (x6, M))) else (if M 62 3 = 0 then (if inb x4 12 = true then (if F_143 (M 63 x4.toNatClampNeg) x6 = 0 then (J_41_91_43 t1 x2 x3 x4 x5 x6 M) else (match F_42 t1 x3 x6 M with | none => none | some c5 => (if c5 = 0 then (J_41_91_43 t1 x2 x3 x4 x5 x6 M) else (match F_44 x2 x4 x6 M with | none => none | some M6 => (J_41_91_43 t1 x2 x3 x4 x5 x6 M6))))) else none) else (some (Sum.inr (x6, M))))
def L_41_43 (t1 : Nat) (x2 : Int32) (x3 : Int32) (x4 : Int32) (x5 : Int32) (x6 : Int32) (M : IM) : Option (Int32 × IM) := loopN (B_41_43 t1 x2 x3 x4 x5) FU (x6, M)
def J_41_148_100 (t1 : Nat) (x2 : Int32) (x3 : Int32) (x5 : Int32) (x6 : Int32) (M : IM) : Option ((Int32 × IM) ⊕ (Int32 × IM)) := some (Sum.inl (x6 + 1, M))
def B_41_100 (t1 : Nat) (x2 : Int32) (x3 : Int32) (x5 : Int32) : (Int32 × IM) → Option ((Int32 × IM) ⊕ (Int32 × IM)) := fun (x6, M) => if (3 : Int32) < x6 then (some (Sum.inr (x6, M))) else (if M 62 3 = 0 then (if inb x5 12 = true then (if F_143 (M 63 x5.toNatClampNeg) x6 = 0 then (J_41_148_100 t1 x2 x3 x5 x6 M) else (match F_43 t1 x3 x6 M with | none => none | some c14 => (if c14 = 0 then (J_41_148_100 t1 x2 x3 x5 x6 M) else (match F_44 x2 x5 x6 M with | none => none | some M15 => (J_41_148_100 t1 x2 x3 x5 x6 M15))))) else none) else (some (Sum.inr (x6, M))))
def L_41_100 (t1 : Nat) (x2 : Int32) (x3 : Int32) (x5 : Int32) (x6 : Int32) (M : IM) : Option (Int32 × IM) := loopN (B_41_100 t1 x2 x3 x5) FU (x6, M)
def J_41_154_2 (t1 : Nat) (x2 : Int32) (x3 : Int32) (M : IM) : Option ((Int32 × IM) ⊕ (Int32 × IM)) := some (Sum.inl (x3 + 1, M))
def J_41_97_2 (t1 : Nat) (x2 : Int32) (x3 : Int32) (x5 : Int32) (M : IM) : Option ((Int32 × IM) ⊕ (Int32 × IM)) := (match L_41_100 t1 x2 x3 x5 1 M with | none => none | some (x6_21, M21) => (J_41_154_2 t1 x2 x3 M21))
def B_41_2 (t1 : Nat) (x2 : Int32) : (Int32 × IM) → Option ((Int32 × IM) ⊕ (Int32 × IM)) := fun (x3, M) => (match F_0 (M t1 0) with | none => none | some c1 => (if c1 ≤ x3 then (some (Sum.inr (x3, M))) else (if M 62 3 = 0 then (match F_2 (M t1 0) x3 with | none => none | some c2 => (match F_3 (M t1 0) x3 with | none => none | some c3 => (match L_41_43 t1 x2 x3 c2 c3 1 M with | none => none | some (x6_12, M12) => (J_41_97_2 t1 x2 x3 c3 M12)))) else (some (Sum.inr (x3, M))))))
def L_41_2 (t1 : Nat) (x2 : Int32) (x3 : Int32) (M : IM) : Option (Int32 × IM) := loopN (B_41_2 t1 x2) FU (x3, M)
def F_41 (t1 : Nat) (a2 : Int32) (M : IM) : Option (IM) := (match L_41_2 t1 a2 0 M with | none => none | some (x3_24, M24) => (some (M24)))
theorem TJ_41_91_43 {X : AX} {d : Nat} (hd : 4 ≤ d) {t1 : Nat} {x2 : Int32} {x3 : Int32} {x4 : Int32} {x5 : Int32} {x6 : Int32} {M : IM} (ht1 : LawH t1) {v : Option Value} {M' : IM} {o : (Int32 × IM) ⊕ (Int32 × IM)} (h : J_41_91_43 t1 x2 x3 x4 x5 x6 M = some o) (hP : ∀ s', o = .inl s' → (fun (x6, M) => Rc X d 41 43 [some (.ref (62)), some (.ref (t1)), some (.int (x2)), some (.int (x3)), some (.int (x4)), some (.int (x5)), some (.int (x6))] [] M v M') s') (hE : ∀ r, o = .inr r → (fun (x6, M) => Rc X d 41 97 [some (.ref (62)), some (.ref (t1)), some (.int (x2)), some (.int (x3)), none, some (.int (x5)), none] [] M v M') r) : Rc X d 41 91 [some (.ref (62)), some (.ref (t1)), some (.int (x2)), some (.int (x3)), some (.int (x4)), some (.int (x5)), some (.int (x6))] [] M v M' := by
  obtain ⟨d, rfl⟩ : ∃ e, d = e + 1 := ⟨d - 1, by omega⟩
  unfold J_41_91_43 at h
  dsimp only at hP hE
  refine Rc.run tb_41 2 (pc' := 43) (ls' := [some (.ref (62)), some (.ref (t1)), some (.int (x2)), some (.int (x3)), some (.int (x4)), some (.int (x5)), some (.int (x6 + 1))]) (st' := []) rfl rfl ?_
  refine Rc.mask (b := 127) ((tb_41.2 43).trans rfl) (ls' := [some (.ref (62)), some (.ref (t1)), some (.int (x2)), some (.int (x3)), some (.int (x4)), some (.int (x5)), some (.int (x6 + 1))]) rfl ?_
  obtain rfl := Option.some.inj h
  exact hP _ rfl
theorem TB_41_43 {X : AX} {d : Nat} (hd : 4 ≤ d) {t1 : Nat} {x2 : Int32} {x3 : Int32} {x4 : Int32} {x5 : Int32} (ht1 : LawH t1) {v : Option Value} {M' : IM} : ∀ (s : Int32 × IM) (o : (Int32 × IM) ⊕ (Int32 × IM)), B_41_43 t1 x2 x3 x4 x5 s = some o → (∀ s', o = .inl s' → (fun (x6, M) => Rc X d 41 43 [some (.ref (62)), some (.ref (t1)), some (.int (x2)), some (.int (x3)), some (.int (x4)), some (.int (x5)), some (.int (x6))] [] M v M') s') → (∀ r, o = .inr r → (fun (x6, M) => Rc X d 41 97 [some (.ref (62)), some (.ref (t1)), some (.int (x2)), some (.int (x3)), none, some (.int (x5)), none] [] M v M') r) → (fun (x6, M) => Rc X d 41 43 [some (.ref (62)), some (.ref (t1)), some (.int (x2)), some (.int (x3)), some (.int (x4)), some (.int (x5)), some (.int (x6))] [] M v M') s := by
  rintro ⟨x6, M⟩ o h hP hE
  show Rc X d 41 43 [some (.ref (62)), some (.ref (t1)), some (.int (x2)), some (.int (x3)), some (.int (x4)), some (.int (x5)), some (.int (x6))] [] M v M'
  obtain ⟨d, rfl⟩ : ∃ e, d = e + 1 := ⟨d - 1, by omega⟩
  unfold B_41_43 at h
  dsimp only at h hP hE
  refine Rc.run tb_41 2 (pc' := 46) (ls' := [some (.ref (62)), some (.ref (t1)), some (.int (x2)), some (.int (x3)), some (.int (x4)), some (.int (x5)), some (.int (x6))]) (st' := [.int (3), .int (x6)]) rfl rfl ?_
  refine Rc.icmp_gt (pc1 := 97) tb_41 rfl rfl (by decide) (by decide) (fun hb11 => ?_) (fun hb11 => ?_)
  · rw [if_pos hb11] at h
    refine Rc.mask (b := 47) ((tb_41.2 97).trans rfl) (ls' := [some (.ref (62)), some (.ref (t1)), some (.int (x2)), some (.int (x3)), none, some (.int (x5)), none]) rfl ?_
    obtain rfl := Option.some.inj h
    exact hE _ rfl
  · rw [if_neg hb11] at h
    refine Rc.run tb_41 1 (pc' := 50) (ls' := [some (.ref (62)), some (.ref (t1)), some (.int (x2)), some (.int (x3)), some (.int (x4)), some (.int (x5)), some (.int (x6))]) (st' := [.ref (62)]) rfl rfl ?_
    refine Rc.getI tb_41 rfl rfl ob_62 (by decide +kernel) tg_62_3 ?_
    refine Rc.if_ne (pc1 := 97) tb_41 rfl rfl (by decide) (by decide) (fun hb10 => ?_) (fun hb10 => ?_)
    · rw [if_pos hb10] at h
      refine Rc.run tb_41 1 (pc' := 57) (ls' := [some (.ref (62)), some (.ref (t1)), some (.int (x2)), some (.int (x3)), some (.int (x4)), some (.int (x5)), some (.int (x6))]) (st' := [.ref (62)]) rfl rfl ?_
      refine Rc.getR tb_41 rfl rfl ob_62 (by decide +kernel) tg_62_0 (by decide) ?_
      refine Rc.run tb_41 1 (pc' := 62) (ls' := [some (.ref (62)), some (.ref (t1)), some (.int (x2)), some (.int (x3)), some (.int (x4)), some (.int (x5)), some (.int (x6))]) (st' := [.int (x4), .ref (63)]) rfl rfl ?_
      by_cases hb9 : inb x4 12 = true
      · rw [if_pos hb9] at h
        refine Rc.iald tb_41 rfl rfl ia_63 hb9 ?_
        refine Rc.run tb_41 1 (pc' := 65) (ls' := [some (.ref (62)), some (.ref (t1)), some (.int (x2)), some (.int (x3)), some (.int (x4)), some (.int (x5)), some (.int (x6))]) (st' := [.int (x6), .int (M 63 x4.toNatClampNeg)]) rfl rfl ?_
        have hq4 := T_143 (X := X) (d := d) (by omega) (M 63 x4.toNatClampNeg) x6 M
        have hz4 := Rc.bool mR_143 hq4
        refine Rc.callS tb_41 rfl rfl rfl mS_143 mP_143 mL_143 rfl rfl rfl hq4 ?_
        refine Rc.if_eq (pc1 := 91) tb_41 rfl rfl (by decide) (by decide) (fun hb8 => ?_) (fun hb8 => ?_)
        · rw [if_pos hb8] at h
          refine Rc.mask (b := 127) ((tb_41.2 91).trans rfl) (ls' := [some (.ref (62)), some (.ref (t1)), some (.int (x2)), some (.int (x3)), some (.int (x4)), some (.int (x5)), some (.int (x6))]) rfl ?_
          exact TJ_41_91_43 (X := X) (d := d + 1) (by omega) ht1 h hP hE
        · rw [if_neg hb8] at h
          refine Rc.run tb_41 4 (pc' := 76) (ls' := [some (.ref (62)), some (.ref (t1)), some (.int (x2)), some (.int (x3)), some (.int (x4)), some (.int (x5)), some (.int (x6))]) (st' := [.int (x6), .int (x3), .ref (t1), .ref (62)]) rfl rfl ?_
          cases hc5 : F_42 t1 x3 x6 M with
          | none => rw [hc5] at h; cases h
          | some c5 =>
            rw [hc5] at h
            dsimp only at h
            have hq5 := T_42 (X := X) (d := d) (by omega) (M := M) ht1 hc5
            have hz5 := Rc.bool mR_42 hq5
            refine Rc.callV tb_41 rfl rfl rfl mS_42 mP_42 mL_42 mO_42 rfl rfl ob_62 rfl rfl hq5 ?_
            refine Rc.if_eq (pc1 := 91) tb_41 rfl rfl (by decide) (by decide) (fun hb7 => ?_) (fun hb7 => ?_)
            · rw [if_pos hb7] at h
              refine Rc.mask (b := 127) ((tb_41.2 91).trans rfl) (ls' := [some (.ref (62)), some (.ref (t1)), some (.int (x2)), some (.int (x3)), some (.int (x4)), some (.int (x5)), some (.int (x6))]) rfl ?_
              exact TJ_41_91_43 (X := X) (d := d + 1) (by omega) ht1 h hP hE
            · rw [if_neg hb7] at h
              refine Rc.run tb_41 4 (pc' := 88) (ls' := [some (.ref (62)), some (.ref (t1)), some (.int (x2)), some (.int (x3)), some (.int (x4)), some (.int (x5)), some (.int (x6))]) (st' := [.int (x6), .int (x4), .int (x2), .ref (62)]) rfl rfl ?_
              cases hc6 : F_44 x2 x4 x6 M with
              | none => rw [hc6] at h; cases h
              | some M6 =>
                rw [hc6] at h
                dsimp only at h
                have hq6 := T_44 (X := X) (d := d) (by omega) (M := M) hc6
                refine Rc.callV tb_41 rfl rfl rfl mS_44 mP_44 mL_44 mO_44 rfl rfl ob_62 rfl rfl hq6 ?_
                refine Rc.mask (b := 127) ((tb_41.2 91).trans rfl) (ls' := [some (.ref (62)), some (.ref (t1)), some (.int (x2)), some (.int (x3)), some (.int (x4)), some (.int (x5)), some (.int (x6))]) rfl ?_
                exact TJ_41_91_43 (X := X) (d := d + 1) (by omega) ht1 h hP hE
      · rw [if_neg hb9] at h
        cases h
    · rw [if_neg hb10] at h
      refine Rc.mask (b := 47) ((tb_41.2 97).trans rfl) (ls' := [some (.ref (62)), some (.ref (t1)), some (.int (x2)), some (.int (x3)), none, some (.int (x5)), none]) rfl ?_
      obtain rfl := Option.some.inj h
      exact hE _ rfl
theorem TL_41_43 {X : AX} {d : Nat} (hd : 4 ≤ d) {t1 : Nat} {x2 : Int32} {x3 : Int32} {x4 : Int32} {x5 : Int32} {x6 : Int32} {M : IM} (ht1 : LawH t1) {v : Option Value} {M' : IM} {r : Int32 × IM} (h : L_41_43 t1 x2 x3 x4 x5 x6 M = some r) (hE : (fun (x6, M) => Rc X d 41 97 [some (.ref (62)), some (.ref (t1)), some (.int (x2)), some (.int (x3)), none, some (.int (x5)), none] [] M v M') r) : Rc X d 41 43 [some (.ref (62)), some (.ref (t1)), some (.int (x2)), some (.int (x3)), some (.int (x4)), some (.int (x5)), some (.int (x6))] [] M v M' := by
  exact loopN_rc (P := fun (x6, M) => Rc X d 41 43 [some (.ref (62)), some (.ref (t1)), some (.int (x2)), some (.int (x3)), some (.int (x4)), some (.int (x5)), some (.int (x6))] [] M v M') (E := fun (x6, M) => Rc X d 41 97 [some (.ref (62)), some (.ref (t1)), some (.int (x2)), some (.int (x3)), none, some (.int (x5)), none] [] M v M') (TB_41_43 (X := X) hd ht1) FU _ r h hE
theorem TJ_41_148_100 {X : AX} {d : Nat} (hd : 4 ≤ d) {t1 : Nat} {x2 : Int32} {x3 : Int32} {x5 : Int32} {x6 : Int32} {M : IM} (ht1 : LawH t1) {v : Option Value} {M' : IM} {o : (Int32 × IM) ⊕ (Int32 × IM)} (h : J_41_148_100 t1 x2 x3 x5 x6 M = some o) (hP : ∀ s', o = .inl s' → (fun (x6, M) => Rc X d 41 100 [some (.ref (62)), some (.ref (t1)), some (.int (x2)), some (.int (x3)), none, some (.int (x5)), some (.int (x6))] [] M v M') s') (hE : ∀ r, o = .inr r → (fun (x6, M) => Rc X d 41 154 [some (.ref (62)), some (.ref (t1)), some (.int (x2)), some (.int (x3)), none, none, none] [] M v M') r) : Rc X d 41 148 [some (.ref (62)), some (.ref (t1)), some (.int (x2)), some (.int (x3)), none, some (.int (x5)), some (.int (x6))] [] M v M' := by
  obtain ⟨d, rfl⟩ : ∃ e, d = e + 1 := ⟨d - 1, by omega⟩
  unfold J_41_148_100 at h
  dsimp only at hP hE
  refine Rc.run tb_41 2 (pc' := 100) (ls' := [some (.ref (62)), some (.ref (t1)), some (.int (x2)), some (.int (x3)), none, some (.int (x5)), some (.int (x6 + 1))]) (st' := []) rfl rfl ?_
  refine Rc.mask (b := 111) ((tb_41.2 100).trans rfl) (ls' := [some (.ref (62)), some (.ref (t1)), some (.int (x2)), some (.int (x3)), none, some (.int (x5)), some (.int (x6 + 1))]) rfl ?_
  obtain rfl := Option.some.inj h
  exact hP _ rfl
theorem TB_41_100 {X : AX} {d : Nat} (hd : 4 ≤ d) {t1 : Nat} {x2 : Int32} {x3 : Int32} {x5 : Int32} (ht1 : LawH t1) {v : Option Value} {M' : IM} : ∀ (s : Int32 × IM) (o : (Int32 × IM) ⊕ (Int32 × IM)), B_41_100 t1 x2 x3 x5 s = some o → (∀ s', o = .inl s' → (fun (x6, M) => Rc X d 41 100 [some (.ref (62)), some (.ref (t1)), some (.int (x2)), some (.int (x3)), none, some (.int (x5)), some (.int (x6))] [] M v M') s') → (∀ r, o = .inr r → (fun (x6, M) => Rc X d 41 154 [some (.ref (62)), some (.ref (t1)), some (.int (x2)), some (.int (x3)), none, none, none] [] M v M') r) → (fun (x6, M) => Rc X d 41 100 [some (.ref (62)), some (.ref (t1)), some (.int (x2)), some (.int (x3)), none, some (.int (x5)), some (.int (x6))] [] M v M') s := by
  rintro ⟨x6, M⟩ o h hP hE
  show Rc X d 41 100 [some (.ref (62)), some (.ref (t1)), some (.int (x2)), some (.int (x3)), none, some (.int (x5)), some (.int (x6))] [] M v M'
  obtain ⟨d, rfl⟩ : ∃ e, d = e + 1 := ⟨d - 1, by omega⟩
  unfold B_41_100 at h
  dsimp only at h hP hE
  refine Rc.run tb_41 2 (pc' := 103) (ls' := [some (.ref (62)), some (.ref (t1)), some (.int (x2)), some (.int (x3)), none, some (.int (x5)), some (.int (x6))]) (st' := [.int (3), .int (x6)]) rfl rfl ?_
  refine Rc.icmp_gt (pc1 := 154) tb_41 rfl rfl (by decide) (by decide) (fun hb20 => ?_) (fun hb20 => ?_)
  · rw [if_pos hb20] at h
    refine Rc.mask (b := 15) ((tb_41.2 154).trans rfl) (ls' := [some (.ref (62)), some (.ref (t1)), some (.int (x2)), some (.int (x3)), none, none, none]) rfl ?_
    obtain rfl := Option.some.inj h
    exact hE _ rfl
  · rw [if_neg hb20] at h
    refine Rc.run tb_41 1 (pc' := 107) (ls' := [some (.ref (62)), some (.ref (t1)), some (.int (x2)), some (.int (x3)), none, some (.int (x5)), some (.int (x6))]) (st' := [.ref (62)]) rfl rfl ?_
    refine Rc.getI tb_41 rfl rfl ob_62 (by decide +kernel) tg_62_3 ?_
    refine Rc.if_ne (pc1 := 154) tb_41 rfl rfl (by decide) (by decide) (fun hb19 => ?_) (fun hb19 => ?_)
    · rw [if_pos hb19] at h
      refine Rc.run tb_41 1 (pc' := 114) (ls' := [some (.ref (62)), some (.ref (t1)), some (.int (x2)), some (.int (x3)), none, some (.int (x5)), some (.int (x6))]) (st' := [.ref (62)]) rfl rfl ?_
      refine Rc.getR tb_41 rfl rfl ob_62 (by decide +kernel) tg_62_0 (by decide) ?_
      refine Rc.run tb_41 1 (pc' := 119) (ls' := [some (.ref (62)), some (.ref (t1)), some (.int (x2)), some (.int (x3)), none, some (.int (x5)), some (.int (x6))]) (st' := [.int (x5), .ref (63)]) rfl rfl ?_
      by_cases hb18 : inb x5 12 = true
      · rw [if_pos hb18] at h
        refine Rc.iald tb_41 rfl rfl ia_63 hb18 ?_
        refine Rc.run tb_41 1 (pc' := 122) (ls' := [some (.ref (62)), some (.ref (t1)), some (.int (x2)), some (.int (x3)), none, some (.int (x5)), some (.int (x6))]) (st' := [.int (x6), .int (M 63 x5.toNatClampNeg)]) rfl rfl ?_
        have hq13 := T_143 (X := X) (d := d) (by omega) (M 63 x5.toNatClampNeg) x6 M
        have hz13 := Rc.bool mR_143 hq13
        refine Rc.callS tb_41 rfl rfl rfl mS_143 mP_143 mL_143 rfl rfl rfl hq13 ?_
        refine Rc.if_eq (pc1 := 148) tb_41 rfl rfl (by decide) (by decide) (fun hb17 => ?_) (fun hb17 => ?_)
        · rw [if_pos hb17] at h
          refine Rc.mask (b := 111) ((tb_41.2 148).trans rfl) (ls' := [some (.ref (62)), some (.ref (t1)), some (.int (x2)), some (.int (x3)), none, some (.int (x5)), some (.int (x6))]) rfl ?_
          exact TJ_41_148_100 (X := X) (d := d + 1) (by omega) ht1 h hP hE
        · rw [if_neg hb17] at h
          refine Rc.run tb_41 4 (pc' := 133) (ls' := [some (.ref (62)), some (.ref (t1)), some (.int (x2)), some (.int (x3)), none, some (.int (x5)), some (.int (x6))]) (st' := [.int (x6), .int (x3), .ref (t1), .ref (62)]) rfl rfl ?_
          cases hc14 : F_43 t1 x3 x6 M with
          | none => rw [hc14] at h; cases h
          | some c14 =>
            rw [hc14] at h
            dsimp only at h
            have hq14 := T_43 (X := X) (d := d) (by omega) (M := M) ht1 hc14
            have hz14 := Rc.bool mR_43 hq14
            refine Rc.callV tb_41 rfl rfl rfl mS_43 mP_43 mL_43 mO_43 rfl rfl ob_62 rfl rfl hq14 ?_
            refine Rc.if_eq (pc1 := 148) tb_41 rfl rfl (by decide) (by decide) (fun hb16 => ?_) (fun hb16 => ?_)
            · rw [if_pos hb16] at h
              refine Rc.mask (b := 111) ((tb_41.2 148).trans rfl) (ls' := [some (.ref (62)), some (.ref (t1)), some (.int (x2)), some (.int (x3)), none, some (.int (x5)), some (.int (x6))]) rfl ?_
              exact TJ_41_148_100 (X := X) (d := d + 1) (by omega) ht1 h hP hE
            · rw [if_neg hb16] at h
              refine Rc.run tb_41 4 (pc' := 145) (ls' := [some (.ref (62)), some (.ref (t1)), some (.int (x2)), some (.int (x3)), none, some (.int (x5)), some (.int (x6))]) (st' := [.int (x6), .int (x5), .int (x2), .ref (62)]) rfl rfl ?_
              cases hc15 : F_44 x2 x5 x6 M with
              | none => rw [hc15] at h; cases h
              | some M15 =>
                rw [hc15] at h
                dsimp only at h
                have hq15 := T_44 (X := X) (d := d) (by omega) (M := M) hc15
                refine Rc.callV tb_41 rfl rfl rfl mS_44 mP_44 mL_44 mO_44 rfl rfl ob_62 rfl rfl hq15 ?_
                refine Rc.mask (b := 111) ((tb_41.2 148).trans rfl) (ls' := [some (.ref (62)), some (.ref (t1)), some (.int (x2)), some (.int (x3)), none, some (.int (x5)), some (.int (x6))]) rfl ?_
                exact TJ_41_148_100 (X := X) (d := d + 1) (by omega) ht1 h hP hE
      · rw [if_neg hb18] at h
        cases h
    · rw [if_neg hb19] at h
      refine Rc.mask (b := 15) ((tb_41.2 154).trans rfl) (ls' := [some (.ref (62)), some (.ref (t1)), some (.int (x2)), some (.int (x3)), none, none, none]) rfl ?_
      obtain rfl := Option.some.inj h
      exact hE _ rfl
theorem TL_41_100 {X : AX} {d : Nat} (hd : 4 ≤ d) {t1 : Nat} {x2 : Int32} {x3 : Int32} {x5 : Int32} {x6 : Int32} {M : IM} (ht1 : LawH t1) {v : Option Value} {M' : IM} {r : Int32 × IM} (h : L_41_100 t1 x2 x3 x5 x6 M = some r) (hE : (fun (x6, M) => Rc X d 41 154 [some (.ref (62)), some (.ref (t1)), some (.int (x2)), some (.int (x3)), none, none, none] [] M v M') r) : Rc X d 41 100 [some (.ref (62)), some (.ref (t1)), some (.int (x2)), some (.int (x3)), none, some (.int (x5)), some (.int (x6))] [] M v M' := by
  exact loopN_rc (P := fun (x6, M) => Rc X d 41 100 [some (.ref (62)), some (.ref (t1)), some (.int (x2)), some (.int (x3)), none, some (.int (x5)), some (.int (x6))] [] M v M') (E := fun (x6, M) => Rc X d 41 154 [some (.ref (62)), some (.ref (t1)), some (.int (x2)), some (.int (x3)), none, none, none] [] M v M') (TB_41_100 (X := X) hd ht1) FU _ r h hE
theorem TJ_41_154_2 {X : AX} {d : Nat} (hd : 4 ≤ d) {t1 : Nat} {x2 : Int32} {x3 : Int32} {M : IM} (ht1 : LawH t1) {v : Option Value} {M' : IM} {o : (Int32 × IM) ⊕ (Int32 × IM)} (h : J_41_154_2 t1 x2 x3 M = some o) (hP : ∀ s', o = .inl s' → (fun (x3, M) => Rc X d 41 2 [some (.ref (62)), some (.ref (t1)), some (.int (x2)), some (.int (x3)), none, none, none] [] M v M') s') (hE : ∀ r, o = .inr r → (fun (x3, M) => Rc X d 41 160 [none, none, none, none, none, none, none] [] M v M') r) : Rc X d 41 154 [some (.ref (62)), some (.ref (t1)), some (.int (x2)), some (.int (x3)), none, none, none] [] M v M' := by
  obtain ⟨d, rfl⟩ : ∃ e, d = e + 1 := ⟨d - 1, by omega⟩
  unfold J_41_154_2 at h
  dsimp only at hP hE
  refine Rc.run tb_41 2 (pc' := 2) (ls' := [some (.ref (62)), some (.ref (t1)), some (.int (x2)), some (.int (x3 + 1)), none, none, none]) (st' := []) rfl rfl ?_
  refine Rc.mask (b := 15) ((tb_41.2 2).trans rfl) (ls' := [some (.ref (62)), some (.ref (t1)), some (.int (x2)), some (.int (x3 + 1)), none, none, none]) rfl ?_
  obtain rfl := Option.some.inj h
  exact hP _ rfl
theorem TJ_41_97_2 {X : AX} {d : Nat} (hd : 4 ≤ d) {t1 : Nat} {x2 : Int32} {x3 : Int32} {x5 : Int32} {M : IM} (ht1 : LawH t1) {v : Option Value} {M' : IM} {o : (Int32 × IM) ⊕ (Int32 × IM)} (h : J_41_97_2 t1 x2 x3 x5 M = some o) (hP : ∀ s', o = .inl s' → (fun (x3, M) => Rc X d 41 2 [some (.ref (62)), some (.ref (t1)), some (.int (x2)), some (.int (x3)), none, none, none] [] M v M') s') (hE : ∀ r, o = .inr r → (fun (x3, M) => Rc X d 41 160 [none, none, none, none, none, none, none] [] M v M') r) : Rc X d 41 97 [some (.ref (62)), some (.ref (t1)), some (.int (x2)), some (.int (x3)), none, some (.int (x5)), none] [] M v M' := by
  obtain ⟨d, rfl⟩ : ∃ e, d = e + 1 := ⟨d - 1, by omega⟩
  unfold J_41_97_2 at h
  dsimp only at hP hE
  refine Rc.run tb_41 2 (pc' := 100) (ls' := [some (.ref (62)), some (.ref (t1)), some (.int (x2)), some (.int (x3)), none, some (.int (x5)), some (.int (1))]) (st' := []) rfl rfl ?_
  refine Rc.mask (b := 111) ((tb_41.2 100).trans rfl) (ls' := [some (.ref (62)), some (.ref (t1)), some (.int (x2)), some (.int (x3)), none, some (.int (x5)), some (.int (1))]) rfl ?_
  cases hl21 : L_41_100 t1 x2 x3 x5 1 M with
  | none => rw [hl21] at h; cases h
  | some r21 =>
    obtain ⟨x6_21, M21⟩ := r21
    rw [hl21] at h
    dsimp only at h
    refine TL_41_100 (X := X) (d := d + 1) (by omega) ht1 hl21 ?_
    refine Rc.mask (b := 15) ((tb_41.2 154).trans rfl) (ls' := [some (.ref (62)), some (.ref (t1)), some (.int (x2)), some (.int (x3)), none, none, none]) rfl ?_
    exact TJ_41_154_2 (X := X) (d := d + 1) (by omega) ht1 h hP hE
theorem TB_41_2 {X : AX} {d : Nat} (hd : 4 ≤ d) {t1 : Nat} {x2 : Int32} (ht1 : LawH t1) {v : Option Value} {M' : IM} : ∀ (s : Int32 × IM) (o : (Int32 × IM) ⊕ (Int32 × IM)), B_41_2 t1 x2 s = some o → (∀ s', o = .inl s' → (fun (x3, M) => Rc X d 41 2 [some (.ref (62)), some (.ref (t1)), some (.int (x2)), some (.int (x3)), none, none, none] [] M v M') s') → (∀ r, o = .inr r → (fun (x3, M) => Rc X d 41 160 [none, none, none, none, none, none, none] [] M v M') r) → (fun (x3, M) => Rc X d 41 2 [some (.ref (62)), some (.ref (t1)), some (.int (x2)), some (.int (x3)), none, none, none] [] M v M') s := by
  rintro ⟨x3, M⟩ o h hP hE
  show Rc X d 41 2 [some (.ref (62)), some (.ref (t1)), some (.int (x2)), some (.int (x3)), none, none, none] [] M v M'
  obtain ⟨d, rfl⟩ : ∃ e, d = e + 1 := ⟨d - 1, by omega⟩
  unfold B_41_2 at h
  dsimp only at h hP hE
  refine Rc.run tb_41 2 (pc' := 4) (ls' := [some (.ref (62)), some (.ref (t1)), some (.int (x2)), some (.int (x3)), none, none, none]) (st' := [.ref (t1), .int (x3)]) rfl rfl ?_
  refine Rc.getI tb_41 rfl rfl (LawH.ob ht1) (by decide +kernel) (LawH.f0 ht1) ?_
  cases hc1 : F_0 (M t1 0) with
  | none => rw [hc1] at h; cases h
  | some c1 =>
    rw [hc1] at h
    dsimp only at h
    have hq1 := T_0 (X := X) (d := d) (by omega) (M := M) hc1
    refine Rc.callS tb_41 rfl rfl rfl mS_0 mP_0 mL_0 rfl rfl rfl hq1 ?_
    refine Rc.icmp_ge (pc1 := 160) tb_41 rfl rfl (by decide) (by decide) (fun hb23 => ?_) (fun hb23 => ?_)
    · rw [if_pos hb23] at h
      refine Rc.mask (b := 0) ((tb_41.2 160).trans rfl) (ls' := [none, none, none, none, none, none, none]) rfl ?_
      obtain rfl := Option.some.inj h
      exact hE _ rfl
    · rw [if_neg hb23] at h
      refine Rc.run tb_41 1 (pc' := 14) (ls' := [some (.ref (62)), some (.ref (t1)), some (.int (x2)), some (.int (x3)), none, none, none]) (st' := [.ref (62)]) rfl rfl ?_
      refine Rc.getI tb_41 rfl rfl ob_62 (by decide +kernel) tg_62_3 ?_
      refine Rc.if_ne (pc1 := 160) tb_41 rfl rfl (by decide) (by decide) (fun hb22 => ?_) (fun hb22 => ?_)
      · rw [if_pos hb22] at h
        refine Rc.run tb_41 1 (pc' := 21) (ls' := [some (.ref (62)), some (.ref (t1)), some (.int (x2)), some (.int (x3)), none, none, none]) (st' := [.ref (t1)]) rfl rfl ?_
        refine Rc.getI tb_41 rfl rfl (LawH.ob ht1) (by decide +kernel) (LawH.f0 ht1) ?_
        refine Rc.run tb_41 1 (pc' := 25) (ls' := [some (.ref (62)), some (.ref (t1)), some (.int (x2)), some (.int (x3)), none, none, none]) (st' := [.int (x3), .int (M t1 0)]) rfl rfl ?_
        cases hc2 : F_2 (M t1 0) x3 with
        | none => rw [hc2] at h; cases h
        | some c2 =>
          rw [hc2] at h
          dsimp only at h
          have hq2 := T_2 (X := X) (d := d) (by omega) (M := M) hc2
          refine Rc.callS tb_41 rfl rfl rfl mS_2 mP_2 mL_2 rfl rfl rfl hq2 ?_
          refine Rc.run tb_41 2 (pc' := 31) (ls' := [some (.ref (62)), some (.ref (t1)), some (.int (x2)), some (.int (x3)), some (.int (c2)), none, none]) (st' := [.ref (t1)]) rfl rfl ?_
          refine Rc.getI tb_41 rfl rfl (LawH.ob ht1) (by decide +kernel) (LawH.f0 ht1) ?_
          refine Rc.run tb_41 1 (pc' := 35) (ls' := [some (.ref (62)), some (.ref (t1)), some (.int (x2)), some (.int (x3)), some (.int (c2)), none, none]) (st' := [.int (x3), .int (M t1 0)]) rfl rfl ?_
          cases hc3 : F_3 (M t1 0) x3 with
          | none => rw [hc3] at h; cases h
          | some c3 =>
            rw [hc3] at h
            dsimp only at h
            have hq3 := T_3 (X := X) (d := d) (by omega) (M := M) hc3
            refine Rc.callS tb_41 rfl rfl rfl mS_3 mP_3 mL_3 rfl rfl rfl hq3 ?_
            refine Rc.run tb_41 3 (pc' := 43) (ls' := [some (.ref (62)), some (.ref (t1)), some (.int (x2)), some (.int (x3)), some (.int (c2)), some (.int (c3)), some (.int (1))]) (st' := []) rfl rfl ?_
            refine Rc.mask (b := 127) ((tb_41.2 43).trans rfl) (ls' := [some (.ref (62)), some (.ref (t1)), some (.int (x2)), some (.int (x3)), some (.int (c2)), some (.int (c3)), some (.int (1))]) rfl ?_
            cases hl12 : L_41_43 t1 x2 x3 c2 c3 1 M with
            | none => rw [hl12] at h; cases h
            | some r12 =>
              obtain ⟨x6_12, M12⟩ := r12
              rw [hl12] at h
              dsimp only at h
              refine TL_41_43 (X := X) (d := d + 1) (by omega) ht1 hl12 ?_
              refine Rc.mask (b := 47) ((tb_41.2 97).trans rfl) (ls' := [some (.ref (62)), some (.ref (t1)), some (.int (x2)), some (.int (x3)), none, some (.int (c3)), none]) rfl ?_
              exact TJ_41_97_2 (X := X) (d := d + 1) (by omega) ht1 h hP hE
      · rw [if_neg hb22] at h
        refine Rc.mask (b := 0) ((tb_41.2 160).trans rfl) (ls' := [none, none, none, none, none, none, none]) rfl ?_
        obtain rfl := Option.some.inj h
        exact hE _ rfl
theorem TL_41_2 {X : AX} {d : Nat} (hd : 4 ≤ d) {t1 : Nat} {x2 : Int32} {x3 : Int32} {M : IM} (ht1 : LawH t1) {v : Option Value} {M' : IM} {r : Int32 × IM} (h : L_41_2 t1 x2 x3 M = some r) (hE : (fun (x3, M) => Rc X d 41 160 [none, none, none, none, none, none, none] [] M v M') r) : Rc X d 41 2 [some (.ref (62)), some (.ref (t1)), some (.int (x2)), some (.int (x3)), none, none, none] [] M v M' := by
  exact loopN_rc (P := fun (x3, M) => Rc X d 41 2 [some (.ref (62)), some (.ref (t1)), some (.int (x2)), some (.int (x3)), none, none, none] [] M v M') (E := fun (x3, M) => Rc X d 41 160 [none, none, none, none, none, none, none] [] M v M') (TB_41_2 (X := X) hd ht1) FU _ r h hE
theorem TF_41 {X : AX} {d : Nat} (hd : 4 ≤ d) {t1 : Nat} {a2 : Int32} {M : IM} (ht1 : LawH t1) {v : Option Value} {M' : IM} {o : IM} (h : F_41 t1 a2 M = some o) (hC : v = none ∧ M' = o) : Rc X d 41 0 [some (.ref (62)), some (.ref (t1)), some (.int (a2)), none, none, none, none] [] M v M' := by
  obtain ⟨d, rfl⟩ : ∃ e, d = e + 1 := ⟨d - 1, by omega⟩
  unfold F_41 at h
  refine Rc.run tb_41 2 (pc' := 2) (ls' := [some (.ref (62)), some (.ref (t1)), some (.int (a2)), some (.int (0)), none, none, none]) (st' := []) rfl rfl ?_
  refine Rc.mask (b := 15) ((tb_41.2 2).trans rfl) (ls' := [some (.ref (62)), some (.ref (t1)), some (.int (a2)), some (.int (0)), none, none, none]) rfl ?_
  cases hl24 : L_41_2 t1 a2 0 M with
  | none => rw [hl24] at h; cases h
  | some r24 =>
    obtain ⟨x3_24, M24⟩ := r24
    rw [hl24] at h
    dsimp only at h
    refine TL_41_2 (X := X) (d := d + 1) (by omega) ht1 hl24 ?_
    obtain rfl := Option.some.inj h
    obtain ⟨rfl, rfl⟩ := hC
    exact Rc.vret tb_41 rfl mR_41
theorem T_41 {X : AX} {d : Nat} (hd : 4 ≤ d) {t1 : Nat} {a2 : Int32} {M : IM} (ht1 : LawH t1) {M1 : IM} (h : F_41 t1 a2 M = some M1) : Rc X d 41 0 [some (.ref (62)), some (.ref (t1)), some (.int (a2)), none, none, none, none] [] M none M1 := TF_41 hd ht1 h ⟨rfl, rfl⟩
/-! 40: NineDemands$Showing.unfold -/
def J_40_78_39 (t1 : Nat) (x2 : Int32) (x3 : Int32) (x4 : Int32) (x5 : Int32) (M : IM) : Option ((Int32 × IM) ⊕ (Int32 × IM)) := some (Sum.inl (x5 + 1, M))
def B_40_39 (t1 : Nat) (x2 : Int32) (x3 : Int32) (x4 : Int32) : (Int32 × IM) → Option ((Int32 × IM) ⊕ (Int32 × IM)) := fun (x5, M) => if M t1 2 ≤ x5 then (some (Sum.inr (x5, M))) else (if M 62 3 = 0 then (if F_83 t1 x2 x5 M = 0 then (J_40_78_39 t1 x2 x3 x4 x5 M) else (if inb x5 8 = true then (match F_41 (t1 + 5 + 2 * x5.toNatClampNeg) x5 M with | none => none | some M4 => (J_40_78_39 t1 x2 x3 x4 x5 M4)) else none)) else (some (Sum.inr (x5, M))))
def L_40_39 (t1 : Nat) (x2 : Int32) (x3 : Int32) (x4 : Int32) (x5 : Int32) (M : IM) : Option (Int32 × IM) := loopN (B_40_39 t1 x2 x3 x4) FU (x5, M)
def J_40_84_9 (t1 : Nat) (x2 : Int32) (x3 : Int32) (x4 : Int32) (M : IM) : Option ((Int32 × Int32 × IM) ⊕ (Int32 × Int32 × IM)) := some (Sum.inl (x3, x4 + 1, M))
def B_40_9 (t1 : Nat) (x2 : Int32) : (Int32 × Int32 × IM) → Option ((Int32 × Int32 × IM) ⊕ (Int32 × Int32 × IM)) := fun (x3, x4, M) => if (36 : Int32) < x4 then (some (Sum.inr (x3, x4, M))) else (if M 62 3 = 0 then (if M 62 2 = x3 then (some (Sum.inr (x3, x4, M))) else (match L_40_39 t1 x2 (M 62 2) x4 0 M with | none => none | some (x5_8, M8) => (J_40_84_9 t1 x2 (M 62 2) x4 M8))) else (some (Sum.inr (x3, x4, M))))
def L_40_9 (t1 : Nat) (x2 : Int32) (x3 : Int32) (x4 : Int32) (M : IM) : Option (Int32 × Int32 × IM) := loopN (B_40_9 t1 x2) FU (x3, x4, M)
def F_40 (t1 : Nat) (a2 : Int32) (M : IM) : Option (IM) := (match F_39 M with | none => none | some M1 => (match L_40_9 t1 a2 (-1) 0 M1 with | none => none | some (x3_12, x4_12, M12) => (some (M12))))
theorem TJ_40_78_39 {X : AX} {d : Nat} (hd : 5 ≤ d) {t1 : Nat} {x2 : Int32} {x3 : Int32} {x4 : Int32} {x5 : Int32} {M : IM} (ht1 : VilH t1) {v : Option Value} {M' : IM} {o : (Int32 × IM) ⊕ (Int32 × IM)} (h : J_40_78_39 t1 x2 x3 x4 x5 M = some o) (hP : ∀ s', o = .inl s' → (fun (x5, M) => Rc X d 40 39 [some (.ref (62)), some (.ref (t1)), some (.int (x2)), some (.int (x3)), some (.int (x4)), some (.int (x5))] [] M v M') s') (hE : ∀ r, o = .inr r → (fun (x5, M) => Rc X d 40 84 [some (.ref (62)), some (.ref (t1)), some (.int (x2)), some (.int (x3)), some (.int (x4)), none] [] M v M') r) : Rc X d 40 78 [some (.ref (62)), some (.ref (t1)), some (.int (x2)), some (.int (x3)), some (.int (x4)), some (.int (x5))] [] M v M' := by
  obtain ⟨d, rfl⟩ : ∃ e, d = e + 1 := ⟨d - 1, by omega⟩
  unfold J_40_78_39 at h
  dsimp only at hP hE
  refine Rc.run tb_40 2 (pc' := 39) (ls' := [some (.ref (62)), some (.ref (t1)), some (.int (x2)), some (.int (x3)), some (.int (x4)), some (.int (x5 + 1))]) (st' := []) rfl rfl ?_
  refine Rc.mask (b := 63) ((tb_40.2 39).trans rfl) (ls' := [some (.ref (62)), some (.ref (t1)), some (.int (x2)), some (.int (x3)), some (.int (x4)), some (.int (x5 + 1))]) rfl ?_
  obtain rfl := Option.some.inj h
  exact hP _ rfl
theorem TB_40_39 {X : AX} {d : Nat} (hd : 5 ≤ d) {t1 : Nat} {x2 : Int32} {x3 : Int32} {x4 : Int32} (ht1 : VilH t1) {v : Option Value} {M' : IM} : ∀ (s : Int32 × IM) (o : (Int32 × IM) ⊕ (Int32 × IM)), B_40_39 t1 x2 x3 x4 s = some o → (∀ s', o = .inl s' → (fun (x5, M) => Rc X d 40 39 [some (.ref (62)), some (.ref (t1)), some (.int (x2)), some (.int (x3)), some (.int (x4)), some (.int (x5))] [] M v M') s') → (∀ r, o = .inr r → (fun (x5, M) => Rc X d 40 84 [some (.ref (62)), some (.ref (t1)), some (.int (x2)), some (.int (x3)), some (.int (x4)), none] [] M v M') r) → (fun (x5, M) => Rc X d 40 39 [some (.ref (62)), some (.ref (t1)), some (.int (x2)), some (.int (x3)), some (.int (x4)), some (.int (x5))] [] M v M') s := by
  rintro ⟨x5, M⟩ o h hP hE
  show Rc X d 40 39 [some (.ref (62)), some (.ref (t1)), some (.int (x2)), some (.int (x3)), some (.int (x4)), some (.int (x5))] [] M v M'
  obtain ⟨d, rfl⟩ : ∃ e, d = e + 1 := ⟨d - 1, by omega⟩
  unfold B_40_39 at h
  dsimp only at h hP hE
  refine Rc.run tb_40 2 (pc' := 42) (ls' := [some (.ref (62)), some (.ref (t1)), some (.int (x2)), some (.int (x3)), some (.int (x4)), some (.int (x5))]) (st' := [.ref (t1), .int (x5)]) rfl rfl ?_
  refine Rc.getI tb_40 rfl rfl (VilH.ob ht1) (by decide +kernel) (VilH.f2 ht1) ?_
  refine Rc.icmp_ge (pc1 := 84) tb_40 rfl rfl (by decide) (by decide) (fun hb7 => ?_) (fun hb7 => ?_)
  · rw [if_pos hb7] at h
    refine Rc.mask (b := 31) ((tb_40.2 84).trans rfl) (ls' := [some (.ref (62)), some (.ref (t1)), some (.int (x2)), some (.int (x3)), some (.int (x4)), none]) rfl ?_
    obtain rfl := Option.some.inj h
    exact hE _ rfl
  · rw [if_neg hb7] at h
    refine Rc.run tb_40 1 (pc' := 49) (ls' := [some (.ref (62)), some (.ref (t1)), some (.int (x2)), some (.int (x3)), some (.int (x4)), some (.int (x5))]) (st' := [.ref (62)]) rfl rfl ?_
    refine Rc.getI tb_40 rfl rfl ob_62 (by decide +kernel) tg_62_3 ?_
    refine Rc.if_ne (pc1 := 84) tb_40 rfl rfl (by decide) (by decide) (fun hb6 => ?_) (fun hb6 => ?_)
    · rw [if_pos hb6] at h
      refine Rc.run tb_40 3 (pc' := 59) (ls' := [some (.ref (62)), some (.ref (t1)), some (.int (x2)), some (.int (x3)), some (.int (x4)), some (.int (x5))]) (st' := [.int (x5), .int (x2), .ref (t1)]) rfl rfl ?_
      have hq2 := T_83 (X := X) (d := d) (by omega) ht1 x2 x5 M
      have hz2 := Rc.bool mR_83 hq2
      refine Rc.callV tb_40 rfl rfl rfl mS_83 mP_83 mL_83 mO_83 rfl rfl (VilH.ob ht1) rfl rfl hq2 ?_
      refine Rc.if_eq (pc1 := 78) tb_40 rfl rfl (by decide) (by decide) (fun hb5 => ?_) (fun hb5 => ?_)
      · rw [if_pos hb5] at h
        refine Rc.mask (b := 63) ((tb_40.2 78).trans rfl) (ls' := [some (.ref (62)), some (.ref (t1)), some (.int (x2)), some (.int (x3)), some (.int (x4)), some (.int (x5))]) rfl ?_
        exact TJ_40_78_39 (X := X) (d := d + 1) (by omega) ht1 h hP hE
      · rw [if_neg hb5] at h
        refine Rc.run tb_40 2 (pc' := 67) (ls' := [some (.ref (62)), some (.ref (t1)), some (.int (x2)), some (.int (x3)), some (.int (x4)), some (.int (x5))]) (st' := [.ref (t1), .ref (62)]) rfl rfl ?_
        refine Rc.getR tb_40 rfl rfl (VilH.ob ht1) (by decide +kernel) (VilH.f1 ht1) (by have := VilH.lt ht1; omega) ?_
        refine Rc.run tb_40 1 (pc' := 72) (ls' := [some (.ref (62)), some (.ref (t1)), some (.int (x2)), some (.int (x3)), some (.int (x4)), some (.int (x5))]) (st' := [.int (x5), .ref ((t1 + 2)), .ref (62)]) rfl rfl ?_
        by_cases hb3 : inb x5 8 = true
        · rw [if_pos hb3] at h
          refine Rc.aald tb_40 rfl rfl (VilH.lt98 ht1) (Or.inl (VilH.kd2 ht1)) (by rw [VilH.ln2 ht1]; exact hb3) (VilH.tg2 ht1 hb3) (LawH.lt0 (VilH.el ht1 hb3)) ?_
          refine Rc.run tb_40 1 (pc' := 75) (ls' := [some (.ref (62)), some (.ref (t1)), some (.int (x2)), some (.int (x3)), some (.int (x4)), some (.int (x5))]) (st' := [.int (x5), .ref ((t1 + 5 + 2 * x5.toNatClampNeg)), .ref (62)]) rfl rfl ?_
          cases hc4 : F_41 (t1 + 5 + 2 * x5.toNatClampNeg) x5 M with
          | none => rw [hc4] at h; cases h
          | some M4 =>
            rw [hc4] at h
            dsimp only at h
            have hq4 := T_41 (X := X) (d := d) (by omega) (M := M) (VilH.el ht1 hb3) hc4
            refine Rc.callV tb_40 rfl rfl rfl mS_41 mP_41 mL_41 mO_41 rfl rfl ob_62 rfl rfl hq4 ?_
            refine Rc.mask (b := 63) ((tb_40.2 78).trans rfl) (ls' := [some (.ref (62)), some (.ref (t1)), some (.int (x2)), some (.int (x3)), some (.int (x4)), some (.int (x5))]) rfl ?_
            exact TJ_40_78_39 (X := X) (d := d + 1) (by omega) ht1 h hP hE
        · rw [if_neg hb3] at h
          cases h
    · rw [if_neg hb6] at h
      refine Rc.mask (b := 31) ((tb_40.2 84).trans rfl) (ls' := [some (.ref (62)), some (.ref (t1)), some (.int (x2)), some (.int (x3)), some (.int (x4)), none]) rfl ?_
      obtain rfl := Option.some.inj h
      exact hE _ rfl
theorem TL_40_39 {X : AX} {d : Nat} (hd : 5 ≤ d) {t1 : Nat} {x2 : Int32} {x3 : Int32} {x4 : Int32} {x5 : Int32} {M : IM} (ht1 : VilH t1) {v : Option Value} {M' : IM} {r : Int32 × IM} (h : L_40_39 t1 x2 x3 x4 x5 M = some r) (hE : (fun (x5, M) => Rc X d 40 84 [some (.ref (62)), some (.ref (t1)), some (.int (x2)), some (.int (x3)), some (.int (x4)), none] [] M v M') r) : Rc X d 40 39 [some (.ref (62)), some (.ref (t1)), some (.int (x2)), some (.int (x3)), some (.int (x4)), some (.int (x5))] [] M v M' := by
  exact loopN_rc (P := fun (x5, M) => Rc X d 40 39 [some (.ref (62)), some (.ref (t1)), some (.int (x2)), some (.int (x3)), some (.int (x4)), some (.int (x5))] [] M v M') (E := fun (x5, M) => Rc X d 40 84 [some (.ref (62)), some (.ref (t1)), some (.int (x2)), some (.int (x3)), some (.int (x4)), none] [] M v M') (TB_40_39 (X := X) hd ht1) FU _ r h hE
theorem TJ_40_84_9 {X : AX} {d : Nat} (hd : 5 ≤ d) {t1 : Nat} {x2 : Int32} {x3 : Int32} {x4 : Int32} {M : IM} (ht1 : VilH t1) {v : Option Value} {M' : IM} {o : (Int32 × Int32 × IM) ⊕ (Int32 × Int32 × IM)} (h : J_40_84_9 t1 x2 x3 x4 M = some o) (hP : ∀ s', o = .inl s' → (fun (x3, x4, M) => Rc X d 40 9 [some (.ref (62)), some (.ref (t1)), some (.int (x2)), some (.int (x3)), some (.int (x4)), none] [] M v M') s') (hE : ∀ r, o = .inr r → (fun (x3, x4, M) => Rc X d 40 90 [none, none, none, none, none, none] [] M v M') r) : Rc X d 40 84 [some (.ref (62)), some (.ref (t1)), some (.int (x2)), some (.int (x3)), some (.int (x4)), none] [] M v M' := by
  obtain ⟨d, rfl⟩ : ∃ e, d = e + 1 := ⟨d - 1, by omega⟩
  unfold J_40_84_9 at h
  dsimp only at hP hE
  refine Rc.run tb_40 2 (pc' := 9) (ls' := [some (.ref (62)), some (.ref (t1)), some (.int (x2)), some (.int (x3)), some (.int (x4 + 1)), none]) (st' := []) rfl rfl ?_
  refine Rc.mask (b := 31) ((tb_40.2 9).trans rfl) (ls' := [some (.ref (62)), some (.ref (t1)), some (.int (x2)), some (.int (x3)), some (.int (x4 + 1)), none]) rfl ?_
  obtain rfl := Option.some.inj h
  exact hP _ rfl
theorem TB_40_9 {X : AX} {d : Nat} (hd : 5 ≤ d) {t1 : Nat} {x2 : Int32} (ht1 : VilH t1) {v : Option Value} {M' : IM} : ∀ (s : Int32 × Int32 × IM) (o : (Int32 × Int32 × IM) ⊕ (Int32 × Int32 × IM)), B_40_9 t1 x2 s = some o → (∀ s', o = .inl s' → (fun (x3, x4, M) => Rc X d 40 9 [some (.ref (62)), some (.ref (t1)), some (.int (x2)), some (.int (x3)), some (.int (x4)), none] [] M v M') s') → (∀ r, o = .inr r → (fun (x3, x4, M) => Rc X d 40 90 [none, none, none, none, none, none] [] M v M') r) → (fun (x3, x4, M) => Rc X d 40 9 [some (.ref (62)), some (.ref (t1)), some (.int (x2)), some (.int (x3)), some (.int (x4)), none] [] M v M') s := by
  rintro ⟨x3, x4, M⟩ o h hP hE
  show Rc X d 40 9 [some (.ref (62)), some (.ref (t1)), some (.int (x2)), some (.int (x3)), some (.int (x4)), none] [] M v M'
  obtain ⟨d, rfl⟩ : ∃ e, d = e + 1 := ⟨d - 1, by omega⟩
  unfold B_40_9 at h
  dsimp only at h hP hE
  refine Rc.run tb_40 2 (pc' := 13) (ls' := [some (.ref (62)), some (.ref (t1)), some (.int (x2)), some (.int (x3)), some (.int (x4)), none]) (st' := [.int (36), .int (x4)]) rfl rfl ?_
  refine Rc.icmp_gt (pc1 := 90) tb_40 rfl rfl (by decide) (by decide) (fun hb11 => ?_) (fun hb11 => ?_)
  · rw [if_pos hb11] at h
    refine Rc.mask (b := 0) ((tb_40.2 90).trans rfl) (ls' := [none, none, none, none, none, none]) rfl ?_
    obtain rfl := Option.some.inj h
    exact hE _ rfl
  · rw [if_neg hb11] at h
    refine Rc.run tb_40 1 (pc' := 17) (ls' := [some (.ref (62)), some (.ref (t1)), some (.int (x2)), some (.int (x3)), some (.int (x4)), none]) (st' := [.ref (62)]) rfl rfl ?_
    refine Rc.getI tb_40 rfl rfl ob_62 (by decide +kernel) tg_62_3 ?_
    refine Rc.if_ne (pc1 := 90) tb_40 rfl rfl (by decide) (by decide) (fun hb10 => ?_) (fun hb10 => ?_)
    · rw [if_pos hb10] at h
      refine Rc.run tb_40 1 (pc' := 24) (ls' := [some (.ref (62)), some (.ref (t1)), some (.int (x2)), some (.int (x3)), some (.int (x4)), none]) (st' := [.ref (62)]) rfl rfl ?_
      refine Rc.getI tb_40 rfl rfl ob_62 (by decide +kernel) tg_62_2 ?_
      refine Rc.run tb_40 1 (pc' := 28) (ls' := [some (.ref (62)), some (.ref (t1)), some (.int (x2)), some (.int (x3)), some (.int (x4)), none]) (st' := [.int (x3), .int (M 62 2)]) rfl rfl ?_
      refine Rc.icmp_eq (pc1 := 90) tb_40 rfl rfl (by decide) (by decide) (fun hb9 => ?_) (fun hb9 => ?_)
      · rw [if_pos hb9] at h
        refine Rc.mask (b := 0) ((tb_40.2 90).trans rfl) (ls' := [none, none, none, none, none, none]) rfl ?_
        obtain rfl := Option.some.inj h
        exact hE _ rfl
      · rw [if_neg hb9] at h
        refine Rc.run tb_40 1 (pc' := 32) (ls' := [some (.ref (62)), some (.ref (t1)), some (.int (x2)), some (.int (x3)), some (.int (x4)), none]) (st' := [.ref (62)]) rfl rfl ?_
        refine Rc.getI tb_40 rfl rfl ob_62 (by decide +kernel) tg_62_2 ?_
        refine Rc.run tb_40 3 (pc' := 39) (ls' := [some (.ref (62)), some (.ref (t1)), some (.int (x2)), some (.int (M 62 2)), some (.int (x4)), some (.int (0))]) (st' := []) rfl rfl ?_
        refine Rc.mask (b := 63) ((tb_40.2 39).trans rfl) (ls' := [some (.ref (62)), some (.ref (t1)), some (.int (x2)), some (.int (M 62 2)), some (.int (x4)), some (.int (0))]) rfl ?_
        cases hl8 : L_40_39 t1 x2 (M 62 2) x4 0 M with
        | none => rw [hl8] at h; cases h
        | some r8 =>
          obtain ⟨x5_8, M8⟩ := r8
          rw [hl8] at h
          dsimp only at h
          refine TL_40_39 (X := X) (d := d + 1) (by omega) ht1 hl8 ?_
          refine Rc.mask (b := 31) ((tb_40.2 84).trans rfl) (ls' := [some (.ref (62)), some (.ref (t1)), some (.int (x2)), some (.int (M 62 2)), some (.int (x4)), none]) rfl ?_
          exact TJ_40_84_9 (X := X) (d := d + 1) (by omega) ht1 h hP hE
    · rw [if_neg hb10] at h
      refine Rc.mask (b := 0) ((tb_40.2 90).trans rfl) (ls' := [none, none, none, none, none, none]) rfl ?_
      obtain rfl := Option.some.inj h
      exact hE _ rfl
theorem TL_40_9 {X : AX} {d : Nat} (hd : 5 ≤ d) {t1 : Nat} {x2 : Int32} {x3 : Int32} {x4 : Int32} {M : IM} (ht1 : VilH t1) {v : Option Value} {M' : IM} {r : Int32 × Int32 × IM} (h : L_40_9 t1 x2 x3 x4 M = some r) (hE : (fun (x3, x4, M) => Rc X d 40 90 [none, none, none, none, none, none] [] M v M') r) : Rc X d 40 9 [some (.ref (62)), some (.ref (t1)), some (.int (x2)), some (.int (x3)), some (.int (x4)), none] [] M v M' := by
  exact loopN_rc (P := fun (x3, x4, M) => Rc X d 40 9 [some (.ref (62)), some (.ref (t1)), some (.int (x2)), some (.int (x3)), some (.int (x4)), none] [] M v M') (E := fun (x3, x4, M) => Rc X d 40 90 [none, none, none, none, none, none] [] M v M') (TB_40_9 (X := X) hd ht1) FU _ r h hE
theorem TF_40 {X : AX} {d : Nat} (hd : 5 ≤ d) {t1 : Nat} {a2 : Int32} {M : IM} (ht1 : VilH t1) {v : Option Value} {M' : IM} {o : IM} (h : F_40 t1 a2 M = some o) (hC : v = none ∧ M' = o) : Rc X d 40 0 [some (.ref (62)), some (.ref (t1)), some (.int (a2)), none, none, none] [] M v M' := by
  obtain ⟨d, rfl⟩ : ∃ e, d = e + 1 := ⟨d - 1, by omega⟩
  unfold F_40 at h
  refine Rc.run tb_40 1 (pc' := 1) (ls' := [some (.ref (62)), some (.ref (t1)), some (.int (a2)), none, none, none]) (st' := [.ref (62)]) rfl rfl ?_
  cases hc1 : F_39 M with
  | none => rw [hc1] at h; cases h
  | some M1 =>
    rw [hc1] at h
    dsimp only at h
    have hq1 := T_39 (X := X) (d := d) (by omega) (M := M) hc1
    refine Rc.callV tb_40 rfl rfl rfl mS_39 mP_39 mL_39 mO_39 rfl rfl ob_62 rfl rfl hq1 ?_
    refine Rc.run tb_40 4 (pc' := 9) (ls' := [some (.ref (62)), some (.ref (t1)), some (.int (a2)), some (.int ((-1))), some (.int (0)), none]) (st' := []) rfl rfl ?_
    refine Rc.mask (b := 31) ((tb_40.2 9).trans rfl) (ls' := [some (.ref (62)), some (.ref (t1)), some (.int (a2)), some (.int ((-1))), some (.int (0)), none]) rfl ?_
    cases hl12 : L_40_9 t1 a2 (-1) 0 M1 with
    | none => rw [hl12] at h; cases h
    | some r12 =>
      obtain ⟨x3_12, x4_12, M12⟩ := r12
      rw [hl12] at h
      dsimp only at h
      refine TL_40_9 (X := X) (d := d + 1) (by omega) ht1 hl12 ?_
      obtain rfl := Option.some.inj h
      obtain ⟨rfl, rfl⟩ := hC
      exact Rc.vret tb_40 rfl mR_40
theorem T_40 {X : AX} {d : Nat} (hd : 5 ≤ d) {t1 : Nat} {a2 : Int32} {M : IM} (ht1 : VilH t1) {M1 : IM} (h : F_40 t1 a2 M = some M1) : Rc X d 40 0 [some (.ref (62)), some (.ref (t1)), some (.int (a2)), none, none, none] [] M none M1 := TF_40 hd ht1 h ⟨rfl, rfl⟩
/-! 46: NineDemands$Showing.isForced -/
def J_46_67_3 (t1 : Nat) (x2 : Int32) (x3 : Int32) (x4 : Int32) (M : IM) : Option ((Int32) ⊕ ((Int32) ⊕ (Int32))) := some (Sum.inl (x4 + 1))
def J_46_41_3 (t1 : Nat) (x2 : Int32) (x3 : Int32) (x4 : Int32) (M : IM) : Option ((Int32) ⊕ ((Int32) ⊕ (Int32))) := (match F_3 (M t1 0) x4 with | none => none | some c4 => (if c4 = x2 then (match F_43 t1 x4 x3 M with | none => none | some c5 => (if c5 = 0 then (J_46_67_3 t1 x2 x3 x4 M) else (some (Sum.inr (Sum.inr 1))))) else (J_46_67_3 t1 x2 x3 x4 M)))
def B_46_3 (t1 : Nat) (x2 : Int32) (x3 : Int32) (M : IM) : (Int32) → Option ((Int32) ⊕ ((Int32) ⊕ (Int32))) := fun x4 => (match F_0 (M t1 0) with | none => none | some c1 => (if c1 ≤ x4 then (some (Sum.inr (Sum.inl x4))) else (match F_2 (M t1 0) x4 with | none => none | some c2 => (if c2 = x2 then (match F_42 t1 x4 x3 M with | none => none | some c3 => (if c3 = 0 then (J_46_41_3 t1 x2 x3 x4 M) else (some (Sum.inr (Sum.inr 1))))) else (J_46_41_3 t1 x2 x3 x4 M)))))
def L_46_3 (t1 : Nat) (x2 : Int32) (x3 : Int32) (M : IM) (x4 : Int32) : Option ((Int32) ⊕ (Int32)) := loopN (B_46_3 t1 x2 x3 M) FU x4
def F_46 (t1 : Nat) (a2 : Int32) (a3 : Int32) (M : IM) : Option (Int32) := (match L_46_3 t1 a2 a3 M 0 with | none => none | some (.inl x4_11) => (some (0)) | some (.inr q) => some (q))
theorem TJ_46_67_3 {X : AX} {d : Nat} (hd : 4 ≤ d) {t1 : Nat} {x2 : Int32} {x3 : Int32} {x4 : Int32} {M : IM} (ht1 : LawH t1) {v : Option Value} {M' : IM} {o : (Int32) ⊕ ((Int32) ⊕ (Int32))} (h : J_46_67_3 t1 x2 x3 x4 M = some o) (hP : ∀ s', o = .inl s' → (fun x4 => Rc X d 46 3 [some (.ref (62)), some (.ref (t1)), some (.int (x2)), some (.int (x3)), some (.int (x4))] [] M v M') s') (hE : ∀ r, o = .inr r → (fun r => match r with | .inl x4 => Rc X d 46 73 [none, none, none, none, none] [] M v M' | .inr q => v = some (.int q) ∧ M' = M) r) : Rc X d 46 67 [some (.ref (62)), some (.ref (t1)), some (.int (x2)), some (.int (x3)), some (.int (x4))] [] M v M' := by
  obtain ⟨d, rfl⟩ : ∃ e, d = e + 1 := ⟨d - 1, by omega⟩
  unfold J_46_67_3 at h
  dsimp only at hP hE
  refine Rc.run tb_46 2 (pc' := 3) (ls' := [some (.ref (62)), some (.ref (t1)), some (.int (x2)), some (.int (x3)), some (.int (x4 + 1))]) (st' := []) rfl rfl ?_
  refine Rc.mask (b := 31) ((tb_46.2 3).trans rfl) (ls' := [some (.ref (62)), some (.ref (t1)), some (.int (x2)), some (.int (x3)), some (.int (x4 + 1))]) rfl ?_
  obtain rfl := Option.some.inj h
  exact hP _ rfl
theorem TJ_46_41_3 {X : AX} {d : Nat} (hd : 4 ≤ d) {t1 : Nat} {x2 : Int32} {x3 : Int32} {x4 : Int32} {M : IM} (ht1 : LawH t1) {v : Option Value} {M' : IM} {o : (Int32) ⊕ ((Int32) ⊕ (Int32))} (h : J_46_41_3 t1 x2 x3 x4 M = some o) (hP : ∀ s', o = .inl s' → (fun x4 => Rc X d 46 3 [some (.ref (62)), some (.ref (t1)), some (.int (x2)), some (.int (x3)), some (.int (x4))] [] M v M') s') (hE : ∀ r, o = .inr r → (fun r => match r with | .inl x4 => Rc X d 46 73 [none, none, none, none, none] [] M v M' | .inr q => v = some (.int q) ∧ M' = M) r) : Rc X d 46 41 [some (.ref (62)), some (.ref (t1)), some (.int (x2)), some (.int (x3)), some (.int (x4))] [] M v M' := by
  obtain ⟨d, rfl⟩ : ∃ e, d = e + 1 := ⟨d - 1, by omega⟩
  unfold J_46_41_3 at h
  dsimp only at hP hE
  refine Rc.run tb_46 1 (pc' := 42) (ls' := [some (.ref (62)), some (.ref (t1)), some (.int (x2)), some (.int (x3)), some (.int (x4))]) (st' := [.ref (t1)]) rfl rfl ?_
  refine Rc.getI tb_46 rfl rfl (LawH.ob ht1) (by decide +kernel) (LawH.f0 ht1) ?_
  refine Rc.run tb_46 1 (pc' := 47) (ls' := [some (.ref (62)), some (.ref (t1)), some (.int (x2)), some (.int (x3)), some (.int (x4))]) (st' := [.int (x4), .int (M t1 0)]) rfl rfl ?_
  cases hc4 : F_3 (M t1 0) x4 with
  | none => rw [hc4] at h; cases h
  | some c4 =>
    rw [hc4] at h
    dsimp only at h
    have hq4 := T_3 (X := X) (d := d) (by omega) (M := M) hc4
    refine Rc.callS tb_46 rfl rfl rfl mS_3 mP_3 mL_3 rfl rfl rfl hq4 ?_
    refine Rc.run tb_46 1 (pc' := 51) (ls' := [some (.ref (62)), some (.ref (t1)), some (.int (x2)), some (.int (x3)), some (.int (x4))]) (st' := [.int (x2), .int (c4)]) rfl rfl ?_
    refine Rc.icmp_ne (pc1 := 67) tb_46 rfl rfl (by decide) (by decide) (fun hb7 => ?_) (fun hb7 => ?_)
    · rw [if_pos hb7] at h
      refine Rc.run tb_46 4 (pc' := 59) (ls' := [some (.ref (62)), some (.ref (t1)), some (.int (x2)), some (.int (x3)), some (.int (x4))]) (st' := [.int (x3), .int (x4), .ref (t1), .ref (62)]) rfl rfl ?_
      cases hc5 : F_43 t1 x4 x3 M with
      | none => rw [hc5] at h; cases h
      | some c5 =>
        rw [hc5] at h
        dsimp only at h
        have hq5 := T_43 (X := X) (d := d) (by omega) (M := M) ht1 hc5
        have hz5 := Rc.bool mR_43 hq5
        refine Rc.callV tb_46 rfl rfl rfl mS_43 mP_43 mL_43 mO_43 rfl rfl ob_62 rfl rfl hq5 ?_
        refine Rc.if_eq (pc1 := 67) tb_46 rfl rfl (by decide) (by decide) (fun hb6 => ?_) (fun hb6 => ?_)
        · rw [if_pos hb6] at h
          refine Rc.mask (b := 31) ((tb_46.2 67).trans rfl) (ls' := [some (.ref (62)), some (.ref (t1)), some (.int (x2)), some (.int (x3)), some (.int (x4))]) rfl ?_
          exact TJ_46_67_3 (X := X) (d := d + 1) (by omega) ht1 h hP hE
        · rw [if_neg hb6] at h
          refine Rc.run tb_46 1 (pc' := 66) (ls' := [some (.ref (62)), some (.ref (t1)), some (.int (x2)), some (.int (x3)), some (.int (x4))]) (st' := [.int (1)]) rfl rfl ?_
          obtain rfl := Option.some.inj h
          obtain ⟨rfl, rfl⟩ := hE _ rfl
          exact Rc.zret tb_46 rfl mR_46 (Or.inr rfl)
    · rw [if_neg hb7] at h
      refine Rc.mask (b := 31) ((tb_46.2 67).trans rfl) (ls' := [some (.ref (62)), some (.ref (t1)), some (.int (x2)), some (.int (x3)), some (.int (x4))]) rfl ?_
      exact TJ_46_67_3 (X := X) (d := d + 1) (by omega) ht1 h hP hE
theorem TB_46_3 {X : AX} {d : Nat} (hd : 4 ≤ d) {t1 : Nat} {x2 : Int32} {x3 : Int32} {M : IM} (ht1 : LawH t1) {v : Option Value} {M' : IM} : ∀ (s : Int32) (o : (Int32) ⊕ ((Int32) ⊕ (Int32))), B_46_3 t1 x2 x3 M s = some o → (∀ s', o = .inl s' → (fun x4 => Rc X d 46 3 [some (.ref (62)), some (.ref (t1)), some (.int (x2)), some (.int (x3)), some (.int (x4))] [] M v M') s') → (∀ r, o = .inr r → (fun r => match r with | .inl x4 => Rc X d 46 73 [none, none, none, none, none] [] M v M' | .inr q => v = some (.int q) ∧ M' = M) r) → (fun x4 => Rc X d 46 3 [some (.ref (62)), some (.ref (t1)), some (.int (x2)), some (.int (x3)), some (.int (x4))] [] M v M') s := by
  intro x4 o h hP hE
  show Rc X d 46 3 [some (.ref (62)), some (.ref (t1)), some (.int (x2)), some (.int (x3)), some (.int (x4))] [] M v M'
  obtain ⟨d, rfl⟩ : ∃ e, d = e + 1 := ⟨d - 1, by omega⟩
  unfold B_46_3 at h
  dsimp only at h hP hE
  refine Rc.run tb_46 2 (pc' := 6) (ls' := [some (.ref (62)), some (.ref (t1)), some (.int (x2)), some (.int (x3)), some (.int (x4))]) (st' := [.ref (t1), .int (x4)]) rfl rfl ?_
  refine Rc.getI tb_46 rfl rfl (LawH.ob ht1) (by decide +kernel) (LawH.f0 ht1) ?_
  cases hc1 : F_0 (M t1 0) with
  | none => rw [hc1] at h; cases h
  | some c1 =>
    rw [hc1] at h
    dsimp only at h
    have hq1 := T_0 (X := X) (d := d) (by omega) (M := M) hc1
    refine Rc.callS tb_46 rfl rfl rfl mS_0 mP_0 mL_0 rfl rfl rfl hq1 ?_
    refine Rc.icmp_ge (pc1 := 73) tb_46 rfl rfl (by decide) (by decide) (fun hb10 => ?_) (fun hb10 => ?_)
    · rw [if_pos hb10] at h
      refine Rc.mask (b := 0) ((tb_46.2 73).trans rfl) (ls' := [none, none, none, none, none]) rfl ?_
      obtain rfl := Option.some.inj h
      exact hE _ rfl
    · rw [if_neg hb10] at h
      refine Rc.run tb_46 1 (pc' := 16) (ls' := [some (.ref (62)), some (.ref (t1)), some (.int (x2)), some (.int (x3)), some (.int (x4))]) (st' := [.ref (t1)]) rfl rfl ?_
      refine Rc.getI tb_46 rfl rfl (LawH.ob ht1) (by decide +kernel) (LawH.f0 ht1) ?_
      refine Rc.run tb_46 1 (pc' := 21) (ls' := [some (.ref (62)), some (.ref (t1)), some (.int (x2)), some (.int (x3)), some (.int (x4))]) (st' := [.int (x4), .int (M t1 0)]) rfl rfl ?_
      cases hc2 : F_2 (M t1 0) x4 with
      | none => rw [hc2] at h; cases h
      | some c2 =>
        rw [hc2] at h
        dsimp only at h
        have hq2 := T_2 (X := X) (d := d) (by omega) (M := M) hc2
        refine Rc.callS tb_46 rfl rfl rfl mS_2 mP_2 mL_2 rfl rfl rfl hq2 ?_
        refine Rc.run tb_46 1 (pc' := 25) (ls' := [some (.ref (62)), some (.ref (t1)), some (.int (x2)), some (.int (x3)), some (.int (x4))]) (st' := [.int (x2), .int (c2)]) rfl rfl ?_
        refine Rc.icmp_ne (pc1 := 41) tb_46 rfl rfl (by decide) (by decide) (fun hb9 => ?_) (fun hb9 => ?_)
        · rw [if_pos hb9] at h
          refine Rc.run tb_46 4 (pc' := 33) (ls' := [some (.ref (62)), some (.ref (t1)), some (.int (x2)), some (.int (x3)), some (.int (x4))]) (st' := [.int (x3), .int (x4), .ref (t1), .ref (62)]) rfl rfl ?_
          cases hc3 : F_42 t1 x4 x3 M with
          | none => rw [hc3] at h; cases h
          | some c3 =>
            rw [hc3] at h
            dsimp only at h
            have hq3 := T_42 (X := X) (d := d) (by omega) (M := M) ht1 hc3
            have hz3 := Rc.bool mR_42 hq3
            refine Rc.callV tb_46 rfl rfl rfl mS_42 mP_42 mL_42 mO_42 rfl rfl ob_62 rfl rfl hq3 ?_
            refine Rc.if_eq (pc1 := 41) tb_46 rfl rfl (by decide) (by decide) (fun hb8 => ?_) (fun hb8 => ?_)
            · rw [if_pos hb8] at h
              refine Rc.mask (b := 31) ((tb_46.2 41).trans rfl) (ls' := [some (.ref (62)), some (.ref (t1)), some (.int (x2)), some (.int (x3)), some (.int (x4))]) rfl ?_
              exact TJ_46_41_3 (X := X) (d := d + 1) (by omega) ht1 h hP hE
            · rw [if_neg hb8] at h
              refine Rc.run tb_46 1 (pc' := 40) (ls' := [some (.ref (62)), some (.ref (t1)), some (.int (x2)), some (.int (x3)), some (.int (x4))]) (st' := [.int (1)]) rfl rfl ?_
              obtain rfl := Option.some.inj h
              obtain ⟨rfl, rfl⟩ := hE _ rfl
              exact Rc.zret tb_46 rfl mR_46 (Or.inr rfl)
        · rw [if_neg hb9] at h
          refine Rc.mask (b := 31) ((tb_46.2 41).trans rfl) (ls' := [some (.ref (62)), some (.ref (t1)), some (.int (x2)), some (.int (x3)), some (.int (x4))]) rfl ?_
          exact TJ_46_41_3 (X := X) (d := d + 1) (by omega) ht1 h hP hE
theorem TL_46_3 {X : AX} {d : Nat} (hd : 4 ≤ d) {t1 : Nat} {x2 : Int32} {x3 : Int32} {M : IM} {x4 : Int32} (ht1 : LawH t1) {v : Option Value} {M' : IM} {r : (Int32) ⊕ (Int32)} (h : L_46_3 t1 x2 x3 M x4 = some r) (hE : (fun r => match r with | .inl x4 => Rc X d 46 73 [none, none, none, none, none] [] M v M' | .inr q => v = some (.int q) ∧ M' = M) r) : Rc X d 46 3 [some (.ref (62)), some (.ref (t1)), some (.int (x2)), some (.int (x3)), some (.int (x4))] [] M v M' := by
  exact loopN_rc (P := fun x4 => Rc X d 46 3 [some (.ref (62)), some (.ref (t1)), some (.int (x2)), some (.int (x3)), some (.int (x4))] [] M v M') (E := fun r => match r with | .inl x4 => Rc X d 46 73 [none, none, none, none, none] [] M v M' | .inr q => v = some (.int q) ∧ M' = M) (TB_46_3 (X := X) hd ht1) FU _ r h hE
theorem TF_46 {X : AX} {d : Nat} (hd : 4 ≤ d) {t1 : Nat} {a2 : Int32} {a3 : Int32} {M : IM} (ht1 : LawH t1) {v : Option Value} {M' : IM} {o : Int32} (h : F_46 t1 a2 a3 M = some o) (hC : v = some (.int o) ∧ M' = M) : Rc X d 46 0 [some (.ref (62)), some (.ref (t1)), some (.int (a2)), some (.int (a3)), none] [] M v M' := by
  obtain ⟨d, rfl⟩ : ∃ e, d = e + 1 := ⟨d - 1, by omega⟩
  unfold F_46 at h
  refine Rc.run tb_46 2 (pc' := 3) (ls' := [some (.ref (62)), some (.ref (t1)), some (.int (a2)), some (.int (a3)), some (.int (0))]) (st' := []) rfl rfl ?_
  refine Rc.mask (b := 31) ((tb_46.2 3).trans rfl) (ls' := [some (.ref (62)), some (.ref (t1)), some (.int (a2)), some (.int (a3)), some (.int (0))]) rfl ?_
  cases hl11 : L_46_3 t1 a2 a3 M 0 with
  | none => rw [hl11] at h; cases h
  | some rr11 =>
    rw [hl11] at h
    cases rr11 with
    | inl x4_11 =>
      dsimp only at h
      refine TL_46_3 (X := X) (d := d + 1) (by omega) ht1 hl11 ?_
      refine Rc.run tb_46 1 (pc' := 74) (ls' := [none, none, none, none, none]) (st' := [.int (0)]) rfl rfl ?_
      obtain rfl := Option.some.inj h
      obtain ⟨rfl, rfl⟩ := hC
      exact Rc.zret tb_46 rfl mR_46 (Or.inl rfl)
    | inr q =>
      dsimp only at h
      refine TL_46_3 (X := X) (d := d + 1) (by omega) ht1 hl11 ?_
      obtain rfl := Option.some.inj h
      obtain ⟨rfl, rfl⟩ := hC
      exact ⟨rfl, rfl⟩
theorem T_46 {X : AX} {d : Nat} (hd : 4 ≤ d) {t1 : Nat} {a2 : Int32} {a3 : Int32} {M : IM} (ht1 : LawH t1) {x : Int32} (h : F_46 t1 a2 a3 M = some x) : Rc X d 46 0 [some (.ref (62)), some (.ref (t1)), some (.int (a2)), some (.int (a3)), none] [] M (some (.int x)) M := TF_46 hd ht1 h ⟨rfl, rfl⟩
/-! 45: NineDemands$Showing.takes -/
def F_45 (t1 : Nat) (a2 : Int32) (a3 : Int32) (M : IM) : Option (Int32 × IM) := if (0 : Int32) ≤ a3 then (if a3 - a3 / 4 * 4 = 0 then (some ((0, M))) else (if F_83 t1 a2 (a3 / 48) M = 0 then (some ((0, M))) else (if inb ((a3 - a3 / 48 * 48) / 4) 12 = true then (if F_143 (M 63 ((a3 - a3 / 48 * 48) / 4).toNatClampNeg) (a3 - a3 / 4 * 4) = 0 then (some ((0, M))) else (if inb (a3 / 48) 8 = true then (match F_46 (t1 + 5 + 2 * (a3 / 48).toNatClampNeg) ((a3 - a3 / 48 * 48) / 4) (a3 - a3 / 4 * 4) M with | none => none | some c4 => (if c4 = 0 then (some ((0, M))) else (match F_44 (a3 / 48) ((a3 - a3 / 48 * 48) / 4) (a3 - a3 / 4 * 4) M with | none => none | some M5 => (some ((1, M5)))))) else none)) else none))) else (some ((0, M)))
theorem TF_45 {X : AX} {d : Nat} (hd : 5 ≤ d) {t1 : Nat} {a2 : Int32} {a3 : Int32} {M : IM} (ht1 : VilH t1) {v : Option Value} {M' : IM} {o : Int32 × IM} (h : F_45 t1 a2 a3 M = some o) (hC : v = some (.int o.1) ∧ M' = o.2) : Rc X d 45 0 [some (.ref (62)), some (.ref (t1)), some (.int (a2)), some (.int (a3)), none, none, none] [] M v M' := by
  obtain ⟨d, rfl⟩ : ∃ e, d = e + 1 := ⟨d - 1, by omega⟩
  unfold F_45 at h
  refine Rc.run tb_45 1 (pc' := 1) (ls' := [some (.ref (62)), some (.ref (t1)), some (.int (a2)), some (.int (a3)), none, none, none]) (st' := [.int (a3)]) rfl rfl ?_
  refine Rc.if_ge (pc1 := 6) tb_45 rfl rfl (by decide) (by decide) (fun hb11 => ?_) (fun hb11 => ?_)
  · rw [if_pos hb11] at h
    refine Rc.run tb_45 2 (pc' := 9) (ls' := [some (.ref (62)), some (.ref (t1)), some (.int (a2)), some (.int (a3)), none, none, none]) (st' := [.int (48), .int (a3)]) rfl rfl ?_
    refine Rc.idiv tb_45 rfl rfl (by decide) ?_
    refine Rc.run tb_45 3 (pc' := 15) (ls' := [some (.ref (62)), some (.ref (t1)), some (.int (a2)), some (.int (a3)), some (.int (a3 / 48)), none, none]) (st' := [.int (48), .int (a3)]) rfl rfl ?_
    refine Rc.irem tb_45 rfl rfl (by decide) ?_
    refine Rc.run tb_45 1 (pc' := 17) (ls' := [some (.ref (62)), some (.ref (t1)), some (.int (a2)), some (.int (a3)), some (.int (a3 / 48)), none, none]) (st' := [.int (4), .int (a3 - a3 / 48 * 48)]) rfl rfl ?_
    refine Rc.idiv tb_45 rfl rfl (by decide) ?_
    refine Rc.run tb_45 3 (pc' := 22) (ls' := [some (.ref (62)), some (.ref (t1)), some (.int (a2)), some (.int (a3)), some (.int (a3 / 48)), some (.int ((a3 - a3 / 48 * 48) / 4)), none]) (st' := [.int (4), .int (a3)]) rfl rfl ?_
    refine Rc.irem tb_45 rfl rfl (by decide) ?_
    refine Rc.run tb_45 2 (pc' := 27) (ls' := [some (.ref (62)), some (.ref (t1)), some (.int (a2)), some (.int (a3)), some (.int (a3 / 48)), some (.int ((a3 - a3 / 48 * 48) / 4)), some (.int (a3 - a3 / 4 * 4))]) (st' := [.int (a3 - a3 / 4 * 4)]) rfl rfl ?_
    refine Rc.if_eq (pc1 := 73) tb_45 rfl rfl (by decide) (by decide) (fun hb10 => ?_) (fun hb10 => ?_)
    · rw [if_pos hb10] at h
      refine Rc.run tb_45 1 (pc' := 74) (ls' := [none, none, none, none, none, none, none]) (st' := [.int (0)]) rfl rfl ?_
      obtain rfl := Option.some.inj h
      obtain ⟨rfl, rfl⟩ := hC
      exact Rc.zret tb_45 rfl mR_45 (Or.inl rfl)
    · rw [if_neg hb10] at h
      refine Rc.run tb_45 3 (pc' := 34) (ls' := [some (.ref (62)), some (.ref (t1)), some (.int (a2)), some (.int (a3)), some (.int (a3 / 48)), some (.int ((a3 - a3 / 48 * 48) / 4)), some (.int (a3 - a3 / 4 * 4))]) (st' := [.int (a3 / 48), .int (a2), .ref (t1)]) rfl rfl ?_
      have hq1 := T_83 (X := X) (d := d) (by omega) ht1 a2 (a3 / 48) M
      have hz1 := Rc.bool mR_83 hq1
      refine Rc.callV tb_45 rfl rfl rfl mS_83 mP_83 mL_83 mO_83 rfl rfl (VilH.ob ht1) rfl rfl hq1 ?_
      refine Rc.if_eq (pc1 := 73) tb_45 rfl rfl (by decide) (by decide) (fun hb9 => ?_) (fun hb9 => ?_)
      · rw [if_pos hb9] at h
        refine Rc.run tb_45 1 (pc' := 74) (ls' := [none, none, none, none, none, none, none]) (st' := [.int (0)]) rfl rfl ?_
        obtain rfl := Option.some.inj h
        obtain ⟨rfl, rfl⟩ := hC
        exact Rc.zret tb_45 rfl mR_45 (Or.inl rfl)
      · rw [if_neg hb9] at h
        refine Rc.run tb_45 1 (pc' := 41) (ls' := [some (.ref (62)), some (.ref (t1)), some (.int (a2)), some (.int (a3)), some (.int (a3 / 48)), some (.int ((a3 - a3 / 48 * 48) / 4)), some (.int (a3 - a3 / 4 * 4))]) (st' := [.ref (62)]) rfl rfl ?_
        refine Rc.getR tb_45 rfl rfl ob_62 (by decide +kernel) tg_62_0 (by decide) ?_
        refine Rc.run tb_45 1 (pc' := 46) (ls' := [some (.ref (62)), some (.ref (t1)), some (.int (a2)), some (.int (a3)), some (.int (a3 / 48)), some (.int ((a3 - a3 / 48 * 48) / 4)), some (.int (a3 - a3 / 4 * 4))]) (st' := [.int ((a3 - a3 / 48 * 48) / 4), .ref (63)]) rfl rfl ?_
        by_cases hb8 : inb ((a3 - a3 / 48 * 48) / 4) 12 = true
        · rw [if_pos hb8] at h
          refine Rc.iald tb_45 rfl rfl ia_63 hb8 ?_
          refine Rc.run tb_45 1 (pc' := 49) (ls' := [some (.ref (62)), some (.ref (t1)), some (.int (a2)), some (.int (a3)), some (.int (a3 / 48)), some (.int ((a3 - a3 / 48 * 48) / 4)), some (.int (a3 - a3 / 4 * 4))]) (st' := [.int (a3 - a3 / 4 * 4), .int (M 63 ((a3 - a3 / 48 * 48) / 4).toNatClampNeg)]) rfl rfl ?_
          have hq2 := T_143 (X := X) (d := d) (by omega) (M 63 ((a3 - a3 / 48 * 48) / 4).toNatClampNeg) (a3 - a3 / 4 * 4) M
          have hz2 := Rc.bool mR_143 hq2
          refine Rc.callS tb_45 rfl rfl rfl mS_143 mP_143 mL_143 rfl rfl rfl hq2 ?_
          refine Rc.if_eq (pc1 := 73) tb_45 rfl rfl (by decide) (by decide) (fun hb7 => ?_) (fun hb7 => ?_)
          · rw [if_pos hb7] at h
            refine Rc.run tb_45 1 (pc' := 74) (ls' := [none, none, none, none, none, none, none]) (st' := [.int (0)]) rfl rfl ?_
            obtain rfl := Option.some.inj h
            obtain ⟨rfl, rfl⟩ := hC
            exact Rc.zret tb_45 rfl mR_45 (Or.inl rfl)
          · rw [if_neg hb7] at h
            refine Rc.run tb_45 2 (pc' := 57) (ls' := [some (.ref (62)), some (.ref (t1)), some (.int (a2)), some (.int (a3)), some (.int (a3 / 48)), some (.int ((a3 - a3 / 48 * 48) / 4)), some (.int (a3 - a3 / 4 * 4))]) (st' := [.ref (t1), .ref (62)]) rfl rfl ?_
            refine Rc.getR tb_45 rfl rfl (VilH.ob ht1) (by decide +kernel) (VilH.f1 ht1) (by have := VilH.lt ht1; omega) ?_
            refine Rc.run tb_45 1 (pc' := 62) (ls' := [some (.ref (62)), some (.ref (t1)), some (.int (a2)), some (.int (a3)), some (.int (a3 / 48)), some (.int ((a3 - a3 / 48 * 48) / 4)), some (.int (a3 - a3 / 4 * 4))]) (st' := [.int (a3 / 48), .ref ((t1 + 2)), .ref (62)]) rfl rfl ?_
            by_cases hb3 : inb (a3 / 48) 8 = true
            · rw [if_pos hb3] at h
              refine Rc.aald tb_45 rfl rfl (VilH.lt98 ht1) (Or.inl (VilH.kd2 ht1)) (by rw [VilH.ln2 ht1]; exact hb3) (VilH.tg2 ht1 hb3) (LawH.lt0 (VilH.el ht1 hb3)) ?_
              refine Rc.run tb_45 2 (pc' := 67) (ls' := [some (.ref (62)), some (.ref (t1)), some (.int (a2)), some (.int (a3)), some (.int (a3 / 48)), some (.int ((a3 - a3 / 48 * 48) / 4)), some (.int (a3 - a3 / 4 * 4))]) (st' := [.int (a3 - a3 / 4 * 4), .int ((a3 - a3 / 48 * 48) / 4), .ref ((t1 + 5 + 2 * (a3 / 48).toNatClampNeg)), .ref (62)]) rfl rfl ?_
              cases hc4 : F_46 (t1 + 5 + 2 * (a3 / 48).toNatClampNeg) ((a3 - a3 / 48 * 48) / 4) (a3 - a3 / 4 * 4) M with
              | none => rw [hc4] at h; cases h
              | some c4 =>
                rw [hc4] at h
                dsimp only at h
                have hq4 := T_46 (X := X) (d := d) (by omega) (M := M) (VilH.el ht1 hb3) hc4
                have hz4 := Rc.bool mR_46 hq4
                refine Rc.callV tb_45 rfl rfl rfl mS_46 mP_46 mL_46 mO_46 rfl rfl ob_62 rfl rfl hq4 ?_
                refine Rc.if_ne (pc1 := 75) tb_45 rfl rfl (by decide) (by decide) (fun hb6 => ?_) (fun hb6 => ?_)
                · rw [if_pos hb6] at h
                  refine Rc.run tb_45 1 (pc' := 74) (ls' := [none, none, none, none, none, none, none]) (st' := [.int (0)]) rfl rfl ?_
                  obtain rfl := Option.some.inj h
                  obtain ⟨rfl, rfl⟩ := hC
                  exact Rc.zret tb_45 rfl mR_45 (Or.inl rfl)
                · rw [if_neg hb6] at h
                  refine Rc.run tb_45 4 (pc' := 82) (ls' := [some (.ref (62)), some (.ref (t1)), some (.int (a2)), some (.int (a3)), some (.int (a3 / 48)), some (.int ((a3 - a3 / 48 * 48) / 4)), some (.int (a3 - a3 / 4 * 4))]) (st' := [.int (a3 - a3 / 4 * 4), .int ((a3 - a3 / 48 * 48) / 4), .int (a3 / 48), .ref (62)]) rfl rfl ?_
                  cases hc5 : F_44 (a3 / 48) ((a3 - a3 / 48 * 48) / 4) (a3 - a3 / 4 * 4) M with
                  | none => rw [hc5] at h; cases h
                  | some M5 =>
                    rw [hc5] at h
                    dsimp only at h
                    have hq5 := T_44 (X := X) (d := d) (by omega) (M := M) hc5
                    refine Rc.callV tb_45 rfl rfl rfl mS_44 mP_44 mL_44 mO_44 rfl rfl ob_62 rfl rfl hq5 ?_
                    refine Rc.run tb_45 1 (pc' := 86) (ls' := [some (.ref (62)), some (.ref (t1)), some (.int (a2)), some (.int (a3)), some (.int (a3 / 48)), some (.int ((a3 - a3 / 48 * 48) / 4)), some (.int (a3 - a3 / 4 * 4))]) (st' := [.int (1)]) rfl rfl ?_
                    obtain rfl := Option.some.inj h
                    obtain ⟨rfl, rfl⟩ := hC
                    exact Rc.zret tb_45 rfl mR_45 (Or.inr rfl)
            · rw [if_neg hb3] at h
              cases h
        · rw [if_neg hb8] at h
          cases h
  · rw [if_neg hb11] at h
    refine Rc.run tb_45 1 (pc' := 5) (ls' := [some (.ref (62)), some (.ref (t1)), some (.int (a2)), some (.int (a3)), none, none, none]) (st' := [.int (0)]) rfl rfl ?_
    obtain rfl := Option.some.inj h
    obtain ⟨rfl, rfl⟩ := hC
    exact Rc.zret tb_45 rfl mR_45 (Or.inl rfl)
theorem T_45 {X : AX} {d : Nat} (hd : 5 ≤ d) {t1 : Nat} {a2 : Int32} {a3 : Int32} {M : IM} (ht1 : VilH t1) {x : Int32} {M1 : IM} (h : F_45 t1 a2 a3 M = some (x, M1)) : Rc X d 45 0 [some (.ref (62)), some (.ref (t1)), some (.int (a2)), some (.int (a3)), none, none, none] [] M (some (.int x)) M1 := TF_45 hd ht1 h ⟨rfl, rfl⟩
/-! 50: NineDemands$Tally.isFree -/
def B_50_10 (x1 : Int32) (x2 : Int32) (M : IM) : (Int32) → Option ((Int32) ⊕ ((Int32) ⊕ (Int32))) := fun x3 => if (3 : Int32) < x3 then (some (Sum.inr (Sum.inl x3))) else (if inb ((((x1 * 12) + x2) * 4) + x3) 576 = true then (if M 52 ((((x1 * 12) + x2) * 4) + x3).toNatClampNeg = 7 then (some (Sum.inl (x3 + 1))) else (some (Sum.inr (Sum.inr 0)))) else none)
def L_50_10 (x1 : Int32) (x2 : Int32) (M : IM) (x3 : Int32) : Option ((Int32) ⊕ (Int32)) := loopN (B_50_10 x1 x2 M) FU x3
def J_50_43_2 (x1 : Int32) (x2 : Int32) (M : IM) : Option ((Int32) ⊕ ((Int32) ⊕ (Int32))) := some (Sum.inl (x2 + 1))
def B_50_2 (x1 : Int32) (M : IM) : (Int32) → Option ((Int32) ⊕ ((Int32) ⊕ (Int32))) := fun x2 => if (12 : Int32) ≤ x2 then (some (Sum.inr (Sum.inl x2))) else (match L_50_10 x1 x2 M 1 with | none => none | some (.inl x3_4) => (J_50_43_2 x1 x2 M) | some (.inr q) => some (Sum.inr (Sum.inr q)))
def L_50_2 (x1 : Int32) (M : IM) (x2 : Int32) : Option ((Int32) ⊕ (Int32)) := loopN (B_50_2 x1 M) FU x2
def F_50 (a1 : Int32) (M : IM) : Option (Int32) := (match L_50_2 a1 M 0 with | none => none | some (.inl x2_6) => (some (1)) | some (.inr q) => some (q))
theorem TB_50_10 {X : AX} {d : Nat} (hd : 0 ≤ d) {x1 : Int32} {x2 : Int32} {M : IM} {v : Option Value} {M' : IM} : ∀ (s : Int32) (o : (Int32) ⊕ ((Int32) ⊕ (Int32))), B_50_10 x1 x2 M s = some o → (∀ s', o = .inl s' → (fun x3 => Rc X d 50 10 [some (.ref (50)), some (.int (x1)), some (.int (x2)), some (.int (x3))] [] M v M') s') → (∀ r, o = .inr r → (fun r => match r with | .inl x3 => Rc X d 50 43 [some (.ref (50)), some (.int (x1)), some (.int (x2)), none] [] M v M' | .inr q => v = some (.int q) ∧ M' = M) r) → (fun x3 => Rc X d 50 10 [some (.ref (50)), some (.int (x1)), some (.int (x2)), some (.int (x3))] [] M v M') s := by
  intro x3 o h hP hE
  show Rc X d 50 10 [some (.ref (50)), some (.int (x1)), some (.int (x2)), some (.int (x3))] [] M v M'
  unfold B_50_10 at h
  dsimp only at h hP hE
  refine Rc.run tb_50 2 (pc' := 12) (ls' := [some (.ref (50)), some (.int (x1)), some (.int (x2)), some (.int (x3))]) (st' := [.int (3), .int (x3)]) rfl rfl ?_
  refine Rc.icmp_gt (pc1 := 43) tb_50 rfl rfl (by decide) (by decide) (fun hb3 => ?_) (fun hb3 => ?_)
  · rw [if_pos hb3] at h
    refine Rc.mask (b := 7) ((tb_50.2 43).trans rfl) (ls' := [some (.ref (50)), some (.int (x1)), some (.int (x2)), none]) rfl ?_
    obtain rfl := Option.some.inj h
    exact hE _ rfl
  · rw [if_neg hb3] at h
    refine Rc.run tb_50 1 (pc' := 16) (ls' := [some (.ref (50)), some (.int (x1)), some (.int (x2)), some (.int (x3))]) (st' := [.ref (50)]) rfl rfl ?_
    refine Rc.getR tb_50 rfl rfl ob_50 (by decide +kernel) tg_50_1 (by decide) ?_
    refine Rc.run tb_50 9 (pc' := 29) (ls' := [some (.ref (50)), some (.int (x1)), some (.int (x2)), some (.int (x3))]) (st' := [.int ((((x1 * 12) + x2) * 4) + x3), .ref (52)]) rfl rfl ?_
    by_cases hb2 : inb ((((x1 * 12) + x2) * 4) + x3) 576 = true
    · rw [if_pos hb2] at h
      refine Rc.iald tb_50 rfl rfl ia_52 hb2 ?_
      refine Rc.run tb_50 1 (pc' := 32) (ls' := [some (.ref (50)), some (.int (x1)), some (.int (x2)), some (.int (x3))]) (st' := [.int (7), .int (M 52 ((((x1 * 12) + x2) * 4) + x3).toNatClampNeg)]) rfl rfl ?_
      refine Rc.icmp_eq (pc1 := 37) tb_50 rfl rfl (by decide) (by decide) (fun hb1 => ?_) (fun hb1 => ?_)
      · rw [if_pos hb1] at h
        refine Rc.run tb_50 2 (pc' := 10) (ls' := [some (.ref (50)), some (.int (x1)), some (.int (x2)), some (.int (x3 + 1))]) (st' := []) rfl rfl ?_
        refine Rc.mask (b := 15) ((tb_50.2 10).trans rfl) (ls' := [some (.ref (50)), some (.int (x1)), some (.int (x2)), some (.int (x3 + 1))]) rfl ?_
        obtain rfl := Option.some.inj h
        exact hP _ rfl
      · rw [if_neg hb1] at h
        refine Rc.run tb_50 1 (pc' := 36) (ls' := [some (.ref (50)), some (.int (x1)), some (.int (x2)), some (.int (x3))]) (st' := [.int (0)]) rfl rfl ?_
        obtain rfl := Option.some.inj h
        obtain ⟨rfl, rfl⟩ := hE _ rfl
        exact Rc.zret tb_50 rfl mR_50 (Or.inl rfl)
    · rw [if_neg hb2] at h
      cases h
theorem TL_50_10 {X : AX} {d : Nat} (hd : 0 ≤ d) {x1 : Int32} {x2 : Int32} {M : IM} {x3 : Int32} {v : Option Value} {M' : IM} {r : (Int32) ⊕ (Int32)} (h : L_50_10 x1 x2 M x3 = some r) (hE : (fun r => match r with | .inl x3 => Rc X d 50 43 [some (.ref (50)), some (.int (x1)), some (.int (x2)), none] [] M v M' | .inr q => v = some (.int q) ∧ M' = M) r) : Rc X d 50 10 [some (.ref (50)), some (.int (x1)), some (.int (x2)), some (.int (x3))] [] M v M' := by
  exact loopN_rc (P := fun x3 => Rc X d 50 10 [some (.ref (50)), some (.int (x1)), some (.int (x2)), some (.int (x3))] [] M v M') (E := fun r => match r with | .inl x3 => Rc X d 50 43 [some (.ref (50)), some (.int (x1)), some (.int (x2)), none] [] M v M' | .inr q => v = some (.int q) ∧ M' = M) (TB_50_10 (X := X) hd) FU _ r h hE
theorem TJ_50_43_2 {X : AX} {d : Nat} (hd : 0 ≤ d) {x1 : Int32} {x2 : Int32} {M : IM} {v : Option Value} {M' : IM} {o : (Int32) ⊕ ((Int32) ⊕ (Int32))} (h : J_50_43_2 x1 x2 M = some o) (hP : ∀ s', o = .inl s' → (fun x2 => Rc X d 50 2 [some (.ref (50)), some (.int (x1)), some (.int (x2)), none] [] M v M') s') (hE : ∀ r, o = .inr r → (fun r => match r with | .inl x2 => Rc X d 50 49 [none, none, none, none] [] M v M' | .inr q => v = some (.int q) ∧ M' = M) r) : Rc X d 50 43 [some (.ref (50)), some (.int (x1)), some (.int (x2)), none] [] M v M' := by
  unfold J_50_43_2 at h
  dsimp only at hP hE
  refine Rc.run tb_50 2 (pc' := 2) (ls' := [some (.ref (50)), some (.int (x1)), some (.int (x2 + 1)), none]) (st' := []) rfl rfl ?_
  refine Rc.mask (b := 7) ((tb_50.2 2).trans rfl) (ls' := [some (.ref (50)), some (.int (x1)), some (.int (x2 + 1)), none]) rfl ?_
  obtain rfl := Option.some.inj h
  exact hP _ rfl
theorem TB_50_2 {X : AX} {d : Nat} (hd : 0 ≤ d) {x1 : Int32} {M : IM} {v : Option Value} {M' : IM} : ∀ (s : Int32) (o : (Int32) ⊕ ((Int32) ⊕ (Int32))), B_50_2 x1 M s = some o → (∀ s', o = .inl s' → (fun x2 => Rc X d 50 2 [some (.ref (50)), some (.int (x1)), some (.int (x2)), none] [] M v M') s') → (∀ r, o = .inr r → (fun r => match r with | .inl x2 => Rc X d 50 49 [none, none, none, none] [] M v M' | .inr q => v = some (.int q) ∧ M' = M) r) → (fun x2 => Rc X d 50 2 [some (.ref (50)), some (.int (x1)), some (.int (x2)), none] [] M v M') s := by
  intro x2 o h hP hE
  show Rc X d 50 2 [some (.ref (50)), some (.int (x1)), some (.int (x2)), none] [] M v M'
  unfold B_50_2 at h
  dsimp only at h hP hE
  refine Rc.run tb_50 2 (pc' := 5) (ls' := [some (.ref (50)), some (.int (x1)), some (.int (x2)), none]) (st' := [.int (12), .int (x2)]) rfl rfl ?_
  refine Rc.icmp_ge (pc1 := 49) tb_50 rfl rfl (by decide) (by decide) (fun hb5 => ?_) (fun hb5 => ?_)
  · rw [if_pos hb5] at h
    refine Rc.mask (b := 0) ((tb_50.2 49).trans rfl) (ls' := [none, none, none, none]) rfl ?_
    obtain rfl := Option.some.inj h
    exact hE _ rfl
  · rw [if_neg hb5] at h
    refine Rc.run tb_50 2 (pc' := 10) (ls' := [some (.ref (50)), some (.int (x1)), some (.int (x2)), some (.int (1))]) (st' := []) rfl rfl ?_
    refine Rc.mask (b := 15) ((tb_50.2 10).trans rfl) (ls' := [some (.ref (50)), some (.int (x1)), some (.int (x2)), some (.int (1))]) rfl ?_
    cases hl4 : L_50_10 x1 x2 M 1 with
    | none => rw [hl4] at h; cases h
    | some rr4 =>
      rw [hl4] at h
      cases rr4 with
      | inl x3_4 =>
        dsimp only at h
        refine TL_50_10 (X := X) (d := d) (by omega) hl4 ?_
        refine Rc.mask (b := 7) ((tb_50.2 43).trans rfl) (ls' := [some (.ref (50)), some (.int (x1)), some (.int (x2)), none]) rfl ?_
        exact TJ_50_43_2 (X := X) (d := d) (by omega) h hP hE
      | inr q =>
        dsimp only at h
        refine TL_50_10 (X := X) (d := d) (by omega) hl4 ?_
        obtain rfl := Option.some.inj h
        obtain ⟨rfl, rfl⟩ := hE _ rfl
        exact ⟨rfl, rfl⟩
theorem TL_50_2 {X : AX} {d : Nat} (hd : 0 ≤ d) {x1 : Int32} {M : IM} {x2 : Int32} {v : Option Value} {M' : IM} {r : (Int32) ⊕ (Int32)} (h : L_50_2 x1 M x2 = some r) (hE : (fun r => match r with | .inl x2 => Rc X d 50 49 [none, none, none, none] [] M v M' | .inr q => v = some (.int q) ∧ M' = M) r) : Rc X d 50 2 [some (.ref (50)), some (.int (x1)), some (.int (x2)), none] [] M v M' := by
  exact loopN_rc (P := fun x2 => Rc X d 50 2 [some (.ref (50)), some (.int (x1)), some (.int (x2)), none] [] M v M') (E := fun r => match r with | .inl x2 => Rc X d 50 49 [none, none, none, none] [] M v M' | .inr q => v = some (.int q) ∧ M' = M) (TB_50_2 (X := X) hd) FU _ r h hE
theorem TF_50 {X : AX} {d : Nat} (hd : 0 ≤ d) {a1 : Int32} {M : IM} {v : Option Value} {M' : IM} {o : Int32} (h : F_50 a1 M = some o) (hC : v = some (.int o) ∧ M' = M) : Rc X d 50 0 [some (.ref (50)), some (.int (a1)), none, none] [] M v M' := by
  unfold F_50 at h
  refine Rc.run tb_50 2 (pc' := 2) (ls' := [some (.ref (50)), some (.int (a1)), some (.int (0)), none]) (st' := []) rfl rfl ?_
  refine Rc.mask (b := 7) ((tb_50.2 2).trans rfl) (ls' := [some (.ref (50)), some (.int (a1)), some (.int (0)), none]) rfl ?_
  cases hl6 : L_50_2 a1 M 0 with
  | none => rw [hl6] at h; cases h
  | some rr6 =>
    rw [hl6] at h
    cases rr6 with
    | inl x2_6 =>
      dsimp only at h
      refine TL_50_2 (X := X) (d := d) (by omega) hl6 ?_
      refine Rc.run tb_50 1 (pc' := 50) (ls' := [none, none, none, none]) (st' := [.int (1)]) rfl rfl ?_
      obtain rfl := Option.some.inj h
      obtain ⟨rfl, rfl⟩ := hC
      exact Rc.zret tb_50 rfl mR_50 (Or.inr rfl)
    | inr q =>
      dsimp only at h
      refine TL_50_2 (X := X) (d := d) (by omega) hl6 ?_
      obtain rfl := Option.some.inj h
      obtain ⟨rfl, rfl⟩ := hC
      exact ⟨rfl, rfl⟩
theorem T_50 {X : AX} {d : Nat} (hd : 0 ≤ d) {a1 : Int32} {M : IM} {x : Int32} (h : F_50 a1 M = some x) : Rc X d 50 0 [some (.ref (50)), some (.int (a1)), none, none] [] M (some (.int x)) M := TF_50 hd h ⟨rfl, rfl⟩
/-! 49: NineDemands$Tally.settleFree -/
def J_49_73_4 (x1 : Int32) (x2 : Int32) (M : IM) : Option ((Int32 × Int32 × IM) ⊕ ((Int32 × Int32 × IM) ⊕ (Int32 × IM))) := some (Sum.inl (x1, x2 + 1, M))
def J_49_72_4 (x1 : Int32) (x2 : Int32) (s0 : Int32) (s1 : Int32) (M : IM) : Option ((Int32 × Int32 × IM) ⊕ ((Int32 × Int32 × IM) ⊕ (Int32 × IM))) := if inb s1 84 = true then (J_49_73_4 x1 x2 (iset M 56 s1.toNatClampNeg s0)) else none
def B_49_4 : (Int32 × Int32 × IM) → Option ((Int32 × Int32 × IM) ⊕ ((Int32 × Int32 × IM) ⊕ (Int32 × IM))) := fun (x1, x2, M) => if (12 : Int32) ≤ x2 then (some (Sum.inr (Sum.inl (x1, x2, M)))) else (if inb x2 84 = true then (if M 56 x2.toNatClampNeg = 0 then (some (Sum.inr (Sum.inr (0, M)))) else (match F_50 x2 M with | none => none | some c1 => (if c1 = 0 then (J_49_73_4 x1 x2 M) else (if inb x2 12 = true then (if F_143 (M 56 x2.toNatClampNeg) (M 57 x2.toNatClampNeg) = 0 then (J_49_72_4 (x1 * (F_252 (M 56 x2.toNatClampNeg))) x2 ((M 56 x2.toNatClampNeg) &&& (-(M 56 x2.toNatClampNeg))) x2 M) else (if inb x2 12 = true then (J_49_72_4 (x1 * (F_252 (M 56 x2.toNatClampNeg))) x2 (F_142 (M 57 x2.toNatClampNeg)) x2 M) else none)) else none)))) else none)
def L_49_4 (x1 : Int32) (x2 : Int32) (M : IM) : Option ((Int32 × Int32 × IM) ⊕ (Int32 × IM)) := loopN (B_49_4) FU (x1, x2, M)
def F_49 (M : IM) : Option (Int32 × IM) := (match L_49_4 1 0 M with | none => none | some (.inl (x1_13, x2_13, M13)) => (some ((x1_13, M13))) | some (.inr q) => some (q))
theorem TJ_49_73_4 {X : AX} {d : Nat} (hd : 1 ≤ d) {x1 : Int32} {x2 : Int32} {M : IM} {v : Option Value} {M' : IM} {o : (Int32 × Int32 × IM) ⊕ ((Int32 × Int32 × IM) ⊕ (Int32 × IM))} (h : J_49_73_4 x1 x2 M = some o) (hP : ∀ s', o = .inl s' → (fun (x1, x2, M) => Rc X d 49 4 [some (.ref (50)), some (.int (x1)), some (.int (x2)), none] [] M v M') s') (hE : ∀ r, o = .inr r → (fun r => match r with | .inl (x1, x2, M) => Rc X d 49 79 [none, some (.int (x1)), none, none] [] M v M' | .inr q => v = some (.int q.1) ∧ M' = q.2) r) : Rc X d 49 73 [some (.ref (50)), some (.int (x1)), some (.int (x2)), none] [] M v M' := by
  obtain ⟨d, rfl⟩ : ∃ e, d = e + 1 := ⟨d - 1, by omega⟩
  unfold J_49_73_4 at h
  dsimp only at hP hE
  refine Rc.run tb_49 2 (pc' := 4) (ls' := [some (.ref (50)), some (.int (x1)), some (.int (x2 + 1)), none]) (st' := []) rfl rfl ?_
  refine Rc.mask (b := 7) ((tb_49.2 4).trans rfl) (ls' := [some (.ref (50)), some (.int (x1)), some (.int (x2 + 1)), none]) rfl ?_
  obtain rfl := Option.some.inj h
  exact hP _ rfl
theorem TJ_49_72_4 {X : AX} {d : Nat} (hd : 1 ≤ d) {x1 : Int32} {x2 : Int32} {s0 : Int32} {s1 : Int32} {M : IM} {v : Option Value} {M' : IM} {o : (Int32 × Int32 × IM) ⊕ ((Int32 × Int32 × IM) ⊕ (Int32 × IM))} (h : J_49_72_4 x1 x2 s0 s1 M = some o) (hP : ∀ s', o = .inl s' → (fun (x1, x2, M) => Rc X d 49 4 [some (.ref (50)), some (.int (x1)), some (.int (x2)), none] [] M v M') s') (hE : ∀ r, o = .inr r → (fun r => match r with | .inl (x1, x2, M) => Rc X d 49 79 [none, some (.int (x1)), none, none] [] M v M' | .inr q => v = some (.int q.1) ∧ M' = q.2) r) : Rc X d 49 72 [some (.ref (50)), some (.int (x1)), some (.int (x2)), none] [.int (s0), .int (s1), .ref (56)] M v M' := by
  obtain ⟨d, rfl⟩ : ∃ e, d = e + 1 := ⟨d - 1, by omega⟩
  unfold J_49_72_4 at h
  dsimp only at hP hE
  by_cases hb4 : inb s1 84 = true
  · rw [if_pos hb4] at h
    refine Rc.iast tb_49 rfl rfl ia_56 hb4 ?_
    refine Rc.mask (b := 7) ((tb_49.2 73).trans rfl) (ls' := [some (.ref (50)), some (.int (x1)), some (.int (x2)), none]) rfl ?_
    exact TJ_49_73_4 (X := X) (d := d + 1) (by omega) h hP hE
  · rw [if_neg hb4] at h
    cases h
theorem TB_49_4 {X : AX} {d : Nat} (hd : 1 ≤ d) {v : Option Value} {M' : IM} : ∀ (s : Int32 × Int32 × IM) (o : (Int32 × Int32 × IM) ⊕ ((Int32 × Int32 × IM) ⊕ (Int32 × IM))), B_49_4 s = some o → (∀ s', o = .inl s' → (fun (x1, x2, M) => Rc X d 49 4 [some (.ref (50)), some (.int (x1)), some (.int (x2)), none] [] M v M') s') → (∀ r, o = .inr r → (fun r => match r with | .inl (x1, x2, M) => Rc X d 49 79 [none, some (.int (x1)), none, none] [] M v M' | .inr q => v = some (.int q.1) ∧ M' = q.2) r) → (fun (x1, x2, M) => Rc X d 49 4 [some (.ref (50)), some (.int (x1)), some (.int (x2)), none] [] M v M') s := by
  rintro ⟨x1, x2, M⟩ o h hP hE
  show Rc X d 49 4 [some (.ref (50)), some (.int (x1)), some (.int (x2)), none] [] M v M'
  obtain ⟨d, rfl⟩ : ∃ e, d = e + 1 := ⟨d - 1, by omega⟩
  unfold B_49_4 at h
  dsimp only at h hP hE
  refine Rc.run tb_49 2 (pc' := 7) (ls' := [some (.ref (50)), some (.int (x1)), some (.int (x2)), none]) (st' := [.int (12), .int (x2)]) rfl rfl ?_
  refine Rc.icmp_ge (pc1 := 79) tb_49 rfl rfl (by decide) (by decide) (fun hb12 => ?_) (fun hb12 => ?_)
  · rw [if_pos hb12] at h
    refine Rc.mask (b := 2) ((tb_49.2 79).trans rfl) (ls' := [none, some (.int (x1)), none, none]) rfl ?_
    obtain rfl := Option.some.inj h
    exact hE _ rfl
  · rw [if_neg hb12] at h
    refine Rc.run tb_49 1 (pc' := 11) (ls' := [some (.ref (50)), some (.int (x1)), some (.int (x2)), none]) (st' := [.ref (50)]) rfl rfl ?_
    refine Rc.getR tb_49 rfl rfl ob_50 (by decide +kernel) tg_50_2 (by decide) ?_
    refine Rc.run tb_49 1 (pc' := 15) (ls' := [some (.ref (50)), some (.int (x1)), some (.int (x2)), none]) (st' := [.int (x2), .ref (56)]) rfl rfl ?_
    by_cases hb11 : inb x2 84 = true
    · rw [if_pos hb11] at h
      refine Rc.iald tb_49 rfl rfl ia_56 hb11 ?_
      refine Rc.run tb_49 2 (pc' := 18) (ls' := [some (.ref (50)), some (.int (x1)), some (.int (x2)), some (.int (M 56 x2.toNatClampNeg))]) (st' := [.int (M 56 x2.toNatClampNeg)]) rfl rfl ?_
      refine Rc.if_ne (pc1 := 23) tb_49 rfl rfl (by decide) (by decide) (fun hb10 => ?_) (fun hb10 => ?_)
      · rw [if_pos hb10] at h
        refine Rc.run tb_49 1 (pc' := 22) (ls' := [some (.ref (50)), some (.int (x1)), some (.int (x2)), some (.int (M 56 x2.toNatClampNeg))]) (st' := [.int (0)]) rfl rfl ?_
        obtain rfl := Option.some.inj h
        obtain ⟨rfl, rfl⟩ := hE _ rfl
        exact Rc.iret (ins := .ireturn) tb_49 rfl mR_49
      · rw [if_neg hb10] at h
        refine Rc.run tb_49 2 (pc' := 25) (ls' := [some (.ref (50)), some (.int (x1)), some (.int (x2)), some (.int (M 56 x2.toNatClampNeg))]) (st' := [.int (x2), .ref (50)]) rfl rfl ?_
        cases hc1 : F_50 x2 M with
        | none => rw [hc1] at h; cases h
        | some c1 =>
          rw [hc1] at h
          dsimp only at h
          have hq1 := T_50 (X := X) (d := d) (by omega) (M := M) hc1
          have hz1 := Rc.bool mR_50 hq1
          refine Rc.callV tb_49 rfl rfl rfl mS_50 mP_50 mL_50 mO_50 rfl rfl ob_50 rfl rfl hq1 ?_
          refine Rc.if_eq (pc1 := 73) tb_49 rfl rfl (by decide) (by decide) (fun hb9 => ?_) (fun hb9 => ?_)
          · rw [if_pos hb9] at h
            refine Rc.mask (b := 7) ((tb_49.2 73).trans rfl) (ls' := [some (.ref (50)), some (.int (x1)), some (.int (x2)), none]) rfl ?_
            exact TJ_49_73_4 (X := X) (d := d + 1) (by omega) h hP hE
          · rw [if_neg hb9] at h
            refine Rc.run tb_49 2 (pc' := 33) (ls' := [some (.ref (50)), some (.int (x1)), some (.int (x2)), some (.int (M 56 x2.toNatClampNeg))]) (st' := [.int (M 56 x2.toNatClampNeg), .int (x1)]) rfl rfl ?_
            have hq2 := T_252 (X := X) (d := d) (by omega) (M 56 x2.toNatClampNeg) M
            refine Rc.callS tb_49 rfl rfl rfl mS_252 mP_252 mL_252 rfl rfl rfl hq2 ?_
            refine Rc.run tb_49 3 (pc' := 39) (ls' := [some (.ref (50)), some (.int (x1 * (F_252 (M 56 x2.toNatClampNeg)))), some (.int (x2)), some (.int (M 56 x2.toNatClampNeg))]) (st' := [.ref (50)]) rfl rfl ?_
            refine Rc.getR tb_49 rfl rfl ob_50 (by decide +kernel) tg_50_2 (by decide) ?_
            refine Rc.run tb_49 3 (pc' := 45) (ls' := [some (.ref (50)), some (.int (x1 * (F_252 (M 56 x2.toNatClampNeg)))), some (.int (x2)), some (.int (M 56 x2.toNatClampNeg))]) (st' := [.ref (50), .int (M 56 x2.toNatClampNeg), .int (x2), .ref (56)]) rfl rfl ?_
            refine Rc.getR tb_49 rfl rfl ob_50 (by decide +kernel) tg_50_3 (by decide) ?_
            refine Rc.run tb_49 1 (pc' := 49) (ls' := [some (.ref (50)), some (.int (x1 * (F_252 (M 56 x2.toNatClampNeg)))), some (.int (x2)), some (.int (M 56 x2.toNatClampNeg))]) (st' := [.int (x2), .ref (57), .int (M 56 x2.toNatClampNeg), .int (x2), .ref (56)]) rfl rfl ?_
            by_cases hb8 : inb x2 12 = true
            · rw [if_pos hb8] at h
              refine Rc.iald tb_49 rfl rfl ia_57 hb8 ?_
              have hq3 := T_143 (X := X) (d := d) (by omega) (M 56 x2.toNatClampNeg) (M 57 x2.toNatClampNeg) M
              have hz3 := Rc.bool mR_143 hq3
              refine Rc.callS tb_49 rfl rfl rfl mS_143 mP_143 mL_143 rfl rfl rfl hq3 ?_
              refine Rc.if_eq (pc1 := 68) tb_49 rfl rfl (by decide) (by decide) (fun hb7 => ?_) (fun hb7 => ?_)
              · rw [if_pos hb7] at h
                refine Rc.run tb_49 4 (pc' := 72) (ls' := [some (.ref (50)), some (.int (x1 * (F_252 (M 56 x2.toNatClampNeg)))), some (.int (x2)), some (.int (M 56 x2.toNatClampNeg))]) (st' := [.int ((M 56 x2.toNatClampNeg) &&& (-(M 56 x2.toNatClampNeg))), .int (x2), .ref (56)]) rfl rfl ?_
                refine Rc.mask (b := 7) ((tb_49.2 72).trans rfl) (ls' := [some (.ref (50)), some (.int (x1 * (F_252 (M 56 x2.toNatClampNeg)))), some (.int (x2)), none]) rfl ?_
                exact TJ_49_72_4 (X := X) (d := d + 1) (by omega) h hP hE
              · rw [if_neg hb7] at h
                refine Rc.run tb_49 1 (pc' := 57) (ls' := [some (.ref (50)), some (.int (x1 * (F_252 (M 56 x2.toNatClampNeg)))), some (.int (x2)), some (.int (M 56 x2.toNatClampNeg))]) (st' := [.ref (50), .int (x2), .ref (56)]) rfl rfl ?_
                refine Rc.getR tb_49 rfl rfl ob_50 (by decide +kernel) tg_50_3 (by decide) ?_
                refine Rc.run tb_49 1 (pc' := 61) (ls' := [some (.ref (50)), some (.int (x1 * (F_252 (M 56 x2.toNatClampNeg)))), some (.int (x2)), some (.int (M 56 x2.toNatClampNeg))]) (st' := [.int (x2), .ref (57), .int (x2), .ref (56)]) rfl rfl ?_
                by_cases hb6 : inb x2 12 = true
                · rw [if_pos hb6] at h
                  refine Rc.iald tb_49 rfl rfl ia_57 hb6 ?_
                  have hq5 := T_142 (X := X) (d := d) (by omega) (M 57 x2.toNatClampNeg) M
                  refine Rc.callS tb_49 rfl rfl rfl mS_142 mP_142 mL_142 rfl rfl rfl hq5 ?_
                  refine Rc.run tb_49 1 (pc' := 72) (ls' := [some (.ref (50)), some (.int (x1 * (F_252 (M 56 x2.toNatClampNeg)))), some (.int (x2)), some (.int (M 56 x2.toNatClampNeg))]) (st' := [.int (F_142 (M 57 x2.toNatClampNeg)), .int (x2), .ref (56)]) rfl rfl ?_
                  refine Rc.mask (b := 7) ((tb_49.2 72).trans rfl) (ls' := [some (.ref (50)), some (.int (x1 * (F_252 (M 56 x2.toNatClampNeg)))), some (.int (x2)), none]) rfl ?_
                  exact TJ_49_72_4 (X := X) (d := d + 1) (by omega) h hP hE
                · rw [if_neg hb6] at h
                  cases h
            · rw [if_neg hb8] at h
              cases h
    · rw [if_neg hb11] at h
      cases h
theorem TL_49_4 {X : AX} {d : Nat} (hd : 1 ≤ d) {x1 : Int32} {x2 : Int32} {M : IM} {v : Option Value} {M' : IM} {r : (Int32 × Int32 × IM) ⊕ (Int32 × IM)} (h : L_49_4 x1 x2 M = some r) (hE : (fun r => match r with | .inl (x1, x2, M) => Rc X d 49 79 [none, some (.int (x1)), none, none] [] M v M' | .inr q => v = some (.int q.1) ∧ M' = q.2) r) : Rc X d 49 4 [some (.ref (50)), some (.int (x1)), some (.int (x2)), none] [] M v M' := by
  exact loopN_rc (P := fun (x1, x2, M) => Rc X d 49 4 [some (.ref (50)), some (.int (x1)), some (.int (x2)), none] [] M v M') (E := fun r => match r with | .inl (x1, x2, M) => Rc X d 49 79 [none, some (.int (x1)), none, none] [] M v M' | .inr q => v = some (.int q.1) ∧ M' = q.2) (TB_49_4 (X := X) hd) FU _ r h hE
theorem TF_49 {X : AX} {d : Nat} (hd : 1 ≤ d) {M : IM} {v : Option Value} {M' : IM} {o : Int32 × IM} (h : F_49 M = some o) (hC : v = some (.int o.1) ∧ M' = o.2) : Rc X d 49 0 [some (.ref (50)), none, none, none] [] M v M' := by
  obtain ⟨d, rfl⟩ : ∃ e, d = e + 1 := ⟨d - 1, by omega⟩
  unfold F_49 at h
  refine Rc.run tb_49 4 (pc' := 4) (ls' := [some (.ref (50)), some (.int (1)), some (.int (0)), none]) (st' := []) rfl rfl ?_
  refine Rc.mask (b := 7) ((tb_49.2 4).trans rfl) (ls' := [some (.ref (50)), some (.int (1)), some (.int (0)), none]) rfl ?_
  cases hl13 : L_49_4 1 0 M with
  | none => rw [hl13] at h; cases h
  | some rr13 =>
    rw [hl13] at h
    cases rr13 with
    | inl r13 =>
      obtain ⟨x1_13, x2_13, M13⟩ := r13
      dsimp only at h
      refine TL_49_4 (X := X) (d := d + 1) (by omega) hl13 ?_
      refine Rc.run tb_49 1 (pc' := 80) (ls' := [none, some (.int (x1_13)), none, none]) (st' := [.int (x1_13)]) rfl rfl ?_
      obtain rfl := Option.some.inj h
      obtain ⟨rfl, rfl⟩ := hC
      exact Rc.iret (ins := .ireturn) tb_49 rfl mR_49
    | inr q =>
      dsimp only at h
      refine TL_49_4 (X := X) (d := d + 1) (by omega) hl13 ?_
      obtain rfl := Option.some.inj h
      obtain ⟨rfl, rfl⟩ := hC
      exact ⟨rfl, rfl⟩
theorem T_49 {X : AX} {d : Nat} (hd : 1 ≤ d) {M : IM} {x : Int32} {M1 : IM} (h : F_49 M = some (x, M1)) : Rc X d 49 0 [some (.ref (50)), none, none, none] [] M (some (.int x)) M1 := TF_49 hd h ⟨rfl, rfl⟩
/-! 52: NineDemands$Tally.off -/
def F_52 (a1 : Int32) (a2 : Int32) (M : IM) : Option (Int32) := if inb a1 12 = true then (if M 57 a1.toNatClampNeg = a2 then (some (0)) else (some (1))) else none
theorem TF_52 {X : AX} {d : Nat} (hd : 0 ≤ d) {a1 : Int32} {a2 : Int32} {M : IM} {v : Option Value} {M' : IM} {o : Int32} (h : F_52 a1 a2 M = some o) (hC : v = some (.int o) ∧ M' = M) : Rc X d 52 0 [some (.ref (50)), some (.int (a1)), some (.int (a2))] [] M v M' := by
  unfold F_52 at h
  refine Rc.run tb_52 1 (pc' := 1) (ls' := [some (.ref (50)), some (.int (a1)), some (.int (a2))]) (st' := [.ref (50)]) rfl rfl ?_
  refine Rc.getR tb_52 rfl rfl ob_50 (by decide +kernel) tg_50_3 (by decide) ?_
  refine Rc.run tb_52 1 (pc' := 5) (ls' := [some (.ref (50)), some (.int (a1)), some (.int (a2))]) (st' := [.int (a1), .ref (57)]) rfl rfl ?_
  by_cases hb2 : inb a1 12 = true
  · rw [if_pos hb2] at h
    refine Rc.iald tb_52 rfl rfl ia_57 hb2 ?_
    refine Rc.run tb_52 1 (pc' := 7) (ls' := [some (.ref (50)), some (.int (a1)), some (.int (a2))]) (st' := [.int (a2), .int (M 57 a1.toNatClampNeg)]) rfl rfl ?_
    refine Rc.icmp_ne (pc1 := 14) tb_52 rfl rfl (by decide) (by decide) (fun hb1 => ?_) (fun hb1 => ?_)
    · rw [if_pos hb1] at h
      refine Rc.run tb_52 2 (pc' := 15) (ls' := [some (.ref (50)), some (.int (a1)), some (.int (a2))]) (st' := [.int (0)]) rfl rfl ?_
      obtain rfl := Option.some.inj h
      obtain ⟨rfl, rfl⟩ := hC
      exact Rc.iret (ins := .ireturn) tb_52 rfl mR_52
    · rw [if_neg hb1] at h
      refine Rc.run tb_52 1 (pc' := 15) (ls' := [some (.ref (50)), some (.int (a1)), some (.int (a2))]) (st' := [.int (1)]) rfl rfl ?_
      obtain rfl := Option.some.inj h
      obtain ⟨rfl, rfl⟩ := hC
      exact Rc.iret (ins := .ireturn) tb_52 rfl mR_52
  · rw [if_neg hb2] at h
    cases h
theorem T_52 {X : AX} {d : Nat} (hd : 0 ≤ d) {a1 : Int32} {a2 : Int32} {M : IM} {x : Int32} (h : F_52 a1 a2 M = some x) : Rc X d 52 0 [some (.ref (50)), some (.int (a1)), some (.int (a2))] [] M (some (.int x)) M := TF_52 hd h ⟨rfl, rfl⟩
/-! 53: NineDemands$Tally.leastOff -/
def F_53 (a1 : Int32) (a2 : Int32) (M : IM) : Option (Int32) := if a2 = 0 then (some (99)) else (if inb a1 12 = true then (if F_143 a2 (M 57 a1.toNatClampNeg) = 0 then (some (1)) else (some (0))) else none)
theorem TF_53 {X : AX} {d : Nat} (hd : 1 ≤ d) {a1 : Int32} {a2 : Int32} {M : IM} {v : Option Value} {M' : IM} {o : Int32} (h : F_53 a1 a2 M = some o) (hC : v = some (.int o) ∧ M' = M) : Rc X d 53 0 [some (.ref (50)), some (.int (a1)), some (.int (a2))] [] M v M' := by
  obtain ⟨d, rfl⟩ : ∃ e, d = e + 1 := ⟨d - 1, by omega⟩
  unfold F_53 at h
  refine Rc.run tb_53 1 (pc' := 1) (ls' := [some (.ref (50)), some (.int (a1)), some (.int (a2))]) (st' := [.int (a2)]) rfl rfl ?_
  refine Rc.if_ne (pc1 := 7) tb_53 rfl rfl (by decide) (by decide) (fun hb4 => ?_) (fun hb4 => ?_)
  · rw [if_pos hb4] at h
    refine Rc.run tb_53 1 (pc' := 6) (ls' := [some (.ref (50)), some (.int (a1)), some (.int (a2))]) (st' := [.int (99)]) rfl rfl ?_
    obtain rfl := Option.some.inj h
    obtain ⟨rfl, rfl⟩ := hC
    exact Rc.iret (ins := .ireturn) tb_53 rfl mR_53
  · rw [if_neg hb4] at h
    refine Rc.run tb_53 2 (pc' := 9) (ls' := [some (.ref (50)), some (.int (a1)), some (.int (a2))]) (st' := [.ref (50), .int (a2)]) rfl rfl ?_
    refine Rc.getR tb_53 rfl rfl ob_50 (by decide +kernel) tg_50_3 (by decide) ?_
    refine Rc.run tb_53 1 (pc' := 13) (ls' := [some (.ref (50)), some (.int (a1)), some (.int (a2))]) (st' := [.int (a1), .ref (57), .int (a2)]) rfl rfl ?_
    by_cases hb3 : inb a1 12 = true
    · rw [if_pos hb3] at h
      refine Rc.iald tb_53 rfl rfl ia_57 hb3 ?_
      have hq1 := T_143 (X := X) (d := d) (by omega) a2 (M 57 a1.toNatClampNeg) M
      have hz1 := Rc.bool mR_143 hq1
      refine Rc.callS tb_53 rfl rfl rfl mS_143 mP_143 mL_143 rfl rfl rfl hq1 ?_
      refine Rc.if_eq (pc1 := 24) tb_53 rfl rfl (by decide) (by decide) (fun hb2 => ?_) (fun hb2 => ?_)
      · rw [if_pos hb2] at h
        refine Rc.run tb_53 1 (pc' := 25) (ls' := [some (.ref (50)), some (.int (a1)), some (.int (a2))]) (st' := [.int (1)]) rfl rfl ?_
        obtain rfl := Option.some.inj h
        obtain ⟨rfl, rfl⟩ := hC
        exact Rc.iret (ins := .ireturn) tb_53 rfl mR_53
      · rw [if_neg hb2] at h
        refine Rc.run tb_53 2 (pc' := 25) (ls' := [some (.ref (50)), some (.int (a1)), some (.int (a2))]) (st' := [.int (0)]) rfl rfl ?_
        obtain rfl := Option.some.inj h
        obtain ⟨rfl, rfl⟩ := hC
        exact Rc.iret (ins := .ireturn) tb_53 rfl mR_53
    · rw [if_neg hb3] at h
      cases h
theorem T_53 {X : AX} {d : Nat} (hd : 1 ≤ d) {a1 : Int32} {a2 : Int32} {M : IM} {x : Int32} (h : F_53 a1 a2 M = some x) : Rc X d 53 0 [some (.ref (50)), some (.int (a1)), some (.int (a2))] [] M (some (.int x)) M := TF_53 hd h ⟨rfl, rfl⟩
/-! 51: NineDemands$Tally.pairUp -/
def J_51_141_29 (x1 : Int32) (x2 : Int32) (t3 : Nat) (t4 : Nat) (x5 : Int32) (x6 : Int32) (x7 : Int32) (x8 : Int32) (M : IM) : Option ((Int32 × IM) ⊕ (Int32 × IM)) := some (Sum.inl (x8 + 1, M))
def B_51_29 (x1 : Int32) (x2 : Int32) (t3 : Nat) (t4 : Nat) (x5 : Int32) (x6 : Int32) (x7 : Int32) : (Int32 × IM) → Option ((Int32 × IM) ⊕ (Int32 × IM)) := fun (x8, M) => if (8 : Int32) ≤ x8 then (some (Sum.inr (x8, M))) else (if x5 = 0 then (if inb ((8 * x5) + x8) (ln t3) = true then (if inb ((8 * x5) + x8) (ln t4) = true then (J_51_141_29 x1 x2 t3 t4 x5 x6 x7 x8 (iset (iset M t3 ((8 * x5) + x8).toNatClampNeg 0) t4 ((8 * x5) + x8).toNatClampNeg 99)) else none) else none) else (if inb ((((x1 * 12) + x2) * 4) + x6) 576 = true then (if inb ((8 * x7) + x8) (ln t3) = true then (if inb ((8 * x5) + x8) (ln t3) = true then (if inb ((8 * x7) + x8) (ln t4) = true then (match F_52 x1 x6 (iset M t3 ((8 * x5) + x8).toNatClampNeg ((M t3 ((8 * x7) + x8).toNatClampNeg) + (F_252 (x8 &&& (M 52 ((((x1 * 12) + x2) * 4) + x6).toNatClampNeg))))) with | none => none | some c5 => (match F_53 x2 (x8 &&& (M 52 ((((x1 * 12) + x2) * 4) + x6).toNatClampNeg)) (iset M t3 ((8 * x5) + x8).toNatClampNeg ((M t3 ((8 * x7) + x8).toNatClampNeg) + (F_252 (x8 &&& (M 52 ((((x1 * 12) + x2) * 4) + x6).toNatClampNeg))))) with | none => none | some c6 => (if inb ((8 * x5) + x8) (ln t4) = true then (J_51_141_29 x1 x2 t3 t4 x5 x6 x7 x8 (iset (iset M t3 ((8 * x5) + x8).toNatClampNeg ((M t3 ((8 * x7) + x8).toNatClampNeg) + (F_252 (x8 &&& (M 52 ((((x1 * 12) + x2) * 4) + x6).toNatClampNeg))))) t4 ((8 * x5) + x8).toNatClampNeg (bif decide (c5 + c6 < (iset M t3 ((8 * x5) + x8).toNatClampNeg ((M t3 ((8 * x7) + x8).toNatClampNeg) + (F_252 (x8 &&& (M 52 ((((x1 * 12) + x2) * 4) + x6).toNatClampNeg))))) t4 ((8 * x7) + x8).toNatClampNeg) then c5 + c6 else (iset M t3 ((8 * x5) + x8).toNatClampNeg ((M t3 ((8 * x7) + x8).toNatClampNeg) + (F_252 (x8 &&& (M 52 ((((x1 * 12) + x2) * 4) + x6).toNatClampNeg))))) t4 ((8 * x7) + x8).toNatClampNeg))) else none))) else none) else none) else none) else none))
def L_51_29 (x1 : Int32) (x2 : Int32) (t3 : Nat) (t4 : Nat) (x5 : Int32) (x6 : Int32) (x7 : Int32) (x8 : Int32) (M : IM) : Option (Int32 × IM) := loopN (B_51_29 x1 x2 t3 t4 x5 x6 x7) FU (x8, M)
def J_51_147_3 (x1 : Int32) (x2 : Int32) (t3 : Nat) (t4 : Nat) (x5 : Int32) (M : IM) : Option ((Int32 × IM) ⊕ (Int32 × IM)) := some (Sum.inl (x5 + 1, M))
def B_51_3 (x1 : Int32) (x2 : Int32) (t3 : Nat) (t4 : Nat) : (Int32 × IM) → Option ((Int32 × IM) ⊕ (Int32 × IM)) := fun (x5, M) => if (8 : Int32) ≤ x5 then (some (Sum.inr (x5, M))) else (match L_51_29 x1 x2 t3 t4 x5 (F_144 x5) (x5 &&& (x5 - 1)) 0 M with | none => none | some (x8_14, M14) => (J_51_147_3 x1 x2 t3 t4 x5 M14))
def L_51_3 (x1 : Int32) (x2 : Int32) (t3 : Nat) (t4 : Nat) (x5 : Int32) (M : IM) : Option (Int32 × IM) := loopN (B_51_3 x1 x2 t3 t4) FU (x5, M)
def F_51 (a1 : Int32) (a2 : Int32) (r3 : Nat) (r4 : Nat) (M : IM) : Option (IM) := (match L_51_3 a1 a2 r3 r4 0 M with | none => none | some (x5_16, M16) => (some (M16)))
theorem TJ_51_141_29 {X : AX} {d : Nat} (hd : 2 ≤ d) {x1 : Int32} {x2 : Int32} {t3 : Nat} {t4 : Nat} {x5 : Int32} {x6 : Int32} {x7 : Int32} {x8 : Int32} {M : IM} (ht3 : IA t3) (ht4 : IA t4) {v : Option Value} {M' : IM} {o : (Int32 × IM) ⊕ (Int32 × IM)} (h : J_51_141_29 x1 x2 t3 t4 x5 x6 x7 x8 M = some o) (hP : ∀ s', o = .inl s' → (fun (x8, M) => Rc X d 51 29 [some (.ref (50)), some (.int (x1)), some (.int (x2)), some (.ref (t3)), some (.ref (t4)), some (.int (x5)), some (.int (x6)), some (.int (x7)), some (.int (x8)), none, none] [] M v M') s') (hE : ∀ r, o = .inr r → (fun (x8, M) => Rc X d 51 147 [some (.ref (50)), some (.int (x1)), some (.int (x2)), some (.ref (t3)), some (.ref (t4)), some (.int (x5)), none, none, none, none, none] [] M v M') r) : Rc X d 51 141 [some (.ref (50)), some (.int (x1)), some (.int (x2)), some (.ref (t3)), some (.ref (t4)), some (.int (x5)), some (.int (x6)), some (.int (x7)), some (.int (x8)), none, none] [] M v M' := by
  obtain ⟨d, rfl⟩ : ∃ e, d = e + 1 := ⟨d - 1, by omega⟩
  unfold J_51_141_29 at h
  dsimp only at hP hE
  refine Rc.run tb_51 2 (pc' := 29) (ls' := [some (.ref (50)), some (.int (x1)), some (.int (x2)), some (.ref (t3)), some (.ref (t4)), some (.int (x5)), some (.int (x6)), some (.int (x7)), some (.int (x8 + 1)), none, none]) (st' := []) rfl rfl ?_
  refine Rc.mask (b := 511) ((tb_51.2 29).trans rfl) (ls' := [some (.ref (50)), some (.int (x1)), some (.int (x2)), some (.ref (t3)), some (.ref (t4)), some (.int (x5)), some (.int (x6)), some (.int (x7)), some (.int (x8 + 1)), none, none]) rfl ?_
  obtain rfl := Option.some.inj h
  exact hP _ rfl
theorem TB_51_29 {X : AX} {d : Nat} (hd : 2 ≤ d) {x1 : Int32} {x2 : Int32} {t3 : Nat} {t4 : Nat} {x5 : Int32} {x6 : Int32} {x7 : Int32} (ht3 : IA t3) (ht4 : IA t4) {v : Option Value} {M' : IM} : ∀ (s : Int32 × IM) (o : (Int32 × IM) ⊕ (Int32 × IM)), B_51_29 x1 x2 t3 t4 x5 x6 x7 s = some o → (∀ s', o = .inl s' → (fun (x8, M) => Rc X d 51 29 [some (.ref (50)), some (.int (x1)), some (.int (x2)), some (.ref (t3)), some (.ref (t4)), some (.int (x5)), some (.int (x6)), some (.int (x7)), some (.int (x8)), none, none] [] M v M') s') → (∀ r, o = .inr r → (fun (x8, M) => Rc X d 51 147 [some (.ref (50)), some (.int (x1)), some (.int (x2)), some (.ref (t3)), some (.ref (t4)), some (.int (x5)), none, none, none, none, none] [] M v M') r) → (fun (x8, M) => Rc X d 51 29 [some (.ref (50)), some (.int (x1)), some (.int (x2)), some (.ref (t3)), some (.ref (t4)), some (.int (x5)), some (.int (x6)), some (.int (x7)), some (.int (x8)), none, none] [] M v M') s := by
  rintro ⟨x8, M⟩ o h hP hE
  show Rc X d 51 29 [some (.ref (50)), some (.int (x1)), some (.int (x2)), some (.ref (t3)), some (.ref (t4)), some (.int (x5)), some (.int (x6)), some (.int (x7)), some (.int (x8)), none, none] [] M v M'
  obtain ⟨d, rfl⟩ : ∃ e, d = e + 1 := ⟨d - 1, by omega⟩
  unfold B_51_29 at h
  dsimp only at h hP hE
  refine Rc.run tb_51 2 (pc' := 33) (ls' := [some (.ref (50)), some (.int (x1)), some (.int (x2)), some (.ref (t3)), some (.ref (t4)), some (.int (x5)), some (.int (x6)), some (.int (x7)), some (.int (x8)), none, none]) (st' := [.int (8), .int (x8)]) rfl rfl ?_
  refine Rc.icmp_ge (pc1 := 147) tb_51 rfl rfl (by decide) (by decide) (fun hb13 => ?_) (fun hb13 => ?_)
  · rw [if_pos hb13] at h
    refine Rc.mask (b := 63) ((tb_51.2 147).trans rfl) (ls' := [some (.ref (50)), some (.int (x1)), some (.int (x2)), some (.ref (t3)), some (.ref (t4)), some (.int (x5)), none, none, none, none, none]) rfl ?_
    obtain rfl := Option.some.inj h
    exact hE _ rfl
  · rw [if_neg hb13] at h
    refine Rc.run tb_51 7 (pc' := 48) (ls' := [some (.ref (50)), some (.int (x1)), some (.int (x2)), some (.ref (t3)), some (.ref (t4)), some (.int (x5)), some (.int (x6)), some (.int (x7)), some (.int (x8)), some (.int ((8 * x5) + x8)), none]) (st' := [.int (x5)]) rfl rfl ?_
    refine Rc.if_ne (pc1 := 66) tb_51 rfl rfl (by decide) (by decide) (fun hb12 => ?_) (fun hb12 => ?_)
    · rw [if_pos hb12] at h
      refine Rc.run tb_51 3 (pc' := 55) (ls' := [some (.ref (50)), some (.int (x1)), some (.int (x2)), some (.ref (t3)), some (.ref (t4)), some (.int (x5)), some (.int (x6)), some (.int (x7)), some (.int (x8)), some (.int ((8 * x5) + x8)), none]) (st' := [.int (0), .int ((8 * x5) + x8), .ref (t3)]) rfl rfl ?_
      by_cases hb3 : inb ((8 * x5) + x8) (ln t3) = true
      · rw [if_pos hb3] at h
        refine Rc.iast tb_51 rfl rfl (IA.n ht3) hb3 ?_
        refine Rc.run tb_51 3 (pc' := 62) (ls' := [some (.ref (50)), some (.int (x1)), some (.int (x2)), some (.ref (t3)), some (.ref (t4)), some (.int (x5)), some (.int (x6)), some (.int (x7)), some (.int (x8)), some (.int ((8 * x5) + x8)), none]) (st' := [.int (99), .int ((8 * x5) + x8), .ref (t4)]) rfl rfl ?_
        by_cases hb2 : inb ((8 * x5) + x8) (ln t4) = true
        · rw [if_pos hb2] at h
          refine Rc.iast tb_51 rfl rfl (IA.n ht4) hb2 ?_
          refine Rc.run tb_51 1 (pc' := 141) (ls' := [some (.ref (50)), some (.int (x1)), some (.int (x2)), some (.ref (t3)), some (.ref (t4)), some (.int (x5)), some (.int (x6)), some (.int (x7)), some (.int (x8)), some (.int ((8 * x5) + x8)), none]) (st' := []) rfl rfl ?_
          refine Rc.mask (b := 511) ((tb_51.2 141).trans rfl) (ls' := [some (.ref (50)), some (.int (x1)), some (.int (x2)), some (.ref (t3)), some (.ref (t4)), some (.int (x5)), some (.int (x6)), some (.int (x7)), some (.int (x8)), none, none]) rfl ?_
          exact TJ_51_141_29 (X := X) (d := d + 1) (by omega) ((IA.n ht3)).1 ((IA.n ht4)).1 h hP hE
        · rw [if_neg hb2] at h
          cases h
      · rw [if_neg hb3] at h
        cases h
    · rw [if_neg hb12] at h
      refine Rc.run tb_51 2 (pc' := 69) (ls' := [some (.ref (50)), some (.int (x1)), some (.int (x2)), some (.ref (t3)), some (.ref (t4)), some (.int (x5)), some (.int (x6)), some (.int (x7)), some (.int (x8)), some (.int ((8 * x5) + x8)), none]) (st' := [.ref (50), .int (x8)]) rfl rfl ?_
      refine Rc.getR tb_51 rfl rfl ob_50 (by decide +kernel) tg_50_1 (by decide) ?_
      refine Rc.run tb_51 9 (pc' := 83) (ls' := [some (.ref (50)), some (.int (x1)), some (.int (x2)), some (.ref (t3)), some (.ref (t4)), some (.int (x5)), some (.int (x6)), some (.int (x7)), some (.int (x8)), some (.int ((8 * x5) + x8)), none]) (st' := [.int ((((x1 * 12) + x2) * 4) + x6), .ref (52), .int (x8)]) rfl rfl ?_
      by_cases hb11 : inb ((((x1 * 12) + x2) * 4) + x6) 576 = true
      · rw [if_pos hb11] at h
        refine Rc.iald tb_51 rfl rfl ia_52 hb11 ?_
        refine Rc.run tb_51 10 (pc' := 99) (ls' := [some (.ref (50)), some (.int (x1)), some (.int (x2)), some (.ref (t3)), some (.ref (t4)), some (.int (x5)), some (.int (x6)), some (.int (x7)), some (.int (x8)), some (.int ((8 * x5) + x8)), some (.int (x8 &&& (M 52 ((((x1 * 12) + x2) * 4) + x6).toNatClampNeg)))]) (st' := [.int ((8 * x7) + x8), .ref (t3), .int ((8 * x5) + x8), .ref (t3)]) rfl rfl ?_
        by_cases hb10 : inb ((8 * x7) + x8) (ln t3) = true
        · rw [if_pos hb10] at h
          refine Rc.iald tb_51 rfl rfl (IA.n ht3) hb10 ?_
          refine Rc.run tb_51 1 (pc' := 102) (ls' := [some (.ref (50)), some (.int (x1)), some (.int (x2)), some (.ref (t3)), some (.ref (t4)), some (.int (x5)), some (.int (x6)), some (.int (x7)), some (.int (x8)), some (.int ((8 * x5) + x8)), some (.int (x8 &&& (M 52 ((((x1 * 12) + x2) * 4) + x6).toNatClampNeg)))]) (st' := [.int (x8 &&& (M 52 ((((x1 * 12) + x2) * 4) + x6).toNatClampNeg)), .int (M t3 ((8 * x7) + x8).toNatClampNeg), .int ((8 * x5) + x8), .ref (t3)]) rfl rfl ?_
          have hq4 := T_252 (X := X) (d := d) (by omega) (x8 &&& (M 52 ((((x1 * 12) + x2) * 4) + x6).toNatClampNeg)) M
          refine Rc.callS tb_51 rfl rfl rfl mS_252 mP_252 mL_252 rfl rfl rfl hq4 ?_
          refine Rc.run tb_51 1 (pc' := 106) (ls' := [some (.ref (50)), some (.int (x1)), some (.int (x2)), some (.ref (t3)), some (.ref (t4)), some (.int (x5)), some (.int (x6)), some (.int (x7)), some (.int (x8)), some (.int ((8 * x5) + x8)), some (.int (x8 &&& (M 52 ((((x1 * 12) + x2) * 4) + x6).toNatClampNeg)))]) (st' := [.int ((M t3 ((8 * x7) + x8).toNatClampNeg) + (F_252 (x8 &&& (M 52 ((((x1 * 12) + x2) * 4) + x6).toNatClampNeg)))), .int ((8 * x5) + x8), .ref (t3)]) rfl rfl ?_
          by_cases hb9 : inb ((8 * x5) + x8) (ln t3) = true
          · rw [if_pos hb9] at h
            refine Rc.iast tb_51 rfl rfl (IA.n ht3) hb9 ?_
            refine Rc.run tb_51 8 (pc' := 121) (ls' := [some (.ref (50)), some (.int (x1)), some (.int (x2)), some (.ref (t3)), some (.ref (t4)), some (.int (x5)), some (.int (x6)), some (.int (x7)), some (.int (x8)), some (.int ((8 * x5) + x8)), some (.int (x8 &&& (M 52 ((((x1 * 12) + x2) * 4) + x6).toNatClampNeg)))]) (st' := [.int ((8 * x7) + x8), .ref (t4), .int ((8 * x5) + x8), .ref (t4)]) rfl rfl ?_
            by_cases hb8 : inb ((8 * x7) + x8) (ln t4) = true
            · rw [if_pos hb8] at h
              refine Rc.iald tb_51 rfl rfl (IA.n ht4) hb8 ?_
              refine Rc.run tb_51 3 (pc' := 126) (ls' := [some (.ref (50)), some (.int (x1)), some (.int (x2)), some (.ref (t3)), some (.ref (t4)), some (.int (x5)), some (.int (x6)), some (.int (x7)), some (.int (x8)), some (.int ((8 * x5) + x8)), some (.int (x8 &&& (M 52 ((((x1 * 12) + x2) * 4) + x6).toNatClampNeg)))]) (st' := [.int (x6), .int (x1), .ref (50), .int ((iset M t3 ((8 * x5) + x8).toNatClampNeg ((M t3 ((8 * x7) + x8).toNatClampNeg) + (F_252 (x8 &&& (M 52 ((((x1 * 12) + x2) * 4) + x6).toNatClampNeg))))) t4 ((8 * x7) + x8).toNatClampNeg), .int ((8 * x5) + x8), .ref (t4)]) rfl rfl ?_
              cases hc5 : F_52 x1 x6 (iset M t3 ((8 * x5) + x8).toNatClampNeg ((M t3 ((8 * x7) + x8).toNatClampNeg) + (F_252 (x8 &&& (M 52 ((((x1 * 12) + x2) * 4) + x6).toNatClampNeg))))) with
              | none => rw [hc5] at h; cases h
              | some c5 =>
                rw [hc5] at h
                dsimp only at h
                have hq5 := T_52 (X := X) (d := d) (by omega) (M := iset M t3 ((8 * x5) + x8).toNatClampNeg ((M t3 ((8 * x7) + x8).toNatClampNeg) + (F_252 (x8 &&& (M 52 ((((x1 * 12) + x2) * 4) + x6).toNatClampNeg))))) hc5
                refine Rc.callV tb_51 rfl rfl rfl mS_52 mP_52 mL_52 mO_52 rfl rfl ob_50 rfl rfl hq5 ?_
                refine Rc.run tb_51 3 (pc' := 133) (ls' := [some (.ref (50)), some (.int (x1)), some (.int (x2)), some (.ref (t3)), some (.ref (t4)), some (.int (x5)), some (.int (x6)), some (.int (x7)), some (.int (x8)), some (.int ((8 * x5) + x8)), some (.int (x8 &&& (M 52 ((((x1 * 12) + x2) * 4) + x6).toNatClampNeg)))]) (st' := [.int (x8 &&& (M 52 ((((x1 * 12) + x2) * 4) + x6).toNatClampNeg)), .int (x2), .ref (50), .int (c5), .int ((iset M t3 ((8 * x5) + x8).toNatClampNeg ((M t3 ((8 * x7) + x8).toNatClampNeg) + (F_252 (x8 &&& (M 52 ((((x1 * 12) + x2) * 4) + x6).toNatClampNeg))))) t4 ((8 * x7) + x8).toNatClampNeg), .int ((8 * x5) + x8), .ref (t4)]) rfl rfl ?_
                cases hc6 : F_53 x2 (x8 &&& (M 52 ((((x1 * 12) + x2) * 4) + x6).toNatClampNeg)) (iset M t3 ((8 * x5) + x8).toNatClampNeg ((M t3 ((8 * x7) + x8).toNatClampNeg) + (F_252 (x8 &&& (M 52 ((((x1 * 12) + x2) * 4) + x6).toNatClampNeg))))) with
                | none => rw [hc6] at h; cases h
                | some c6 =>
                  rw [hc6] at h
                  dsimp only at h
                  have hq6 := T_53 (X := X) (d := d) (by omega) (M := iset M t3 ((8 * x5) + x8).toNatClampNeg ((M t3 ((8 * x7) + x8).toNatClampNeg) + (F_252 (x8 &&& (M 52 ((((x1 * 12) + x2) * 4) + x6).toNatClampNeg))))) hc6
                  refine Rc.callV tb_51 rfl rfl rfl mS_53 mP_53 mL_53 mO_53 rfl rfl ob_50 rfl rfl hq6 ?_
                  refine Rc.run tb_51 1 (pc' := 137) (ls' := [some (.ref (50)), some (.int (x1)), some (.int (x2)), some (.ref (t3)), some (.ref (t4)), some (.int (x5)), some (.int (x6)), some (.int (x7)), some (.int (x8)), some (.int ((8 * x5) + x8)), some (.int (x8 &&& (M 52 ((((x1 * 12) + x2) * 4) + x6).toNatClampNeg)))]) (st' := [.int (c5 + c6), .int ((iset M t3 ((8 * x5) + x8).toNatClampNeg ((M t3 ((8 * x7) + x8).toNatClampNeg) + (F_252 (x8 &&& (M 52 ((((x1 * 12) + x2) * 4) + x6).toNatClampNeg))))) t4 ((8 * x7) + x8).toNatClampNeg), .int ((8 * x5) + x8), .ref (t4)]) rfl rfl ?_
                  refine Rc.minS tb_51 rfl rfl rfl ?_
                  by_cases hb7 : inb ((8 * x5) + x8) (ln t4) = true
                  · rw [if_pos hb7] at h
                    refine Rc.iast tb_51 rfl rfl (IA.n ht4) hb7 ?_
                    refine Rc.mask (b := 511) ((tb_51.2 141).trans rfl) (ls' := [some (.ref (50)), some (.int (x1)), some (.int (x2)), some (.ref (t3)), some (.ref (t4)), some (.int (x5)), some (.int (x6)), some (.int (x7)), some (.int (x8)), none, none]) rfl ?_
                    exact TJ_51_141_29 (X := X) (d := d + 1) (by omega) ((IA.n ht3)).1 ((IA.n ht4)).1 h hP hE
                  · rw [if_neg hb7] at h
                    cases h
            · rw [if_neg hb8] at h
              cases h
          · rw [if_neg hb9] at h
            cases h
        · rw [if_neg hb10] at h
          cases h
      · rw [if_neg hb11] at h
        cases h
theorem TL_51_29 {X : AX} {d : Nat} (hd : 2 ≤ d) {x1 : Int32} {x2 : Int32} {t3 : Nat} {t4 : Nat} {x5 : Int32} {x6 : Int32} {x7 : Int32} {x8 : Int32} {M : IM} (ht3 : IA t3) (ht4 : IA t4) {v : Option Value} {M' : IM} {r : Int32 × IM} (h : L_51_29 x1 x2 t3 t4 x5 x6 x7 x8 M = some r) (hE : (fun (x8, M) => Rc X d 51 147 [some (.ref (50)), some (.int (x1)), some (.int (x2)), some (.ref (t3)), some (.ref (t4)), some (.int (x5)), none, none, none, none, none] [] M v M') r) : Rc X d 51 29 [some (.ref (50)), some (.int (x1)), some (.int (x2)), some (.ref (t3)), some (.ref (t4)), some (.int (x5)), some (.int (x6)), some (.int (x7)), some (.int (x8)), none, none] [] M v M' := by
  exact loopN_rc (P := fun (x8, M) => Rc X d 51 29 [some (.ref (50)), some (.int (x1)), some (.int (x2)), some (.ref (t3)), some (.ref (t4)), some (.int (x5)), some (.int (x6)), some (.int (x7)), some (.int (x8)), none, none] [] M v M') (E := fun (x8, M) => Rc X d 51 147 [some (.ref (50)), some (.int (x1)), some (.int (x2)), some (.ref (t3)), some (.ref (t4)), some (.int (x5)), none, none, none, none, none] [] M v M') (TB_51_29 (X := X) hd ht3 ht4) FU _ r h hE
theorem TJ_51_147_3 {X : AX} {d : Nat} (hd : 2 ≤ d) {x1 : Int32} {x2 : Int32} {t3 : Nat} {t4 : Nat} {x5 : Int32} {M : IM} (ht3 : IA t3) (ht4 : IA t4) {v : Option Value} {M' : IM} {o : (Int32 × IM) ⊕ (Int32 × IM)} (h : J_51_147_3 x1 x2 t3 t4 x5 M = some o) (hP : ∀ s', o = .inl s' → (fun (x5, M) => Rc X d 51 3 [some (.ref (50)), some (.int (x1)), some (.int (x2)), some (.ref (t3)), some (.ref (t4)), some (.int (x5)), none, none, none, none, none] [] M v M') s') (hE : ∀ r, o = .inr r → (fun (x5, M) => Rc X d 51 153 [none, none, none, none, none, none, none, none, none, none, none] [] M v M') r) : Rc X d 51 147 [some (.ref (50)), some (.int (x1)), some (.int (x2)), some (.ref (t3)), some (.ref (t4)), some (.int (x5)), none, none, none, none, none] [] M v M' := by
  obtain ⟨d, rfl⟩ : ∃ e, d = e + 1 := ⟨d - 1, by omega⟩
  unfold J_51_147_3 at h
  dsimp only at hP hE
  refine Rc.run tb_51 2 (pc' := 3) (ls' := [some (.ref (50)), some (.int (x1)), some (.int (x2)), some (.ref (t3)), some (.ref (t4)), some (.int (x5 + 1)), none, none, none, none, none]) (st' := []) rfl rfl ?_
  refine Rc.mask (b := 63) ((tb_51.2 3).trans rfl) (ls' := [some (.ref (50)), some (.int (x1)), some (.int (x2)), some (.ref (t3)), some (.ref (t4)), some (.int (x5 + 1)), none, none, none, none, none]) rfl ?_
  obtain rfl := Option.some.inj h
  exact hP _ rfl
theorem TB_51_3 {X : AX} {d : Nat} (hd : 2 ≤ d) {x1 : Int32} {x2 : Int32} {t3 : Nat} {t4 : Nat} (ht3 : IA t3) (ht4 : IA t4) {v : Option Value} {M' : IM} : ∀ (s : Int32 × IM) (o : (Int32 × IM) ⊕ (Int32 × IM)), B_51_3 x1 x2 t3 t4 s = some o → (∀ s', o = .inl s' → (fun (x5, M) => Rc X d 51 3 [some (.ref (50)), some (.int (x1)), some (.int (x2)), some (.ref (t3)), some (.ref (t4)), some (.int (x5)), none, none, none, none, none] [] M v M') s') → (∀ r, o = .inr r → (fun (x5, M) => Rc X d 51 153 [none, none, none, none, none, none, none, none, none, none, none] [] M v M') r) → (fun (x5, M) => Rc X d 51 3 [some (.ref (50)), some (.int (x1)), some (.int (x2)), some (.ref (t3)), some (.ref (t4)), some (.int (x5)), none, none, none, none, none] [] M v M') s := by
  rintro ⟨x5, M⟩ o h hP hE
  show Rc X d 51 3 [some (.ref (50)), some (.int (x1)), some (.int (x2)), some (.ref (t3)), some (.ref (t4)), some (.int (x5)), none, none, none, none, none] [] M v M'
  obtain ⟨d, rfl⟩ : ∃ e, d = e + 1 := ⟨d - 1, by omega⟩
  unfold B_51_3 at h
  dsimp only at h hP hE
  refine Rc.run tb_51 2 (pc' := 7) (ls' := [some (.ref (50)), some (.int (x1)), some (.int (x2)), some (.ref (t3)), some (.ref (t4)), some (.int (x5)), none, none, none, none, none]) (st' := [.int (8), .int (x5)]) rfl rfl ?_
  refine Rc.icmp_ge (pc1 := 153) tb_51 rfl rfl (by decide) (by decide) (fun hb15 => ?_) (fun hb15 => ?_)
  · rw [if_pos hb15] at h
    refine Rc.mask (b := 0) ((tb_51.2 153).trans rfl) (ls' := [none, none, none, none, none, none, none, none, none, none, none]) rfl ?_
    obtain rfl := Option.some.inj h
    exact hE _ rfl
  · rw [if_neg hb15] at h
    refine Rc.run tb_51 1 (pc' := 12) (ls' := [some (.ref (50)), some (.int (x1)), some (.int (x2)), some (.ref (t3)), some (.ref (t4)), some (.int (x5)), none, none, none, none, none]) (st' := [.int (x5)]) rfl rfl ?_
    have hq1 := T_144 (X := X) (d := d) (by omega) x5 M
    refine Rc.callS tb_51 rfl rfl rfl mS_144 mP_144 mL_144 rfl rfl rfl hq1 ?_
    refine Rc.run tb_51 9 (pc' := 29) (ls' := [some (.ref (50)), some (.int (x1)), some (.int (x2)), some (.ref (t3)), some (.ref (t4)), some (.int (x5)), some (.int (F_144 x5)), some (.int (x5 &&& (x5 - 1))), some (.int (0)), none, none]) (st' := []) rfl rfl ?_
    refine Rc.mask (b := 511) ((tb_51.2 29).trans rfl) (ls' := [some (.ref (50)), some (.int (x1)), some (.int (x2)), some (.ref (t3)), some (.ref (t4)), some (.int (x5)), some (.int (F_144 x5)), some (.int (x5 &&& (x5 - 1))), some (.int (0)), none, none]) rfl ?_
    cases hl14 : L_51_29 x1 x2 t3 t4 x5 (F_144 x5) (x5 &&& (x5 - 1)) 0 M with
    | none => rw [hl14] at h; cases h
    | some r14 =>
      obtain ⟨x8_14, M14⟩ := r14
      rw [hl14] at h
      dsimp only at h
      refine TL_51_29 (X := X) (d := d + 1) (by omega) ((IA.n ht3)).1 ((IA.n ht4)).1 hl14 ?_
      refine Rc.mask (b := 63) ((tb_51.2 147).trans rfl) (ls' := [some (.ref (50)), some (.int (x1)), some (.int (x2)), some (.ref (t3)), some (.ref (t4)), some (.int (x5)), none, none, none, none, none]) rfl ?_
      exact TJ_51_147_3 (X := X) (d := d + 1) (by omega) ((IA.n ht3)).1 ((IA.n ht4)).1 h hP hE
theorem TL_51_3 {X : AX} {d : Nat} (hd : 2 ≤ d) {x1 : Int32} {x2 : Int32} {t3 : Nat} {t4 : Nat} {x5 : Int32} {M : IM} (ht3 : IA t3) (ht4 : IA t4) {v : Option Value} {M' : IM} {r : Int32 × IM} (h : L_51_3 x1 x2 t3 t4 x5 M = some r) (hE : (fun (x5, M) => Rc X d 51 153 [none, none, none, none, none, none, none, none, none, none, none] [] M v M') r) : Rc X d 51 3 [some (.ref (50)), some (.int (x1)), some (.int (x2)), some (.ref (t3)), some (.ref (t4)), some (.int (x5)), none, none, none, none, none] [] M v M' := by
  exact loopN_rc (P := fun (x5, M) => Rc X d 51 3 [some (.ref (50)), some (.int (x1)), some (.int (x2)), some (.ref (t3)), some (.ref (t4)), some (.int (x5)), none, none, none, none, none] [] M v M') (E := fun (x5, M) => Rc X d 51 153 [none, none, none, none, none, none, none, none, none, none, none] [] M v M') (TB_51_3 (X := X) hd ht3 ht4) FU _ r h hE
theorem TF_51 {X : AX} {d : Nat} (hd : 2 ≤ d) {a1 : Int32} {a2 : Int32} {r3 : Nat} {r4 : Nat} {M : IM} (hr3 : IA r3) (hr4 : IA r4) {v : Option Value} {M' : IM} {o : IM} (h : F_51 a1 a2 r3 r4 M = some o) (hC : v = none ∧ M' = o) : Rc X d 51 0 [some (.ref (50)), some (.int (a1)), some (.int (a2)), some (.ref (r3)), some (.ref (r4)), none, none, none, none, none, none] [] M v M' := by
  obtain ⟨d, rfl⟩ : ∃ e, d = e + 1 := ⟨d - 1, by omega⟩
  unfold F_51 at h
  refine Rc.run tb_51 2 (pc' := 3) (ls' := [some (.ref (50)), some (.int (a1)), some (.int (a2)), some (.ref (r3)), some (.ref (r4)), some (.int (0)), none, none, none, none, none]) (st' := []) rfl rfl ?_
  refine Rc.mask (b := 63) ((tb_51.2 3).trans rfl) (ls' := [some (.ref (50)), some (.int (a1)), some (.int (a2)), some (.ref (r3)), some (.ref (r4)), some (.int (0)), none, none, none, none, none]) rfl ?_
  cases hl16 : L_51_3 a1 a2 r3 r4 0 M with
  | none => rw [hl16] at h; cases h
  | some r16 =>
    obtain ⟨x5_16, M16⟩ := r16
    rw [hl16] at h
    dsimp only at h
    refine TL_51_3 (X := X) (d := d + 1) (by omega) ((IA.n hr3)).1 ((IA.n hr4)).1 hl16 ?_
    obtain rfl := Option.some.inj h
    obtain ⟨rfl, rfl⟩ := hC
    exact Rc.vret tb_51 rfl mR_51
theorem T_51 {X : AX} {d : Nat} (hd : 2 ≤ d) {a1 : Int32} {a2 : Int32} {r3 : Nat} {r4 : Nat} {M : IM} (hr3 : IA r3) (hr4 : IA r4) {M1 : IM} (h : F_51 a1 a2 r3 r4 M = some M1) : Rc X d 51 0 [some (.ref (50)), some (.int (a1)), some (.int (a2)), some (.ref (r3)), some (.ref (r4)), none, none, none, none, none, none] [] M none M1 := TF_51 hd hr3 hr4 h ⟨rfl, rfl⟩
/-! 55: NineDemands$Tally.narrow -/
def B_55_9 (x2 : Int32) (x3 : Int32) (x4 : Int32) : (Int32 × IM) → Option ((Int32 × IM) ⊕ ((Int32 × IM) ⊕ (Int32 × IM))) := fun (x5, M) => if (12 : Int32) ≤ x5 then (some (Sum.inr (Sum.inl (x5, M)))) else (if inb (x4 + x5) 84 = true then (if inb ((((x2 * 12) + x5) * 4) + x3) 576 = true then (if (M 56 (x4 + x5).toNatClampNeg) &&& (M 52 ((((x2 * 12) + x5) * 4) + x3).toNatClampNeg) = 0 then (some (Sum.inr (Sum.inr (0, M)))) else (if inb ((x4 + 12) + x5) 84 = true then (some (Sum.inl (x5 + 1, iset M 56 ((x4 + 12) + x5).toNatClampNeg ((M 56 (x4 + x5).toNatClampNeg) &&& (M 52 ((((x2 * 12) + x5) * 4) + x3).toNatClampNeg))))) else none)) else none) else none)
def L_55_9 (x2 : Int32) (x3 : Int32) (x4 : Int32) (x5 : Int32) (M : IM) : Option ((Int32 × IM) ⊕ (Int32 × IM)) := loopN (B_55_9 x2 x3 x4) FU (x5, M)
def F_55 (a1 : Int32) (a2 : Int32) (a3 : Int32) (M : IM) : Option (Int32 × IM) := (match L_55_9 a2 a3 (a1 * 12) 0 M with | none => none | some (.inl (x5_6, M6)) => (some ((1, M6))) | some (.inr q) => some (q))
theorem TB_55_9 {X : AX} {d : Nat} (hd : 0 ≤ d) {x2 : Int32} {x3 : Int32} {x4 : Int32} {v : Option Value} {M' : IM} : ∀ (s : Int32 × IM) (o : (Int32 × IM) ⊕ ((Int32 × IM) ⊕ (Int32 × IM))), B_55_9 x2 x3 x4 s = some o → (∀ s', o = .inl s' → (fun (x5, M) => Rc X d 55 9 [some (.ref (50)), none, some (.int (x2)), some (.int (x3)), some (.int (x4)), some (.int (x5)), none] [] M v M') s') → (∀ r, o = .inr r → (fun r => match r with | .inl (x5, M) => Rc X d 55 73 [none, none, none, none, none, none, none] [] M v M' | .inr q => v = some (.int q.1) ∧ M' = q.2) r) → (fun (x5, M) => Rc X d 55 9 [some (.ref (50)), none, some (.int (x2)), some (.int (x3)), some (.int (x4)), some (.int (x5)), none] [] M v M') s := by
  rintro ⟨x5, M⟩ o h hP hE
  show Rc X d 55 9 [some (.ref (50)), none, some (.int (x2)), some (.int (x3)), some (.int (x4)), some (.int (x5)), none] [] M v M'
  unfold B_55_9 at h
  dsimp only at h hP hE
  refine Rc.run tb_55 2 (pc' := 13) (ls' := [some (.ref (50)), none, some (.int (x2)), some (.int (x3)), some (.int (x4)), some (.int (x5)), none]) (st' := [.int (12), .int (x5)]) rfl rfl ?_
  refine Rc.icmp_ge (pc1 := 73) tb_55 rfl rfl (by decide) (by decide) (fun hb5 => ?_) (fun hb5 => ?_)
  · rw [if_pos hb5] at h
    refine Rc.mask (b := 0) ((tb_55.2 73).trans rfl) (ls' := [none, none, none, none, none, none, none]) rfl ?_
    obtain rfl := Option.some.inj h
    exact hE _ rfl
  · rw [if_neg hb5] at h
    refine Rc.run tb_55 1 (pc' := 17) (ls' := [some (.ref (50)), none, some (.int (x2)), some (.int (x3)), some (.int (x4)), some (.int (x5)), none]) (st' := [.ref (50)]) rfl rfl ?_
    refine Rc.getR tb_55 rfl rfl ob_50 (by decide +kernel) tg_50_2 (by decide) ?_
    refine Rc.run tb_55 3 (pc' := 25) (ls' := [some (.ref (50)), none, some (.int (x2)), some (.int (x3)), some (.int (x4)), some (.int (x5)), none]) (st' := [.int (x4 + x5), .ref (56)]) rfl rfl ?_
    by_cases hb4 : inb (x4 + x5) 84 = true
    · rw [if_pos hb4] at h
      refine Rc.iald tb_55 rfl rfl ia_56 hb4 ?_
      refine Rc.run tb_55 1 (pc' := 27) (ls' := [some (.ref (50)), none, some (.int (x2)), some (.int (x3)), some (.int (x4)), some (.int (x5)), none]) (st' := [.ref (50), .int (M 56 (x4 + x5).toNatClampNeg)]) rfl rfl ?_
      refine Rc.getR tb_55 rfl rfl ob_50 (by decide +kernel) tg_50_1 (by decide) ?_
      refine Rc.run tb_55 9 (pc' := 41) (ls' := [some (.ref (50)), none, some (.int (x2)), some (.int (x3)), some (.int (x4)), some (.int (x5)), none]) (st' := [.int ((((x2 * 12) + x5) * 4) + x3), .ref (52), .int (M 56 (x4 + x5).toNatClampNeg)]) rfl rfl ?_
      by_cases hb3 : inb ((((x2 * 12) + x5) * 4) + x3) 576 = true
      · rw [if_pos hb3] at h
        refine Rc.iald tb_55 rfl rfl ia_52 hb3 ?_
        refine Rc.run tb_55 3 (pc' := 47) (ls' := [some (.ref (50)), none, some (.int (x2)), some (.int (x3)), some (.int (x4)), some (.int (x5)), some (.int ((M 56 (x4 + x5).toNatClampNeg) &&& (M 52 ((((x2 * 12) + x5) * 4) + x3).toNatClampNeg)))]) (st' := [.int ((M 56 (x4 + x5).toNatClampNeg) &&& (M 52 ((((x2 * 12) + x5) * 4) + x3).toNatClampNeg))]) rfl rfl ?_
        refine Rc.if_ne (pc1 := 52) tb_55 rfl rfl (by decide) (by decide) (fun hb2 => ?_) (fun hb2 => ?_)
        · rw [if_pos hb2] at h
          refine Rc.run tb_55 1 (pc' := 51) (ls' := [some (.ref (50)), none, some (.int (x2)), some (.int (x3)), some (.int (x4)), some (.int (x5)), some (.int ((M 56 (x4 + x5).toNatClampNeg) &&& (M 52 ((((x2 * 12) + x5) * 4) + x3).toNatClampNeg)))]) (st' := [.int (0)]) rfl rfl ?_
          obtain rfl := Option.some.inj h
          obtain ⟨rfl, rfl⟩ := hE _ rfl
          exact Rc.zret tb_55 rfl mR_55 (Or.inl rfl)
        · rw [if_neg hb2] at h
          refine Rc.run tb_55 1 (pc' := 53) (ls' := [some (.ref (50)), none, some (.int (x2)), some (.int (x3)), some (.int (x4)), some (.int (x5)), some (.int ((M 56 (x4 + x5).toNatClampNeg) &&& (M 52 ((((x2 * 12) + x5) * 4) + x3).toNatClampNeg)))]) (st' := [.ref (50)]) rfl rfl ?_
          refine Rc.getR tb_55 rfl rfl ob_50 (by decide +kernel) tg_50_2 (by decide) ?_
          refine Rc.run tb_55 6 (pc' := 66) (ls' := [some (.ref (50)), none, some (.int (x2)), some (.int (x3)), some (.int (x4)), some (.int (x5)), some (.int ((M 56 (x4 + x5).toNatClampNeg) &&& (M 52 ((((x2 * 12) + x5) * 4) + x3).toNatClampNeg)))]) (st' := [.int ((M 56 (x4 + x5).toNatClampNeg) &&& (M 52 ((((x2 * 12) + x5) * 4) + x3).toNatClampNeg)), .int ((x4 + 12) + x5), .ref (56)]) rfl rfl ?_
          by_cases hb1 : inb ((x4 + 12) + x5) 84 = true
          · rw [if_pos hb1] at h
            refine Rc.iast tb_55 rfl rfl ia_56 hb1 ?_
            refine Rc.run tb_55 2 (pc' := 9) (ls' := [some (.ref (50)), none, some (.int (x2)), some (.int (x3)), some (.int (x4)), some (.int (x5 + 1)), some (.int ((M 56 (x4 + x5).toNatClampNeg) &&& (M 52 ((((x2 * 12) + x5) * 4) + x3).toNatClampNeg)))]) (st' := []) rfl rfl ?_
            refine Rc.mask (b := 61) ((tb_55.2 9).trans rfl) (ls' := [some (.ref (50)), none, some (.int (x2)), some (.int (x3)), some (.int (x4)), some (.int (x5 + 1)), none]) rfl ?_
            obtain rfl := Option.some.inj h
            exact hP _ rfl
          · rw [if_neg hb1] at h
            cases h
      · rw [if_neg hb3] at h
        cases h
    · rw [if_neg hb4] at h
      cases h
theorem TL_55_9 {X : AX} {d : Nat} (hd : 0 ≤ d) {x2 : Int32} {x3 : Int32} {x4 : Int32} {x5 : Int32} {M : IM} {v : Option Value} {M' : IM} {r : (Int32 × IM) ⊕ (Int32 × IM)} (h : L_55_9 x2 x3 x4 x5 M = some r) (hE : (fun r => match r with | .inl (x5, M) => Rc X d 55 73 [none, none, none, none, none, none, none] [] M v M' | .inr q => v = some (.int q.1) ∧ M' = q.2) r) : Rc X d 55 9 [some (.ref (50)), none, some (.int (x2)), some (.int (x3)), some (.int (x4)), some (.int (x5)), none] [] M v M' := by
  exact loopN_rc (P := fun (x5, M) => Rc X d 55 9 [some (.ref (50)), none, some (.int (x2)), some (.int (x3)), some (.int (x4)), some (.int (x5)), none] [] M v M') (E := fun r => match r with | .inl (x5, M) => Rc X d 55 73 [none, none, none, none, none, none, none] [] M v M' | .inr q => v = some (.int q.1) ∧ M' = q.2) (TB_55_9 (X := X) hd) FU _ r h hE
theorem TF_55 {X : AX} {d : Nat} (hd : 0 ≤ d) {a1 : Int32} {a2 : Int32} {a3 : Int32} {M : IM} {v : Option Value} {M' : IM} {o : Int32 × IM} (h : F_55 a1 a2 a3 M = some o) (hC : v = some (.int o.1) ∧ M' = o.2) : Rc X d 55 0 [some (.ref (50)), some (.int (a1)), some (.int (a2)), some (.int (a3)), none, none, none] [] M v M' := by
  unfold F_55 at h
  refine Rc.run tb_55 6 (pc' := 9) (ls' := [some (.ref (50)), some (.int (a1)), some (.int (a2)), some (.int (a3)), some (.int (a1 * 12)), some (.int (0)), none]) (st' := []) rfl rfl ?_
  refine Rc.mask (b := 61) ((tb_55.2 9).trans rfl) (ls' := [some (.ref (50)), none, some (.int (a2)), some (.int (a3)), some (.int (a1 * 12)), some (.int (0)), none]) rfl ?_
  cases hl6 : L_55_9 a2 a3 (a1 * 12) 0 M with
  | none => rw [hl6] at h; cases h
  | some rr6 =>
    rw [hl6] at h
    cases rr6 with
    | inl r6 =>
      obtain ⟨x5_6, M6⟩ := r6
      dsimp only at h
      refine TL_55_9 (X := X) (d := d) (by omega) hl6 ?_
      refine Rc.run tb_55 1 (pc' := 74) (ls' := [none, none, none, none, none, none, none]) (st' := [.int (1)]) rfl rfl ?_
      obtain rfl := Option.some.inj h
      obtain ⟨rfl, rfl⟩ := hC
      exact Rc.zret tb_55 rfl mR_55 (Or.inr rfl)
    | inr q =>
      dsimp only at h
      refine TL_55_9 (X := X) (d := d) (by omega) hl6 ?_
      obtain rfl := Option.some.inj h
      obtain ⟨rfl, rfl⟩ := hC
      exact ⟨rfl, rfl⟩
theorem T_55 {X : AX} {d : Nat} (hd : 0 ≤ d) {a1 : Int32} {a2 : Int32} {a3 : Int32} {M : IM} {x : Int32} {M1 : IM} (h : F_55 a1 a2 a3 M = some (x, M1)) : Rc X d 55 0 [some (.ref (50)), some (.int (a1)), some (.int (a2)), some (.int (a3)), none, none, none] [] M (some (.int x)) M1 := TF_55 hd h ⟨rfl, rfl⟩
/-! 58: NineDemands$Tally.with -/
def F_58 (a1 : Int32) (a2 : Int32) (a3 : Int32) (M : IM) : Option (Int32) := if inb ((((a1 * 12) + a3) * 4) + a2) 576 = true then (some (M 52 ((((a1 * 12) + a3) * 4) + a2).toNatClampNeg)) else none
theorem TF_58 {X : AX} {d : Nat} (hd : 0 ≤ d) {a1 : Int32} {a2 : Int32} {a3 : Int32} {M : IM} {v : Option Value} {M' : IM} {o : Int32} (h : F_58 a1 a2 a3 M = some o) (hC : v = some (.int o) ∧ M' = M) : Rc X d 58 0 [some (.ref (50)), some (.int (a1)), some (.int (a2)), some (.int (a3))] [] M v M' := by
  unfold F_58 at h
  refine Rc.run tb_58 1 (pc' := 1) (ls' := [some (.ref (50)), some (.int (a1)), some (.int (a2)), some (.int (a3))]) (st' := [.ref (50)]) rfl rfl ?_
  refine Rc.getR tb_58 rfl rfl ob_50 (by decide +kernel) tg_50_1 (by decide) ?_
  refine Rc.run tb_58 9 (pc' := 14) (ls' := [some (.ref (50)), some (.int (a1)), some (.int (a2)), some (.int (a3))]) (st' := [.int ((((a1 * 12) + a3) * 4) + a2), .ref (52)]) rfl rfl ?_
  by_cases hb1 : inb ((((a1 * 12) + a3) * 4) + a2) 576 = true
  · rw [if_pos hb1] at h
    refine Rc.iald tb_58 rfl rfl ia_52 hb1 ?_
    obtain rfl := Option.some.inj h
    obtain ⟨rfl, rfl⟩ := hC
    exact Rc.iret (ins := .ireturn) tb_58 rfl mR_58
  · rw [if_neg hb1] at h
    cases h
theorem T_58 {X : AX} {d : Nat} (hd : 0 ≤ d) {a1 : Int32} {a2 : Int32} {a3 : Int32} {M : IM} {x : Int32} (h : F_58 a1 a2 a3 M = some x) : Rc X d 58 0 [some (.ref (50)), some (.int (a1)), some (.int (a2)), some (.int (a3))] [] M (some (.int x)) M := TF_58 hd h ⟨rfl, rfl⟩
/-! 57: NineDemands$Tally.closeWith -/
def J_57_218_29 (x1 : Int32) (x2 : Int32) (x3 : Int32) (x4 : Int32) (x5 : Int32) (M : IM) : Option ((Int32 × IM) ⊕ (Int32 × IM)) := some (Sum.inl (x5 + 1, M))
def B_57_29 (x1 : Int32) (x2 : Int32) (x3 : Int32) (x4 : Int32) : (Int32 × IM) → Option ((Int32 × IM) ⊕ (Int32 × IM)) := fun (x5, M) => if (3 : Int32) < x5 then (some (Sum.inr (x5, M))) else (if F_143 x4 x5 = 0 then (J_57_218_29 x1 x2 x3 x4 x5 M) else (if inb (x3 + 1) 84 = true then (match F_58 (0 : Int32) x1 (1 : Int32) M with | none => none | some c3 => (match F_58 (3 : Int32) x5 (1 : Int32) M with | none => none | some c4 => (if inb (x3 + 2) 84 = true then (match F_58 (0 : Int32) x1 (2 : Int32) M with | none => none | some c5 => (match F_58 (3 : Int32) x5 (2 : Int32) M with | none => none | some c6 => (if inb (x3 + 4) 84 = true then (match F_58 (0 : Int32) x1 (4 : Int32) M with | none => none | some c7 => (if inb (x3 + 11) 84 = true then (match F_58 (3 : Int32) x5 (11 : Int32) M with | none => none | some c8 => (if inb ((8 * (((M 56 (x3 + 1).toNatClampNeg) &&& c3) &&& c4)) + (((M 56 (x3 + 2).toNatClampNeg) &&& c5) &&& c6)) 64 = true then (if inb ((8 * ((M 56 (x3 + 4).toNatClampNeg) &&& c7)) + ((M 56 (x3 + 11).toNatClampNeg) &&& c8)) 64 = true then (match F_52 (3 : Int32) x5 (iset M 50 8 ((M 50 8) + ((M 58 ((8 * (((M 56 (x3 + 1).toNatClampNeg) &&& c3) &&& c4)) + (((M 56 (x3 + 2).toNatClampNeg) &&& c5) &&& c6)).toNatClampNeg) * (M 60 ((8 * ((M 56 (x3 + 4).toNatClampNeg) &&& c7)) + ((M 56 (x3 + 11).toNatClampNeg) &&& c8)).toNatClampNeg)))) with | none => none | some c9 => (if inb ((8 * (((M 56 (x3 + 1).toNatClampNeg) &&& c3) &&& c4)) + (((M 56 (x3 + 2).toNatClampNeg) &&& c5) &&& c6)) 64 = true then (if inb ((8 * ((M 56 (x3 + 4).toNatClampNeg) &&& c7)) + ((M 56 (x3 + 11).toNatClampNeg) &&& c8)) 64 = true then (J_57_218_29 x1 x2 x3 x4 x5 (iset (iset M 50 8 ((M 50 8) + ((M 58 ((8 * (((M 56 (x3 + 1).toNatClampNeg) &&& c3) &&& c4)) + (((M 56 (x3 + 2).toNatClampNeg) &&& c5) &&& c6)).toNatClampNeg) * (M 60 ((8 * ((M 56 (x3 + 4).toNatClampNeg) &&& c7)) + ((M 56 (x3 + 11).toNatClampNeg) &&& c8)).toNatClampNeg)))) 50 9 (bif decide (((x2 + c9) + ((iset M 50 8 ((M 50 8) + ((M 58 ((8 * (((M 56 (x3 + 1).toNatClampNeg) &&& c3) &&& c4)) + (((M 56 (x3 + 2).toNatClampNeg) &&& c5) &&& c6)).toNatClampNeg) * (M 60 ((8 * ((M 56 (x3 + 4).toNatClampNeg) &&& c7)) + ((M 56 (x3 + 11).toNatClampNeg) &&& c8)).toNatClampNeg)))) 59 ((8 * (((M 56 (x3 + 1).toNatClampNeg) &&& c3) &&& c4)) + (((M 56 (x3 + 2).toNatClampNeg) &&& c5) &&& c6)).toNatClampNeg)) + ((iset M 50 8 ((M 50 8) + ((M 58 ((8 * (((M 56 (x3 + 1).toNatClampNeg) &&& c3) &&& c4)) + (((M 56 (x3 + 2).toNatClampNeg) &&& c5) &&& c6)).toNatClampNeg) * (M 60 ((8 * ((M 56 (x3 + 4).toNatClampNeg) &&& c7)) + ((M 56 (x3 + 11).toNatClampNeg) &&& c8)).toNatClampNeg)))) 61 ((8 * ((M 56 (x3 + 4).toNatClampNeg) &&& c7)) + ((M 56 (x3 + 11).toNatClampNeg) &&& c8)).toNatClampNeg) < (iset M 50 8 ((M 50 8) + ((M 58 ((8 * (((M 56 (x3 + 1).toNatClampNeg) &&& c3) &&& c4)) + (((M 56 (x3 + 2).toNatClampNeg) &&& c5) &&& c6)).toNatClampNeg) * (M 60 ((8 * ((M 56 (x3 + 4).toNatClampNeg) &&& c7)) + ((M 56 (x3 + 11).toNatClampNeg) &&& c8)).toNatClampNeg)))) 50 9) then ((x2 + c9) + ((iset M 50 8 ((M 50 8) + ((M 58 ((8 * (((M 56 (x3 + 1).toNatClampNeg) &&& c3) &&& c4)) + (((M 56 (x3 + 2).toNatClampNeg) &&& c5) &&& c6)).toNatClampNeg) * (M 60 ((8 * ((M 56 (x3 + 4).toNatClampNeg) &&& c7)) + ((M 56 (x3 + 11).toNatClampNeg) &&& c8)).toNatClampNeg)))) 59 ((8 * (((M 56 (x3 + 1).toNatClampNeg) &&& c3) &&& c4)) + (((M 56 (x3 + 2).toNatClampNeg) &&& c5) &&& c6)).toNatClampNeg)) + ((iset M 50 8 ((M 50 8) + ((M 58 ((8 * (((M 56 (x3 + 1).toNatClampNeg) &&& c3) &&& c4)) + (((M 56 (x3 + 2).toNatClampNeg) &&& c5) &&& c6)).toNatClampNeg) * (M 60 ((8 * ((M 56 (x3 + 4).toNatClampNeg) &&& c7)) + ((M 56 (x3 + 11).toNatClampNeg) &&& c8)).toNatClampNeg)))) 61 ((8 * ((M 56 (x3 + 4).toNatClampNeg) &&& c7)) + ((M 56 (x3 + 11).toNatClampNeg) &&& c8)).toNatClampNeg) else (iset M 50 8 ((M 50 8) + ((M 58 ((8 * (((M 56 (x3 + 1).toNatClampNeg) &&& c3) &&& c4)) + (((M 56 (x3 + 2).toNatClampNeg) &&& c5) &&& c6)).toNatClampNeg) * (M 60 ((8 * ((M 56 (x3 + 4).toNatClampNeg) &&& c7)) + ((M 56 (x3 + 11).toNatClampNeg) &&& c8)).toNatClampNeg)))) 50 9))) else none) else none)) else none) else none)) else none)) else none))) else none))) else none))
def L_57_29 (x1 : Int32) (x2 : Int32) (x3 : Int32) (x4 : Int32) (x5 : Int32) (M : IM) : Option (Int32 × IM) := loopN (B_57_29 x1 x2 x3 x4) FU (x5, M)
def F_57 (a1 : Int32) (a2 : Int32) (M : IM) : Option (IM) := if inb (((6 : Int32) * (12 : Int32)) + 3) 84 = true then (match F_58 (0 : Int32) a1 (3 : Int32) M with | none => none | some c1 => (match L_57_29 a1 a2 ((6 : Int32) * (12 : Int32)) ((M 56 (((6 : Int32) * (12 : Int32)) + 3).toNatClampNeg) &&& c1) 1 M with | none => none | some (x5_20, M20) => (some (M20)))) else none
theorem TJ_57_218_29 {X : AX} {d : Nat} (hd : 1 ≤ d) {x1 : Int32} {x2 : Int32} {x3 : Int32} {x4 : Int32} {x5 : Int32} {M : IM} {v : Option Value} {M' : IM} {o : (Int32 × IM) ⊕ (Int32 × IM)} (h : J_57_218_29 x1 x2 x3 x4 x5 M = some o) (hP : ∀ s', o = .inl s' → (fun (x5, M) => Rc X d 57 29 [some (.ref (50)), some (.int (x1)), some (.int (x2)), some (.int (x3)), some (.int (x4)), some (.int (x5)), none, none, none, none, none, none] [] M v M') s') (hE : ∀ r, o = .inr r → (fun (x5, M) => Rc X d 57 224 [none, none, none, none, none, none, none, none, none, none, none, none] [] M v M') r) : Rc X d 57 218 [some (.ref (50)), some (.int (x1)), some (.int (x2)), some (.int (x3)), some (.int (x4)), some (.int (x5)), none, none, none, none, none, none] [] M v M' := by
  obtain ⟨d, rfl⟩ : ∃ e, d = e + 1 := ⟨d - 1, by omega⟩
  unfold J_57_218_29 at h
  dsimp only at hP hE
  refine Rc.run tb_57 2 (pc' := 29) (ls' := [some (.ref (50)), some (.int (x1)), some (.int (x2)), some (.int (x3)), some (.int (x4)), some (.int (x5 + 1)), none, none, none, none, none, none]) (st' := []) rfl rfl ?_
  refine Rc.mask (b := 63) ((tb_57.2 29).trans rfl) (ls' := [some (.ref (50)), some (.int (x1)), some (.int (x2)), some (.int (x3)), some (.int (x4)), some (.int (x5 + 1)), none, none, none, none, none, none]) rfl ?_
  obtain rfl := Option.some.inj h
  exact hP _ rfl
theorem TB_57_29 {X : AX} {d : Nat} (hd : 1 ≤ d) {x1 : Int32} {x2 : Int32} {x3 : Int32} {x4 : Int32} {v : Option Value} {M' : IM} : ∀ (s : Int32 × IM) (o : (Int32 × IM) ⊕ (Int32 × IM)), B_57_29 x1 x2 x3 x4 s = some o → (∀ s', o = .inl s' → (fun (x5, M) => Rc X d 57 29 [some (.ref (50)), some (.int (x1)), some (.int (x2)), some (.int (x3)), some (.int (x4)), some (.int (x5)), none, none, none, none, none, none] [] M v M') s') → (∀ r, o = .inr r → (fun (x5, M) => Rc X d 57 224 [none, none, none, none, none, none, none, none, none, none, none, none] [] M v M') r) → (fun (x5, M) => Rc X d 57 29 [some (.ref (50)), some (.int (x1)), some (.int (x2)), some (.int (x3)), some (.int (x4)), some (.int (x5)), none, none, none, none, none, none] [] M v M') s := by
  rintro ⟨x5, M⟩ o h hP hE
  show Rc X d 57 29 [some (.ref (50)), some (.int (x1)), some (.int (x2)), some (.int (x3)), some (.int (x4)), some (.int (x5)), none, none, none, none, none, none] [] M v M'
  obtain ⟨d, rfl⟩ : ∃ e, d = e + 1 := ⟨d - 1, by omega⟩
  unfold B_57_29 at h
  dsimp only at h hP hE
  refine Rc.run tb_57 2 (pc' := 32) (ls' := [some (.ref (50)), some (.int (x1)), some (.int (x2)), some (.int (x3)), some (.int (x4)), some (.int (x5)), none, none, none, none, none, none]) (st' := [.int (3), .int (x5)]) rfl rfl ?_
  refine Rc.icmp_gt (pc1 := 224) tb_57 rfl rfl (by decide) (by decide) (fun hb19 => ?_) (fun hb19 => ?_)
  · rw [if_pos hb19] at h
    refine Rc.mask (b := 0) ((tb_57.2 224).trans rfl) (ls' := [none, none, none, none, none, none, none, none, none, none, none, none]) rfl ?_
    obtain rfl := Option.some.inj h
    exact hE _ rfl
  · rw [if_neg hb19] at h
    refine Rc.run tb_57 2 (pc' := 39) (ls' := [some (.ref (50)), some (.int (x1)), some (.int (x2)), some (.int (x3)), some (.int (x4)), some (.int (x5)), none, none, none, none, none, none]) (st' := [.int (x5), .int (x4)]) rfl rfl ?_
    have hq2 := T_143 (X := X) (d := d) (by omega) x4 x5 M
    have hz2 := Rc.bool mR_143 hq2
    refine Rc.callS tb_57 rfl rfl rfl mS_143 mP_143 mL_143 rfl rfl rfl hq2 ?_
    refine Rc.if_eq (pc1 := 218) tb_57 rfl rfl (by decide) (by decide) (fun hb18 => ?_) (fun hb18 => ?_)
    · rw [if_pos hb18] at h
      refine Rc.mask (b := 63) ((tb_57.2 218).trans rfl) (ls' := [some (.ref (50)), some (.int (x1)), some (.int (x2)), some (.int (x3)), some (.int (x4)), some (.int (x5)), none, none, none, none, none, none]) rfl ?_
      exact TJ_57_218_29 (X := X) (d := d + 1) (by omega) h hP hE
    · rw [if_neg hb18] at h
      refine Rc.run tb_57 1 (pc' := 46) (ls' := [some (.ref (50)), some (.int (x1)), some (.int (x2)), some (.int (x3)), some (.int (x4)), some (.int (x5)), none, none, none, none, none, none]) (st' := [.ref (50)]) rfl rfl ?_
      refine Rc.getR tb_57 rfl rfl ob_50 (by decide +kernel) tg_50_2 (by decide) ?_
      refine Rc.run tb_57 3 (pc' := 52) (ls' := [some (.ref (50)), some (.int (x1)), some (.int (x2)), some (.int (x3)), some (.int (x4)), some (.int (x5)), none, none, none, none, none, none]) (st' := [.int (x3 + 1), .ref (56)]) rfl rfl ?_
      by_cases hb17 : inb (x3 + 1) 84 = true
      · rw [if_pos hb17] at h
        refine Rc.iald tb_57 rfl rfl ia_56 hb17 ?_
        refine Rc.run tb_57 4 (pc' := 57) (ls' := [some (.ref (50)), some (.int (x1)), some (.int (x2)), some (.int (x3)), some (.int (x4)), some (.int (x5)), none, none, none, none, none, none]) (st' := [.int (1), .int (x1), .int (0), .ref (50), .int (M 56 (x3 + 1).toNatClampNeg)]) rfl rfl ?_
        cases hc3 : F_58 (0 : Int32) x1 (1 : Int32) M with
        | none => rw [hc3] at h; cases h
        | some c3 =>
          rw [hc3] at h
          dsimp only at h
          have hq3 := T_58 (X := X) (d := d) (by omega) (M := M) hc3
          refine Rc.callV tb_57 rfl rfl rfl mS_58 mP_58 mL_58 mO_58 rfl rfl ob_50 rfl rfl hq3 ?_
          refine Rc.run tb_57 5 (pc' := 66) (ls' := [some (.ref (50)), some (.int (x1)), some (.int (x2)), some (.int (x3)), some (.int (x4)), some (.int (x5)), none, none, none, none, none, none]) (st' := [.int (1), .int (x5), .int (3), .ref (50), .int ((M 56 (x3 + 1).toNatClampNeg) &&& c3)]) rfl rfl ?_
          cases hc4 : F_58 (3 : Int32) x5 (1 : Int32) M with
          | none => rw [hc4] at h; cases h
          | some c4 =>
            rw [hc4] at h
            dsimp only at h
            have hq4 := T_58 (X := X) (d := d) (by omega) (M := M) hc4
            refine Rc.callV tb_57 rfl rfl rfl mS_58 mP_58 mL_58 mO_58 rfl rfl ob_50 rfl rfl hq4 ?_
            refine Rc.run tb_57 3 (pc' := 73) (ls' := [some (.ref (50)), some (.int (x1)), some (.int (x2)), some (.int (x3)), some (.int (x4)), some (.int (x5)), some (.int (((M 56 (x3 + 1).toNatClampNeg) &&& c3) &&& c4)), none, none, none, none, none]) (st' := [.ref (50)]) rfl rfl ?_
            refine Rc.getR tb_57 rfl rfl ob_50 (by decide +kernel) tg_50_2 (by decide) ?_
            refine Rc.run tb_57 3 (pc' := 79) (ls' := [some (.ref (50)), some (.int (x1)), some (.int (x2)), some (.int (x3)), some (.int (x4)), some (.int (x5)), some (.int (((M 56 (x3 + 1).toNatClampNeg) &&& c3) &&& c4)), none, none, none, none, none]) (st' := [.int (x3 + 2), .ref (56)]) rfl rfl ?_
            by_cases hb16 : inb (x3 + 2) 84 = true
            · rw [if_pos hb16] at h
              refine Rc.iald tb_57 rfl rfl ia_56 hb16 ?_
              refine Rc.run tb_57 4 (pc' := 84) (ls' := [some (.ref (50)), some (.int (x1)), some (.int (x2)), some (.int (x3)), some (.int (x4)), some (.int (x5)), some (.int (((M 56 (x3 + 1).toNatClampNeg) &&& c3) &&& c4)), none, none, none, none, none]) (st' := [.int (2), .int (x1), .int (0), .ref (50), .int (M 56 (x3 + 2).toNatClampNeg)]) rfl rfl ?_
              cases hc5 : F_58 (0 : Int32) x1 (2 : Int32) M with
              | none => rw [hc5] at h; cases h
              | some c5 =>
                rw [hc5] at h
                dsimp only at h
                have hq5 := T_58 (X := X) (d := d) (by omega) (M := M) hc5
                refine Rc.callV tb_57 rfl rfl rfl mS_58 mP_58 mL_58 mO_58 rfl rfl ob_50 rfl rfl hq5 ?_
                refine Rc.run tb_57 5 (pc' := 93) (ls' := [some (.ref (50)), some (.int (x1)), some (.int (x2)), some (.int (x3)), some (.int (x4)), some (.int (x5)), some (.int (((M 56 (x3 + 1).toNatClampNeg) &&& c3) &&& c4)), none, none, none, none, none]) (st' := [.int (2), .int (x5), .int (3), .ref (50), .int ((M 56 (x3 + 2).toNatClampNeg) &&& c5)]) rfl rfl ?_
                cases hc6 : F_58 (3 : Int32) x5 (2 : Int32) M with
                | none => rw [hc6] at h; cases h
                | some c6 =>
                  rw [hc6] at h
                  dsimp only at h
                  have hq6 := T_58 (X := X) (d := d) (by omega) (M := M) hc6
                  refine Rc.callV tb_57 rfl rfl rfl mS_58 mP_58 mL_58 mO_58 rfl rfl ob_50 rfl rfl hq6 ?_
                  refine Rc.run tb_57 3 (pc' := 100) (ls' := [some (.ref (50)), some (.int (x1)), some (.int (x2)), some (.int (x3)), some (.int (x4)), some (.int (x5)), some (.int (((M 56 (x3 + 1).toNatClampNeg) &&& c3) &&& c4)), some (.int (((M 56 (x3 + 2).toNatClampNeg) &&& c5) &&& c6)), none, none, none, none]) (st' := [.ref (50)]) rfl rfl ?_
                  refine Rc.getR tb_57 rfl rfl ob_50 (by decide +kernel) tg_50_2 (by decide) ?_
                  refine Rc.run tb_57 3 (pc' := 106) (ls' := [some (.ref (50)), some (.int (x1)), some (.int (x2)), some (.int (x3)), some (.int (x4)), some (.int (x5)), some (.int (((M 56 (x3 + 1).toNatClampNeg) &&& c3) &&& c4)), some (.int (((M 56 (x3 + 2).toNatClampNeg) &&& c5) &&& c6)), none, none, none, none]) (st' := [.int (x3 + 4), .ref (56)]) rfl rfl ?_
                  by_cases hb15 : inb (x3 + 4) 84 = true
                  · rw [if_pos hb15] at h
                    refine Rc.iald tb_57 rfl rfl ia_56 hb15 ?_
                    refine Rc.run tb_57 4 (pc' := 111) (ls' := [some (.ref (50)), some (.int (x1)), some (.int (x2)), some (.int (x3)), some (.int (x4)), some (.int (x5)), some (.int (((M 56 (x3 + 1).toNatClampNeg) &&& c3) &&& c4)), some (.int (((M 56 (x3 + 2).toNatClampNeg) &&& c5) &&& c6)), none, none, none, none]) (st' := [.int (4), .int (x1), .int (0), .ref (50), .int (M 56 (x3 + 4).toNatClampNeg)]) rfl rfl ?_
                    cases hc7 : F_58 (0 : Int32) x1 (4 : Int32) M with
                    | none => rw [hc7] at h; cases h
                    | some c7 =>
                      rw [hc7] at h
                      dsimp only at h
                      have hq7 := T_58 (X := X) (d := d) (by omega) (M := M) hc7
                      refine Rc.callV tb_57 rfl rfl rfl mS_58 mP_58 mL_58 mO_58 rfl rfl ob_50 rfl rfl hq7 ?_
                      refine Rc.run tb_57 3 (pc' := 118) (ls' := [some (.ref (50)), some (.int (x1)), some (.int (x2)), some (.int (x3)), some (.int (x4)), some (.int (x5)), some (.int (((M 56 (x3 + 1).toNatClampNeg) &&& c3) &&& c4)), some (.int (((M 56 (x3 + 2).toNatClampNeg) &&& c5) &&& c6)), some (.int ((M 56 (x3 + 4).toNatClampNeg) &&& c7)), none, none, none]) (st' := [.ref (50)]) rfl rfl ?_
                      refine Rc.getR tb_57 rfl rfl ob_50 (by decide +kernel) tg_50_2 (by decide) ?_
                      refine Rc.run tb_57 3 (pc' := 125) (ls' := [some (.ref (50)), some (.int (x1)), some (.int (x2)), some (.int (x3)), some (.int (x4)), some (.int (x5)), some (.int (((M 56 (x3 + 1).toNatClampNeg) &&& c3) &&& c4)), some (.int (((M 56 (x3 + 2).toNatClampNeg) &&& c5) &&& c6)), some (.int ((M 56 (x3 + 4).toNatClampNeg) &&& c7)), none, none, none]) (st' := [.int (x3 + 11), .ref (56)]) rfl rfl ?_
                      by_cases hb14 : inb (x3 + 11) 84 = true
                      · rw [if_pos hb14] at h
                        refine Rc.iald tb_57 rfl rfl ia_56 hb14 ?_
                        refine Rc.run tb_57 4 (pc' := 132) (ls' := [some (.ref (50)), some (.int (x1)), some (.int (x2)), some (.int (x3)), some (.int (x4)), some (.int (x5)), some (.int (((M 56 (x3 + 1).toNatClampNeg) &&& c3) &&& c4)), some (.int (((M 56 (x3 + 2).toNatClampNeg) &&& c5) &&& c6)), some (.int ((M 56 (x3 + 4).toNatClampNeg) &&& c7)), none, none, none]) (st' := [.int (11), .int (x5), .int (3), .ref (50), .int (M 56 (x3 + 11).toNatClampNeg)]) rfl rfl ?_
                        cases hc8 : F_58 (3 : Int32) x5 (11 : Int32) M with
                        | none => rw [hc8] at h; cases h
                        | some c8 =>
                          rw [hc8] at h
                          dsimp only at h
                          have hq8 := T_58 (X := X) (d := d) (by omega) (M := M) hc8
                          refine Rc.callV tb_57 rfl rfl rfl mS_58 mP_58 mL_58 mO_58 rfl rfl ob_50 rfl rfl hq8 ?_
                          refine Rc.run tb_57 16 (pc' := 160) (ls' := [some (.ref (50)), some (.int (x1)), some (.int (x2)), some (.int (x3)), some (.int (x4)), some (.int (x5)), some (.int (((M 56 (x3 + 1).toNatClampNeg) &&& c3) &&& c4)), some (.int (((M 56 (x3 + 2).toNatClampNeg) &&& c5) &&& c6)), some (.int ((M 56 (x3 + 4).toNatClampNeg) &&& c7)), some (.int ((M 56 (x3 + 11).toNatClampNeg) &&& c8)), some (.int ((8 * (((M 56 (x3 + 1).toNatClampNeg) &&& c3) &&& c4)) + (((M 56 (x3 + 2).toNatClampNeg) &&& c5) &&& c6))), some (.int ((8 * ((M 56 (x3 + 4).toNatClampNeg) &&& c7)) + ((M 56 (x3 + 11).toNatClampNeg) &&& c8)))]) (st' := [.ref (50), .ref (50)]) rfl rfl ?_
                          refine Rc.getI tb_57 rfl rfl ob_50 (by decide +kernel) tg_50_8 ?_
                          refine Rc.run tb_57 1 (pc' := 164) (ls' := [some (.ref (50)), some (.int (x1)), some (.int (x2)), some (.int (x3)), some (.int (x4)), some (.int (x5)), some (.int (((M 56 (x3 + 1).toNatClampNeg) &&& c3) &&& c4)), some (.int (((M 56 (x3 + 2).toNatClampNeg) &&& c5) &&& c6)), some (.int ((M 56 (x3 + 4).toNatClampNeg) &&& c7)), some (.int ((M 56 (x3 + 11).toNatClampNeg) &&& c8)), some (.int ((8 * (((M 56 (x3 + 1).toNatClampNeg) &&& c3) &&& c4)) + (((M 56 (x3 + 2).toNatClampNeg) &&& c5) &&& c6))), some (.int ((8 * ((M 56 (x3 + 4).toNatClampNeg) &&& c7)) + ((M 56 (x3 + 11).toNatClampNeg) &&& c8)))]) (st' := [.ref (50), .int (M 50 8), .ref (50)]) rfl rfl ?_
                          refine Rc.getR tb_57 rfl rfl ob_50 (by decide +kernel) tg_50_4 (by decide) ?_
                          refine Rc.run tb_57 1 (pc' := 169) (ls' := [some (.ref (50)), some (.int (x1)), some (.int (x2)), some (.int (x3)), some (.int (x4)), some (.int (x5)), some (.int (((M 56 (x3 + 1).toNatClampNeg) &&& c3) &&& c4)), some (.int (((M 56 (x3 + 2).toNatClampNeg) &&& c5) &&& c6)), some (.int ((M 56 (x3 + 4).toNatClampNeg) &&& c7)), some (.int ((M 56 (x3 + 11).toNatClampNeg) &&& c8)), some (.int ((8 * (((M 56 (x3 + 1).toNatClampNeg) &&& c3) &&& c4)) + (((M 56 (x3 + 2).toNatClampNeg) &&& c5) &&& c6))), some (.int ((8 * ((M 56 (x3 + 4).toNatClampNeg) &&& c7)) + ((M 56 (x3 + 11).toNatClampNeg) &&& c8)))]) (st' := [.int ((8 * (((M 56 (x3 + 1).toNatClampNeg) &&& c3) &&& c4)) + (((M 56 (x3 + 2).toNatClampNeg) &&& c5) &&& c6)), .ref (58), .int (M 50 8), .ref (50)]) rfl rfl ?_
                          by_cases hb13 : inb ((8 * (((M 56 (x3 + 1).toNatClampNeg) &&& c3) &&& c4)) + (((M 56 (x3 + 2).toNatClampNeg) &&& c5) &&& c6)) 64 = true
                          · rw [if_pos hb13] at h
                            refine Rc.iald tb_57 rfl rfl ia_58 hb13 ?_
                            refine Rc.run tb_57 1 (pc' := 171) (ls' := [some (.ref (50)), some (.int (x1)), some (.int (x2)), some (.int (x3)), some (.int (x4)), some (.int (x5)), some (.int (((M 56 (x3 + 1).toNatClampNeg) &&& c3) &&& c4)), some (.int (((M 56 (x3 + 2).toNatClampNeg) &&& c5) &&& c6)), some (.int ((M 56 (x3 + 4).toNatClampNeg) &&& c7)), some (.int ((M 56 (x3 + 11).toNatClampNeg) &&& c8)), some (.int ((8 * (((M 56 (x3 + 1).toNatClampNeg) &&& c3) &&& c4)) + (((M 56 (x3 + 2).toNatClampNeg) &&& c5) &&& c6))), some (.int ((8 * ((M 56 (x3 + 4).toNatClampNeg) &&& c7)) + ((M 56 (x3 + 11).toNatClampNeg) &&& c8)))]) (st' := [.ref (50), .int (M 58 ((8 * (((M 56 (x3 + 1).toNatClampNeg) &&& c3) &&& c4)) + (((M 56 (x3 + 2).toNatClampNeg) &&& c5) &&& c6)).toNatClampNeg), .int (M 50 8), .ref (50)]) rfl rfl ?_
                            refine Rc.getR tb_57 rfl rfl ob_50 (by decide +kernel) tg_50_6 (by decide) ?_
                            refine Rc.run tb_57 1 (pc' := 176) (ls' := [some (.ref (50)), some (.int (x1)), some (.int (x2)), some (.int (x3)), some (.int (x4)), some (.int (x5)), some (.int (((M 56 (x3 + 1).toNatClampNeg) &&& c3) &&& c4)), some (.int (((M 56 (x3 + 2).toNatClampNeg) &&& c5) &&& c6)), some (.int ((M 56 (x3 + 4).toNatClampNeg) &&& c7)), some (.int ((M 56 (x3 + 11).toNatClampNeg) &&& c8)), some (.int ((8 * (((M 56 (x3 + 1).toNatClampNeg) &&& c3) &&& c4)) + (((M 56 (x3 + 2).toNatClampNeg) &&& c5) &&& c6))), some (.int ((8 * ((M 56 (x3 + 4).toNatClampNeg) &&& c7)) + ((M 56 (x3 + 11).toNatClampNeg) &&& c8)))]) (st' := [.int ((8 * ((M 56 (x3 + 4).toNatClampNeg) &&& c7)) + ((M 56 (x3 + 11).toNatClampNeg) &&& c8)), .ref (60), .int (M 58 ((8 * (((M 56 (x3 + 1).toNatClampNeg) &&& c3) &&& c4)) + (((M 56 (x3 + 2).toNatClampNeg) &&& c5) &&& c6)).toNatClampNeg), .int (M 50 8), .ref (50)]) rfl rfl ?_
                            by_cases hb12 : inb ((8 * ((M 56 (x3 + 4).toNatClampNeg) &&& c7)) + ((M 56 (x3 + 11).toNatClampNeg) &&& c8)) 64 = true
                            · rw [if_pos hb12] at h
                              refine Rc.iald tb_57 rfl rfl ia_60 hb12 ?_
                              refine Rc.run tb_57 2 (pc' := 179) (ls' := [some (.ref (50)), some (.int (x1)), some (.int (x2)), some (.int (x3)), some (.int (x4)), some (.int (x5)), some (.int (((M 56 (x3 + 1).toNatClampNeg) &&& c3) &&& c4)), some (.int (((M 56 (x3 + 2).toNatClampNeg) &&& c5) &&& c6)), some (.int ((M 56 (x3 + 4).toNatClampNeg) &&& c7)), some (.int ((M 56 (x3 + 11).toNatClampNeg) &&& c8)), some (.int ((8 * (((M 56 (x3 + 1).toNatClampNeg) &&& c3) &&& c4)) + (((M 56 (x3 + 2).toNatClampNeg) &&& c5) &&& c6))), some (.int ((8 * ((M 56 (x3 + 4).toNatClampNeg) &&& c7)) + ((M 56 (x3 + 11).toNatClampNeg) &&& c8)))]) (st' := [.int ((M 50 8) + ((M 58 ((8 * (((M 56 (x3 + 1).toNatClampNeg) &&& c3) &&& c4)) + (((M 56 (x3 + 2).toNatClampNeg) &&& c5) &&& c6)).toNatClampNeg) * (M 60 ((8 * ((M 56 (x3 + 4).toNatClampNeg) &&& c7)) + ((M 56 (x3 + 11).toNatClampNeg) &&& c8)).toNatClampNeg))), .ref (50)]) rfl rfl ?_
                              refine Rc.putI tb_57 rfl rfl ob_50 (by decide +kernel) tg_50_8 rfl ?_
                              refine Rc.run tb_57 2 (pc' := 184) (ls' := [some (.ref (50)), some (.int (x1)), some (.int (x2)), some (.int (x3)), some (.int (x4)), some (.int (x5)), some (.int (((M 56 (x3 + 1).toNatClampNeg) &&& c3) &&& c4)), some (.int (((M 56 (x3 + 2).toNatClampNeg) &&& c5) &&& c6)), some (.int ((M 56 (x3 + 4).toNatClampNeg) &&& c7)), some (.int ((M 56 (x3 + 11).toNatClampNeg) &&& c8)), some (.int ((8 * (((M 56 (x3 + 1).toNatClampNeg) &&& c3) &&& c4)) + (((M 56 (x3 + 2).toNatClampNeg) &&& c5) &&& c6))), some (.int ((8 * ((M 56 (x3 + 4).toNatClampNeg) &&& c7)) + ((M 56 (x3 + 11).toNatClampNeg) &&& c8)))]) (st' := [.ref (50), .ref (50)]) rfl rfl ?_
                              refine Rc.getI tb_57 rfl rfl ob_50 (by decide +kernel) tg_50_9 ?_
                              refine Rc.run tb_57 4 (pc' := 192) (ls' := [some (.ref (50)), some (.int (x1)), some (.int (x2)), some (.int (x3)), some (.int (x4)), some (.int (x5)), some (.int (((M 56 (x3 + 1).toNatClampNeg) &&& c3) &&& c4)), some (.int (((M 56 (x3 + 2).toNatClampNeg) &&& c5) &&& c6)), some (.int ((M 56 (x3 + 4).toNatClampNeg) &&& c7)), some (.int ((M 56 (x3 + 11).toNatClampNeg) &&& c8)), some (.int ((8 * (((M 56 (x3 + 1).toNatClampNeg) &&& c3) &&& c4)) + (((M 56 (x3 + 2).toNatClampNeg) &&& c5) &&& c6))), some (.int ((8 * ((M 56 (x3 + 4).toNatClampNeg) &&& c7)) + ((M 56 (x3 + 11).toNatClampNeg) &&& c8)))]) (st' := [.int (x5), .int (3), .ref (50), .int (x2), .int ((iset M 50 8 ((M 50 8) + ((M 58 ((8 * (((M 56 (x3 + 1).toNatClampNeg) &&& c3) &&& c4)) + (((M 56 (x3 + 2).toNatClampNeg) &&& c5) &&& c6)).toNatClampNeg) * (M 60 ((8 * ((M 56 (x3 + 4).toNatClampNeg) &&& c7)) + ((M 56 (x3 + 11).toNatClampNeg) &&& c8)).toNatClampNeg)))) 50 9), .ref (50)]) rfl rfl ?_
                              cases hc9 : F_52 (3 : Int32) x5 (iset M 50 8 ((M 50 8) + ((M 58 ((8 * (((M 56 (x3 + 1).toNatClampNeg) &&& c3) &&& c4)) + (((M 56 (x3 + 2).toNatClampNeg) &&& c5) &&& c6)).toNatClampNeg) * (M 60 ((8 * ((M 56 (x3 + 4).toNatClampNeg) &&& c7)) + ((M 56 (x3 + 11).toNatClampNeg) &&& c8)).toNatClampNeg)))) with
                              | none => rw [hc9] at h; cases h
                              | some c9 =>
                                rw [hc9] at h
                                dsimp only at h
                                have hq9 := T_52 (X := X) (d := d) (by omega) (M := iset M 50 8 ((M 50 8) + ((M 58 ((8 * (((M 56 (x3 + 1).toNatClampNeg) &&& c3) &&& c4)) + (((M 56 (x3 + 2).toNatClampNeg) &&& c5) &&& c6)).toNatClampNeg) * (M 60 ((8 * ((M 56 (x3 + 4).toNatClampNeg) &&& c7)) + ((M 56 (x3 + 11).toNatClampNeg) &&& c8)).toNatClampNeg)))) hc9
                                refine Rc.callV tb_57 rfl rfl rfl mS_52 mP_52 mL_52 mO_52 rfl rfl ob_50 rfl rfl hq9 ?_
                                refine Rc.run tb_57 2 (pc' := 197) (ls' := [some (.ref (50)), some (.int (x1)), some (.int (x2)), some (.int (x3)), some (.int (x4)), some (.int (x5)), some (.int (((M 56 (x3 + 1).toNatClampNeg) &&& c3) &&& c4)), some (.int (((M 56 (x3 + 2).toNatClampNeg) &&& c5) &&& c6)), some (.int ((M 56 (x3 + 4).toNatClampNeg) &&& c7)), some (.int ((M 56 (x3 + 11).toNatClampNeg) &&& c8)), some (.int ((8 * (((M 56 (x3 + 1).toNatClampNeg) &&& c3) &&& c4)) + (((M 56 (x3 + 2).toNatClampNeg) &&& c5) &&& c6))), some (.int ((8 * ((M 56 (x3 + 4).toNatClampNeg) &&& c7)) + ((M 56 (x3 + 11).toNatClampNeg) &&& c8)))]) (st' := [.ref (50), .int (x2 + c9), .int ((iset M 50 8 ((M 50 8) + ((M 58 ((8 * (((M 56 (x3 + 1).toNatClampNeg) &&& c3) &&& c4)) + (((M 56 (x3 + 2).toNatClampNeg) &&& c5) &&& c6)).toNatClampNeg) * (M 60 ((8 * ((M 56 (x3 + 4).toNatClampNeg) &&& c7)) + ((M 56 (x3 + 11).toNatClampNeg) &&& c8)).toNatClampNeg)))) 50 9), .ref (50)]) rfl rfl ?_
                                refine Rc.getR tb_57 rfl rfl ob_50 (by decide +kernel) tg_50_5 (by decide) ?_
                                refine Rc.run tb_57 1 (pc' := 202) (ls' := [some (.ref (50)), some (.int (x1)), some (.int (x2)), some (.int (x3)), some (.int (x4)), some (.int (x5)), some (.int (((M 56 (x3 + 1).toNatClampNeg) &&& c3) &&& c4)), some (.int (((M 56 (x3 + 2).toNatClampNeg) &&& c5) &&& c6)), some (.int ((M 56 (x3 + 4).toNatClampNeg) &&& c7)), some (.int ((M 56 (x3 + 11).toNatClampNeg) &&& c8)), some (.int ((8 * (((M 56 (x3 + 1).toNatClampNeg) &&& c3) &&& c4)) + (((M 56 (x3 + 2).toNatClampNeg) &&& c5) &&& c6))), some (.int ((8 * ((M 56 (x3 + 4).toNatClampNeg) &&& c7)) + ((M 56 (x3 + 11).toNatClampNeg) &&& c8)))]) (st' := [.int ((8 * (((M 56 (x3 + 1).toNatClampNeg) &&& c3) &&& c4)) + (((M 56 (x3 + 2).toNatClampNeg) &&& c5) &&& c6)), .ref (59), .int (x2 + c9), .int ((iset M 50 8 ((M 50 8) + ((M 58 ((8 * (((M 56 (x3 + 1).toNatClampNeg) &&& c3) &&& c4)) + (((M 56 (x3 + 2).toNatClampNeg) &&& c5) &&& c6)).toNatClampNeg) * (M 60 ((8 * ((M 56 (x3 + 4).toNatClampNeg) &&& c7)) + ((M 56 (x3 + 11).toNatClampNeg) &&& c8)).toNatClampNeg)))) 50 9), .ref (50)]) rfl rfl ?_
                                by_cases hb11 : inb ((8 * (((M 56 (x3 + 1).toNatClampNeg) &&& c3) &&& c4)) + (((M 56 (x3 + 2).toNatClampNeg) &&& c5) &&& c6)) 64 = true
                                · rw [if_pos hb11] at h
                                  refine Rc.iald tb_57 rfl rfl ia_59 hb11 ?_
                                  refine Rc.run tb_57 2 (pc' := 205) (ls' := [some (.ref (50)), some (.int (x1)), some (.int (x2)), some (.int (x3)), some (.int (x4)), some (.int (x5)), some (.int (((M 56 (x3 + 1).toNatClampNeg) &&& c3) &&& c4)), some (.int (((M 56 (x3 + 2).toNatClampNeg) &&& c5) &&& c6)), some (.int ((M 56 (x3 + 4).toNatClampNeg) &&& c7)), some (.int ((M 56 (x3 + 11).toNatClampNeg) &&& c8)), some (.int ((8 * (((M 56 (x3 + 1).toNatClampNeg) &&& c3) &&& c4)) + (((M 56 (x3 + 2).toNatClampNeg) &&& c5) &&& c6))), some (.int ((8 * ((M 56 (x3 + 4).toNatClampNeg) &&& c7)) + ((M 56 (x3 + 11).toNatClampNeg) &&& c8)))]) (st' := [.ref (50), .int ((x2 + c9) + ((iset M 50 8 ((M 50 8) + ((M 58 ((8 * (((M 56 (x3 + 1).toNatClampNeg) &&& c3) &&& c4)) + (((M 56 (x3 + 2).toNatClampNeg) &&& c5) &&& c6)).toNatClampNeg) * (M 60 ((8 * ((M 56 (x3 + 4).toNatClampNeg) &&& c7)) + ((M 56 (x3 + 11).toNatClampNeg) &&& c8)).toNatClampNeg)))) 59 ((8 * (((M 56 (x3 + 1).toNatClampNeg) &&& c3) &&& c4)) + (((M 56 (x3 + 2).toNatClampNeg) &&& c5) &&& c6)).toNatClampNeg)), .int ((iset M 50 8 ((M 50 8) + ((M 58 ((8 * (((M 56 (x3 + 1).toNatClampNeg) &&& c3) &&& c4)) + (((M 56 (x3 + 2).toNatClampNeg) &&& c5) &&& c6)).toNatClampNeg) * (M 60 ((8 * ((M 56 (x3 + 4).toNatClampNeg) &&& c7)) + ((M 56 (x3 + 11).toNatClampNeg) &&& c8)).toNatClampNeg)))) 50 9), .ref (50)]) rfl rfl ?_
                                  refine Rc.getR tb_57 rfl rfl ob_50 (by decide +kernel) tg_50_7 (by decide) ?_
                                  refine Rc.run tb_57 1 (pc' := 210) (ls' := [some (.ref (50)), some (.int (x1)), some (.int (x2)), some (.int (x3)), some (.int (x4)), some (.int (x5)), some (.int (((M 56 (x3 + 1).toNatClampNeg) &&& c3) &&& c4)), some (.int (((M 56 (x3 + 2).toNatClampNeg) &&& c5) &&& c6)), some (.int ((M 56 (x3 + 4).toNatClampNeg) &&& c7)), some (.int ((M 56 (x3 + 11).toNatClampNeg) &&& c8)), some (.int ((8 * (((M 56 (x3 + 1).toNatClampNeg) &&& c3) &&& c4)) + (((M 56 (x3 + 2).toNatClampNeg) &&& c5) &&& c6))), some (.int ((8 * ((M 56 (x3 + 4).toNatClampNeg) &&& c7)) + ((M 56 (x3 + 11).toNatClampNeg) &&& c8)))]) (st' := [.int ((8 * ((M 56 (x3 + 4).toNatClampNeg) &&& c7)) + ((M 56 (x3 + 11).toNatClampNeg) &&& c8)), .ref (61), .int ((x2 + c9) + ((iset M 50 8 ((M 50 8) + ((M 58 ((8 * (((M 56 (x3 + 1).toNatClampNeg) &&& c3) &&& c4)) + (((M 56 (x3 + 2).toNatClampNeg) &&& c5) &&& c6)).toNatClampNeg) * (M 60 ((8 * ((M 56 (x3 + 4).toNatClampNeg) &&& c7)) + ((M 56 (x3 + 11).toNatClampNeg) &&& c8)).toNatClampNeg)))) 59 ((8 * (((M 56 (x3 + 1).toNatClampNeg) &&& c3) &&& c4)) + (((M 56 (x3 + 2).toNatClampNeg) &&& c5) &&& c6)).toNatClampNeg)), .int ((iset M 50 8 ((M 50 8) + ((M 58 ((8 * (((M 56 (x3 + 1).toNatClampNeg) &&& c3) &&& c4)) + (((M 56 (x3 + 2).toNatClampNeg) &&& c5) &&& c6)).toNatClampNeg) * (M 60 ((8 * ((M 56 (x3 + 4).toNatClampNeg) &&& c7)) + ((M 56 (x3 + 11).toNatClampNeg) &&& c8)).toNatClampNeg)))) 50 9), .ref (50)]) rfl rfl ?_
                                  by_cases hb10 : inb ((8 * ((M 56 (x3 + 4).toNatClampNeg) &&& c7)) + ((M 56 (x3 + 11).toNatClampNeg) &&& c8)) 64 = true
                                  · rw [if_pos hb10] at h
                                    refine Rc.iald tb_57 rfl rfl ia_61 hb10 ?_
                                    refine Rc.run tb_57 1 (pc' := 212) (ls' := [some (.ref (50)), some (.int (x1)), some (.int (x2)), some (.int (x3)), some (.int (x4)), some (.int (x5)), some (.int (((M 56 (x3 + 1).toNatClampNeg) &&& c3) &&& c4)), some (.int (((M 56 (x3 + 2).toNatClampNeg) &&& c5) &&& c6)), some (.int ((M 56 (x3 + 4).toNatClampNeg) &&& c7)), some (.int ((M 56 (x3 + 11).toNatClampNeg) &&& c8)), some (.int ((8 * (((M 56 (x3 + 1).toNatClampNeg) &&& c3) &&& c4)) + (((M 56 (x3 + 2).toNatClampNeg) &&& c5) &&& c6))), some (.int ((8 * ((M 56 (x3 + 4).toNatClampNeg) &&& c7)) + ((M 56 (x3 + 11).toNatClampNeg) &&& c8)))]) (st' := [.int (((x2 + c9) + ((iset M 50 8 ((M 50 8) + ((M 58 ((8 * (((M 56 (x3 + 1).toNatClampNeg) &&& c3) &&& c4)) + (((M 56 (x3 + 2).toNatClampNeg) &&& c5) &&& c6)).toNatClampNeg) * (M 60 ((8 * ((M 56 (x3 + 4).toNatClampNeg) &&& c7)) + ((M 56 (x3 + 11).toNatClampNeg) &&& c8)).toNatClampNeg)))) 59 ((8 * (((M 56 (x3 + 1).toNatClampNeg) &&& c3) &&& c4)) + (((M 56 (x3 + 2).toNatClampNeg) &&& c5) &&& c6)).toNatClampNeg)) + ((iset M 50 8 ((M 50 8) + ((M 58 ((8 * (((M 56 (x3 + 1).toNatClampNeg) &&& c3) &&& c4)) + (((M 56 (x3 + 2).toNatClampNeg) &&& c5) &&& c6)).toNatClampNeg) * (M 60 ((8 * ((M 56 (x3 + 4).toNatClampNeg) &&& c7)) + ((M 56 (x3 + 11).toNatClampNeg) &&& c8)).toNatClampNeg)))) 61 ((8 * ((M 56 (x3 + 4).toNatClampNeg) &&& c7)) + ((M 56 (x3 + 11).toNatClampNeg) &&& c8)).toNatClampNeg)), .int ((iset M 50 8 ((M 50 8) + ((M 58 ((8 * (((M 56 (x3 + 1).toNatClampNeg) &&& c3) &&& c4)) + (((M 56 (x3 + 2).toNatClampNeg) &&& c5) &&& c6)).toNatClampNeg) * (M 60 ((8 * ((M 56 (x3 + 4).toNatClampNeg) &&& c7)) + ((M 56 (x3 + 11).toNatClampNeg) &&& c8)).toNatClampNeg)))) 50 9), .ref (50)]) rfl rfl ?_
                                    refine Rc.minS tb_57 rfl rfl rfl ?_
                                    refine Rc.putI tb_57 rfl rfl ob_50 (by decide +kernel) tg_50_9 rfl ?_
                                    refine Rc.mask (b := 63) ((tb_57.2 218).trans rfl) (ls' := [some (.ref (50)), some (.int (x1)), some (.int (x2)), some (.int (x3)), some (.int (x4)), some (.int (x5)), none, none, none, none, none, none]) rfl ?_
                                    exact TJ_57_218_29 (X := X) (d := d + 1) (by omega) h hP hE
                                  · rw [if_neg hb10] at h
                                    cases h
                                · rw [if_neg hb11] at h
                                  cases h
                            · rw [if_neg hb12] at h
                              cases h
                          · rw [if_neg hb13] at h
                            cases h
                      · rw [if_neg hb14] at h
                        cases h
                  · rw [if_neg hb15] at h
                    cases h
            · rw [if_neg hb16] at h
              cases h
      · rw [if_neg hb17] at h
        cases h
theorem TL_57_29 {X : AX} {d : Nat} (hd : 1 ≤ d) {x1 : Int32} {x2 : Int32} {x3 : Int32} {x4 : Int32} {x5 : Int32} {M : IM} {v : Option Value} {M' : IM} {r : Int32 × IM} (h : L_57_29 x1 x2 x3 x4 x5 M = some r) (hE : (fun (x5, M) => Rc X d 57 224 [none, none, none, none, none, none, none, none, none, none, none, none] [] M v M') r) : Rc X d 57 29 [some (.ref (50)), some (.int (x1)), some (.int (x2)), some (.int (x3)), some (.int (x4)), some (.int (x5)), none, none, none, none, none, none] [] M v M' := by
  exact loopN_rc (P := fun (x5, M) => Rc X d 57 29 [some (.ref (50)), some (.int (x1)), some (.int (x2)), some (.int (x3)), some (.int (x4)), some (.int (x5)), none, none, none, none, none, none] [] M v M') (E := fun (x5, M) => Rc X d 57 224 [none, none, none, none, none, none, none, none, none, none, none, none] [] M v M') (TB_57_29 (X := X) hd) FU _ r h hE
theorem TF_57 {X : AX} {d : Nat} (hd : 1 ≤ d) {a1 : Int32} {a2 : Int32} {M : IM} {v : Option Value} {M' : IM} {o : IM} (h : F_57 a1 a2 M = some o) (hC : v = none ∧ M' = o) : Rc X d 57 0 [some (.ref (50)), some (.int (a1)), some (.int (a2)), none, none, none, none, none, none, none, none, none] [] M v M' := by
  obtain ⟨d, rfl⟩ : ∃ e, d = e + 1 := ⟨d - 1, by omega⟩
  unfold F_57 at h
  refine Rc.run tb_57 1 (pc' := 3) (ls' := [some (.ref (50)), some (.int (a1)), some (.int (a2)), none, none, none, none, none, none, none, none, none]) (st' := [.ref (1005)]) rfl rfl ?_
  refine Rc.slen tb_57 rfl rfl (q := 5) (n := 6) (x := 6) (by decide) (by decide +kernel) ?_
  refine Rc.run tb_57 4 (pc' := 9) (ls' := [some (.ref (50)), some (.int (a1)), some (.int (a2)), some (.int ((6 : Int32) * (12 : Int32))), none, none, none, none, none, none, none, none]) (st' := [.ref (50)]) rfl rfl ?_
  refine Rc.getR tb_57 rfl rfl ob_50 (by decide +kernel) tg_50_2 (by decide) ?_
  refine Rc.run tb_57 3 (pc' := 15) (ls' := [some (.ref (50)), some (.int (a1)), some (.int (a2)), some (.int ((6 : Int32) * (12 : Int32))), none, none, none, none, none, none, none, none]) (st' := [.int (((6 : Int32) * (12 : Int32)) + 3), .ref (56)]) rfl rfl ?_
  by_cases hb21 : inb (((6 : Int32) * (12 : Int32)) + 3) 84 = true
  · rw [if_pos hb21] at h
    refine Rc.iald tb_57 rfl rfl ia_56 hb21 ?_
    refine Rc.run tb_57 4 (pc' := 20) (ls' := [some (.ref (50)), some (.int (a1)), some (.int (a2)), some (.int ((6 : Int32) * (12 : Int32))), none, none, none, none, none, none, none, none]) (st' := [.int (3), .int (a1), .int (0), .ref (50), .int (M 56 (((6 : Int32) * (12 : Int32)) + 3).toNatClampNeg)]) rfl rfl ?_
    cases hc1 : F_58 (0 : Int32) a1 (3 : Int32) M with
    | none => rw [hc1] at h; cases h
    | some c1 =>
      rw [hc1] at h
      dsimp only at h
      have hq1 := T_58 (X := X) (d := d) (by omega) (M := M) hc1
      refine Rc.callV tb_57 rfl rfl rfl mS_58 mP_58 mL_58 mO_58 rfl rfl ob_50 rfl rfl hq1 ?_
      refine Rc.run tb_57 4 (pc' := 29) (ls' := [some (.ref (50)), some (.int (a1)), some (.int (a2)), some (.int ((6 : Int32) * (12 : Int32))), some (.int ((M 56 (((6 : Int32) * (12 : Int32)) + 3).toNatClampNeg) &&& c1)), some (.int (1)), none, none, none, none, none, none]) (st' := []) rfl rfl ?_
      refine Rc.mask (b := 63) ((tb_57.2 29).trans rfl) (ls' := [some (.ref (50)), some (.int (a1)), some (.int (a2)), some (.int ((6 : Int32) * (12 : Int32))), some (.int ((M 56 (((6 : Int32) * (12 : Int32)) + 3).toNatClampNeg) &&& c1)), some (.int (1)), none, none, none, none, none, none]) rfl ?_
      cases hl20 : L_57_29 a1 a2 ((6 : Int32) * (12 : Int32)) ((M 56 (((6 : Int32) * (12 : Int32)) + 3).toNatClampNeg) &&& c1) 1 M with
      | none => rw [hl20] at h; cases h
      | some r20 =>
        obtain ⟨x5_20, M20⟩ := r20
        rw [hl20] at h
        dsimp only at h
        refine TL_57_29 (X := X) (d := d + 1) (by omega) hl20 ?_
        obtain rfl := Option.some.inj h
        obtain ⟨rfl, rfl⟩ := hC
        exact Rc.vret tb_57 rfl mR_57
  · rw [if_neg hb21] at h
    cases h
theorem T_57 {X : AX} {d : Nat} (hd : 1 ≤ d) {a1 : Int32} {a2 : Int32} {M : IM} {M1 : IM} (h : F_57 a1 a2 M = some M1) : Rc X d 57 0 [some (.ref (50)), some (.int (a1)), some (.int (a2)), none, none, none, none, none, none, none, none, none] [] M none M1 := TF_57 hd h ⟨rfl, rfl⟩
/-! 56: NineDemands$Tally.close -/
def J_56_41_15 (x1 : Int32) (x2 : Int32) (x3 : Int32) (M : IM) : Option ((Int32 × IM) ⊕ (Int32 × IM)) := some (Sum.inl (x3 + 1, M))
def B_56_15 (x1 : Int32) (x2 : Int32) : (Int32 × IM) → Option ((Int32 × IM) ⊕ (Int32 × IM)) := fun (x3, M) => if (3 : Int32) < x3 then (some (Sum.inr (x3, M))) else (if F_143 x2 x3 = 0 then (J_56_41_15 x1 x2 x3 M) else (match F_52 (0 : Int32) x3 M with | none => none | some c2 => (match F_57 x3 (x1 + c2) M with | none => none | some M3 => (J_56_41_15 x1 x2 x3 M3))))
def L_56_15 (x1 : Int32) (x2 : Int32) (x3 : Int32) (M : IM) : Option (Int32 × IM) := loopN (B_56_15 x1 x2) FU (x3, M)
def F_56 (a1 : Int32) (M : IM) : Option (IM) := if inb ((6 : Int32) * (12 : Int32)) 84 = true then (match L_56_15 a1 (M 56 ((6 : Int32) * (12 : Int32)).toNatClampNeg) 1 M with | none => none | some (x3_6, M6) => (some (M6))) else none
theorem TJ_56_41_15 {X : AX} {d : Nat} (hd : 2 ≤ d) {x1 : Int32} {x2 : Int32} {x3 : Int32} {M : IM} {v : Option Value} {M' : IM} {o : (Int32 × IM) ⊕ (Int32 × IM)} (h : J_56_41_15 x1 x2 x3 M = some o) (hP : ∀ s', o = .inl s' → (fun (x3, M) => Rc X d 56 15 [some (.ref (50)), some (.int (x1)), some (.int (x2)), some (.int (x3))] [] M v M') s') (hE : ∀ r, o = .inr r → (fun (x3, M) => Rc X d 56 47 [none, none, none, none] [] M v M') r) : Rc X d 56 41 [some (.ref (50)), some (.int (x1)), some (.int (x2)), some (.int (x3))] [] M v M' := by
  obtain ⟨d, rfl⟩ : ∃ e, d = e + 1 := ⟨d - 1, by omega⟩
  unfold J_56_41_15 at h
  dsimp only at hP hE
  refine Rc.run tb_56 2 (pc' := 15) (ls' := [some (.ref (50)), some (.int (x1)), some (.int (x2)), some (.int (x3 + 1))]) (st' := []) rfl rfl ?_
  refine Rc.mask (b := 15) ((tb_56.2 15).trans rfl) (ls' := [some (.ref (50)), some (.int (x1)), some (.int (x2)), some (.int (x3 + 1))]) rfl ?_
  obtain rfl := Option.some.inj h
  exact hP _ rfl
theorem TB_56_15 {X : AX} {d : Nat} (hd : 2 ≤ d) {x1 : Int32} {x2 : Int32} {v : Option Value} {M' : IM} : ∀ (s : Int32 × IM) (o : (Int32 × IM) ⊕ (Int32 × IM)), B_56_15 x1 x2 s = some o → (∀ s', o = .inl s' → (fun (x3, M) => Rc X d 56 15 [some (.ref (50)), some (.int (x1)), some (.int (x2)), some (.int (x3))] [] M v M') s') → (∀ r, o = .inr r → (fun (x3, M) => Rc X d 56 47 [none, none, none, none] [] M v M') r) → (fun (x3, M) => Rc X d 56 15 [some (.ref (50)), some (.int (x1)), some (.int (x2)), some (.int (x3))] [] M v M') s := by
  rintro ⟨x3, M⟩ o h hP hE
  show Rc X d 56 15 [some (.ref (50)), some (.int (x1)), some (.int (x2)), some (.int (x3))] [] M v M'
  obtain ⟨d, rfl⟩ : ∃ e, d = e + 1 := ⟨d - 1, by omega⟩
  unfold B_56_15 at h
  dsimp only at h hP hE
  refine Rc.run tb_56 2 (pc' := 17) (ls' := [some (.ref (50)), some (.int (x1)), some (.int (x2)), some (.int (x3))]) (st' := [.int (3), .int (x3)]) rfl rfl ?_
  refine Rc.icmp_gt (pc1 := 47) tb_56 rfl rfl (by decide) (by decide) (fun hb5 => ?_) (fun hb5 => ?_)
  · rw [if_pos hb5] at h
    refine Rc.mask (b := 0) ((tb_56.2 47).trans rfl) (ls' := [none, none, none, none]) rfl ?_
    obtain rfl := Option.some.inj h
    exact hE _ rfl
  · rw [if_neg hb5] at h
    refine Rc.run tb_56 2 (pc' := 22) (ls' := [some (.ref (50)), some (.int (x1)), some (.int (x2)), some (.int (x3))]) (st' := [.int (x3), .int (x2)]) rfl rfl ?_
    have hq1 := T_143 (X := X) (d := d) (by omega) x2 x3 M
    have hz1 := Rc.bool mR_143 hq1
    refine Rc.callS tb_56 rfl rfl rfl mS_143 mP_143 mL_143 rfl rfl rfl hq1 ?_
    refine Rc.if_eq (pc1 := 41) tb_56 rfl rfl (by decide) (by decide) (fun hb4 => ?_) (fun hb4 => ?_)
    · rw [if_pos hb4] at h
      refine Rc.mask (b := 15) ((tb_56.2 41).trans rfl) (ls' := [some (.ref (50)), some (.int (x1)), some (.int (x2)), some (.int (x3))]) rfl ?_
      exact TJ_56_41_15 (X := X) (d := d + 1) (by omega) h hP hE
    · rw [if_neg hb4] at h
      refine Rc.run tb_56 6 (pc' := 34) (ls' := [some (.ref (50)), some (.int (x1)), some (.int (x2)), some (.int (x3))]) (st' := [.int (x3), .int (0), .ref (50), .int (x1), .int (x3), .ref (50)]) rfl rfl ?_
      cases hc2 : F_52 (0 : Int32) x3 M with
      | none => rw [hc2] at h; cases h
      | some c2 =>
        rw [hc2] at h
        dsimp only at h
        have hq2 := T_52 (X := X) (d := d) (by omega) (M := M) hc2
        refine Rc.callV tb_56 rfl rfl rfl mS_52 mP_52 mL_52 mO_52 rfl rfl ob_50 rfl rfl hq2 ?_
        refine Rc.run tb_56 1 (pc' := 38) (ls' := [some (.ref (50)), some (.int (x1)), some (.int (x2)), some (.int (x3))]) (st' := [.int (x1 + c2), .int (x3), .ref (50)]) rfl rfl ?_
        cases hc3 : F_57 x3 (x1 + c2) M with
        | none => rw [hc3] at h; cases h
        | some M3 =>
          rw [hc3] at h
          dsimp only at h
          have hq3 := T_57 (X := X) (d := d) (by omega) (M := M) hc3
          refine Rc.callV tb_56 rfl rfl rfl mS_57 mP_57 mL_57 mO_57 rfl rfl ob_50 rfl rfl hq3 ?_
          refine Rc.mask (b := 15) ((tb_56.2 41).trans rfl) (ls' := [some (.ref (50)), some (.int (x1)), some (.int (x2)), some (.int (x3))]) rfl ?_
          exact TJ_56_41_15 (X := X) (d := d + 1) (by omega) h hP hE
theorem TL_56_15 {X : AX} {d : Nat} (hd : 2 ≤ d) {x1 : Int32} {x2 : Int32} {x3 : Int32} {M : IM} {v : Option Value} {M' : IM} {r : Int32 × IM} (h : L_56_15 x1 x2 x3 M = some r) (hE : (fun (x3, M) => Rc X d 56 47 [none, none, none, none] [] M v M') r) : Rc X d 56 15 [some (.ref (50)), some (.int (x1)), some (.int (x2)), some (.int (x3))] [] M v M' := by
  exact loopN_rc (P := fun (x3, M) => Rc X d 56 15 [some (.ref (50)), some (.int (x1)), some (.int (x2)), some (.int (x3))] [] M v M') (E := fun (x3, M) => Rc X d 56 47 [none, none, none, none] [] M v M') (TB_56_15 (X := X) hd) FU _ r h hE
theorem TF_56 {X : AX} {d : Nat} (hd : 2 ≤ d) {a1 : Int32} {M : IM} {v : Option Value} {M' : IM} {o : IM} (h : F_56 a1 M = some o) (hC : v = none ∧ M' = o) : Rc X d 56 0 [some (.ref (50)), some (.int (a1)), none, none] [] M v M' := by
  obtain ⟨d, rfl⟩ : ∃ e, d = e + 1 := ⟨d - 1, by omega⟩
  unfold F_56 at h
  refine Rc.run tb_56 1 (pc' := 1) (ls' := [some (.ref (50)), some (.int (a1)), none, none]) (st' := [.ref (50)]) rfl rfl ?_
  refine Rc.getR tb_56 rfl rfl ob_50 (by decide +kernel) tg_50_2 (by decide) ?_
  refine Rc.run tb_56 1 (pc' := 7) (ls' := [some (.ref (50)), some (.int (a1)), none, none]) (st' := [.ref (1005), .ref (56)]) rfl rfl ?_
  refine Rc.slen tb_56 rfl rfl (q := 5) (n := 6) (x := 6) (by decide) (by decide +kernel) ?_
  refine Rc.run tb_56 2 (pc' := 11) (ls' := [some (.ref (50)), some (.int (a1)), none, none]) (st' := [.int ((6 : Int32) * (12 : Int32)), .ref (56)]) rfl rfl ?_
  by_cases hb7 : inb ((6 : Int32) * (12 : Int32)) 84 = true
  · rw [if_pos hb7] at h
    refine Rc.iald tb_56 rfl rfl ia_56 hb7 ?_
    refine Rc.run tb_56 3 (pc' := 15) (ls' := [some (.ref (50)), some (.int (a1)), some (.int (M 56 ((6 : Int32) * (12 : Int32)).toNatClampNeg)), some (.int (1))]) (st' := []) rfl rfl ?_
    refine Rc.mask (b := 15) ((tb_56.2 15).trans rfl) (ls' := [some (.ref (50)), some (.int (a1)), some (.int (M 56 ((6 : Int32) * (12 : Int32)).toNatClampNeg)), some (.int (1))]) rfl ?_
    cases hl6 : L_56_15 a1 (M 56 ((6 : Int32) * (12 : Int32)).toNatClampNeg) 1 M with
    | none => rw [hl6] at h; cases h
    | some r6 =>
      obtain ⟨x3_6, M6⟩ := r6
      rw [hl6] at h
      dsimp only at h
      refine TL_56_15 (X := X) (d := d + 1) (by omega) hl6 ?_
      obtain rfl := Option.some.inj h
      obtain ⟨rfl, rfl⟩ := hC
      exact Rc.vret tb_56 rfl mR_56
  · rw [if_neg hb7] at h
    cases h
theorem T_56 {X : AX} {d : Nat} (hd : 2 ≤ d) {a1 : Int32} {M : IM} {M1 : IM} (h : F_56 a1 M = some M1) : Rc X d 56 0 [some (.ref (50)), some (.int (a1)), none, none] [] M none M1 := TF_56 hd h ⟨rfl, rfl⟩
/-! 69: NineDemands$Text.next -/
def F_69 (M : IM) : Option (Int32) := if M 45 3 = (-1) then (if M 45 1 ≤ M 45 2 then (some ((-1))) else (if M 45 0 = 4 then (if Int32.ofNat 50 ≤ M 45 2 then (some ((-1))) else (if M 45 0 = 4 then (if inb (M 45 2) 50 = true then (some (M 4 (M 45 2).toNatClampNeg)) else none) else none)) else none)) else (some ((-1)))
theorem TF_69 {X : AX} {d : Nat} (hd : 0 ≤ d) {M : IM} {v : Option Value} {M' : IM} {o : Int32} (h : F_69 M = some o) (hC : v = some (.int o) ∧ M' = M) : Rc X d 69 0 [some (.ref (45))] [] M v M' := by
  unfold F_69 at h
  refine Rc.run tb_69 1 (pc' := 1) (ls' := [some (.ref (45))]) (st' := [.ref (45)]) rfl rfl ?_
  refine Rc.getI tb_69 rfl rfl ob_45 (by decide +kernel) tg_45_3 ?_
  refine Rc.run tb_69 1 (pc' := 5) (ls' := [some (.ref (45))]) (st' := [.int ((-1)), .int (M 45 3)]) rfl rfl ?_
  refine Rc.icmp_ne (pc1 := 43) tb_69 rfl rfl (by decide) (by decide) (fun hb6 => ?_) (fun hb6 => ?_)
  · rw [if_pos hb6] at h
    refine Rc.run tb_69 1 (pc' := 9) (ls' := [some (.ref (45))]) (st' := [.ref (45)]) rfl rfl ?_
    refine Rc.getI tb_69 rfl rfl ob_45 (by decide +kernel) tg_45_2 ?_
    refine Rc.run tb_69 1 (pc' := 13) (ls' := [some (.ref (45))]) (st' := [.ref (45), .int (M 45 2)]) rfl rfl ?_
    refine Rc.getI tb_69 rfl rfl ob_45 (by decide +kernel) tg_45_1 ?_
    refine Rc.icmp_ge (pc1 := 43) tb_69 rfl rfl (by decide) (by decide) (fun hb5 => ?_) (fun hb5 => ?_)
    · rw [if_pos hb5] at h
      refine Rc.run tb_69 1 (pc' := 44) (ls' := [none]) (st' := [.int ((-1))]) rfl rfl ?_
      obtain rfl := Option.some.inj h
      obtain ⟨rfl, rfl⟩ := hC
      exact Rc.iret (ins := .ireturn) tb_69 rfl mR_69
    · rw [if_neg hb5] at h
      refine Rc.run tb_69 1 (pc' := 20) (ls' := [some (.ref (45))]) (st' := [.ref (45)]) rfl rfl ?_
      refine Rc.getI tb_69 rfl rfl ob_45 (by decide +kernel) tg_45_2 ?_
      refine Rc.run tb_69 1 (pc' := 24) (ls' := [some (.ref (45))]) (st' := [.ref (45), .int (M 45 2)]) rfl rfl ?_
      by_cases hb1 : M 45 0 = 4
      · rw [if_pos hb1] at h
        refine Rc.getT4 tb_69 rfl rfl hb1 ?_
        refine Rc.alen tb_69 rfl rfl ia_4 ?_
        refine Rc.icmp_ge (pc1 := 43) tb_69 rfl rfl (by decide) (by decide) (fun hb4 => ?_) (fun hb4 => ?_)
        · rw [if_pos hb4] at h
          refine Rc.run tb_69 1 (pc' := 44) (ls' := [none]) (st' := [.int ((-1))]) rfl rfl ?_
          obtain rfl := Option.some.inj h
          obtain ⟨rfl, rfl⟩ := hC
          exact Rc.iret (ins := .ireturn) tb_69 rfl mR_69
        · rw [if_neg hb4] at h
          refine Rc.run tb_69 1 (pc' := 32) (ls' := [some (.ref (45))]) (st' := [.ref (45)]) rfl rfl ?_
          by_cases hb2 : M 45 0 = 4
          · rw [if_pos hb2] at h
            refine Rc.getT4 tb_69 rfl rfl hb2 ?_
            refine Rc.run tb_69 1 (pc' := 36) (ls' := [some (.ref (45))]) (st' := [.ref (45), .ref (4)]) rfl rfl ?_
            refine Rc.getI tb_69 rfl rfl ob_45 (by decide +kernel) tg_45_2 ?_
            by_cases hb3 : inb (M 45 2) 50 = true
            · rw [if_pos hb3] at h
              refine Rc.iald tb_69 rfl rfl ia_4 hb3 ?_
              refine Rc.run tb_69 1 (pc' := 44) (ls' := [some (.ref (45))]) (st' := [.int (M 4 (M 45 2).toNatClampNeg)]) rfl rfl ?_
              obtain rfl := Option.some.inj h
              obtain ⟨rfl, rfl⟩ := hC
              exact Rc.iret (ins := .ireturn) tb_69 rfl mR_69
            · rw [if_neg hb3] at h
              cases h
          · rw [if_neg hb2] at h
            cases h
      · rw [if_neg hb1] at h
        cases h
  · rw [if_neg hb6] at h
    refine Rc.run tb_69 1 (pc' := 44) (ls' := [none]) (st' := [.int ((-1))]) rfl rfl ?_
    obtain rfl := Option.some.inj h
    obtain ⟨rfl, rfl⟩ := hC
    exact Rc.iret (ins := .ireturn) tb_69 rfl mR_69
theorem T_69 {X : AX} {d : Nat} (hd : 0 ≤ d) {M : IM} {x : Int32} (h : F_69 M = some x) : Rc X d 69 0 [some (.ref (45))] [] M (some (.int x)) M := TF_69 hd h ⟨rfl, rfl⟩
/-! 73: NineDemands$Text.add -/
def F_73 (a1 : Int32) (M : IM) : Option (IM) := if Int32.ofNat 50 ≤ M 45 6 then (some (M)) else (if inb (M 45 6) 50 = true then (some (iset (iset M 47 (M 45 6).toNatClampNeg a1) 45 6 (((iset M 47 (M 45 6).toNatClampNeg a1) 45 6) + 1))) else none)
theorem TF_73 {X : AX} {d : Nat} (hd : 0 ≤ d) {a1 : Int32} {M : IM} {v : Option Value} {M' : IM} {o : IM} (h : F_73 a1 M = some o) (hC : v = none ∧ M' = o) : Rc X d 73 0 [some (.ref (45)), some (.int (a1))] [] M v M' := by
  unfold F_73 at h
  refine Rc.run tb_73 1 (pc' := 1) (ls' := [some (.ref (45)), some (.int (a1))]) (st' := [.ref (45)]) rfl rfl ?_
  refine Rc.getI tb_73 rfl rfl ob_45 (by decide +kernel) tg_45_6 ?_
  refine Rc.run tb_73 1 (pc' := 5) (ls' := [some (.ref (45)), some (.int (a1))]) (st' := [.ref (45), .int (M 45 6)]) rfl rfl ?_
  refine Rc.getR tb_73 rfl rfl ob_45 (by decide +kernel) tg_45_5 (by decide) ?_
  refine Rc.alen tb_73 rfl rfl ia_47 ?_
  refine Rc.icmp_ge (pc1 := 32) tb_73 rfl rfl (by decide) (by decide) (fun hb2 => ?_) (fun hb2 => ?_)
  · rw [if_pos hb2] at h
    obtain rfl := Option.some.inj h
    obtain ⟨rfl, rfl⟩ := hC
    exact Rc.vret tb_73 rfl mR_73
  · rw [if_neg hb2] at h
    refine Rc.run tb_73 1 (pc' := 13) (ls' := [some (.ref (45)), some (.int (a1))]) (st' := [.ref (45)]) rfl rfl ?_
    refine Rc.getR tb_73 rfl rfl ob_45 (by decide +kernel) tg_45_5 (by decide) ?_
    refine Rc.run tb_73 1 (pc' := 17) (ls' := [some (.ref (45)), some (.int (a1))]) (st' := [.ref (45), .ref (47)]) rfl rfl ?_
    refine Rc.getI tb_73 rfl rfl ob_45 (by decide +kernel) tg_45_6 ?_
    refine Rc.run tb_73 1 (pc' := 21) (ls' := [some (.ref (45)), some (.int (a1))]) (st' := [.int (a1), .int (M 45 6), .ref (47)]) rfl rfl ?_
    by_cases hb1 : inb (M 45 6) 50 = true
    · rw [if_pos hb1] at h
      refine Rc.iast tb_73 rfl rfl ia_47 hb1 ?_
      refine Rc.run tb_73 2 (pc' := 24) (ls' := [some (.ref (45)), some (.int (a1))]) (st' := [.ref (45), .ref (45)]) rfl rfl ?_
      refine Rc.getI tb_73 rfl rfl ob_45 (by decide +kernel) tg_45_6 ?_
      refine Rc.run tb_73 2 (pc' := 29) (ls' := [some (.ref (45)), some (.int (a1))]) (st' := [.int (((iset M 47 (M 45 6).toNatClampNeg a1) 45 6) + 1), .ref (45)]) rfl rfl ?_
      refine Rc.putI tb_73 rfl rfl ob_45 (by decide +kernel) tg_45_6 rfl ?_
      obtain rfl := Option.some.inj h
      obtain ⟨rfl, rfl⟩ := hC
      exact Rc.vret tb_73 rfl mR_73
    · rw [if_neg hb1] at h
      cases h
theorem T_73 {X : AX} {d : Nat} (hd : 0 ≤ d) {a1 : Int32} {M : IM} {M1 : IM} (h : F_73 a1 M = some M1) : Rc X d 73 0 [some (.ref (45)), some (.int (a1))] [] M none M1 := TF_73 hd h ⟨rfl, rfl⟩
/-! 70: NineDemands$Text.fail -/
def F_70 (M : IM) : IM := if M 45 3 = (-1) then (iset M 45 3 (M 45 2)) else M
theorem TF_70 {X : AX} {d : Nat} (hd : 0 ≤ d) {M : IM} {v : Option Value} {M' : IM} {o : IM} (h : F_70 M = o) (hC : v = none ∧ M' = o) : Rc X d 70 0 [some (.ref (45))] [] M v M' := by
  unfold F_70 at h
  refine Rc.run tb_70 1 (pc' := 1) (ls' := [some (.ref (45))]) (st' := [.ref (45)]) rfl rfl ?_
  refine Rc.getI tb_70 rfl rfl ob_45 (by decide +kernel) tg_45_3 ?_
  refine Rc.run tb_70 1 (pc' := 5) (ls' := [some (.ref (45))]) (st' := [.int ((-1)), .int (M 45 3)]) rfl rfl ?_
  refine Rc.icmp_ne (pc1 := 16) tb_70 rfl rfl (by decide) (by decide) (fun hb1 => ?_) (fun hb1 => ?_)
  · rw [if_pos hb1] at h
    refine Rc.run tb_70 2 (pc' := 10) (ls' := [some (.ref (45))]) (st' := [.ref (45), .ref (45)]) rfl rfl ?_
    refine Rc.getI tb_70 rfl rfl ob_45 (by decide +kernel) tg_45_2 ?_
    refine Rc.putI tb_70 rfl rfl ob_45 (by decide +kernel) tg_45_3 rfl ?_
    subst h
    obtain ⟨rfl, rfl⟩ := hC
    exact Rc.vret tb_70 rfl mR_70
  · rw [if_neg hb1] at h
    subst h
    obtain ⟨rfl, rfl⟩ := hC
    exact Rc.vret tb_70 rfl mR_70
theorem T_70 {X : AX} {d : Nat} (hd : 0 ≤ d) (M : IM) : Rc X d 70 0 [some (.ref (45))] [] M none (F_70 M) := TF_70 hd rfl ⟨rfl, rfl⟩
/-! 71: NineDemands$Text.isDigit -/
def F_71 (a1 : Int32) : Int32 := if a1 < 48 then 0 else (if (57 : Int32) < a1 then 0 else 1)
theorem TF_71 {X : AX} {d : Nat} (hd : 0 ≤ d) {a1 : Int32} {M : IM} {v : Option Value} {M' : IM} {o : Int32} (h : F_71 a1 = o) (hC : v = some (.int o) ∧ M' = M) : Rc X d 71 0 [some (.int (a1))] [] M v M' := by
  unfold F_71 at h
  refine Rc.run tb_71 2 (pc' := 3) (ls' := [some (.int (a1))]) (st' := [.int (48), .int (a1)]) rfl rfl ?_
  refine Rc.icmp_lt (pc1 := 16) tb_71 rfl rfl (by decide) (by decide) (fun hb2 => ?_) (fun hb2 => ?_)
  · rw [if_pos hb2] at h
    refine Rc.run tb_71 1 (pc' := 17) (ls' := [none]) (st' := [.int (0)]) rfl rfl ?_
    subst h
    obtain ⟨rfl, rfl⟩ := hC
    exact Rc.zret tb_71 rfl mR_71 (Or.inl rfl)
  · rw [if_neg hb2] at h
    refine Rc.run tb_71 2 (pc' := 9) (ls' := [some (.int (a1))]) (st' := [.int (57), .int (a1)]) rfl rfl ?_
    refine Rc.icmp_gt (pc1 := 16) tb_71 rfl rfl (by decide) (by decide) (fun hb1 => ?_) (fun hb1 => ?_)
    · rw [if_pos hb1] at h
      refine Rc.run tb_71 1 (pc' := 17) (ls' := [none]) (st' := [.int (0)]) rfl rfl ?_
      subst h
      obtain ⟨rfl, rfl⟩ := hC
      exact Rc.zret tb_71 rfl mR_71 (Or.inl rfl)
    · rw [if_neg hb1] at h
      refine Rc.run tb_71 2 (pc' := 17) (ls' := [some (.int (a1))]) (st' := [.int (1)]) rfl rfl ?_
      subst h
      obtain ⟨rfl, rfl⟩ := hC
      exact Rc.zret tb_71 rfl mR_71 (Or.inr rfl)
theorem T_71 {X : AX} {d : Nat} (hd : 0 ≤ d) (a1 : Int32) (M : IM) : Rc X d 71 0 [some (.int (a1))] [] M (some (.int (F_71 a1))) M := TF_71 hd rfl ⟨rfl, rfl⟩
/-! 67: NineDemands$Text.readNumber -/
def B_67_4 : (Int32 × Int32 × IM) → Option ((Int32 × Int32 × IM) ⊕ (Int32 × Int32 × IM)) := fun (x1, x2, M) => if (4 : Int32) ≤ x2 then (some (Sum.inr (x1, x2, M))) else (match F_69 M with | none => none | some c1 => (if F_71 c1 = 0 then (some (Sum.inr (x1, x2, M))) else (some (Sum.inl (((10 * x1) + c1) - 48, x2 + 1, iset M 45 2 ((M 45 2) + 1))))))
def L_67_4 (x1 : Int32) (x2 : Int32) (M : IM) : Option (Int32 × Int32 × IM) := loopN (B_67_4) FU (x1, x2, M)
def J_67_48 (x1 : Int32) (M : IM) : Option (IM) := (match F_73 x1 M with | none => none | some M7 => (some (M7)))
def F_67 (M : IM) : Option (IM) := (match L_67_4 0 0 M with | none => none | some (x1_6, x2_6, M6) => (J_67_48 x1_6 M6))
theorem TB_67_4 {X : AX} {d : Nat} (hd : 1 ≤ d) {v : Option Value} {M' : IM} : ∀ (s : Int32 × Int32 × IM) (o : (Int32 × Int32 × IM) ⊕ (Int32 × Int32 × IM)), B_67_4 s = some o → (∀ s', o = .inl s' → (fun (x1, x2, M) => Rc X d 67 4 [some (.ref (45)), some (.int (x1)), some (.int (x2))] [] M v M') s') → (∀ r, o = .inr r → (fun (x1, x2, M) => Rc X d 67 48 [some (.ref (45)), some (.int (x1)), none] [] M v M') r) → (fun (x1, x2, M) => Rc X d 67 4 [some (.ref (45)), some (.int (x1)), some (.int (x2))] [] M v M') s := by
  rintro ⟨x1, x2, M⟩ o h hP hE
  show Rc X d 67 4 [some (.ref (45)), some (.int (x1)), some (.int (x2))] [] M v M'
  obtain ⟨d, rfl⟩ : ∃ e, d = e + 1 := ⟨d - 1, by omega⟩
  unfold B_67_4 at h
  dsimp only at h hP hE
  refine Rc.run tb_67 2 (pc' := 6) (ls' := [some (.ref (45)), some (.int (x1)), some (.int (x2))]) (st' := [.int (4), .int (x2)]) rfl rfl ?_
  refine Rc.icmp_ge (pc1 := 48) tb_67 rfl rfl (by decide) (by decide) (fun hb5 => ?_) (fun hb5 => ?_)
  · rw [if_pos hb5] at h
    refine Rc.mask (b := 3) ((tb_67.2 48).trans rfl) (ls' := [some (.ref (45)), some (.int (x1)), none]) rfl ?_
    obtain rfl := Option.some.inj h
    exact hE _ rfl
  · rw [if_neg hb5] at h
    refine Rc.run tb_67 1 (pc' := 10) (ls' := [some (.ref (45)), some (.int (x1)), some (.int (x2))]) (st' := [.ref (45)]) rfl rfl ?_
    cases hc1 : F_69 M with
    | none => rw [hc1] at h; cases h
    | some c1 =>
      rw [hc1] at h
      dsimp only at h
      have hq1 := T_69 (X := X) (d := d) (by omega) (M := M) hc1
      refine Rc.callV tb_67 rfl rfl rfl mS_69 mP_69 mL_69 mO_69 rfl rfl ob_45 rfl rfl hq1 ?_
      have hq2 := T_71 (X := X) (d := d) (by omega) c1 M
      have hz2 := Rc.bool mR_71 hq2
      refine Rc.callS tb_67 rfl rfl rfl mS_71 mP_71 mL_71 rfl rfl rfl hq2 ?_
      refine Rc.if_eq (pc1 := 48) tb_67 rfl rfl (by decide) (by decide) (fun hb4 => ?_) (fun hb4 => ?_)
      · rw [if_pos hb4] at h
        refine Rc.mask (b := 3) ((tb_67.2 48).trans rfl) (ls' := [some (.ref (45)), some (.int (x1)), none]) rfl ?_
        obtain rfl := Option.some.inj h
        exact hE _ rfl
      · rw [if_neg hb4] at h
        refine Rc.run tb_67 4 (pc' := 24) (ls' := [some (.ref (45)), some (.int (x1)), some (.int (x2))]) (st' := [.ref (45), .int (10 * x1)]) rfl rfl ?_
        refine Rc.callV tb_67 rfl rfl rfl mS_69 mP_69 mL_69 mO_69 rfl rfl ob_45 rfl rfl hq1 ?_
        refine Rc.run tb_67 6 (pc' := 34) (ls' := [some (.ref (45)), some (.int (((10 * x1) + c1) - 48)), some (.int (x2))]) (st' := [.ref (45), .ref (45)]) rfl rfl ?_
        refine Rc.getI tb_67 rfl rfl ob_45 (by decide +kernel) tg_45_2 ?_
        refine Rc.run tb_67 2 (pc' := 39) (ls' := [some (.ref (45)), some (.int (((10 * x1) + c1) - 48)), some (.int (x2))]) (st' := [.int ((M 45 2) + 1), .ref (45)]) rfl rfl ?_
        refine Rc.putI tb_67 rfl rfl ob_45 (by decide +kernel) tg_45_2 rfl ?_
        refine Rc.run tb_67 2 (pc' := 4) (ls' := [some (.ref (45)), some (.int (((10 * x1) + c1) - 48)), some (.int (x2 + 1))]) (st' := []) rfl rfl ?_
        refine Rc.mask (b := 7) ((tb_67.2 4).trans rfl) (ls' := [some (.ref (45)), some (.int (((10 * x1) + c1) - 48)), some (.int (x2 + 1))]) rfl ?_
        obtain rfl := Option.some.inj h
        exact hP _ rfl
theorem TL_67_4 {X : AX} {d : Nat} (hd : 1 ≤ d) {x1 : Int32} {x2 : Int32} {M : IM} {v : Option Value} {M' : IM} {r : Int32 × Int32 × IM} (h : L_67_4 x1 x2 M = some r) (hE : (fun (x1, x2, M) => Rc X d 67 48 [some (.ref (45)), some (.int (x1)), none] [] M v M') r) : Rc X d 67 4 [some (.ref (45)), some (.int (x1)), some (.int (x2))] [] M v M' := by
  exact loopN_rc (P := fun (x1, x2, M) => Rc X d 67 4 [some (.ref (45)), some (.int (x1)), some (.int (x2))] [] M v M') (E := fun (x1, x2, M) => Rc X d 67 48 [some (.ref (45)), some (.int (x1)), none] [] M v M') (TB_67_4 (X := X) hd) FU _ r h hE
theorem TJ_67_48 {X : AX} {d : Nat} (hd : 1 ≤ d) {x1 : Int32} {M : IM} {v : Option Value} {M' : IM} {o : IM} (h : J_67_48 x1 M = some o) (hC : v = none ∧ M' = o) : Rc X d 67 48 [some (.ref (45)), some (.int (x1)), none] [] M v M' := by
  obtain ⟨d, rfl⟩ : ∃ e, d = e + 1 := ⟨d - 1, by omega⟩
  unfold J_67_48 at h
  refine Rc.run tb_67 2 (pc' := 50) (ls' := [some (.ref (45)), some (.int (x1)), none]) (st' := [.int (x1), .ref (45)]) rfl rfl ?_
  cases hc7 : F_73 x1 M with
  | none => rw [hc7] at h; cases h
  | some M7 =>
    rw [hc7] at h
    dsimp only at h
    have hq7 := T_73 (X := X) (d := d) (by omega) (M := M) hc7
    refine Rc.callV tb_67 rfl rfl rfl mS_73 mP_73 mL_73 mO_73 rfl rfl ob_45 rfl rfl hq7 ?_
    obtain rfl := Option.some.inj h
    obtain ⟨rfl, rfl⟩ := hC
    exact Rc.vret tb_67 rfl mR_67
theorem TF_67 {X : AX} {d : Nat} (hd : 1 ≤ d) {M : IM} {v : Option Value} {M' : IM} {o : IM} (h : F_67 M = some o) (hC : v = none ∧ M' = o) : Rc X d 67 0 [some (.ref (45)), none, none] [] M v M' := by
  obtain ⟨d, rfl⟩ : ∃ e, d = e + 1 := ⟨d - 1, by omega⟩
  unfold F_67 at h
  refine Rc.run tb_67 4 (pc' := 4) (ls' := [some (.ref (45)), some (.int (0)), some (.int (0))]) (st' := []) rfl rfl ?_
  refine Rc.mask (b := 7) ((tb_67.2 4).trans rfl) (ls' := [some (.ref (45)), some (.int (0)), some (.int (0))]) rfl ?_
  cases hl6 : L_67_4 0 0 M with
  | none => rw [hl6] at h; cases h
  | some r6 =>
    obtain ⟨x1_6, x2_6, M6⟩ := r6
    rw [hl6] at h
    dsimp only at h
    refine TL_67_4 (X := X) (d := d + 1) (by omega) hl6 ?_
    refine Rc.mask (b := 3) ((tb_67.2 48).trans rfl) (ls' := [some (.ref (45)), some (.int (x1_6)), none]) rfl ?_
    exact TJ_67_48 (X := X) (d := d + 1) (by omega) h hC
theorem T_67 {X : AX} {d : Nat} (hd : 1 ≤ d) {M : IM} {M1 : IM} (h : F_67 M = some M1) : Rc X d 67 0 [some (.ref (45)), none, none] [] M none M1 := TF_67 hd h ⟨rfl, rfl⟩
