set_option maxRecDepth 1000000 in
theorem ly_small : lyL.all (fun q => Nat.ble q.2 100000) = true := by decide +kernel
theorem ln_small (k : Nat) : ln k ≤ 100000 := by
  unfold ln
  rw [List.getD_eq_getElem?_getD]
  cases h : lyL[k]? with
  | none => exact Nat.zero_le _
  | some q => exact Nat.le_of_ble_eq_true (List.all_eq_true.mp ly_small q (List.mem_of_getElem? h))
section STEP
variable {p : Program} {l : Launch} {e : Env} {R : Room} {s : State} {m : MethodId} {args : Array Value} {below : List Frame} {meth : Method} {c : Code} {Q : State → Prop} {K : WK} {X : AX} {i n0 : Nat}
variable {pc pc' n n' : Nat} {ls ls' : AL} {st st' : List Value} {μ μ' : AM}
set_option maxHeartbeats 4000000 in
theorem step_ok (C : Cx p s m args meth c i) {N1 : Nat} (hN : n' ≤ N1) (hR : N1 - n0 ≤ R.cells ∧ tot N1 - tot n0 ≤ R.slots) {ins : Instr} {len a b : Nat} (hit : it i pc = some (ins, len, a, b)) (hs : astep X ins len a b pc ls st n μ = some (pc', ls', st', n', μ')) (h : AW K X p l e R s m args below meth c i n0 Q pc' ls' st' n' μ') : AW K X p l e R s m args below meth c i n0 Q pc ls st n μ := by
  obtain ⟨hd, hk⟩ := it_spec hit
  cases ins
  case iconst k =>
    simp only [astep] at hs
    cases hs
    exact so_iconst C hd h
  case bipush k =>
    simp only [astep] at hs
    cases hs
    exact so_bipush C hd h
  case sipush k =>
    simp only [astep] at hs
    cases hs
    exact so_sipush C hd h
  case lconst k =>
    simp only [astep] at hs
    cases hs
    exact so_lconst C hd h
  case ldc ix =>
    simp only [astep] at hs
    cases hs
    obtain ⟨w, hw⟩ := lkh_spec hk
    exact so_ldc C (tw_in (KIk_ok _ hw)) hd h
  case ldc_w ix =>
    simp only [astep] at hs
    cases hs
    obtain ⟨w, hw⟩ := lkh_spec hk
    exact so_ldcw C (tw_in (KIk_ok _ hw)) hd h
  case ldc2_w ix =>
    simp only [astep] at hs
    cases hs
    obtain ⟨w, hw⟩ := lkh_spec hk
    exact so_ldc2 C (tw_in (KLk_ok _ hw)) hd h
  case iload_n k =>
    simp only [astep] at hs
    unfold aLd at hs
    split at hs
    · rename_i hg
      cases hs
      exact so_iload_n C hg hd h
    · cases hs
  case iload k =>
    simp only [astep] at hs
    unfold aLd at hs
    split at hs
    · rename_i hg
      cases hs
      exact so_iload C hg hd h
    · cases hs
  case aload_n k =>
    simp only [astep] at hs
    unfold aLda at hs
    split at hs
    · rename_i hg
      cases hs
      exact so_aload_n C hg hd h
    · cases hs
  case aload k =>
    simp only [astep] at hs
    unfold aLda at hs
    split at hs
    · rename_i hg
      cases hs
      exact so_aload C hg hd h
    · cases hs
  case lload_n k =>
    simp only [astep] at hs
    unfold aLdl at hs
    split at hs
    · rename_i hg
      cases hs
      exact so_lload_n C hg hd h
    · cases hs
  case istore_n k =>
    simp only [astep] at hs
    unfold aSt at hs
    split at hs
    · split at hs
      · rename_i hg
        cases hs
        exact so_istore_n C hg hd h
      · cases hs
    · cases hs
  case istore k =>
    simp only [astep] at hs
    unfold aSt at hs
    split at hs
    · split at hs
      · rename_i hg
        cases hs
        exact so_istore C hg hd h
      · cases hs
    · cases hs
  case astore_n k =>
    simp only [astep] at hs
    unfold aSta at hs
    split at hs
    · split at hs
      · rename_i hg
        cases hs
        exact so_astore_n C hg hd h
      · cases hs
    · cases hs
  case astore k =>
    simp only [astep] at hs
    unfold aSta at hs
    split at hs
    · split at hs
      · rename_i hg
        cases hs
        exact so_astore C hg hd h
      · cases hs
    · cases hs
  case lstore_n k =>
    simp only [astep] at hs
    unfold aStl at hs
    split at hs
    · split at hs
      · rename_i hg
        cases hs
        exact so_lstore_n C hg hd h
      · cases hs
    · cases hs
  case iinc k d =>
    simp only [astep] at hs
    split at hs
    · rename_i hg
      split at hs
      · rename_i hg2
        cases hs
        exact so_iinc C hg hg2 hd h
      · cases hs
    · cases hs
  case dup  =>
    simp only [astep] at hs
    split at hs
    · cases hs
      exact so_dupi C hd h
    · cases hs
      exact so_dupr C hd h
    · cases hs
  case dup2  =>
    simp only [astep] at hs
    split at hs
    · cases hs
      exact so_dup2 C hd h
    · cases hs
  case iadd  =>
    simp only [astep] at hs
    unfold aB at hs
    split at hs
    · cases hs
      exact so_iadd C hd h
    · cases hs
  case isub  =>
    simp only [astep] at hs
    unfold aB at hs
    split at hs
    · cases hs
      exact so_isub C hd h
    · cases hs
  case imul  =>
    simp only [astep] at hs
    unfold aB at hs
    split at hs
    · cases hs
      exact so_imul C hd h
    · cases hs
  case iand  =>
    simp only [astep] at hs
    unfold aB at hs
    split at hs
    · cases hs
      exact so_iand C hd h
    · cases hs
  case ior  =>
    simp only [astep] at hs
    unfold aB at hs
    split at hs
    · cases hs
      exact so_ior C hd h
    · cases hs
  case ixor  =>
    simp only [astep] at hs
    unfold aB at hs
    split at hs
    · cases hs
      exact so_ixor C hd h
    · cases hs
  case ishl  =>
    simp only [astep] at hs
    unfold aB at hs
    split at hs
    · cases hs
      exact so_ishl C hd h
    · cases hs
  case ishr  =>
    simp only [astep] at hs
    unfold aB at hs
    split at hs
    · cases hs
      exact so_ishr C hd h
    · cases hs
  case iushr  =>
    simp only [astep] at hs
    unfold aB at hs
    split at hs
    · cases hs
      exact so_iushr C hd h
    · cases hs
  case idiv  =>
    simp only [astep] at hs
    split at hs
    · rename_i y x r
      cases hy : decide (y = 0) with
      | true => rw [hy] at hs; cases hs
      | false =>
        rw [hy] at hs
        simp only [cond_false] at hs
        cases hs
        exact so_idiv C (of_decide_eq_false hy) hd h
    · cases hs
  case irem  =>
    simp only [astep] at hs
    split at hs
    · rename_i y x r
      cases hy : decide (y = 0) with
      | true => rw [hy] at hs; cases hs
      | false =>
        rw [hy] at hs
        simp only [cond_false] at hs
        cases hs
        exact so_irem C (of_decide_eq_false hy) hd h
    · cases hs
  case ineg  =>
    simp only [astep] at hs
    unfold aU at hs
    split at hs
    · cases hs
      exact so_ineg C hd h
    · cases hs
  case i2b  =>
    simp only [astep] at hs
    unfold aU at hs
    split at hs
    · cases hs
      exact so_i2b C hd h
    · cases hs
  case i2s  =>
    simp only [astep] at hs
    unfold aU at hs
    split at hs
    · cases hs
      exact so_i2s C hd h
    · cases hs
  case i2l  =>
    simp only [astep] at hs
    split at hs
    · cases hs
      exact so_i2l C hd h
    · cases hs
  case l2i  =>
    simp only [astep] at hs
    split at hs
    · cases hs
      exact so_l2i C hd h
    · cases hs
  case lcmp  =>
    simp only [astep] at hs
    split at hs
    · cases hs
      exact so_lcmp C hd h
    · cases hs
  case ladd  =>
    simp only [astep] at hs
    unfold aBl at hs
    split at hs
    · cases hs
      exact so_ladd C hd h
    · cases hs
  case land  =>
    simp only [astep] at hs
    unfold aBl at hs
    split at hs
    · cases hs
      exact so_land C hd h
    · cases hs
  case lor  =>
    simp only [astep] at hs
    unfold aBl at hs
    split at hs
    · cases hs
      exact so_lor C hd h
    · cases hs
  case lshl  =>
    simp only [astep] at hs
    unfold aSl at hs
    split at hs
    · cases hs
      exact so_lshl C hd h
    · cases hs
  case lshr  =>
    simp only [astep] at hs
    unfold aSl at hs
    split at hs
    · cases hs
      exact so_lshr C hd h
    · cases hs
  case lushr  =>
    simp only [astep] at hs
    unfold aSl at hs
    split at hs
    · cases hs
      exact so_lushr C hd h
    · cases hs
  case goto off =>
    simp only [astep] at hs
    cases ht : tok pc off with
    | false => rw [ht] at hs; cases hs
    | true =>
      rw [ht] at hs
      simp only [cond_true] at hs
      cases hs
      exact so_goto C ht hd h
  case ifCond cd off =>
    simp only [astep] at hs
    split at hs
    · rename_i x r
      cases ht : tok pc off with
      | false => rw [ht] at hs; cases hs
      | true =>
        rw [ht] at hs
        simp only [cond_true] at hs
        refine so_if C ht hd (fun hq => ?_) (fun hq => ?_)
        · rw [hq] at hs
          simp only [cond_true] at hs
          cases hs
          exact h
        · rw [hq] at hs
          simp only [cond_false] at hs
          cases hs
          exact h
    · cases hs
  case if_icmp cd off =>
    simp only [astep] at hs
    split at hs
    · rename_i y x r
      cases ht : tok pc off with
      | false => rw [ht] at hs; cases hs
      | true =>
        rw [ht] at hs
        simp only [cond_true] at hs
        refine so_icmp C ht hd (fun hq => ?_) (fun hq => ?_)
        · rw [hq] at hs
          simp only [cond_true] at hs
          cases hs
          exact h
        · rw [hq] at hs
          simp only [cond_false] at hs
          cases hs
          exact h
    · cases hs
  case tableswitch d lo hi offs =>
    simp only [astep] at hs
    split at hs
    · rename_i x r
      cases hx : (decide (x.toInt < lo) || decide (hi < x.toInt)) with
      | true =>
        rw [hx] at hs
        simp only [cond_true] at hs
        cases ht : tok pc d with
        | false => rw [ht] at hs; cases hs
        | true =>
          rw [ht] at hs
          simp only [cond_true] at hs
          cases hs
          exact so_tableOut C (by simpa using hx) ht hd h
      | false =>
        rw [hx] at hs
        simp only [cond_false] at hs
        split at hs
        · rename_i off ho
          cases ht : tok pc off with
          | false => rw [ht] at hs; cases hs
          | true =>
            rw [ht] at hs
            simp only [cond_true] at hs
            cases hs
            simp only [Bool.or_eq_false_iff, decide_eq_false_iff_not] at hx
            exact so_tableIn C hx.1 hx.2 ho ht hd h
        · cases hs
    · cases hs
  case lookupswitch d ps =>
    simp only [astep] at hs
    split at hs
    · rename_i x r
      generalize hg : ((ps.toList.zip (ps.toList.drop 1)).all (fun (a, next) => a.1 < next.1) && tok pc (Op.lookupswitch.offset ps.toList d x.toInt)) = g at hs
      cases g with
      | false => cases hs
      | true =>
        simp only [cond_true] at hs
        obtain ⟨g1, g2⟩ := Bool.and_eq_true_iff.mp hg
        cases hs
        exact so_lookup C g1 g2 hd h
    · cases hs
  case getstatic ix =>
    simp only [astep] at hs
    cases hs
    obtain ⟨w, hw⟩ := lkh_spec hk
    obtain ⟨h1, h2⟩ := Bool.and_eq_true_iff.mp (SLk_ok _ hw)
    refine so_getstatic C (Nat.blt_eq.mp h2) ?_ hd h
    dsimp only at h1
    cases hb : Nat.beq b 0 with
    | true => rw [hb] at h1; exact Or.inl (tw_in h1)
    | false => rw [hb] at h1; exact Or.inr (tw_in h1)
  case getfield ix =>
    simp only [astep] at hs
    split at hs
    · rename_i k r
      generalize hg : (Nat.blt k 999 && Nat.blt k n && Nat.beq (kd k) (a + 3) && Nat.blt b (kN a)) = g at hs
      cases g with
      | false => cases hs
      | true =>
        simp only [cond_true] at hs
        simp only [Bool.and_eq_true] at hg
        obtain ⟨⟨⟨g1, g2⟩, g3⟩, g4⟩ := hg
        cases hs
        obtain ⟨w, hw⟩ := lkh_spec hk
        have hq := FLk_ok _ hw
        simp only [Bool.and_eq_true] at hq
        exact so_getfield C (Nat.blt_eq.mp hq.1.2) (Nat.blt_eq.mp g4) (Nat.blt_eq.mp g2) (Nat.eq_of_beq_eq_true g3) (tw_in hq.1.1) hd h
    · cases hs
  case putfield ix =>
    simp only [astep] at hs
    split at hs
    · rename_i v k r
      generalize hg : (Nat.blt k 999 && Nat.blt k n && Nat.beq (kd k) (a + 3) && Nat.blt b (kN a) && fok (kY a b) v) = g at hs
      cases g with
      | false => cases hs
      | true =>
        simp only [cond_true] at hs
        simp only [Bool.and_eq_true] at hg
        obtain ⟨⟨⟨⟨g1, g2⟩, g3⟩, g4⟩, g5⟩ := hg
        cases hs
        obtain ⟨w, hw⟩ := lkh_spec hk
        have hq := FLk_ok _ hw
        simp only [Bool.and_eq_true] at hq
        exact so_putfield C (Nat.blt_eq.mp hq.1.2) (Nat.blt_eq.mp g4) (Nat.blt_eq.mp g2) (Nat.blt_eq.mp g1) (Nat.eq_of_beq_eq_true g3) g5 (ckf_all hit) (tw_in hq.1.1) hd h
    · cases hs
  case arraylength  =>
    simp only [astep] at hs
    split at hs
    · split at hs
      · rename_i hg
        cases hs
        exact so_alen C hg hd h
      · cases hs
    · cases hs
  case iaload  =>
    simp only [astep] at hs
    split at hs
    · rename_i x k r
      split at hs
      · rename_i L hl
        cases hg : inb x L with
        | false => rw [hg] at hs; cases hs
        | true =>
          rw [hg] at hs
          simp only [cond_true] at hs
          cases hs
          exact so_iaload C hl hg hd h
      · cases hs
    · cases hs
  case iastore  =>
    simp only [astep] at hs
    split at hs
    · rename_i y x k r
      generalize hg : (Nat.blt k 999 && Nat.blt k n && Nat.beq (kd k) 0 && inb x (ln k)) = g at hs
      cases g with
      | false => cases hs
      | true =>
        simp only [cond_true] at hs
        simp only [Bool.and_eq_true] at hg
        obtain ⟨⟨⟨g1, g2⟩, g3⟩, g4⟩ := hg
        cases hs
        exact so_iastore C (Nat.blt_eq.mp g2) (Nat.blt_eq.mp g1) (Nat.eq_of_beq_eq_true g3) g4 hd h
    · cases hs
  case aaload  =>
    simp only [astep] at hs
    split at hs
    · rename_i x k r
      generalize hg : (Nat.blt k 999 && Nat.blt k n && (Nat.beq (kd k) 1 || Nat.beq (kd k) 2) && inb x (ln k)) = g at hs
      cases g with
      | false => cases hs
      | true =>
        simp only [cond_true] at hs
        simp only [Bool.and_eq_true, Bool.or_eq_true] at hg
        obtain ⟨⟨⟨g1, g2⟩, g3⟩, g4⟩ := hg
        cases hs
        exact so_aaload C (Nat.blt_eq.mp g2) (g3.imp Nat.eq_of_beq_eq_true Nat.eq_of_beq_eq_true) g4 hd h
    · cases hs
  case aastore  =>
    simp only [astep] at hs
    split at hs
    · rename_i kh x k r
      generalize hg : (Nat.blt k 999 && Nat.blt k n && (Nat.beq (kd k) 1 && Nat.beq (kd kh) 3 || Nat.beq (kd k) 2 && Nat.beq (kd kh) 5) && inb x (ln k) && Nat.blt kh 999 && Nat.blt kh n) = g at hs
      cases g with
      | false => cases hs
      | true =>
        simp only [cond_true] at hs
        simp only [Bool.and_eq_true, Bool.or_eq_true] at hg
        obtain ⟨⟨⟨⟨⟨g1, g2⟩, g3⟩, g4⟩, g5⟩, g6⟩ := hg
        cases hs
        rcases g3 with ⟨g7, g8⟩ | ⟨g7, g8⟩
        · exact so_aastoreL C (Nat.blt_eq.mp g2) (Nat.blt_eq.mp g1) (Nat.eq_of_beq_eq_true g7) (Nat.blt_eq.mp g6) (Nat.eq_of_beq_eq_true g8) g4 hd h
        · exact so_aastoreS C (Nat.blt_eq.mp g2) (Nat.blt_eq.mp g1) (Nat.eq_of_beq_eq_true g7) (Nat.blt_eq.mp g6) (Nat.eq_of_beq_eq_true g8) g4 hd h
    · cases hs
  case new ix =>
    simp only [astep] at hs
    generalize hg : (Nat.blt n 999 && Nat.beq (kd n) (a + 3) && Nat.beq (ln n) (kN a) && Nat.blt a 10) = g at hs
    cases g with
    | false => cases hs
    | true =>
      simp only [cond_true] at hs
      simp only [Bool.and_eq_true] at hg
      obtain ⟨⟨⟨g1, g2⟩, g3⟩, g4⟩ := hg
      cases hs
      obtain ⟨w, hw⟩ := lkh_spec hk
      exact so_new C hN hR (Nat.blt_eq.mp g4) (Nat.blt_eq.mp g1) (Nat.eq_of_beq_eq_true g2) (Nat.eq_of_beq_eq_true g3) (tw_in (CLk_ok _ hw)) hd h
  case newarray t =>
    simp only [astep] at hs
    split at hs
    · rename_i x r
      generalize hg : (Nat.blt n 999 && decide (t = .int) && Nat.beq (kd n) 0 && !(decide (x < 0)) && Nat.beq x.toNatClampNeg (ln n)) = g at hs
      cases g with
      | false => cases hs
      | true =>
        simp only [cond_true] at hs
        simp only [Bool.and_eq_true, decide_eq_true_eq, Bool.not_eq_true', decide_eq_false_iff_not] at hg
        obtain ⟨⟨⟨⟨g1, g2⟩, g3⟩, g4⟩, g5⟩ := hg
        cases hs
        subst g2
        exact so_newarray C hN hR (ln_small n) (Nat.blt_eq.mp g1) (Nat.eq_of_beq_eq_true g3) g4 (Nat.eq_of_beq_eq_true g5) hd h
    · cases hs
  case anewarray ix =>
    simp only [astep] at hs
    split at hs
    · rename_i x r
      generalize hg : (Nat.blt n 999 && (Nat.beq a 0 && Nat.beq (kd n) 1 || Nat.beq a 2 && Nat.beq (kd n) 2) && !(decide (x < 0)) && Nat.beq x.toNatClampNeg (ln n)) = g at hs
      cases g with
      | false => cases hs
      | true =>
        simp only [cond_true] at hs
        simp only [Bool.and_eq_true, Bool.or_eq_true, Bool.not_eq_true', decide_eq_false_iff_not] at hg
        obtain ⟨⟨⟨g1, g2⟩, g4⟩, g5⟩ := hg
        cases hs
        obtain ⟨w, hw⟩ := lkh_spec hk
        have hc := tw_in (CLk_ok _ hw)
        rcases g2 with ⟨g7, g8⟩ | ⟨g7, g8⟩
        · have e1 := Nat.eq_of_beq_eq_true g7
          subst e1
          exact so_anewarrayL C hN hR (ln_small n) (Nat.blt_eq.mp g1) (Nat.eq_of_beq_eq_true g8) g4 (Nat.eq_of_beq_eq_true g5) hc hd h
        · have e1 := Nat.eq_of_beq_eq_true g7
          subst e1
          exact so_anewarrayS C hN hR (ln_small n) (Nat.blt_eq.mp g1) (Nat.eq_of_beq_eq_true g8) g4 (Nat.eq_of_beq_eq_true g5) hc hd h
    · cases hs
  all_goals (simp only [astep] at hs; cases hs)
theorem astep_mono {ins : Instr} {len a b : Nat} (hs : astep X ins len a b pc ls st n μ = some (pc', ls', st', n', μ')) : n ≤ n' := by
  cases ins <;> simp only [astep, aLd, aLda, aLdl, aSt, aSta, aStl, aB, aU, aBl, aSl] at hs
  all_goals first
    | (cases hs; done)
    | (cases hs; exact Nat.le_refl _)
    | (repeat' split at hs) <;> (first | (cases hs; done) | (cases hs; exact Nat.le_refl _) | (simp only [cond] at hs; (repeat' split at hs) <;> first | (cases hs; done) | (cases hs; exact Nat.le_refl _) | (cases hs; exact Nat.le_succ _)))
    | (simp only [cond] at hs; (repeat' split at hs) <;> first | (cases hs; done) | (cases hs; exact Nat.le_refl _) | (cases hs; exact Nat.le_succ _))
end STEP
