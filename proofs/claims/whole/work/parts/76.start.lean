/-! the start -/
theorem tg_a : ∀ h, h < 12 → tgR 2 h = 5000 ∧ tgR 78 (10 + h) = 5000 := by decide +kernel
theorem tg_b : tgR 1 2 = 5000 ∧ tgR 1 4 = 5000 ∧ tgR 1 6 = 5000 ∧ tgR 78 0 = 5000 ∧ tgR 78 1 = 5000 ∧ tgR 78 2 = 5000 ∧ tgR 0 2 = 5000 ∧ tgR 77 2 = 5000 ∧ tgR 65 1 = 5000 ∧ tgR 77 27 = 5000 := by decide +kernel
theorem tg_c : ∀ k, k < 6 → tgR 43 k = 5000 ∧ tgR 80 k = 5000 := by decide +kernel
theorem tg_d : ∀ s, s < 4 → tgR (69 + 2 * s) 0 = 5000 ∧ tgR (69 + 2 * s) 1 = 5000 ∧ tgR 94 s = 5000 ∧ tgR 95 s = 5000 := by decide +kernel
theorem tg_e : ∀ k, k < 7 → tgR 81 k = 5000 := by decide +kernel
theorem tg_f : ∀ j, j < 90 → tgR 82 j = 5000 ∧ tgR 83 j = 5000 ∧ tgR 84 j = 5000 := by decide +kernel
theorem tg_g : ∀ s, s < 256 → tgR 68 s = 5000 := by decide +kernel
theorem all_rg {n : Nat} {f : Nat → Bool} (h : (List.range n).all f = true) (i : Nat) (hi : i < n) : f i = true := List.all_eq_true.mp h i (List.mem_range.mpr hi)
theorem and_l {a b : Bool} (h : (a && b) = true) : a = true := by
  cases a
  · exact Bool.noConfusion h
  · rfl
theorem and_r {a b : Bool} (h : (a && b) = true) : b = true := by
  cases a
  · exact Bool.noConfusion h
  · exact h
theorem Inv0 : Inv M0 := by
  have hd := ini_d
  generalize hmu : μd = mu at hd
  unfold iniAll at hd
  have d4 := and_r hd
  have d3 := and_r (and_l hd)
  have d2 := and_r (and_l (and_l hd))
  have d1 := and_r (and_l (and_l (and_l hd)))
  unfold ini1 at d1
  unfold ini2 at d2
  unfold ini3 at d3
  unfold ini4 at d4
  rw [← hmu] at d1 d2 d3 d4
  obtain ⟨t1, t2, t3, t4, t5, t6, t7, t8, t9, t10⟩ := tg_b
  have e10 := M0_i (and_r d1) t10
  have d1 := and_l d1
  have e9 := M0_i (and_r d1) t9
  have d1 := and_l d1
  have e8 := M0_i (and_r d1) t8
  have d1 := and_l d1
  have e7 := M0_i (and_r d1) t7
  have d1 := and_l d1
  have e6 := M0_i (and_r d1) t6
  have d1 := and_l d1
  have e5 := M0_i (and_r d1) t5
  have d1 := and_l d1
  have e4 := M0_i (and_r d1) t4
  have d1 := and_l d1
  have e3 := M0_i (and_r d1) t3
  have d1 := and_l d1
  have e2 := M0_i (and_r d1) t2
  have d1 := and_l d1
  have e1 := M0_i (and_r d1) t1
  have d1 := and_l d1
  have f1 := and_l d2
  have f2 := and_r d2
  have f3 := and_l d3
  have f4 := and_r d3
  refine ⟨0, fun _ => 0, fun _ => 0, fun _ _ => 0, fun _ => 3, ⟨⟨by decide, fun l hl => absurd hl (Nat.not_lt_zero _)⟩, ⟨e1, fun l hl => absurd hl (Nat.not_lt_zero _)⟩, ⟨e4, fun l hl => absurd hl (Nat.not_lt_zero _)⟩⟩, fun h hh => ⟨show 1 ≤ 3 by decide, show 3 ≤ 3 by decide, M0_i (and_l (all_rg d1 h hh)) (tg_a h hh).1, M0_i (and_r (all_rg d1 h hh)) (tg_a h hh).2⟩, ⟨0, by decide, e2, e5, fun j hj => absurd hj (Nat.not_lt_zero _)⟩, ⟨0, by decide, e3, e6, fun j hj => absurd hj (Nat.not_lt_zero _)⟩, ⟨e7.trans e8.symm, fun z => absurd e8 z⟩, fun k hk => (M0_i (and_l (all_rg f1 k hk)) (tg_c k hk).1).trans (M0_i (and_r (all_rg f1 k hk)) (tg_c k hk).2).symm, fun s hs => ?_, ⟨0, by decide, e9, e10, fun j hj => absurd hj (Nat.not_lt_zero _)⟩, fun s hs => Or.inl (M0_i (all_rg d4 s hs) (tg_g s hs)), fun k hk => M0_i (all_rg f3 k hk) (tg_e k hk), fun k hk i hi => ?_⟩
  · have g := all_rg f2 s hs
    obtain ⟨u1, u2, u3, u4⟩ := tg_d s hs
    exact ⟨0, 0, Or.inl rfl, by decide, M0_i (and_l (and_l (and_l g))) u1, M0_i (and_r (and_l g)) u3, M0_i (and_r (and_l (and_l g))) u2, M0_i (and_r g) u4, fun j hj => absurd hj (Nat.not_lt_zero _)⟩
  · have g := all_rg (all_rg f4 k hk) i hi
    obtain ⟨u1, u2, u3⟩ := tg_f (fcs k + i) (fc_lt hk hi)
    exact ⟨M0_i (and_l (and_l g)) u1, M0_i (and_r (and_l g)) u2, M0_i (and_r g) u3⟩
theorem whole_start {p : Program} {e : Env} {s : State} {m : MethodId} {below : List Frame} {meth : Method} {c : Code} (l : Launch) {b L : Nat} {xs : Nat → Int32} (hL : L ≤ 384) (C0 : lw_At p s m meth c b L xs) : W p l e room_1 s m #[Value.ref b] below meth c s.heap [] 0 0 (lw_Z below #[Value.ref b] s) (entryFrame m ([Value.ref b] : List Value).toArray 4) := by
  obtain ⟨i, M1, h1⟩ := loop_all (X := (L, xs)) hL Inv0
  obtain ⟨f, hf⟩ := law_of h1
  exact whole_of l C0 hf
