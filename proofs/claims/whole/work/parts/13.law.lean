/-! THE CLAIM OUT OF ONE WALK OF THE LAW'S BODY. Your part is whole_start (and what it stands on); all else here is the same for every law, but numbers. -/
def R_law : String := "NineDemandsLaw"
def lw_P (b : Addr) (xs : List Int32) (args : Array Value) (s : State) : Prop := args = #[.ref b] ∧ s.IntsAt b xs ∧ xs.length ≤ 384 ∧ (Jvm.Cond.and given_1 narrow_1).before args s = true
def lw_Q (_ : Array Value) (s : State) (o : Outcome) (t : State) : Prop := o = .returned (some (.int 1)) ∧ Framed s o t [] 600000 7302250
def lw_Z (below : List Frame) (a : Array Value) (s : State) : State → Prop := fun t => ∃ o, t.status = .running ∧ Ended t below o ∧ lw_Q a s o t
/-- the law's own end, with 1 on the stack, nothing written that was there before, its room as the claim has it -/
theorem lw_ret {p : Program} {l : Launch} {e : Env} {s : State} {m : MethodId} {below : List Frame} {meth : Method} {c : Code} {b : Nat} (hx : p.tables.exec = Jvm.exec) (hb : c.code = code) (hr : meth.sig.returnType = ret) (hlocks : meth.locks = false) {pc : Nat} {H : Heap} {ls : Array Slot} (hdg : decode code pc = .ok (.ireturn, 1)) : W p l e room_1 s m #[Value.ref b] below meth c H [] 600000 7302250 (lw_Z below #[Value.ref b] s) (F0 m pc ls [.int 1]) := by
  intro T hT X
  obtain ⟨fs, hret, hrun, hended, hW, hframe⟩ := X.leave (v := some (.int 1)) (hlocks := hlocks) (fun h => by rw [hr] at h; cases h)
  have hmeth' : T.vm.method? m = some meth := X.method'
  refine ⟨T.setFrames fs, ?_, .returned (some (.int 1)), hrun, hended, rfl, ⟨_, rfl⟩, hW, hframe⟩
  jvm_step X.here [X.here.top, hx, hb, hdg, hmeth', hr, ret, narrow_b1]
  (try refine ⟨rfl, ?_⟩); (try refine ⟨rfl, ?_⟩)
  first | (intro acts; rw [hret _ acts rfl rfl rfl]) | rw [hret _ _ rfl rfl rfl]
  exact Steps.refl _
/-- what holds at the law's entry: the machine, the code, the tables' words (any of lw_tbl by 'hts w (by decide +kernel)'), the script of L ints xs at the cell b, what the Statement gives of the start (any of its parts by flat_of_before) -/
def lw_At (p : Program) (s : State) (m : MethodId) (meth : Method) (c : Code) (b L : Nat) (xs : Nat → Int32) : Prop :=
  p.tables.exec = Jvm.exec ∧ c.code = code ∧ meth.sig.returnType = ret ∧ c.maxLocals = 4 ∧ s.vm.findClass R_law = some m.cls ∧ (∀ w ∈ lw_tbl, w.before #[Value.ref b] s = true) ∧ va_X b L xs s s.heap ∧ b < s.heap.size ∧ meth.locks = false ∧ (Jvm.Cond.and given_1 narrow_1).before #[Value.ref b] s = true
/-! from the machine on pictures to the claim -/
def stz : List Nat := [102, 464, 481, 496, 540, 694, 850]
set_option maxRecDepth 100000 in
theorem st_lay0 : (List.range 7).all (fun q => decide (tables_1[stz.getD q 0]? = some (.laysStatic (sC q) (sM q) "[I"))) = true := by decide +kernel
theorem st_lay {q : Nat} (h : q < 7) : Cond.laysStatic (sC q) (sM q) "[I" ∈ lw_tbl := List.mem_append_right _ (List.mem_of_getElem? (of_decide_eq_true (List.all_eq_true.mp st_lay0 q (List.mem_range.mpr h))))
set_option maxRecDepth 100000 in
theorem st_ini : ∀ q, q < 7 → Cond.initialized (sC q) ∈ lw_tbl := by decide +kernel
def stFlat : List Cond := flatC (Jvm.Cond.and given_1 narrow_1)
set_option maxRecDepth 100000 in
theorem st_arr : ∀ q, q < 7 → Cond.arrayOf (.static (sC q) (sM q) "[I") .int ∈ stFlat := by decide +kernel
set_option maxRecDepth 100000 in
theorem st_len : ∀ q, q < 7 → Cond.eq (.length (.static (sC q) (sM q) "[I")) (.int (Int32.ofNat (sN q))) ∈ stFlat := by decide +kernel
set_option maxRecDepth 100000 in
theorem st_el : ∀ q, q < 7 → ∀ j, j < sN q → Cond.eq (.elem (.static (sC q) (sM q) "[I") (.int (Int32.ofNat j))) (.int (sT q j)) ∈ stFlat := by decide +kernel
set_option maxRecDepth 100000 in
theorem st_small : ∀ q, q < 7 → sN q < 2 ^ 31 := by decide +kernel
def μ0 : AM := fun _ _ => .int 0
theorem mB_law : mB 258 = code := rfl
theorem mR_law : mR 258 = some .boolean := rfl
theorem mL_law : mL 258 = 4 := rfl
theorem cN_law : cN (mO 258) = R_law := rfl
theorem nm_law : (mY 258).name ≠ "<init>" := by decide +kernel
theorem tot_all : tot 98 ≤ 7302250 := by decide +kernel
set_option maxHeartbeats 4000000 in
theorem whole_of {p : Program} {e : Env} {s : State} {m : MethodId} {below : List Frame} {meth : Method} {c : Code} (l : Launch) {b L : Nat} {xs : Nat → Int32} (C0 : lw_At p s m meth c b L xs) {f : Nat} {μ1 : AM} (hax : ax (L, xs) f 2000 258 0 (apad [.ref 999] 4) [] 0 μ0 = some (some (.int 1), 98, μ1)) : W p l e room_1 s m #[Value.ref b] below meth c s.heap [] 0 0 (lw_Z below #[Value.ref b] s) (entryFrame m ([Value.ref b] : List Value).toArray 4) := by
  obtain ⟨hx, hb, hr, hml, hown, hts, hX, hbl, hlocks, hgv⟩ := id C0
  have hfl := flat_of_before _ hgv
  have hA : ∀ a : Nat, a < s.heap.size → ¬ (fun q : Nat => s.heap.size ≤ q) a := fun a h => Nat.not_le.mpr h
  have hst : ∀ q, q < 7 → ∃ t : Nat, va_Z (sC q) (sM q) "[I" (.ref t) (fun q : Nat => s.heap.size ≤ q) s s.heap ∧ va_T .int t (sN q) (fun j => .int (sT q j)) (fun q : Nat => s.heap.size ≤ q) s s.heap := by
    intro q hq
    obtain ⟨t, h1, h2⟩ := va_Tof (st_small q hq) (hfl _ (st_arr q hq)) (va_eqt (hfl _ (st_len q hq))) (fun j hj => va_eqt (hfl _ (st_el q hq j hj))) hA
    exact ⟨t, va_Zof (hts _ (st_lay hq)) (hts _ (st_ini q hq)) h1 hA, h2⟩
  have hsa : ∃ sa : Nat → Nat, ∀ q, q < 7 → va_Z (sC q) (sM q) "[I" (.ref (sa q)) (fun q : Nat => s.heap.size ≤ q) s s.heap ∧ va_T .int (sa q) (sN q) (fun j => .int (sT q j)) (fun q : Nat => s.heap.size ≤ q) s s.heap := by
    refine ⟨fun q => if h : q < 7 then Classical.choose (hst q h) else 0, fun q hq => ?_⟩
    have := Classical.choose_spec (hst q hq)
    simp only [dif_pos hq]
    exact this
  obtain ⟨sa, hsa⟩ := hsa
  have hkn : ∀ a, a < 10 → ∃ (cC : ClassId) (iS : Nat → Nat), u_Kn s (cN a) (kT a) (kN a) cC iS := fun a ha => u_known (n := kN a) hts (kin0 ha) (hts _ (kinst0 a ha).1)
  obtain ⟨dC, dI, hKc⟩ : ∃ (dC : Nat → ClassId) (dI : Nat → Nat → Nat), ∀ (k : Nat) (q : vw_C), kcl[k]? = some q → u_Kn s q.1 q.2.1 q.2.2 (dC k) (dI k) := by
    refine ⟨fun k => if h : k < 10 then Classical.choose (hkn k h) else 0, fun k => if h : k < 10 then Classical.choose (Classical.choose_spec (hkn k h)) else fun _ => 0, fun k q hq => ?_⟩
    have hk : k < 10 := by
      have := (List.getElem?_eq_some_iff.mp hq).1
      simpa [kcl] using this
    rw [kcl_at hk] at hq
    cases hq
    simp only [dif_pos hk]
    exact Classical.choose_spec (Classical.choose_spec (hkn k hk))
  have hU : ∀ w ∈ lwU, w.before #[Value.ref b] s = true := fun w hw => hts w (List.mem_filter.mp hw).1
  obtain ⟨cI, kI', compI, i1, i2, i3⟩ := Cond.arrayClass_spec (hU _ tyint)
  obtain ⟨compL, cL, kL', l1, -, l3, l4, l5⟩ := Cond.arrayOver_spec (hU _ tyovL)
  obtain ⟨compS, cS, kS', s1, -, s3, s4, s5⟩ := Cond.arrayOver_spec (hU _ tyovS)
  have hK : va_K (dC, dI) kcl [(cI, .int), (cL, .object "NineDemands$Law"), (cS, .object "NineDemands$Sheet")] s := by
    refine ⟨hKc, fun k q hq => ?_⟩
    match k, hq with
    | 0, hq => cases hq; exact ⟨fun N z => ⟨(fun k h => by cases h), kI', i2, compI, i3⟩, i1⟩
    | 1, hq => cases hq; exact ⟨fun N z => ⟨(fun k h => by cases h), kL', l3, compL, l4⟩, kL', compL, l3, l4, l1, l5⟩
    | 2, hq => cases hq; exact ⟨fun N z => ⟨(fun k h => by cases h), kS', s3, compS, s4⟩, kS', compS, s3, s4, s1, s5⟩
    | k + 3, hq => simp at hq
  have hW : Wd (s.heap.size, b, sa, (dC, dI), cI, cL, cS) (L, xs) 0 μ0 s s.heap := ⟨rfl, Nat.zero_le _, fun k hk => absurd hk (Nat.not_lt_zero k), hK, hbl, hX, hsa⟩
  have hrB : meth.sig.returnType = mR 258 := hr.trans (by rw [mR_law]; rfl)
  have C : Cx p s m #[Value.ref b] meth c 258 := ⟨hx, hb.trans mB_law.symm, hrB, hml.trans mL_law.symm, by rw [cN_law]; exact hown, hU, hlocks, fun h => absurd h nm_law⟩
  obtain ⟨-, -, hwk⟩ := walk (s.heap.size, b, sa, (dC, dI), cI, cL, cS) (L, xs) l f 2000 258 0 (apad [.ref 999] 4) [] 0 μ0 (some (.int 1)) 98 μ1 hax
  have hA2 := hwk p e room_1 s m #[Value.ref b] below meth c (lw_Z below #[Value.ref b] s) 0 C (by decide) (by decide) ⟨by decide, by have := tot_all; show tot 98 - tot 0 ≤ 7302250; omega⟩ ?_
  · have hent := LR.entry (K := (s.heap.size, b, sa, (dC, dI), cI, cL, cS)) (as := [.ref 999]) (nL := 4) (by decide)
    have ea : ([Value.ref 999] : List Value).map (cv (kad (s.heap.size, b, sa, (dC, dI), cI, cL, cS))) = [Value.ref b] := rfl
    rw [ea] at hent
    rw [lg_entry_eq]
    have h9 := hA2 (Nat.le_refl 0) _ s.heap [] (by rw [mL_law]; exact hent) hW va_S.rf
    exact h9
  · intro pc' ins len a b' stf hit hae LS H locs hW' hS'
    obtain ⟨hd, -⟩ := it_spec hit
    rw [mR_law] at hae
    rcases aend_spec hae with ⟨-, -, hq, -⟩ | ⟨x, -, -, hq, -⟩ | ⟨x, rfl, rfl, -, hv, -⟩ | ⟨x, -, -, hq, -⟩
    · cases hq
    · cases hq
    · cases hv
      refine va_forget (fun q hq => hS'.2.2 q hq) ?_
      refine W.widen (k := 600000) (n := 7302250) (by decide) (by have := tot_all; show tot 98 - tot 0 ≤ 7302250; omega) ?_
      exact lw_ret hx hb hr hlocks (by rw [← mB_law]; exact hd)
    · cases hq
