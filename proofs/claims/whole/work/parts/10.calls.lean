/-! calls, and whole methods: what the machine on pictures answers, the machine does -/
def nW : List Cond := lw_tbl.filter (fun w => useW w && !goodWord w)
def gW : List Cond := lw_tbl.filter goodWord
theorem gW_in {w : Cond} (h : w ∈ gW) : w ∈ lwU := by
  obtain ⟨h1, h2⟩ := List.mem_filter.mp h
  exact List.mem_filter.mpr ⟨h1, by unfold useW; rw [h2]; rfl⟩
def NW (U : State) : Prop := ∀ w ∈ nW, w.before #[] U = true
theorem nW_spec {w : Cond} (hw : w ∈ nW) : w ∈ lwU ∧ ((∃ a i x h, w = .methodLinkNest a i x h) ∨ (∃ a i b n d h, w = .fieldLinkNest a i b n d h) ∨ ∃ C, w = .arrayOver (.object C)) := by
  obtain ⟨hm, hu⟩ := List.mem_filter.mp hw
  obtain ⟨h1, h2⟩ := Bool.and_eq_true_iff.mp hu
  refine ⟨List.mem_filter.mpr ⟨hm, h1⟩, ?_⟩
  have h2 : goodWord w = false := by simpa using h2
  unfold useW at h1
  rw [h2, Bool.false_or] at h1
  split at h1
  · exact Or.inl ⟨_, _, _, _, rfl⟩
  · exact Or.inr (Or.inl ⟨_, _, _, _, _, _, rfl⟩)
  · exact Or.inr (Or.inr ⟨_, rfl⟩)
  · cases h1
theorem NW.warm {args : Array Value} {s U : State} (hts : ∀ w ∈ lwU, w.before args s = true) (hW : s.WarmedH U.vm) : NW U := by
  intro w hw
  obtain ⟨hm, hk⟩ := nW_spec hw
  have hb := hts w hm
  rcases hk with ⟨a, i, x, h, rfl⟩ | ⟨a, i, b, n, d, h, rfl⟩ | ⟨C, rfl⟩
  · exact va_Nw.warmM hW (va_Nw.of rfl hb)
  · exact va_Nw.warmF hW (va_Nw.of rfl hb)
  · exact va_AO.moved hW.alike (va_AO.of hb)
theorem NW.same {u U : State} (hv : u.vm = U.vm) (h : NW u) : NW U := by
  intro w hw
  obtain ⟨hm, hk⟩ := nW_spec hw
  have hb := h w hw
  rcases hk with ⟨a, i, x, h, rfl⟩ | ⟨a, i, b, n, d, h, rfl⟩ | ⟨C, rfl⟩
  · exact va_Nw.same rfl hv hb
  · exact va_Nw.same rfl hv hb
  · exact va_AO.moved (by rw [← hv]; exact Vm.Alike.refl u.vm) hb
theorem hts_of {args : Array Value} {s : State} (h1 : ∀ w ∈ gW, w.before args s = true) (h2 : NW s) : ∀ w ∈ lwU, w.before args s = true := by
  intro w hw
  obtain ⟨hm, hu⟩ := List.mem_filter.mp hw
  cases hg : goodWord w with
  | true => exact h1 w (List.mem_filter.mpr ⟨hm, hg⟩)
  | false =>
    have hn : w ∈ nW := List.mem_filter.mpr ⟨hm, by rw [hu, hg]; rfl⟩
    have hb := h2 w hn
    obtain ⟨-, hk⟩ := nW_spec hn
    rcases hk with ⟨a, i, x, h, rfl⟩ | ⟨a, i, b, n, d, h, rfl⟩ | ⟨C, rfl⟩
    · exact va_Nw.use rfl hb
    · exact va_Nw.use rfl hb
    · exact va_AO.use hb
def wsM (j : Nat) : List Cond := Cond.code (mY j) (mB j) (mL j) (mR j) :: gW
theorem mok_spec {j : Nat} (h : j < 258) : Cond.code (mY j) (mB j) (mL j) (mR j) ∈ lwU ∧ (mS j = true → Cond.static (mY j) ∈ lwU) ∧ (mS j = false → Cond.instanceMethod (mY j) ∈ lwU) ∧ (mS j = false → (mY j).name ≠ "<init>" → Cond.selects (cN (mO j)) (mY j) (mY j) ∈ lwU) ∧ Cond.initialized (cN (mO j)) ∈ lwU ∧ (mY j).cls = cN (mO j) ∧ (mY j).cls ≠ "java/lang/invoke/MethodHandle" ∧ (mY j).cls ≠ "java/lang/invoke/VarHandle" ∧ (parseMethodDescriptor (mY j).desc).map (fun d => d.parameters.length) = some (mP j) ∧ mL j ≤ 21 := by
  have hm := mok_all j h
  unfold mok at hm
  simp only [Bool.and_eq_true, Bool.or_eq_true, decide_eq_true_eq] at hm
  obtain ⟨⟨⟨⟨⟨⟨⟨⟨⟨h1, h2⟩, h3⟩, h4⟩, h5⟩, -⟩, h6⟩, h7⟩, h8⟩, h9⟩ := hm
  refine ⟨tl_in h1, fun e => ?_, fun e => ?_, fun e e2 => ?_, tl_in h4, h5, h6, h7, h8, Nat.le_of_ble_eq_true h9⟩
  · rw [e] at h2; exact tl_in h2
  · rw [e] at h2; exact tl_in h2
  · rcases h3 with (h3 | h3) | h3
    · rw [e] at h3; cases h3
    · exact absurd h3 e2
    · exact tl_in h3
theorem good_ws {j : Nat} (hc : Cond.code (mY j) (mB j) (mL j) (mR j) ∈ lwU) : GoodIn lwU (wsM j) := fun w hw => (List.mem_cons.mp hw).elim (fun e => by subst e; exact ⟨hc, Or.inl rfl⟩) (fun h => ⟨gW_in h, good_of_word (List.mem_filter.mp h).2⟩)

