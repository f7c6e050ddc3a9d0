/-! tallies: how many, and how near -/
abbrev VV : Type := Nat × Nat
def vop (a b : VV) : VV := (a.1 + b.1, min a.2 b.2)
def ve : VV := (0, 99)
def vmul (a b : VV) : VV := (a.1 * b.1, min 99 (a.2 + b.2))
theorem VV.ext {a b : VV} (h1 : a.1 = b.1) (h2 : a.2 = b.2) : a = b := Prod.ext h1 h2
theorem vop_comm (a b : VV) : vop a b = vop b a := VV.ext (Nat.add_comm _ _) (Nat.min_comm _ _)
theorem vop_assoc (a b c : VV) : vop (vop a b) c = vop a (vop b c) := VV.ext (Nat.add_assoc _ _ _) (Nat.min_assoc _ _ _)
theorem vop_ve {a : VV} (h : a.2 ≤ 99) : vop a ve = a := VV.ext (Nat.add_zero _) (Nat.min_eq_left h)
theorem vop_ve' {a : VV} (h : a.2 ≤ 99) : vop ve a = a := by rw [vop_comm, vop_ve h]
theorem vop_le {a b : VV} (h : a.2 ≤ 99) : (vop a b).2 ≤ 99 := Nat.le_trans (Nat.min_le_left _ _) h
theorem vmul_le (a b : VV) : (vmul a b).2 ≤ 99 := Nat.min_le_left _ _
theorem vmul_vop (a b c : VV) : vmul a (vop b c) = vop (vmul a b) (vmul a c) := by
  refine VV.ext (Nat.mul_add _ _ _) ?_
  show min 99 (a.2 + min b.2 c.2) = min (min 99 (a.2 + b.2)) (min 99 (a.2 + c.2))
  omega
theorem vmul_ve (a : VV) : vmul a ve = ve := by
  refine VV.ext (Nat.mul_zero _) ?_
  show min 99 (a.2 + 99) = 99
  omega
theorem vmul_comm (a b : VV) : vmul a b = vmul b a := by
  refine VV.ext (Nat.mul_comm _ _) ?_
  show min 99 (a.2 + b.2) = min 99 (b.2 + a.2)
  omega
theorem vmul_assoc (a b c : VV) : vmul (vmul a b) c = vmul a (vmul b c) := by
  refine VV.ext (Nat.mul_assoc _ _ _) ?_
  show min 99 (min 99 (a.2 + b.2) + c.2) = min 99 (a.2 + min 99 (b.2 + c.2))
  omega
theorem vop4 (a b c d : VV) : vop (vop a b) (vop c d) = vop (vop a c) (vop b d) := by
  rw [vop_assoc, vop_assoc, ← vop_assoc b c d, vop_comm b c, vop_assoc c b d]
theorem vop3 (a b c d e f g h i : VV) : vop (vop (vop (vop a b) c) (vop (vop d e) f)) (vop (vop g h) i) = vop (vop (vop (vop a d) g) (vop (vop b e) h)) (vop (vop c f) i) := by
  rw [vop4 (vop a b) c (vop d e) f, vop4 a b d e, vop4 (vop (vop a d) (vop b e)) (vop c f) (vop g h) i, vop4 (vop a d) (vop b e) g h]
def fdO : List Nat → (Nat → Nat) → ((Nat → Nat) → VV) → VV
  | [], r, f => f r
  | h :: t, r, f => vop (vop (fdO t (updN r h 1) f) (fdO t (updN r h 2) f)) (fdO t (updN r h 3) f)
def xt (L : List Nat) (r q : Nat → Nat) : Prop := (∀ k, k ∉ L → q k = r k) ∧ ∀ k, k ∈ L → 1 ≤ q k ∧ q k ≤ 3
theorem updN_s (r : Nat → Nat) (h c : Nat) : updN r h c h = c := if_pos rfl
theorem updN_n {r : Nat → Nat} {h c k : Nat} (e : k ≠ h) : updN r h c k = r k := if_neg e
theorem updN_comm {r : Nat → Nat} {a b c d : Nat} (h : a ≠ b) : updN (updN r a c) b d = updN (updN r b d) a c := by
  funext k
  unfold updN
  by_cases e1 : k = b
  · by_cases e2 : k = a
    · exact absurd (e2.symm.trans e1) h
    · rw [if_pos e1, if_neg e2, if_pos e1]
  · by_cases e2 : k = a
    · rw [if_neg e1, if_pos e2, if_pos e2]
    · rw [if_neg e1, if_neg e2, if_neg e2, if_neg e1]
theorem xt.up {h c : Nat} {t : List Nat} {r q : Nat → Nat} (h1 : 1 ≤ c) (h3 : c ≤ 3) (hq : xt t (updN r h c) q) : xt (h :: t) r q := by
  refine ⟨fun k hk => ?_, fun k hk => ?_⟩
  · rw [hq.1 k (fun z => hk (List.mem_cons_of_mem _ z)), updN_n (fun z => hk (by rw [z]; exact List.mem_cons_self))]
  · by_cases e : k ∈ t
    · exact hq.2 k e
    · rcases List.mem_cons.mp hk with z | z
      · rw [hq.1 k e, z, updN_s]; exact ⟨h1, h3⟩
      · exact absurd z e
theorem xt.at {h c : Nat} {t : List Nat} {r q : Nat → Nat} (hh : h ∉ t) (hq : xt t (updN r h c) q) : q h = c := by
  rw [hq.1 h hh, updN_s]
theorem fdO_cg {f g : (Nat → Nat) → VV} : ∀ (L : List Nat) (r : Nat → Nat), (∀ q, xt L r q → f q = g q) → fdO L r f = fdO L r g
  | [], r, h => h r ⟨fun _ _ => rfl, fun k hk => by cases hk⟩
  | a :: t, r, h => by
    simp only [fdO]
    rw [fdO_cg t (updN r a 1) (fun q hq => h q (hq.up (by decide) (by decide))), fdO_cg t (updN r a 2) (fun q hq => h q (hq.up (by decide) (by decide))), fdO_cg t (updN r a 3) (fun q hq => h q (hq.up (by decide) (by decide)))]
theorem fdO_ve : ∀ (L : List Nat) (r : Nat → Nat), fdO L r (fun _ => ve) = ve
  | [], r => rfl
  | a :: t, r => by
    simp only [fdO]
    rw [fdO_ve t, fdO_ve t, fdO_ve t]
    rfl
theorem fdO_z {f : (Nat → Nat) → VV} {L : List Nat} {r : Nat → Nat} (h : ∀ q, xt L r q → f q = ve) : fdO L r f = ve := (fdO_cg (g := fun _ => ve) L r h).trans (fdO_ve L r)
theorem fdO_le {f : (Nat → Nat) → VV} (h : ∀ q, (f q).2 ≤ 99) : ∀ (L : List Nat) (r : Nat → Nat), (fdO L r f).2 ≤ 99
  | [], r => h r
  | a :: t, r => vop_le (vop_le (fdO_le h t _))
theorem fdO_perm {f : (Nat → Nat) → VV} {L L' : List Nat} (h : L.Perm L') : ∀ r, fdO L r f = fdO L' r f := by
  induction h with
  | nil => intro r; rfl
  | cons a _ ih => intro r; simp only [fdO]; rw [ih, ih, ih]
  | swap a b t =>
    intro r
    by_cases e : a = b
    · rw [e]
    · simp only [fdO]
      rw [updN_comm (r := r) (a := b) (b := a) (c := 1) (d := 1) (fun z => e z.symm), updN_comm (r := r) (a := b) (b := a) (c := 1) (d := 2) (fun z => e z.symm), updN_comm (r := r) (a := b) (b := a) (c := 1) (d := 3) (fun z => e z.symm), updN_comm (r := r) (a := b) (b := a) (c := 2) (d := 1) (fun z => e z.symm), updN_comm (r := r) (a := b) (b := a) (c := 2) (d := 2) (fun z => e z.symm), updN_comm (r := r) (a := b) (b := a) (c := 2) (d := 3) (fun z => e z.symm), updN_comm (r := r) (a := b) (b := a) (c := 3) (d := 1) (fun z => e z.symm), updN_comm (r := r) (a := b) (b := a) (c := 3) (d := 2) (fun z => e z.symm), updN_comm (r := r) (a := b) (b := a) (c := 3) (d := 3) (fun z => e z.symm)]
      exact vop3 _ _ _ _ _ _ _ _ _
  | trans _ _ ih1 ih2 => intro r; rw [ih1, ih2]
theorem fdO_app {f : (Nat → Nat) → VV} (L2 : List Nat) : ∀ (L1 : List Nat) (r : Nat → Nat), fdO (L1 ++ L2) r f = fdO L1 r (fun q => fdO L2 q f)
  | [], r => rfl
  | a :: t, r => by
    simp only [List.cons_append, fdO]
    rw [fdO_app L2 t, fdO_app L2 t, fdO_app L2 t]
theorem fdO_mul {f g : (Nat → Nat) → VV} {a : VV} : ∀ (L : List Nat) (r : Nat → Nat), (∀ q, xt L r q → f q = vmul a (g q)) → fdO L r f = vmul a (fdO L r g)
  | [], r, h => h r ⟨fun _ _ => rfl, fun k hk => by cases hk⟩
  | b :: t, r, h => by
    simp only [fdO]
    rw [fdO_mul t (updN r b 1) (fun q hq => h q (hq.up (by decide) (by decide))), fdO_mul t (updN r b 2) (fun q hq => h q (hq.up (by decide) (by decide))), fdO_mul t (updN r b 3) (fun q hq => h q (hq.up (by decide) (by decide))), vmul_vop, vmul_vop]
theorem fdO_base {f : (Nat → Nat) → VV} {h c : Nat} (hf : ∀ q, f (updN q h c) = f q) : ∀ (L : List Nat) (r : Nat → Nat), h ∉ L → fdO L (updN r h c) f = fdO L r f
  | [], r, _ => hf r
  | b :: t, r, hn => by
    have hb : h ≠ b := fun z => hn (by rw [z]; exact List.mem_cons_self)
    have ht : h ∉ t := fun z => hn (List.mem_cons_of_mem _ z)
    simp only [fdO]
    rw [updN_comm hb, updN_comm hb, updN_comm hb, fdO_base hf t _ ht, fdO_base hf t _ ht, fdO_base hf t _ ht]
theorem fdO_fst {f : (Nat → Nat) → VV} : ∀ (L : List Nat) (r : Nat → Nat), (fdO L r f).1 = sumO L r (fun q => (f q).1)
  | [], r => rfl
  | a :: t, r => by
    simp only [fdO, sumO, vop]
    rw [fdO_fst t, fdO_fst t, fdO_fst t]
theorem sumO_fd {f : (Nat → Nat) → Nat} (L : List Nat) (r : Nat → Nat) : sumO L r f = (fdO L r (fun q => (f q, 0))).1 := by rw [fdO_fst]
theorem sumO_cg {f g : (Nat → Nat) → Nat} (L : List Nat) (r : Nat → Nat) (h : ∀ q, xt L r q → f q = g q) : sumO L r f = sumO L r g := by
  rw [sumO_fd, sumO_fd, fdO_cg L r (fun q hq => by rw [h q hq])]
/-! the leaves -/
def offN (w : Nat → Nat) (h c : Nat) : Nat := bif Nat.beq (w h) c then 0 else 1
def dsL (w q : Nat → Nat) : List Nat → Nat
  | [] => 0
  | h :: t => offN w h (q h) + dsL w q t
theorem offN_le (w : Nat → Nat) (h c : Nat) : offN w h c ≤ 1 := by unfold offN; cases Nat.beq (w h) c <;> decide
theorem dsL_le (w q : Nat → Nat) : ∀ L, dsL w q L ≤ L.length
  | [] => Nat.le_refl _
  | h :: t => by have := dsL_le w q t; have := offN_le w h (q h); simp only [dsL, List.length_cons]; omega
theorem dsL_app (w q : Nat → Nat) (L2 : List Nat) : ∀ L1, dsL w q (L1 ++ L2) = dsL w q L1 + dsL w q L2
  | [] => (Nat.zero_add _).symm
  | h :: t => by simp only [List.cons_append, dsL]; rw [dsL_app w q L2 t]; omega
theorem dsL_cg {w q q' : Nat → Nat} : ∀ {L : List Nat}, (∀ k, k ∈ L → q k = q' k) → dsL w q L = dsL w q' L
  | [], _ => rfl
  | h :: t, e => by simp only [dsL]; rw [e h List.mem_cons_self, dsL_cg (fun k hk => e k (List.mem_cons_of_mem _ hk))]
theorem dsL_perm {w q : Nat → Nat} {L L' : List Nat} (h : L.Perm L') : dsL w q L = dsL w q L' := by
  induction h with
  | nil => rfl
  | cons a _ ih => simp only [dsL]; rw [ih]
  | swap a b t => simp only [dsL]; omega
  | trans _ _ ih1 ih2 => rw [ih1, ih2]
/-- a list of halls that goes together -/
def Dok (U : Nat → Nat → Prop) (A : Nat → Nat → Nat → Nat → Prop) (D : List Nat) (q : Nat → Nat) : Prop := ∀ k, k ∈ D → U k (q k) ∧ ∀ j, j ∈ D → A j k (q j) (q k)
def mkP (U : Nat → Nat → Prop) (A : Nat → Nat → Nat → Nat → Prop) (D : List Nat) (r : Nat → Nat) (k c : Nat) : Prop := U k c ∧ ∀ j, j ∈ D → A j k (r j) c
section DOK
variable {U : Nat → Nat → Prop} {A : Nat → Nat → Nat → Nat → Prop}
theorem Dok.sn (hsym : ∀ h k c d, A h k c d → A k h d c) (hrf : ∀ h c d, A h h c d) {D : List Nat} {h : Nat} {q : Nat → Nat} : Dok U A (D ++ [h]) q ↔ Dok U A D q ∧ mkP U A D q h (q h) := by
  constructor
  · intro z
    exact ⟨fun k hk => ⟨(z k (List.mem_append_left _ hk)).1, fun j hj => (z k (List.mem_append_left _ hk)).2 j (List.mem_append_left _ hj)⟩, (z h (List.mem_append_right _ List.mem_cons_self)).1, fun j hj => (z h (List.mem_append_right _ List.mem_cons_self)).2 j (List.mem_append_left _ hj)⟩
  · rintro ⟨z1, z2, z3⟩ k hk
    rcases List.mem_append.mp hk with a | a
    · refine ⟨(z1 k a).1, fun j hj => ?_⟩
      rcases List.mem_append.mp hj with b | b
      · exact (z1 k a).2 j b
      · rw [List.mem_singleton.mp b]; exact hsym _ _ _ _ (z3 k a)
    · rw [List.mem_singleton.mp a]
      refine ⟨z2, fun j hj => ?_⟩
      rcases List.mem_append.mp hj with b | b
      · exact z3 j b
      · rw [List.mem_singleton.mp b]; exact hrf _ _ _
theorem Dok.cg {D : List Nat} {q r : Nat → Nat} (e : ∀ k, k ∈ D → q k = r k) : Dok U A D q ↔ Dok U A D r := by
  constructor
  · intro z k hk
    rw [← e k hk]
    exact ⟨(z k hk).1, fun j hj => by rw [← e j hj]; exact (z k hk).2 j hj⟩
  · intro z k hk
    rw [e k hk]
    exact ⟨(z k hk).1, fun j hj => by rw [e j hj]; exact (z k hk).2 j hj⟩
theorem Dok.pm {D D' : List Nat} (h : ∀ k, k ∈ D ↔ k ∈ D') {q : Nat → Nat} : Dok U A D q ↔ Dok U A D' q := by
  constructor
  · intro z k hk
    exact ⟨(z k ((h k).mpr hk)).1, fun j hj => (z k ((h k).mpr hk)).2 j ((h j).mpr hj)⟩
  · intro z k hk
    exact ⟨(z k ((h k).mp hk)).1, fun j hj => (z k ((h k).mp hk)).2 j ((h j).mp hj)⟩
theorem mkP.cg {D : List Nat} {q r : Nat → Nat} {k c : Nat} (e : ∀ j, j ∈ D → q j = r j) : mkP U A D q k c ↔ mkP U A D r k c := by
  constructor
  · rintro ⟨z1, z2⟩; exact ⟨z1, fun j hj => by rw [← e j hj]; exact z2 j hj⟩
  · rintro ⟨z1, z2⟩; exact ⟨z1, fun j hj => by rw [e j hj]; exact z2 j hj⟩
theorem mkP.sn {D : List Nat} {q : Nat → Nat} {h k c : Nat} : mkP U A (D ++ [h]) q k c ↔ mkP U A D q k c ∧ A h k (q h) c := by
  constructor
  · rintro ⟨z1, z2⟩
    exact ⟨⟨z1, fun j hj => z2 j (List.mem_append_left _ hj)⟩, z2 h (List.mem_append_right _ List.mem_cons_self)⟩
  · rintro ⟨⟨z1, z2⟩, z3⟩
    refine ⟨z1, fun j hj => ?_⟩
    rcases List.mem_append.mp hj with b | b
    · exact z2 j b
    · rw [List.mem_singleton.mp b]; exact z3
theorem Dok.pc {q : Nat → Nat} (hsym : ∀ h k c d, A h k c d → A k h d c) (hrf : ∀ h c d, A h h c d) (hr : ∀ k, k < 12 → 1 ≤ q k ∧ q k ≤ 3) : Dok U A all12 q ↔ PCn U A 4095 12 q := by
  constructor
  · intro z k hk _
    exact ⟨(hr k hk).1, (hr k hk).2, (z k ((mem12 k).mpr hk)).1, fun j hj _ => (z k ((mem12 k).mpr hk)).2 j ((mem12 j).mpr (by omega))⟩
  · intro z k hk
    have hk := (mem12 k).mp hk
    refine ⟨(z k hk (t4095 k hk)).2.2.1, fun j hj => ?_⟩
    have hj := (mem12 j).mp hj
    rcases Nat.lt_trichotomy j k with a | a | a
    · exact (z k hk (t4095 k hk)).2.2.2 j a (t4095 j hj)
    · rw [a]; exact hrf _ _ _
    · exact hsym _ _ _ _ ((z j hj (t4095 j hj)).2.2.2 k a (t4095 k hk))
end DOK
noncomputable def lfW (U : Nat → Nat → Prop) (A : Nat → Nat → Nat → Nat → Prop) (w q : Nat → Nat) : VV := bif bP (Dok U A all12 q) then (1, dsL w q all12) else ve
noncomputable def TV (U : Nat → Nat → Prop) (A : Nat → Nat → Nat → Nat → Prop) (w : Nat → Nat) : VV := fdO all12 (fun _ => 1) (lfW U A w)
theorem lfW_t {U : Nat → Nat → Prop} {A : Nat → Nat → Nat → Nat → Prop} {w q : Nat → Nat} (h : Dok U A all12 q) : lfW U A w q = (1, dsL w q all12) := by unfold lfW; rw [bP_t h]; rfl
theorem lfW_f {U : Nat → Nat → Prop} {A : Nat → Nat → Nat → Nat → Prop} {w q : Nat → Nat} (h : ¬ Dok U A all12 q) : lfW U A w q = ve := by unfold lfW; rw [bP_f h]; rfl
theorem lfW_le (U : Nat → Nat → Prop) (A : Nat → Nat → Nat → Nat → Prop) (w q : Nat → Nat) : (lfW U A w q).2 ≤ 99 := by
  by_cases h : Dok U A all12 q
  · rw [lfW_t h]
    have : dsL w q all12 ≤ 12 := dsL_le w q all12
    show dsL w q all12 ≤ 99
    omega
  · rw [lfW_f h]; exact Nat.le_refl _
theorem AD_rf {n s : Nat} {K P : Nat → Nat} {tb : Nat → Nat → Nat} (hW : LW n K P tb) (h c d : Nat) : AD n K tb s tt2 h h c d := fun l i _ hl _ hp hi => ⟨fun e1 e2 => absurd (e1.trans e2.symm) (fab_ne _ (hW.2 l hl).1 hp i hi), fun e1 e2 => absurd (e1.trans e2.symm) (fab_ne _ (hW.2 l hl).1 hp i hi)⟩
theorem xt12 {q : Nat → Nat} (h : xt all12 (fun _ => 1) q) : ∀ k, k < 12 → 1 ≤ q k ∧ q k ≤ 3 := fun k hk => h.2 k ((mem12 k).mpr hk)
theorem TV_cnt {n s : Nat} {K P : Nat → Nat} {tb : Nat → Nat → Nat} (hW : LW n K P tb) (w : Nat → Nat) : (TV (UD n K tb s tt2) (AD n K tb s tt2) w).1 = cntS n K tb s := by
  unfold TV cntS
  rw [fdO_fst]
  apply sumO_cg
  intro q hq
  have hr := xt12 hq
  have e : Dok (UD n K tb s tt2) (AD n K tb s tt2) all12 q ↔ fitsS n K tb s q := by
    rw [Dok.pc (fun h k c d => AD_sym h k c d) (fun h c d => AD_rf hW h c d) hr, sol_iff hW]
    exact ⟨fun z => z.2, fun z => ⟨hr, z⟩⟩
  by_cases h : fitsS n K tb s q
  · rw [lfW_t (e.mpr h), chi_t h]
  · rw [lfW_f (fun z => h (e.mp z)), chi_f h]; rfl
