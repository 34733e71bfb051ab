/-! ===== the machine in small is sound: each step by the kit's row ===== -/
theorem dc3 {bs : ByteArray} {pc nx : Nat} {ins : Instr} (k : Nat) {X : Bool} (h : (dcX bs pc ins nx && decide (nx = pc + k) && X) = true) : decode bs pc = .ok (ins, k) ∧ nx = pc + k ∧ X = true := by
  simp only [Bool.and_eq_true, decide_eq_true_eq] at h
  obtain ⟨⟨h1, h2⟩, h3⟩ := h
  obtain ⟨n, h4, h5⟩ := dcX_ok h1
  have e : n = k := by omega
  subst e
  exact ⟨h4, h2, h3⟩
theorem ifX_of {b : Bool} {x y : Prop} (h : ifX b x y) : (b = true ∧ x) ∨ (b = false ∧ y) := by
  cases b
  · exact Or.inr ⟨rfl, h⟩
  · exact Or.inl ⟨rfl, h⟩
theorem lI_of {ls : List (Option Value)} {i : Nat} {k : Int32 → Prop} (h : lI ls i k) : ∃ x, nthO ls i = some (.int x) ∧ k x := by
  unfold lI at h
  split at h
  · rename_i x hx; exact ⟨x, hx, h⟩
  · cases h
theorem lJ_of {ls : List (Option Value)} {i : Nat} {k : Int64 → Prop} (h : lJ ls i k) : ∃ x, nthO ls i = some (.long x) ∧ k x := by
  unfold lJ at h
  split at h
  · rename_i x hx; exact ⟨x, hx, h⟩
  · cases h
theorem lA_of {ls : List (Option Value)} {i : Nat} {k : Value → Prop} (h : lA ls i k) : ∃ v, nthO ls i = some v ∧ ((∃ x, v = .ref x) ∨ ∃ x, v = .retAddr x) ∧ k v := by
  unfold lA at h
  split at h
  · rename_i x hx; exact ⟨_, hx, Or.inl ⟨x, rfl⟩, h⟩
  · rename_i x hx; exact ⟨_, hx, Or.inr ⟨x, rfl⟩, h⟩
  · cases h
theorem rbX_of {l : List Nat} {x : Int32} {q : Prop} (h : rbX l x q) : q ∧ ((l = [1] ∨ l = [2]) → x = 0 ∨ x = 1) := by
  unfold rbX at h
  split at h
  · exact ⟨h.2, fun _ => h.1⟩
  · rcases ifX_of h with ⟨h1, h2⟩ | ⟨-, h2⟩
    · exact ⟨h2, fun _ => by simpa using h1⟩
    · exact h2.elim
  · rename_i h1 h2
    exact ⟨h, fun e => e.elim (fun e => absurd e h1) (fun e => absurd e h2)⟩
theorem pI_of {st : List Value} {k : Int32 → List Value → Prop} (h : pI st k) : ∃ x r, st = .int x :: r ∧ k x r := by
  unfold pI at h
  split at h
  · exact ⟨_, _, rfl, h⟩
  · cases h
theorem pII_of {st : List Value} {k : Int32 → Int32 → List Value → Prop} (h : pII st k) : ∃ x y r, st = .int y :: .int x :: r ∧ k x y r := by
  unfold pII at h
  split at h
  · exact ⟨_, _, _, rfl, h⟩
  · cases h
theorem pJ_of {st : List Value} {k : Int64 → List Value → Prop} (h : pJ st k) : ∃ x r, st = .long x :: r ∧ k x r := by
  unfold pJ at h
  split at h
  · exact ⟨_, _, rfl, h⟩
  · cases h
theorem pJJ_of {st : List Value} {k : Int64 → Int64 → List Value → Prop} (h : pJJ st k) : ∃ x y r, st = .long y :: .long x :: r ∧ k x y r := by
  unfold pJJ at h
  split at h
  · exact ⟨_, _, _, rfl, h⟩
  · cases h
theorem pIJ_of {st : List Value} {k : Int64 → Int32 → List Value → Prop} (h : pIJ st k) : ∃ x y r, st = .int y :: .long x :: r ∧ k x y r := by
  unfold pIJ at h
  split at h
  · exact ⟨_, _, _, rfl, h⟩
  · cases h
theorem pR_of {st : List Value} {k : Nat → List Value → Prop} (h : pR st k) : ∃ x r, st = .ref x :: r ∧ k x r := by
  unfold pR at h
  split at h
  · exact ⟨_, _, rfl, h⟩
  · cases h
theorem pV_of {t : Nat} {st : List Value} {k : Nat → List Value → Prop} (h : pV t st k) : ∃ v x r, st = v :: r ∧ (∀ E : EnvX, rv E t v = .ref (E.1 x)) ∧ k x r := by
  unfold pV at h
  split at h
  · exact ⟨_, _, _, rfl, fun _ => rfl, h⟩
  · exact ⟨_, _, _, rfl, fun _ => rfl, h⟩
  · cases h
theorem pIR_of {st : List Value} {k : Nat → Int32 → List Value → Prop} (h : pIR st k) : ∃ a i r, st = .int i :: .ref a :: r ∧ k a i r := by
  unfold pIR at h
  split at h
  · exact ⟨_, _, _, rfl, h⟩
  · cases h
theorem pIIR_of {st : List Value} {k : Nat → Int32 → Int32 → List Value → Prop} (h : pIIR st k) : ∃ a i x r, st = .int x :: .int i :: .ref a :: r ∧ k a i x r := by
  unfold pIIR at h
  split at h
  · exact ⟨_, _, _, _, rfl, h⟩
  · cases h
theorem pJIR_of {st : List Value} {k : Nat → Int32 → Int64 → List Value → Prop} (h : pJIR st k) : ∃ a i x r, st = .long x :: .int i :: .ref a :: r ∧ k a i x r := by
  unfold pJIR at h
  split at h
  · exact ⟨_, _, _, _, rfl, h⟩
  · cases h
/-- values handed to a callee: none is 'this' -/
def noT (v : Value) : Prop := ∀ x, v ≠ .retAddr x
theorem pop_of {t : Nat} : ∀ {n : Nat} {acc st : List Value} {k : List Value → List Value → Prop}, pop t n acc st k →
    ∃ vs as rest, st = vs ++ rest ∧ as.length = n ∧ (∀ E : EnvX, (as.map (rv E t)).reverse = vs.map (rv E t)) ∧ (∀ v ∈ as, noT v) ∧ k (as ++ acc) rest := by
  intro n
  induction n with
  | zero => intro acc st k h; exact ⟨[], [], st, rfl, rfl, fun _ => rfl, by simp, h⟩
  | succ n ih =>
    intro acc st k h
    cases st with
    | nil => exact h.elim
    | cons v st =>
      have main : ∀ v', (∀ E : EnvX, rv E t v' = rv E t v) → noT v' → pop t n (v' :: acc) st k → ∃ vs as rest, v :: st = vs ++ rest ∧ as.length = n + 1 ∧ (∀ E : EnvX, (as.map (rv E t)).reverse = vs.map (rv E t)) ∧ (∀ v ∈ as, noT v) ∧ k (as ++ acc) rest := by
        intro v' hv hno hp
        obtain ⟨vs, as, rest, h1, h2, h3, h4, h5⟩ := ih hp
        refine ⟨v :: vs, as ++ [v'], rest, by rw [h1]; rfl, by simp [h2], fun E => ?_, ?_, by rw [List.append_assoc]; exact h5⟩
        · simp only [List.map_append, List.map_cons, List.map_nil, List.reverse_append, List.reverse_cons, List.reverse_nil, List.nil_append, List.cons_append, h3 E, hv E]
        · intro u hu
          rcases List.mem_append.mp hu with q | q
          · exact h4 u q
          · rw [List.mem_singleton.mp q]; exact hno
      cases v with
      | retAddr z => exact main (.ref t) (fun _ => rfl) (fun x e => by cases e) h
      | int z => exact main _ (fun _ => rfl) (fun x e => by cases e) h
      | long z => exact main _ (fun _ => rfl) (fun x e => by cases e) h
      | float z => exact main _ (fun _ => rfl) (fun x e => by cases e) h
      | double z => exact main _ (fun _ => rfl) (fun x e => by cases e) h
      | null => exact main _ (fun _ => rfl) (fun x e => by cases e) h
      | ref z => exact main _ (fun _ => rfl) (fun x e => by cases e) h
theorem rv_noT {E : EnvX} {t t' : Nat} {v : Value} (h : noT v) : rv E t v = rv E t' v := by
  cases v with
  | retAddr z => exact absurd rfl (h z)
  | _ => rfl
theorem map_noT {E : EnvX} {t t' : Nat} {as : List Value} (h : ∀ v ∈ as, noT v) : as.map (rv E t) = as.map (rv E t') := List.map_congr_left (fun v hv => rv_noT (h v hv))
theorem cats_map (E : EnvX) (t : Nat) (st : List Value) : ((st.map (rv E t)).map fun v => v.category).sum = cats st := by
  induction st with
  | nil => rfl
  | cons v r ih => simp only [List.map_cons, List.sum_cons, cats, rv_cat, ih]
theorem st1_sub {E : EnvX} {t : Nat} {ls : List (Option Value)} {i : Nat} {v : Value} : ∀ q ∈ lsX E t 0 (setO (clrO ls i) i (some v)), q ∈ (i, rv E t v) :: (lsX E t 0 ls).filter (fun q => !(q.1 == i) && !(q.1 + 1 == i && q.2.category == 2)) := by
  rintro ⟨k, w⟩ hq
  obtain ⟨u, hu, rfl⟩ := lsX_mem0.mp hq
  rw [nthO_set] at hu
  by_cases hk : k = i
  · subst hk
    rw [if_pos rfl] at hu
    split at hu
    · cases hu; exact List.mem_cons_self
    · cases hu
  · rw [if_neg hk] at hu
    obtain ⟨h1, h2⟩ := clrO_nth _ _ _ _ hu
    refine List.mem_cons_of_mem _ (List.mem_filter.mpr ⟨lsX_mem0.mpr ⟨u, h1, rfl⟩, ?_⟩)
    by_cases h3 : k + 1 = i
    · have h4 := h2 h3
      simp [hk, h3, rv_cat, h4]
    · simp [hk, h3]
theorem st2_sub {E : EnvX} {t : Nat} {ls : List (Option Value)} {i : Nat} {v : Value} : ∀ q ∈ lsX E t 0 (setO (setO (clrO ls i) i (some v)) (i + 1) none), q ∈ (i, rv E t v) :: (lsX E t 0 ls).filter (fun q => !(q.1 == i) && (!(q.1 == i + 1) && !(q.1 + 1 == i && q.2.category == 2))) := by
  rintro ⟨k, w⟩ hq
  obtain ⟨u, hu, rfl⟩ := lsX_mem0.mp hq
  rw [nthO_set] at hu
  by_cases hk1 : k = i + 1
  · subst hk1
    rw [if_pos rfl] at hu
    split at hu <;> cases hu
  · rw [if_neg hk1, nthO_set] at hu
    by_cases hk : k = i
    · subst hk
      rw [if_pos rfl] at hu
      split at hu
      · cases hu; exact List.mem_cons_self
      · cases hu
    · rw [if_neg hk] at hu
      obtain ⟨h1, h2⟩ := clrO_nth _ _ _ _ hu
      refine List.mem_cons_of_mem _ (List.mem_filter.mpr ⟨lsX_mem0.mpr ⟨u, h1, rfl⟩, ?_⟩)
      by_cases h3 : k + 1 = i
      · have h4 := h2 h3
        simp [hk, hk1, h3, rv_cat, h4]
      · simp [hk, hk1, h3]
theorem Sx.move {E : EnvX} {A : Nat → Prop} {s U : State} {H : Heap} {locs : List Loc} (h : Sx E A s) (hW : s.WarmedH U.vm) (hU : U.heap = H) (hS : va_S A s.heap H locs) (hA : ∀ q, A1 E q → A q) : Sx E (A1 E) U := by
  obtain ⟨h1, h2, h3, ⟨h4, h5, h6, h7⟩, h8, h9, h10⟩ := h
  have hvm := hW.alike
  have hk : ∀ a : Nat, a < s.heap.size → ¬ A a → U.heap[a]? = s.heap[a]? := by rw [hU]; exact hS.2.1
  refine ⟨fun a ha hb => (((h1 a ha hb).kept hk).moved hvm).narrow hA, fun a ha hb => (((h2 a ha hb).kept hk).moved hvm).narrow hA, ((h3.kept hk).moved hvm).narrow hA, ⟨h4.warm hW, h5.warm hW, h6.warm hW, h7.warm hW⟩, ((h8.kept hk).moved hvm).narrow hA, ?_, h10.warmM hW⟩
  rcases h9 with q | ⟨z, q⟩
  · exact Or.inl (((q.kept hk).moved hvm).narrow hA)
  · exact Or.inr ⟨z, ((q.kept hk).moved hvm).narrow hA⟩
theorem Sx.same {E : EnvX} {A : Nat → Prop} {u U : State} (hv : U.vm = u.vm) (hh : U.heap = u.heap) (h : Sx E A u) : Sx E A U := by
  obtain ⟨h1, h2, h3, ⟨h4, h5, h6, h7⟩, h8, h9, h10⟩ := h
  have hvm : u.vm.Alike U.vm := by rw [hv]; exact Vm.Alike.refl u.vm
  unfold Sx
  rw [hh]
  refine ⟨fun a ha hb => (h1 a ha hb).moved hvm, fun a ha hb => (h2 a ha hb).moved hvm, h3.moved hvm, ⟨h4.same hv, h5.same hv, h6.same hv, h7.same hv⟩, h8.moved hvm, ?_, h10.same rfl hv.symm⟩
  rcases h9 with q | ⟨z, q⟩
  · exact Or.inl (q.moved hvm)
  · exact Or.inr ⟨z, q.moved hvm⟩
theorem PcX_blind (E : EnvX) (t : Nat) (as : List Value) (h : Hp) : FrameBlind (PcX E t as h) := by
  intro a U g mk q
  obtain ⟨q0, q1, q2, q3⟩ := q
  exact ⟨q0, q1, va_K.moved (u := U) (U := U.calling g mk a) (Vm.Alike.refl U.vm) q2, q3.same rfl rfl⟩
theorem swX_out {k : Nat → Prop} {d : Nat} {x : Int32} : ∀ {l : List Nat} {i : Nat}, swX k d x i l → (x < 0 ∨ nI (i + l.length) ≤ x) → k d := by
  intro l
  induction l with
  | nil => intro i h hx; exact h hx
  | cons z r ih =>
    intro i h hx
    exact ih h.2 (by rw [show i + 1 + r.length = i + (z :: r).length by simp; omega]; exact hx)
theorem swX_in {k : Nat → Prop} {d : Nat} {x : Int32} : ∀ {l : List Nat} {i j z : Nat}, swX k d x i l → l[j]? = some z → x = nI (i + j) → k z := by
  intro l
  induction l with
  | nil => intro i j z h hz; simp at hz
  | cons y r ih =>
    intro i j z h hz hx
    cases j with
    | zero => simp only [List.getElem?_cons_zero, Option.some.injEq] at hz; subst hz; exact h.1 hx
    | succ j => exact ih h.2 (by simpa using hz) (by rw [hx]; congr 1; omega)
theorem fvX_ok {E : EnvX} {h : Hp} {t id b : Nat} {l : List Nat} (hk : kB l (spc id b) = true) : fv E h id b (spc id b) = rv E t (fvX h id b l) := by
  unfold fvX
  split
  · rw [of_decide_eq_true (show decide (spc id b = 0) = true from hk)]; rfl
  · rw [of_decide_eq_true (show decide (spc id b = 0) = true from hk)]; rfl
  · rw [of_decide_eq_true (show decide (spc id b = 1) = true from hk)]; rfl
  · rename_i n0 n3 n1
    unfold kB at hk
    split at hk
    · exact absurd rfl n0
    · exact absurd rfl n3
    · exact absurd rfl n1
    · have h4 := of_decide_eq_true hk
      obtain ⟨z, hz⟩ : ∃ z, spc id b = z + 2 := ⟨spc id b - 2, by omega⟩
      unfold rf
      rw [hz]
      rfl
theorem fld_at {E : EnvX} {h : Hp} {t id a b : Nat} {l : List Nat} (hf : fldB a b l = true) (hc : cls id = a) (ha : a < 99) : b < (shA id).2.2.length ∧ ((List.range (shA id).2.2.length).map (fun k => fv E h id k (spc id k)))[b]? = some (rv E t (fvX h id b l)) ∧ kB l (spc id b) = true := by
  have hi := (cls_obj hc ha).1
  have h1 := List.all_eq_true.mp hf id (List.mem_range.mpr hi)
  simp only [hc, decide_true, Bool.not_true, Bool.false_or, Bool.and_eq_true, decide_eq_true_eq] at h1
  obtain ⟨h2, h3⟩ := h1
  refine ⟨h2, ?_, h3⟩
  rw [List.getElem?_map, List.getElem?_range h2]
  simp only [Option.map_some, Option.some.injEq]
  exact fvX_ok h3
