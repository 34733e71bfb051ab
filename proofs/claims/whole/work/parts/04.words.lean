/-! ===== what is asked of a method's listed code: decoding (entB, by program), words (entW) ===== -/
def lenI : Instr → Nat
  | .bipush _ => 2
  | .iload _ => 2
  | .istore _ => 2
  | .lload _ => 2
  | .lstore _ => 2
  | .aload _ => 2
  | .astore _ => 2
  | .ldc _ => 2
  | .sipush _ => 3
  | .ldc_w _ => 3
  | .ldc2_w _ => 3
  | .iinc _ _ => 3
  | .goto _ => 3
  | .ifCond _ _ => 3
  | .if_icmp _ _ => 3
  | .getfield _ => 3
  | .putfield _ => 3
  | .getstatic _ => 3
  | .invokevirtual _ => 3
  | .invokestatic _ => 3
  | _ => 1
def dcX (bs : ByteArray) (pc : Nat) (ins : Instr) (nx : Nat) : Bool := match decode bs pc with
  | .ok (i, n) => decide (i = ins) && decide (pc + n = nx)
  | .error _ => false
def exB (mL : Nat) (rt : Option FieldType) (pc : Nat) (ins : Instr) (nx a b : Nat) (l : List Nat) (v : Int32) (w : Int64) : Bool := match ins with
  | .iconst i => decide (Int32.ofInt i = v)
  | .bipush i => decide ((Int8.ofInt i).toInt32 = v)
  | .sipush i => decide ((Int16.ofInt i).toInt32 = v)
  | .lconst k => decide (Int64.ofNat k.1 = w)
  | .iinc i k => decide (Int32.ofInt k = v) && decide (i < mL)
  | .istore i => decide (i < mL)
  | .istore_n i => decide (i.1 < mL)
  | .astore i => decide (i < mL)
  | .astore_n i => decide (i.1 < mL)
  | .lstore i => decide (i + 1 < mL)
  | .lstore_n i => decide (i.1 + 1 < mL)
  | .goto o => decide ((pc : Int) + o = (b : Int))
  | .ifCond _ o => decide ((pc : Int) + o = (b : Int))
  | .if_icmp _ o => decide ((pc : Int) + o = (b : Int))
  | .tableswitch d lo hi offs => decide (lo = 0) && decide (hi + 1 = (l.length : Int)) && decide ((pc : Int) + d = (a : Int)) && decide (offs.toList.map (fun o => (pc : Int) + o) = l.map (fun z : Nat => (z : Int))) && decide (l.length < 100)
  | .ireturn => (decide (l = [1]) || decide (l = [2])) || decide (¬ rt = some .boolean)
  | .lreturn => decide (¬ rt = some .boolean)
  | .areturn => decide (¬ rt = some .boolean)
  | .return_ => decide (¬ rt = some .boolean)
  | _ => true
def entB (m : MD) (e : Ent) : Bool := match e with
  | (pc, ins, nx, a, b, l, v, w) => match ins with
    | .nop => decide (nx = pc)
    | .tableswitch d lo hi offs => dcX m.2.1 pc (.tableswitch d lo hi offs) nx && exB m.2.2.1 m.2.2.2.1 pc (.tableswitch d lo hi offs) nx a b l v w
    | i => dcX m.2.1 pc i nx && decide (nx = pc + lenI i) && exB m.2.2.1 m.2.2.2.1 pc i nx a b l v w
def contB : List Ent → Bool
  | [] => true
  | [_] => true
  | e :: e' :: r => decide (e'.1 = e.2.2.1) && contB (e' :: r)
theorem dcX_ok {bs : ByteArray} {pc nx : Nat} {ins : Instr} (h : dcX bs pc ins nx = true) : ∃ n, decode bs pc = .ok (ins, n) ∧ pc + n = nx := by
  unfold dcX at h
  split at h
  · rename_i i n heq
    simp only [Bool.and_eq_true, decide_eq_true_eq] at h
    exact ⟨n, by rw [heq, h.1], h.2⟩
  · cases h
/-- the fields of a kind of object, at their places -/
def kB (l : List Nat) (n : Nat) : Bool := match l with
  | [0] => decide (n = 0)
  | [3] => decide (n = 0)
  | [1] => decide (n = 1)
  | _ => decide (2 ≤ n)
def fldB (a b : Nat) (l : List Nat) : Bool := (List.range nC).all (fun id => !(decide (cls id = a)) || (decide (b < (shA id).2.2.length) && kB l (spc id b)))
def fieldW (own : String) (idx a b : Nat) (l : List Nat) : Prop :=
  fldB a b l = true ∧ ∃ (C : String) (T : u_T) (N : Nat), vwCl[a]? = some (C, T, N) ∧ b < N ∧ (∀ w ∈ u_ws C T N, w ∈ tg) ∧ Cond.fieldLink own idx (T b).1 (T b).2.1 (T b).2.2.1 ∈ tg ∧
    (∃ ty0 : Nat → FieldType, (∀ k, k < N → parseFieldDescriptor (T k).2.2.1 = some (ty0 k)) ∧ ∀ a, a < N → ∀ b, b < N → a ≠ b → (T a).2.1 ≠ (T b).2.1) ∧
    match l with
      | [0] => (T b).2.2.2 = false ∧ parseFieldDescriptor (T b).2.2.1 = some .int
      | [3] => (T b).2.2.2 = false ∧ parseFieldDescriptor (T b).2.2.1 = some .boolean
      | [1] => (T b).2.2.2 = false ∧ parseFieldDescriptor (T b).2.2.1 = some (.object "java/lang/String")
      | _ => True
/-- a method that can be called -/
def calleeW (a n : Nat) : Prop :=
  Cond.code (md a).1 (md a).2.1 (md a).2.2.1 (md a).2.2.2.1 ∈ tg ∧ Cond.initialized (md a).1.cls ∈ tg ∧ ((md a).1.cls ≠ "java/lang/invoke/MethodHandle" ∧ (md a).1.cls ≠ "java/lang/invoke/VarHandle") ∧ (md a).2.2.1 ≤ 40 ∧
  (parseMethodDescriptor (md a).1.desc).map (fun d => d.parameters.length) = some n ∧ plainName (md a).1.cls = true ∧ (md a).2.2.2.2.1 = (md a).1.cls ∧
  if (md a).2.2.2.2.2 = 99 then Cond.static (md a).1 ∈ tg else (Cond.instanceMethod (md a).1 ∈ tg ∧ Cond.selects (md a).1.cls (md a).1 (md a).1 ∈ tg ∧ ∃ (T : u_T) (N : Nat), vwCl[(md a).2.2.2.2.2]? = some ((md a).1.cls, T, N))
def strW (own : String) (idx q : Nat) : Prop := (own = "LargerWithin$Reader" ∧ ((idx = 26 ∧ q = 950) ∨ (idx = 100 ∧ q = 951) ∨ (idx = 106 ∧ q = 952))) ∨ (own = "LargerWithinModel" ∧ idx = 89 ∧ q = 953)
/-- a call that the machine does itself -/
def NatOk (mi a : Nat) (ins : Instr) : Prop :=
  ∀ (E : EnvX) (L t : Nat) (p : Program) (e : Env) (R : Room) (s : State) (m : MethodId) (args : Array Value) (below : List Frame) (meth : Method) (c : Code) (H : Heap) (locs : List Loc) (cells slots : Nat) (A : Nat → Prop) (Qm : State → Prop) (lsr : Array Slot) (pc : Nat) (st : List Value) (h : Hp) (k : List Value → Hp → Prop),
    CtxX E L mi t p R s m args c cells slots A → va_P (dX E) vwCl (worldX E h) H → va_S A s.heap H locs → lsr.size = (md mi).2.2.1 → decode (md mi).2.1 pc = .ok (ins, 3) →
    natX a st h k → (∀ (st' : List Value) (h' : Hp) (H' : Heap) (locs' : List Loc), k st' h' → va_P (dX E) vwCl (worldX E h') H' → va_S A s.heap H' locs' →
      W p E.2.2.2.2.2.2.1 e R s m args below meth c H' locs' cells slots Qm (F0 m (pc + 3) lsr (st'.map (rv E t)))) →
    W p E.2.2.2.2.2.2.1 e R s m args below meth c H locs cells slots Qm (F0 m pc lsr (st.map (rv E t)))
def entW (mi : Nat) (e : Ent) : Prop := match e with
  | (_, ins, _, a, b, l, v, w) => match ins with
    | .getfield i => fieldW (md mi).2.2.2.2.1 i a b l ∧ (md mi).2.2.2.2.2 = a
    | .putfield i => fieldW (md mi).2.2.2.2.1 i a b l ∧ (md mi).2.2.2.2.2 = a
    | .ldc i => match l with
      | [] => Cond.constant (md mi).2.2.2.2.1 i v ∈ tg
      | q :: _ => strW (md mi).2.2.2.2.1 i q
    | .ldc_w i => Cond.constant (md mi).2.2.2.2.1 i v ∈ tg
    | .ldc2_w i => Cond.constantLong (md mi).2.2.2.2.1 i w ∈ tg
    | .getstatic i => Cond.fieldLink (md mi).2.2.2.2.1 i "LargerWithin$Reader" (cnm a) "[I" ∈ tg ∧ 901 ≤ a ∧ a ≤ 904
    | .invokevirtual i => (Nat.ble 990 a = true → NatOk mi a (.invokevirtual i)) ∧ (Nat.ble 990 a = false → calleeW a b ∧ Cond.methodLink (md mi).2.2.2.2.1 i (md a).1 ∈ tg ∧ ¬ (md a).2.2.2.2.2 = 99)
    | .invokestatic i => (Nat.ble 990 a = true → NatOk mi a (.invokestatic i)) ∧ (Nat.ble 990 a = false → calleeW a b ∧ (Cond.methodLink (md mi).2.2.2.2.1 i (md a).1 ∈ tg ∨ ((md mi).2.2.2.2.1 = "LargerWithin$Store" ∧ i = 51 ∧ (md a).1 = ⟨"LargerWithin", "roomBy", "(III)I"⟩)) ∧ (md a).2.2.2.2.2 = 99)
    | _ => True
def KOk (mi : Nat) (cs : List Ent) : Prop := (∀ e ∈ cs, entB (md mi) e = true ∧ entW mi e) ∧ contB cs = true
theorem contB_tl {e : Ent} {r : List Ent} (h : contB (e :: r) = true) : contB r = true ∧ (r = [] ∨ hdE r = e.2.2.1) := by
  cases r with
  | nil => exact ⟨rfl, Or.inl rfl⟩
  | cons e' r =>
    simp only [contB, Bool.and_eq_true, decide_eq_true_eq] at h
    exact ⟨h.2, Or.inr h.1⟩
theorem KOk.tl {mi : Nat} {e : Ent} {r : List Ent} (h : KOk mi (e :: r)) : KOk mi r := ⟨fun x hx => h.1 x (List.mem_cons_of_mem _ hx), (contB_tl h.2).1⟩
theorem KOk_jmp {mi : Nat} {z : Nat} : ∀ {K : List Ent}, KOk mi K → KOk mi (jmp K z) := by
  intro K
  induction K with
  | nil => exact fun h => h
  | cons e r ih =>
    intro h
    unfold jmp
    split
    · exact h
    · exact ih h.tl
theorem jmp_hd (z : Nat) : ∀ K : List Ent, jmp K z = [] ∨ hdE (jmp K z) = z := by
  intro K
  induction K with
  | nil => exact Or.inl rfl
  | cons e r ih =>
    unfold jmp
    split
    · rename_i heq
      exact Or.inr (Nat.eq_of_beq_eq_true heq)
    · exact ih
theorem wpx_nil {E : EnvX} {L mi t : Nat} {K : List Ent} {Q : Value → Hp → Prop} {n : Nat} {ls : List (Option Value)} {st : List Value} {h : Hp} (hw : wpx E L mi t K Q n [] ls st h) : False := by
  cases n <;> exact hw
/-! the world's cells -/
theorem shp_len : shp.length = nC := by decide +kernel
theorem shA_lt {id : Nat} (h : ¬ akd id = 9) : id < nC := by
  rcases Nat.lt_or_ge id nC with q | q
  · exact q
  · refine absurd ?_ h
    unfold akd shA
    rw [List.getD_eq_getElem?_getD, List.getElem?_eq_none (by rw [shp_len]; exact q)]
    rfl
theorem cls_obj {id a : Nat} (h : cls id = a) (ha : a < 99) : id < nC ∧ ∃ l, shA id = (0, a, l) := by
  unfold cls at h
  rcases hs : shA id with ⟨x, y, z⟩
  rw [hs] at h
  match x, hs, h with
  | 0, hs, h => exact ⟨shA_lt (by unfold akd; rw [hs]; exact (fun e => by cases e)), z, by rw [show y = a from h]⟩
  | x + 1, hs, h => exact absurd (show 99 = a from h) (by omega)
theorem wX_at (E : EnvX) (h : Hp) {id : Nat} (hi : id < nC) : (worldX E h)[id]? = some (E.1 id, cellX E h id) := by
  unfold worldX
  rw [List.getElem?_map, List.getElem?_range hi]
  rfl
theorem wX_len (E : EnvX) (h : Hp) : (worldX E h).length = nC := by simp [worldX]
theorem cellX_congr {E : EnvX} {h h' : Hp} {j : Nat} (h1 : h'.1 j = h.1 j) (h2 : h'.2.1 j = h.2.1 j) (h3 : h'.2.2 j = h.2.2 j) : cellX E h' j = cellX E h j := by
  unfold cellX
  rcases shA j with ⟨x, y, z⟩
  match x with
  | 0 => simp only [fv, h1]
  | 1 => simp only [h2]
  | 2 => simp only [h3]
  | 3 => simp only [h2]
  | x + 4 => rfl
theorem wX_set {E : EnvX} {h h' : Hp} {id : Nat} {X : va_E} (hi : id < nC) (hX : cellX E h' id = X) (ho : ∀ j, j ≠ id → cellX E h' j = cellX E h j) : (worldX E h).set id (E.1 id, X) = worldX E h' := by
  apply List.ext_getElem?
  intro j
  rw [List.getElem?_set]
  rcases Nat.lt_or_ge j nC with q | q
  · rw [wX_at E h' q, wX_at E h q]
    by_cases hj : id = j
    · subst hj
      rw [if_pos rfl, hX, wX_len, if_pos hi]
    · rw [if_neg hj, ho j (fun e => hj e.symm)]
  · rw [if_neg (by omega)]
    rw [List.getElem?_eq_none (by rw [wX_len]; exact q), List.getElem?_eq_none (by rw [wX_len]; exact q)]
theorem vaD_of {E : EnvX} {A : Nat → Prop} (hE : EOk E) (hA : ∀ q, A1 E q → A q) (h : Hp) : va_D A (worldX E h) := by
  refine ⟨fun i j p q hi hj e => ?_, fun k q hk => ?_⟩
  · have hi' : i < nC := by rw [← wX_len E h]; exact (List.getElem?_eq_some_iff.mp hi).1
    have hj' : j < nC := by rw [← wX_len E h]; exact (List.getElem?_eq_some_iff.mp hj).1
    rw [wX_at E h hi'] at hi
    rw [wX_at E h hj'] at hj
    cases hi
    cases hj
    exact hE i j hi' hj' e
  · have hk' : k < nC := by rw [← wX_len E h]; exact (List.getElem?_eq_some_iff.mp hk).1
    rw [wX_at E h hk'] at hk
    cases hk
    exact hA _ ⟨k, hk', rfl⟩
theorem tysX_mem {E : EnvX} {id : Nat} (hi : id < nC) (h0 : ¬ akd id = 0) : ∃ t0 : Nat, (tysX E)[t0]? = some (E.2.1 id, aty id) := by
  apply List.getElem?_of_mem
  unfold tysX
  exact List.mem_map.mpr ⟨id, List.mem_filter.mpr ⟨List.mem_range.mpr hi, by simpa using h0⟩, rfl⟩
theorem arr1 {E : EnvX} {h : Hp} {id : Nat} (h1 : akd id = 1) : (worldX E h)[id]? = some (E.1 id, .inl (E.2.1 id, aln id, .inl (h.2.1 id))) ∧ ∃ t0 : Nat, (tysX E)[t0]? = some (E.2.1 id, FieldType.int) := by
  have hi : id < nC := shA_lt (by rw [h1]; decide)
  have ht := tysX_mem (E := E) hi (by rw [h1]; decide)
  rw [wX_at E h hi]
  unfold akd at h1
  unfold cellX aln
  unfold aty at ht
  rcases hs : shA id with ⟨x, y, z⟩
  rw [hs] at h1 ht
  cases (show x = 1 from h1)
  exact ⟨rfl, ht⟩
theorem arr2 {E : EnvX} {h : Hp} {id : Nat} (h1 : akd id = 2) : (worldX E h)[id]? = some (E.1 id, .inl (E.2.1 id, aln id, .inr (.inl (h.2.2 id)))) ∧ ∃ t0 : Nat, (tysX E)[t0]? = some (E.2.1 id, FieldType.long) := by
  have hi : id < nC := shA_lt (by rw [h1]; decide)
  have ht := tysX_mem (E := E) hi (by rw [h1]; decide)
  rw [wX_at E h hi]
  unfold akd at h1
  unfold cellX aln
  unfold aty at ht
  rcases hs : shA id with ⟨x, y, z⟩
  rw [hs] at h1 ht
  cases (show x = 2 from h1)
  exact ⟨rfl, ht⟩
theorem arr3 {E : EnvX} {h : Hp} {id : Nat} (h1 : akd id = 3) : (worldX E h)[id]? = some (E.1 id, .inl (E.2.1 id, aln id, .inl (h.2.1 id))) ∧ ∃ t0 : Nat, (tysX E)[t0]? = some (E.2.1 id, FieldType.boolean) := by
  have hi : id < nC := shA_lt (by rw [h1]; decide)
  have ht := tysX_mem (E := E) hi (by rw [h1]; decide)
  rw [wX_at E h hi]
  unfold akd at h1
  unfold cellX aln
  unfold aty at ht
  rcases hs : shA id with ⟨x, y, z⟩
  rw [hs] at h1 ht
  cases (show x = 3 from h1)
  exact ⟨rfl, ht⟩
theorem rty_obj (t : Nat) : ∃ C, rty t = .object C := by
  match t with
  | 0 => exact ⟨_, rfl⟩
  | 1 => exact ⟨_, rfl⟩
  | t + 2 => exact ⟨_, rfl⟩
theorem arr4 {E : EnvX} {h : Hp} {id : Nat} (h1 : akd id = 4) : (worldX E h)[id]? = some (E.1 id, .inl (E.2.1 id, aln id, .inr (.inr (.inr (.inr (fun j => ((shA id).2.2[j]?).map E.1)))))) ∧ aln id = (shA id).2.2.length ∧ ∃ (C : String) (t0 : Nat), (tysX E)[t0]? = some (E.2.1 id, FieldType.object C) := by
  have hi : id < nC := shA_lt (by rw [h1]; decide)
  have ht := tysX_mem (E := E) hi (by rw [h1]; decide)
  rw [wX_at E h hi]
  unfold akd at h1
  unfold cellX aln
  unfold aty at ht
  rcases hs : shA id with ⟨x, y, z⟩
  rw [hs] at h1 ht
  cases (show x = 4 from h1)
  obtain ⟨C, hC⟩ := rty_obj y
  have ht2 : ∃ t0 : Nat, (tysX E)[t0]? = some (E.2.1 id, rty y) := ht
  rw [hC] at ht2
  exact ⟨rfl, rfl, C, ht2⟩
theorem sA_set {E : EnvX} {h : Hp} {id k : Nat} {v : Int32} (h1 : akd id = 1 ∨ akd id = 3) : (worldX E h).set id (E.1 id, .inl (E.2.1 id, aln id, .inl (upd (h.2.1 id) k v))) = worldX E (sA h id k v) := by
  have hi : id < nC := shA_lt (by rcases h1 with q | q <;> rw [q] <;> decide)
  refine wX_set hi ?_ (fun j hj => cellX_congr rfl (if_neg hj) rfl)
  unfold akd at h1
  unfold cellX aln
  rcases hs : shA id with ⟨x, y, z⟩
  rw [hs] at h1
  rcases h1 with q | q
  · cases (show x = 1 from q)
    simp [sA]
  · cases (show x = 3 from q)
    simp [sA]
theorem sC_set {E : EnvX} {h : Hp} {r id sp dp n : Nat} (h1 : akd id = 1) : (worldX E h).set id (E.1 id, .inl (E.2.1 id, aln id, .inl (va_cpy (h.2.1 r) (h.2.1 id) sp dp n))) = worldX E (sC h r id sp dp n) := by
  have hi : id < nC := shA_lt (by rw [h1]; decide)
  refine wX_set hi ?_ (fun j hj => cellX_congr rfl (if_neg hj) rfl)
  unfold akd at h1
  unfold cellX aln
  rcases hs : shA id with ⟨x, y, z⟩
  rw [hs] at h1
  cases (show x = 1 from h1)
  simp [sC]
theorem sL_set {E : EnvX} {h : Hp} {id k : Nat} {v : Int64} (h1 : akd id = 2) : (worldX E h).set id (E.1 id, .inl (E.2.1 id, aln id, .inr (.inl (vp_updL (h.2.2 id) k v)))) = worldX E (sL h id k v) := by
  have hi : id < nC := shA_lt (by rw [h1]; decide)
  refine wX_set hi ?_ (fun j hj => cellX_congr rfl rfl (if_neg hj))
  unfold akd at h1
  unfold cellX aln
  rcases hs : shA id with ⟨x, y, z⟩
  rw [hs] at h1
  cases (show x = 2 from h1)
  simp [sL]
theorem obj_at {E : EnvX} {h : Hp} {id a : Nat} (hc : cls id = a) (ha : a < 99) : (worldX E h)[id]? = some (E.1 id, .inr (a, (List.range (shA id).2.2.length).map (fun k => fv E h id k (spc id k)))) := by
  obtain ⟨hi, l, hs⟩ := cls_obj hc ha
  rw [wX_at E h hi]
  unfold cellX spc
  rw [hs]
  rfl
theorem sI_set {E : EnvX} {h : Hp} {id a k : Nat} {v : Int32} (hc : cls id = a) (ha : a < 99) (hk : k < (shA id).2.2.length) :
    (worldX E h).set id (E.1 id, .inr (a, ((List.range (shA id).2.2.length).map (fun k => fv E h id k (spc id k))).set k (fv E (sI h id k v) id k (spc id k)))) = worldX E (sI h id k v) := by
  obtain ⟨hi, l, hs⟩ := cls_obj hc ha
  refine wX_set hi ?_ (fun j hj => cellX_congr (if_neg hj) rfl rfl)
  have e1 : cellX E (sI h id k v) id = .inr (a, (List.range (shA id).2.2.length).map (fun k' => fv E (sI h id k v) id k' (spc id k'))) := by
    unfold cellX spc
    rw [hs]
    rfl
  rw [e1]
  congr 2
  apply List.ext_getElem?
  intro j
  rw [List.getElem?_set, List.getElem?_map, List.getElem?_map]
  by_cases hj : k = j
  · subst hj
    rw [if_pos rfl, List.getElem?_range hk]
    simp [hk]
  · rw [if_neg hj]
    rcases Nat.lt_or_ge j (shA id).2.2.length with q | q
    · rw [List.getElem?_range q]
      simp only [Option.map_some, Option.some.injEq]
      unfold fv
      have e2 : (sI h id k v).1 id j = h.1 id j := by
        simp only [sI, if_pos rfl]
        exact pk_un (fun e => hj e.symm)
      rw [e2]
    · rw [List.getElem?_eq_none (by simpa using q)]
      rfl
/-! locals -/
theorem nthO_set (x : Option Value) : ∀ (ls : List (Option Value)) (i k : Nat), nthO (setO ls i x) k = if k = i then (if i < ls.length then x else none) else nthO ls k := by
  intro ls
  induction ls with
  | nil => intro i k; simp [setO, nthO]
  | cons v r ih =>
    intro i k
    cases i with
    | zero =>
      cases k with
      | zero => simp [setO, nthO]
      | succ k => simp [setO, nthO]
    | succ i =>
      cases k with
      | zero => simp [setO, nthO]
      | succ k =>
        simp only [setO, nthO, ih i k]
        by_cases hk : k = i
        · subst hk; simp
        · simp [hk]
theorem lsX_mem {E : EnvX} {t : Nat} : ∀ (ls : List (Option Value)) (b k : Nat) (w : Value), (k, w) ∈ lsX E t b ls ↔ ∃ v, b ≤ k ∧ nthO ls (k - b) = some v ∧ w = rv E t v := by
  intro ls
  induction ls with
  | nil => intro b k w; simp [lsX, nthO]
  | cons x r ih =>
    intro b k w
    have step : (∃ v, b ≤ k ∧ nthO (x :: r) (k - b) = some v ∧ w = rv E t v) ↔ ((k = b ∧ ∃ v, x = some v ∧ w = rv E t v) ∨ ∃ v, b + 1 ≤ k ∧ nthO r (k - (b + 1)) = some v ∧ w = rv E t v) := by
      constructor
      · rintro ⟨v, h1, h2, h3⟩
        rcases Nat.eq_or_lt_of_le h1 with q | q
        · subst q
          rw [Nat.sub_self] at h2
          exact Or.inl ⟨rfl, v, h2, h3⟩
        · refine Or.inr ⟨v, q, ?_, h3⟩
          rw [show k - b = (k - (b + 1)) + 1 by omega] at h2
          exact h2
      · rintro (⟨rfl, v, h2, h3⟩ | ⟨v, h1, h2, h3⟩)
        · exact ⟨v, Nat.le_refl _, by rw [Nat.sub_self]; exact h2, h3⟩
        · refine ⟨v, by omega, ?_, h3⟩
          rw [show k - b = (k - (b + 1)) + 1 by omega]
          exact h2
    rw [step]
    cases x with
    | none => rw [lsX, ih]; simp
    | some v =>
      rw [lsX, List.mem_cons, ih]
      simp
theorem lsX_mem0 {E : EnvX} {t : Nat} {ls : List (Option Value)} {k : Nat} {w : Value} : (k, w) ∈ lsX E t 0 ls ↔ ∃ v, nthO ls k = some v ∧ w = rv E t v := by
  rw [lsX_mem]
  simp
theorem lv_nth {E : EnvX} {t nL : Nat} {ls : List (Option Value)} {lsr : Array Slot} {i : Nat} {v : Value} (hl : lv_has lsr nL (lsX E t 0 ls)) (h : nthO ls i = some v) : lsr[i]? = some (.val (rv E t v)) := hl.2.2 (i, rv E t v) (lsX_mem0.mpr ⟨v, h, rfl⟩)
theorem rv_cat (E : EnvX) (t : Nat) (v : Value) : (rv E t v).category = v.category := by cases v <;> rfl
theorem lv_wk {nL : Nat} {lsr : Array Slot} {l l' : List (Nat × Value)} (hl : lv_has lsr nL l) (h : ∀ q ∈ l', q ∈ l) : lv_has lsr nL l' := ⟨hl.1, hl.2.1, fun q hq => hl.2.2 q (h q hq)⟩
theorem clrO_nth (ls : List (Option Value)) (i k : Nat) (v : Value) (h : nthO (clrO ls i) k = some v) : nthO ls k = some v ∧ (k + 1 = i → v.category ≠ 2) := by
  unfold clrO at h
  cases i with
  | zero => exact ⟨h, fun e => absurd e (by omega)⟩
  | succ j =>
    simp only at h
    split at h
    · rw [nthO_set] at h
      by_cases hk : k = j
      · subst hk
        rw [if_pos rfl] at h
        split at h <;> cases h
      · rw [if_neg hk] at h
        exact ⟨h, fun e => absurd (by omega) hk⟩
    · rw [nthO_set] at h
      by_cases hk : k = j
      · subst hk
        rw [if_pos rfl] at h
        split at h <;> cases h
      · rw [if_neg hk] at h
        exact ⟨h, fun e => absurd (by omega) hk⟩
    · rename_i hx hy
      refine ⟨h, fun e => ?_⟩
      have e2 : k = j := by omega
      subst e2
      cases v with
      | long x => exact absurd h (hx x)
      | double x => exact absurd h (hy x)
      | _ => simp [Value.category]
theorem mskO_nth (a : Nat) : ∀ (ls : List (Option Value)) (b k : Nat) (v : Value), nthO (mskO a b ls) k = some v → nthO ls k = some v := by
  intro ls
  induction ls with
  | nil => intro b k v h; exact h
  | cons x r ih =>
    intro b k v h
    cases k with
    | zero =>
      simp only [mskO, nthO] at h ⊢
      split at h
      · exact h
      · cases h
    | succ k =>
      simp only [mskO, nthO] at h ⊢
      exact ih _ _ _ h
