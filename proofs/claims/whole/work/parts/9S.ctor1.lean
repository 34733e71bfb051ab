/-! ===== the small constructors (printed by wip/gen/ctor.py) ===== -/
def yk_Store : MethodName := ⟨"LargerWithin$Store", "<init>", "()V"⟩
abbrev bk_Store : ByteArray := prog_11_method_1_code
def wk_Store : List Cond := .code yk_Store bk_Store 1 none :: tg
theorem dk_Store_0 : decode bk_Store 0 = .ok (.aload_n 0, 1) := by decide +kernel
theorem dk_Store_1 : decode bk_Store 1 = .ok (.invokespecial 3, 3) := by decide +kernel
theorem dk_Store_4 : decode bk_Store 4 = .ok (.aload_n 0, 1) := by decide +kernel
theorem dk_Store_5 : decode bk_Store 5 = .ok (.sipush 168, 3) := by decide +kernel
theorem dk_Store_8 : decode bk_Store 8 = .ok (.newarray .int, 2) := by decide +kernel
theorem dk_Store_10 : decode bk_Store 10 = .ok (.putfield 9, 3) := by decide +kernel
theorem dk_Store_13 : decode bk_Store 13 = .ok (.return_, 1) := by decide +kernel
set_option maxHeartbeats 8000000 in
set_option maxRecDepth 100000 in
theorem c_Store (l : Launch) (dC : Nat → ClassId) (dI : Nat → Nat → Nat) (h0 : Nat) (sz : Nat) : Met l yk_Store wk_Store ({ frames := 3, cells := 1, slots := 168, locals := 100 }) (va_Pc [.ref h0] (fun U => U.heap.size = sz ∧ va_P (dC, dI) vwCl [(h0, .inr (9, [.null, .int 0, .int 0]))] U.heap ∧ va_K (dC, dI) vwCl [] U ∧ va_D (fun _ => True) [(h0, .inr (9, [.null, .int 0, .int 0]))])) (va_Qv (fun _ : Unit => True) (fun _ t => ∃ (q1 : Nat), ∃ (k2 : ClassId), va_P (dC, dI) vwCl [(h0, .inr (9, [.ref q1, .int 0, .int 0])), (q1, .inl (k2, 168, .inl (fun _ => 0)))] t.heap ∧ va_K (dC, dI) vwCl [(k2, .int)] t ∧ va_D (va_A [(h0, .inr (9, [.null, .int 0, .int 0]))] sz) [(h0, .inr (9, [.ref q1, .int 0, .int 0])), (q1, .inl (k2, 168, .inl (fun _ => 0)))]) (va_A [(h0, .inr (9, [.null, .int 0, .int 0]))] sz)) 1 168 (va_A [(h0, .inr (9, [.null, .int 0, .int 0]))] sz) := by
  refine Met.ofW (cc := bk_Store) (maxL := 1) (ret := none) (by decide) rfl ?_
  intro p e s m args below meth c s₁ B hml hv
  obtain ⟨rfl, hsz, hP, hK, hD0⟩ := hv
  have hx := B.exec
  have hb := B.bytes
  have hr := B.returns
  have hts : ∀ w ∈ tg, w.before _ s = true := fun w hw => atoms_spec (ws := wk_Store) B.pre w (List.mem_cons_of_mem _ hw)
  have hown : s.vm.findClass "LargerWithin$Store" = some m.cls := findClass_of_methodNamed B.named
  have hlocks := B.notSynchronized
  have hin : meth.name = "<init>" := (name_of_methodNamed B.named B.method).1
  subst hsz
  have hD := hD0.self (sz := s.heap.size)
  generalize hAe : va_A [(h0, .inr (9, [.null, .int 0, .int 0]))] s.heap.size = A at hD ⊢
  have hA : ∀ q : Nat, s.heap.size ≤ q → A q := fun q h => by rw [← hAe]; exact Or.inr h
  have hS : va_S A s.heap s.heap [] := va_S.rf
  have hl := lv_entry ([.ref h0]) (n := 1) (Nat.le_of_ble_eq_true rfl)
  rw [lg_entry_eq]
  generalize (lg_sl ([.ref h0]) ++ List.replicate (1 - (lg_sl ([.ref h0])).length) Slot.unset).toArray = ls at hl ⊢
  have hl : lv_has ls 1 [(0, .ref h0)] := hl
  refine lv_aload_n hx hb dk_Store_0 rfl (lv_at hl 0 rfl) ?_
  refine W.objInit hx hb hown (hts _ (tmC1 (List.mem_of_getElem? (i := 35) rfl) rfl)) (hts _ (tmC1 (List.mem_of_getElem? (i := 28) rfl) rfl)) (hts _ (tmC1 (List.mem_of_getElem? (i := 29) rfl) rfl)) rfl (by rw [hml]; exact hl.1) rfl dk_Store_1 (Nat.le_of_ble_eq_true rfl) (Nat.le_of_ble_eq_true rfl) ?_
  refine W.eq (g2 := F0 m 4 ls []) rfl ?_
  refine lv_aload_n hx hb dk_Store_4 rfl (lv_at hl 0 rfl) ?_
  refine lv_sipush (v := 168) hx hb dk_Store_5 (by decide) ?_
  refine va_newa (atype := .int) (ty := .int) (N' := 168) (a0 := (168, .inl (fun _ => 0))) hx hb (hts _ (tmC1 (List.mem_of_getElem? (i := 46) rfl) rfl)) rfl hK hP hD hS hA (fun _ => rfl) (by decide) (by decide) (by decide) (Nat.le_of_ble_eq_true rfl) (Nat.le_of_ble_eq_true rfl) dk_Store_8 (fun q1 k2 H hK hP hD hS => ?_)
  have hP : va_P (dC, dI) vwCl [(h0, .inr (9, [.null, .int 0, .int 0])), (q1, .inl (k2, 168, .inl (fun _ => 0)))] H := hP
  have hD : va_D A [(h0, .inr (9, [.null, .int 0, .int 0])), (q1, .inl (k2, 168, .inl (fun _ => 0)))] := hD
  have hK : va_K (dC, dI) vwCl [(k2, .int)] s := hK
  refine W.widen (k := 1) (n := 168) (by decide) (by decide) ?_
  refine va_putF (D := (dC, dI)) (ci := 9) (v := .ref q1) (ty := (.array .int)) (C := RX9) (T := TX9) (N := 3) hx hb hts inX9 tyX9 tyX9_ok nmX9 hown hK hP hD hS 0 rfl rfl 0 (by decide) (hts _ (tmC1 (List.mem_of_getElem? (i := 36) rfl) rfl)) (fun _ h9 => h9) rfl hin rfl (by decide +kernel) rfl rfl (Nat.le_of_ble_eq_true rfl) dk_Store_10 (fun H locs hP hD hS => ?_)
  have hP : va_P (dC, dI) vwCl [(h0, .inr (9, [.ref q1, .int 0, .int 0])), (q1, .inl (k2, 168, .inl (fun _ => 0)))] H := hP
  have hD : va_D A [(h0, .inr (9, [.ref q1, .int 0, .int 0])), (q1, .inl (k2, 168, .inl (fun _ => 0)))] := hD
  exact W.vret hx hb hr (fun t ht hW => ⟨⟨(), rfl, trivial, q1, k2, by rw [ht]; exact hP, va_K.moved hW.alike hK, hD⟩, hS.F ht⟩) hS.2.2 dk_Store_13
def yk_Row : MethodName := ⟨"LargerWithin$Row", "<init>", "()V"⟩
abbrev bk_Row : ByteArray := prog_9_method_1_code
def wk_Row : List Cond := .code yk_Row bk_Row 1 none :: tg
theorem dk_Row_0 : decode bk_Row 0 = .ok (.aload_n 0, 1) := by decide +kernel
theorem dk_Row_1 : decode bk_Row 1 = .ok (.invokespecial 3, 3) := by decide +kernel
theorem dk_Row_4 : decode bk_Row 4 = .ok (.aload_n 0, 1) := by decide +kernel
theorem dk_Row_5 : decode bk_Row 5 = .ok (.bipush 40, 2) := by decide +kernel
theorem dk_Row_7 : decode bk_Row 7 = .ok (.newarray .long, 2) := by decide +kernel
theorem dk_Row_9 : decode bk_Row 9 = .ok (.putfield 9, 3) := by decide +kernel
theorem dk_Row_12 : decode bk_Row 12 = .ok (.aload_n 0, 1) := by decide +kernel
theorem dk_Row_13 : decode bk_Row 13 = .ok (.iconst (-1), 1) := by decide +kernel
theorem dk_Row_14 : decode bk_Row 14 = .ok (.putfield 15, 3) := by decide +kernel
theorem dk_Row_17 : decode bk_Row 17 = .ok (.return_, 1) := by decide +kernel
set_option maxHeartbeats 8000000 in
set_option maxRecDepth 100000 in
theorem c_Row (l : Launch) (dC : Nat → ClassId) (dI : Nat → Nat → Nat) (h0 : Nat) (sz : Nat) : Met l yk_Row wk_Row ({ frames := 3, cells := 1, slots := 40, locals := 100 }) (va_Pc [.ref h0] (fun U => U.heap.size = sz ∧ va_P (dC, dI) vwCl [(h0, .inr (7, [.null, .int 0, .int 0]))] U.heap ∧ va_K (dC, dI) vwCl [] U ∧ va_D (fun _ => True) [(h0, .inr (7, [.null, .int 0, .int 0]))])) (va_Qv (fun _ : Unit => True) (fun _ t => ∃ (q1 : Nat), ∃ (k2 : ClassId), va_P (dC, dI) vwCl [(h0, .inr (7, [.ref q1, .int 0, .int (-1)])), (q1, .inl (k2, 40, .inr (.inl (fun _ => 0))))] t.heap ∧ va_K (dC, dI) vwCl [(k2, .long)] t ∧ va_D (va_A [(h0, .inr (7, [.null, .int 0, .int 0]))] sz) [(h0, .inr (7, [.ref q1, .int 0, .int (-1)])), (q1, .inl (k2, 40, .inr (.inl (fun _ => 0))))]) (va_A [(h0, .inr (7, [.null, .int 0, .int 0]))] sz)) 1 40 (va_A [(h0, .inr (7, [.null, .int 0, .int 0]))] sz) := by
  refine Met.ofW (cc := bk_Row) (maxL := 1) (ret := none) (by decide) rfl ?_
  intro p e s m args below meth c s₁ B hml hv
  obtain ⟨rfl, hsz, hP, hK, hD0⟩ := hv
  have hx := B.exec
  have hb := B.bytes
  have hr := B.returns
  have hts : ∀ w ∈ tg, w.before _ s = true := fun w hw => atoms_spec (ws := wk_Row) B.pre w (List.mem_cons_of_mem _ hw)
  have hown : s.vm.findClass "LargerWithin$Row" = some m.cls := findClass_of_methodNamed B.named
  have hlocks := B.notSynchronized
  have hin : meth.name = "<init>" := (name_of_methodNamed B.named B.method).1
  subst hsz
  have hD := hD0.self (sz := s.heap.size)
  generalize hAe : va_A [(h0, .inr (7, [.null, .int 0, .int 0]))] s.heap.size = A at hD ⊢
  have hA : ∀ q : Nat, s.heap.size ≤ q → A q := fun q h => by rw [← hAe]; exact Or.inr h
  have hS : va_S A s.heap s.heap [] := va_S.rf
  have hl := lv_entry ([.ref h0]) (n := 1) (Nat.le_of_ble_eq_true rfl)
  rw [lg_entry_eq]
  generalize (lg_sl ([.ref h0]) ++ List.replicate (1 - (lg_sl ([.ref h0])).length) Slot.unset).toArray = ls at hl ⊢
  have hl : lv_has ls 1 [(0, .ref h0)] := hl
  refine lv_aload_n hx hb dk_Row_0 rfl (lv_at hl 0 rfl) ?_
  refine W.objInit hx hb hown (hts _ (tmC1 (List.mem_of_getElem? (i := 116) rfl) rfl)) (hts _ (tmC1 (List.mem_of_getElem? (i := 28) rfl) rfl)) (hts _ (tmC1 (List.mem_of_getElem? (i := 29) rfl) rfl)) rfl (by rw [hml]; exact hl.1) rfl dk_Row_1 (Nat.le_of_ble_eq_true rfl) (Nat.le_of_ble_eq_true rfl) ?_
  refine W.eq (g2 := F0 m 4 ls []) rfl ?_
  refine lv_aload_n hx hb dk_Row_4 rfl (lv_at hl 0 rfl) ?_
  refine lv_bipush (v := 40) hx hb dk_Row_5 (by decide) ?_
  refine va_newa (atype := .long) (ty := .long) (N' := 40) (a0 := (40, .inr (.inl (fun _ => 0)))) hx hb (hts _ (tmC1 (List.mem_of_getElem? (i := 127) rfl) rfl)) rfl hK hP hD hS hA (fun _ => rfl) (by decide) (by decide) (by decide) (Nat.le_of_ble_eq_true rfl) (Nat.le_of_ble_eq_true rfl) dk_Row_7 (fun q1 k2 H hK hP hD hS => ?_)
  have hP : va_P (dC, dI) vwCl [(h0, .inr (7, [.null, .int 0, .int 0])), (q1, .inl (k2, 40, .inr (.inl (fun _ => 0))))] H := hP
  have hD : va_D A [(h0, .inr (7, [.null, .int 0, .int 0])), (q1, .inl (k2, 40, .inr (.inl (fun _ => 0))))] := hD
  have hK : va_K (dC, dI) vwCl [(k2, .long)] s := hK
  refine W.widen (k := 1) (n := 40) (by decide) (by decide) ?_
  refine va_putF (D := (dC, dI)) (ci := 7) (v := .ref q1) (ty := (.array .long)) (C := RX7) (T := TX7) (N := 3) hx hb hts inX7 tyX7 tyX7_ok nmX7 hown hK hP hD hS 0 rfl rfl 0 (by decide) (hts _ (tmC1 (List.mem_of_getElem? (i := 117) rfl) rfl)) (fun _ h9 => h9) rfl hin rfl (by decide +kernel) rfl rfl (Nat.le_of_ble_eq_true rfl) dk_Row_9 (fun H locs hP hD hS => ?_)
  have hP : va_P (dC, dI) vwCl [(h0, .inr (7, [.ref q1, .int 0, .int 0])), (q1, .inl (k2, 40, .inr (.inl (fun _ => 0))))] H := hP
  have hD : va_D A [(h0, .inr (7, [.ref q1, .int 0, .int 0])), (q1, .inl (k2, 40, .inr (.inl (fun _ => 0))))] := hD
  refine lv_aload_n hx hb dk_Row_12 rfl (lv_at hl 0 rfl) ?_
  refine lv_iconst (v := (-1)) hx hb dk_Row_13 (by decide) ?_
  refine va_put (D := (dC, dI)) (ci := 7) (v := .int (-1)) (ty := .int) (C := RX7) (T := TX7) (N := 3) hx hb hts inX7 tyX7 tyX7_ok nmX7 hown hK hP hD hS 0 rfl rfl 2 (by decide) (hts _ (tmC1 (List.mem_of_getElem? (i := 119) rfl) rfl)) (fun _ h9 => h9) rfl (by decide +kernel) rfl rfl (Nat.le_of_ble_eq_true rfl) dk_Row_14 (fun H locs hP hD hS => ?_)
  have hP : va_P (dC, dI) vwCl [(h0, .inr (7, [.ref q1, .int 0, .int (-1)])), (q1, .inl (k2, 40, .inr (.inl (fun _ => 0))))] H := hP
  have hD : va_D A [(h0, .inr (7, [.ref q1, .int 0, .int (-1)])), (q1, .inl (k2, 40, .inr (.inl (fun _ => 0))))] := hD
  exact W.vret hx hb hr (fun t ht hW => ⟨⟨(), rfl, trivial, q1, k2, by rw [ht]; exact hP, va_K.moved hW.alike hK, hD⟩, hS.F ht⟩) hS.2.2 dk_Row_17
def yk_Layout : MethodName := ⟨"LargerWithin$Layout", "<init>", "(LLargerWithin$Store;)V"⟩
abbrev bk_Layout : ByteArray := prog_4_method_1_code
def wk_Layout : List Cond := .code yk_Layout bk_Layout 2 none :: tg
theorem dk_Layout_0 : decode bk_Layout 0 = .ok (.aload_n 0, 1) := by decide +kernel
theorem dk_Layout_1 : decode bk_Layout 1 = .ok (.invokespecial 3, 3) := by decide +kernel
theorem dk_Layout_4 : decode bk_Layout 4 = .ok (.aload_n 0, 1) := by decide +kernel
theorem dk_Layout_5 : decode bk_Layout 5 = .ok (.bipush 24, 2) := by decide +kernel
theorem dk_Layout_7 : decode bk_Layout 7 = .ok (.newarray .int, 2) := by decide +kernel
theorem dk_Layout_9 : decode bk_Layout 9 = .ok (.putfield 9, 3) := by decide +kernel
theorem dk_Layout_12 : decode bk_Layout 12 = .ok (.aload_n 0, 1) := by decide +kernel
theorem dk_Layout_13 : decode bk_Layout 13 = .ok (.bipush 24, 2) := by decide +kernel
theorem dk_Layout_15 : decode bk_Layout 15 = .ok (.newarray .int, 2) := by decide +kernel
theorem dk_Layout_17 : decode bk_Layout 17 = .ok (.putfield 15, 3) := by decide +kernel
theorem dk_Layout_20 : decode bk_Layout 20 = .ok (.aload_n 0, 1) := by decide +kernel
theorem dk_Layout_21 : decode bk_Layout 21 = .ok (.aload_n 1, 1) := by decide +kernel
theorem dk_Layout_22 : decode bk_Layout 22 = .ok (.putfield 18, 3) := by decide +kernel
theorem dk_Layout_25 : decode bk_Layout 25 = .ok (.aload_n 0, 1) := by decide +kernel
theorem dk_Layout_26 : decode bk_Layout 26 = .ok (.getfield 9, 3) := by decide +kernel
theorem dk_Layout_29 : decode bk_Layout 29 = .ok (.iconst (-1), 1) := by decide +kernel
theorem dk_Layout_30 : decode bk_Layout 30 = .ok (.invokestatic 22, 3) := by decide +kernel
theorem dk_Layout_33 : decode bk_Layout 33 = .ok (.return_, 1) := by decide +kernel
set_option maxHeartbeats 8000000 in
set_option maxRecDepth 100000 in
theorem c_Layout (l : Launch) (dC : Nat → ClassId) (dI : Nat → Nat → Nat) (h0 : Nat) (a1 : Nat) (sz : Nat) : Met l yk_Layout wk_Layout ({ frames := 3, cells := 2, slots := 48, locals := 100 }) (va_Pc [.ref h0, .ref a1] (fun U => U.heap.size = sz ∧ va_P (dC, dI) vwCl [(h0, .inr (2, [.null, .null, .null, .int 0]))] U.heap ∧ va_K (dC, dI) vwCl [] U ∧ va_D (fun _ => True) [(h0, .inr (2, [.null, .null, .null, .int 0]))])) (va_Qv (fun _ : Unit => True) (fun _ t => ∃ (q1 : Nat), ∃ (k2 : ClassId), ∃ (q3 : Nat), ∃ (k4 : ClassId), ∃ (f5 : Nat → Int32), (∀ j, j < 24 → f5 j = (-1)) ∧ va_P (dC, dI) vwCl [(h0, .inr (2, [.ref a1, .ref q1, .ref q3, .int 0])), (q3, .inl (k4, 24, .inl (fun _ => 0))), (q1, .inl (k2, 24, .inl f5))] t.heap ∧ va_K (dC, dI) vwCl [(k2, .int), (k4, .int)] t ∧ va_D (va_A [(h0, .inr (2, [.null, .null, .null, .int 0]))] sz) [(h0, .inr (2, [.ref a1, .ref q1, .ref q3, .int 0])), (q3, .inl (k4, 24, .inl (fun _ => 0))), (q1, .inl (k2, 24, .inl f5))]) (va_A [(h0, .inr (2, [.null, .null, .null, .int 0]))] sz)) 2 48 (va_A [(h0, .inr (2, [.null, .null, .null, .int 0]))] sz) := by
  refine Met.ofW (cc := bk_Layout) (maxL := 2) (ret := none) (by decide) rfl ?_
  intro p e s m args below meth c s₁ B hml hv
  obtain ⟨rfl, hsz, hP, hK, hD0⟩ := hv
  have hx := B.exec
  have hb := B.bytes
  have hr := B.returns
  have hts : ∀ w ∈ tg, w.before _ s = true := fun w hw => atoms_spec (ws := wk_Layout) B.pre w (List.mem_cons_of_mem _ hw)
  have hown : s.vm.findClass "LargerWithin$Layout" = some m.cls := findClass_of_methodNamed B.named
  have hlocks := B.notSynchronized
  have hin : meth.name = "<init>" := (name_of_methodNamed B.named B.method).1
  subst hsz
  have hD := hD0.self (sz := s.heap.size)
  generalize hAe : va_A [(h0, .inr (2, [.null, .null, .null, .int 0]))] s.heap.size = A at hD ⊢
  have hA : ∀ q : Nat, s.heap.size ≤ q → A q := fun q h => by rw [← hAe]; exact Or.inr h
  have hS : va_S A s.heap s.heap [] := va_S.rf
  have hl := lv_entry ([.ref h0, .ref a1]) (n := 2) (Nat.le_of_ble_eq_true rfl)
  rw [lg_entry_eq]
  generalize (lg_sl ([.ref h0, .ref a1]) ++ List.replicate (2 - (lg_sl ([.ref h0, .ref a1])).length) Slot.unset).toArray = ls at hl ⊢
  have hl : lv_has ls 2 [(0, .ref h0), (1, .ref a1)] := hl
  refine lv_aload_n hx hb dk_Layout_0 rfl (lv_at hl 0 rfl) ?_
  refine W.objInit hx hb hown (hts _ (tmC1 (List.mem_of_getElem? (i := 52) rfl) rfl)) (hts _ (tmC1 (List.mem_of_getElem? (i := 28) rfl) rfl)) (hts _ (tmC1 (List.mem_of_getElem? (i := 29) rfl) rfl)) rfl (by rw [hml]; exact hl.1) rfl dk_Layout_1 (Nat.le_of_ble_eq_true rfl) (Nat.le_of_ble_eq_true rfl) ?_
  refine W.eq (g2 := F0 m 4 ls []) rfl ?_
  refine lv_aload_n hx hb dk_Layout_4 rfl (lv_at hl 0 rfl) ?_
  refine lv_bipush (v := 24) hx hb dk_Layout_5 (by decide) ?_
  refine va_newa (atype := .int) (ty := .int) (N' := 24) (a0 := (24, .inl (fun _ => 0))) hx hb (hts _ (tmC1 (List.mem_of_getElem? (i := 46) rfl) rfl)) rfl hK hP hD hS hA (fun _ => rfl) (by decide) (by decide) (by decide) (Nat.le_of_ble_eq_true rfl) (Nat.le_of_ble_eq_true rfl) dk_Layout_7 (fun q1 k2 H hK hP hD hS => ?_)
  have hP : va_P (dC, dI) vwCl [(h0, .inr (2, [.null, .null, .null, .int 0])), (q1, .inl (k2, 24, .inl (fun _ => 0)))] H := hP
  have hD : va_D A [(h0, .inr (2, [.null, .null, .null, .int 0])), (q1, .inl (k2, 24, .inl (fun _ => 0)))] := hD
  have hK : va_K (dC, dI) vwCl [(k2, .int)] s := hK
  refine W.widen (k := 1) (n := 24) (by decide) (by decide) ?_
  refine va_putF (D := (dC, dI)) (ci := 2) (v := .ref q1) (ty := (.array .int)) (C := RX2) (T := TX2) (N := 4) hx hb hts inX2 tyX2 tyX2_ok nmX2 hown hK hP hD hS 0 rfl rfl 1 (by decide) (hts _ (tmC1 (List.mem_of_getElem? (i := 57) rfl) rfl)) (fun _ h9 => h9) rfl hin rfl (by decide +kernel) rfl rfl (Nat.le_of_ble_eq_true rfl) dk_Layout_9 (fun H locs hP hD hS => ?_)
  have hP : va_P (dC, dI) vwCl [(h0, .inr (2, [.null, .ref q1, .null, .int 0])), (q1, .inl (k2, 24, .inl (fun _ => 0)))] H := hP
  have hD : va_D A [(h0, .inr (2, [.null, .ref q1, .null, .int 0])), (q1, .inl (k2, 24, .inl (fun _ => 0)))] := hD
  refine lv_aload_n hx hb dk_Layout_12 rfl (lv_at hl 0 rfl) ?_
  refine lv_bipush (v := 24) hx hb dk_Layout_13 (by decide) ?_
  refine va_newa (atype := .int) (ty := .int) (N' := 24) (a0 := (24, .inl (fun _ => 0))) hx hb (hts _ (tmC1 (List.mem_of_getElem? (i := 46) rfl) rfl)) rfl hK hP hD hS hA (fun _ => rfl) (by decide) (by decide) (by decide) (Nat.le_of_ble_eq_true rfl) (Nat.le_of_ble_eq_true rfl) dk_Layout_15 (fun q3 k4 H hK hP hD hS => ?_)
  have hP : va_P (dC, dI) vwCl [(h0, .inr (2, [.null, .ref q1, .null, .int 0])), (q1, .inl (k2, 24, .inl (fun _ => 0))), (q3, .inl (k4, 24, .inl (fun _ => 0)))] H := hP
  have hD : va_D A [(h0, .inr (2, [.null, .ref q1, .null, .int 0])), (q1, .inl (k2, 24, .inl (fun _ => 0))), (q3, .inl (k4, 24, .inl (fun _ => 0)))] := hD
  have hK : va_K (dC, dI) vwCl [(k2, .int), (k4, .int)] s := hK
  refine W.widen (k := 2) (n := 48) (by decide) (by decide) ?_
  refine va_putF (D := (dC, dI)) (ci := 2) (v := .ref q3) (ty := (.array .int)) (C := RX2) (T := TX2) (N := 4) hx hb hts inX2 tyX2 tyX2_ok nmX2 hown hK hP hD hS 0 rfl rfl 2 (by decide) (hts _ (tmC1 (List.mem_of_getElem? (i := 58) rfl) rfl)) (fun _ h9 => h9) rfl hin rfl (by decide +kernel) rfl rfl (Nat.le_of_ble_eq_true rfl) dk_Layout_17 (fun H locs hP hD hS => ?_)
  have hP : va_P (dC, dI) vwCl [(h0, .inr (2, [.null, .ref q1, .ref q3, .int 0])), (q1, .inl (k2, 24, .inl (fun _ => 0))), (q3, .inl (k4, 24, .inl (fun _ => 0)))] H := hP
  have hD : va_D A [(h0, .inr (2, [.null, .ref q1, .ref q3, .int 0])), (q1, .inl (k2, 24, .inl (fun _ => 0))), (q3, .inl (k4, 24, .inl (fun _ => 0)))] := hD
  refine lv_aload_n hx hb dk_Layout_20 rfl (lv_at hl 0 rfl) ?_
  refine lv_aload_n hx hb dk_Layout_21 rfl (lv_at hl 1 rfl) ?_
  refine va_putF (D := (dC, dI)) (ci := 2) (v := .ref a1) (ty := (.object "LargerWithin$Store")) (C := RX2) (T := TX2) (N := 4) hx hb hts inX2 tyX2 tyX2_ok nmX2 hown hK hP hD hS 0 rfl rfl 0 (by decide) (hts _ (tmC1 (List.mem_of_getElem? (i := 56) rfl) rfl)) (fun _ h9 => h9) rfl hin rfl (by decide +kernel) rfl rfl (Nat.le_of_ble_eq_true rfl) dk_Layout_22 (fun H locs hP hD hS => ?_)
  have hP : va_P (dC, dI) vwCl [(h0, .inr (2, [.ref a1, .ref q1, .ref q3, .int 0])), (q1, .inl (k2, 24, .inl (fun _ => 0))), (q3, .inl (k4, 24, .inl (fun _ => 0)))] H := hP
  have hD : va_D A [(h0, .inr (2, [.ref a1, .ref q1, .ref q3, .int 0])), (q1, .inl (k2, 24, .inl (fun _ => 0))), (q3, .inl (k4, 24, .inl (fun _ => 0)))] := hD
  refine lv_aload_n hx hb dk_Layout_25 rfl (lv_at hl 0 rfl) ?_
  refine va_get (D := (dC, dI)) (C := RX2) (T := TX2) (N := 4) hx hb hts inX2 hown hK hP 0 rfl rfl 1 (by decide) (hts _ (tmC1 (List.mem_of_getElem? (i := 57) rfl) rfl)) (fun _ h9 => h9) rfl dk_Layout_26 ?_
  refine lv_iconst (v := (-1)) hx hb dk_Layout_29 (by decide) ?_
  have hPc := hP.sub (ws' := [(q1, .inl (k2, 24, .inl (fun _ => 0)))]) [1] rfl
  have hDc := hD.sub (ws' := [(q1, .inl (k2, 24, .inl (fun _ => 0)))]) [1] (by decide) rfl
  have hKc := hK.sub (tys' := [(k2, .int)]) [0] rfl
  have hFc := va_free (wc := [(q1, .inl (k2, 24, .inl (fun _ => 0)))]) hD hS hA [1] rfl
  refine va_callv (va_runS (As := [.ref q1, .int (-1)]) (rest := []) ⟨hx, hb, hml, hown, hts⟩ (c_fill l dC dI q1 H.size 24 k2 (fun _ => 0) (-1) (by decide)) ⟨callB_of 2 hts (goodC (tmC1 (List.mem_of_getElem? (i := 55) rfl) rfl)) rfl rfl rfl (hts _ (tmC1 (List.mem_of_getElem? (i := 4) rfl) rfl)) (hts _ (tmC1 (List.mem_of_getElem? (i := 53) rfl) rfl)) (by decide +kernel) ⟨Nat.le_of_ble_eq_true rfl, Nat.le_of_ble_eq_true rfl⟩, (hts _ (tmC1 (List.mem_of_getElem? (i := 54) rfl) rfl))⟩ ⟨fun a U g mk q => by obtain ⟨q0, q1, qP, qK, qD⟩ := q; exact ⟨q0, q1, qP, va_K.moved (u := U) (U := U.calling g mk a) (Vm.Alike.refl U.vm) qK, qD⟩, fun U hU hW => ⟨rfl, by rw [hU], by rw [hU]; exact hPc, va_K.moved hW.alike hKc, hDc.weaken (fun _ _ _ _ => trivial)⟩⟩ rfl rfl hl.1 rfl (lv_room (Nat.le_of_ble_eq_true rfl)) dk_Layout_30 ⟨Nat.le_of_ble_eq_true rfl, Nat.le_of_ble_eq_true rfl⟩) hS (fun q _ h => hFc q h) hFc (fun f5 t H1 locs ht hvm hw hB hz1 hk1 hS => ?_)
  obtain ⟨hP1, hK1, hD1⟩ := hB
  rw [ht] at hP1
  obtain ⟨hP, hD⟩ := va_join (wr := [(h0, .inr (2, [.ref a1, .ref q1, .ref q3, .int 0])), (q3, .inl (k4, 24, .inl (fun _ => 0)))]) (w1 := [(q1, .inl (k2, 24, .inl f5))]) hP hD [1] [0, 2] rfl rfl (by decide) (by decide) hk1 hFc hP1 hD1
  generalize H1 = H at hP hS ⊢
  have hP : va_P (dC, dI) vwCl [(h0, .inr (2, [.ref a1, .ref q1, .ref q3, .int 0])), (q3, .inl (k4, 24, .inl (fun _ => 0))), (q1, .inl (k2, 24, .inl f5))] H := hP
  have hD : va_D A [(h0, .inr (2, [.ref a1, .ref q1, .ref q3, .int 0])), (q3, .inl (k4, 24, .inl (fun _ => 0))), (q1, .inl (k2, 24, .inl f5))] := hD
  have hf6 := hw
  exact W.vret hx hb hr (fun t ht hW => ⟨⟨(), rfl, trivial, q1, k2, q3, k4, f5, hf6, by rw [ht]; exact hP, va_K.moved hW.alike hK, hD⟩, hS.F ht⟩) hS.2.2 dk_Layout_33
def yk_Chest : MethodName := ⟨"LargerWithin$Chest", "<init>", "(LLargerWithin$Picked;)V"⟩
abbrev bk_Chest : ByteArray := prog_2_method_1_code
def wk_Chest : List Cond := .code yk_Chest bk_Chest 2 none :: tg
theorem dk_Chest_0 : decode bk_Chest 0 = .ok (.aload_n 0, 1) := by decide +kernel
theorem dk_Chest_1 : decode bk_Chest 1 = .ok (.invokespecial 3, 3) := by decide +kernel
theorem dk_Chest_4 : decode bk_Chest 4 = .ok (.aload_n 0, 1) := by decide +kernel
theorem dk_Chest_5 : decode bk_Chest 5 = .ok (.bipush 12, 2) := by decide +kernel
theorem dk_Chest_7 : decode bk_Chest 7 = .ok (.newarray .int, 2) := by decide +kernel
theorem dk_Chest_9 : decode bk_Chest 9 = .ok (.putfield 11, 3) := by decide +kernel
theorem dk_Chest_12 : decode bk_Chest 12 = .ok (.aload_n 0, 1) := by decide +kernel
theorem dk_Chest_13 : decode bk_Chest 13 = .ok (.bipush 12, 2) := by decide +kernel
theorem dk_Chest_15 : decode bk_Chest 15 = .ok (.newarray .int, 2) := by decide +kernel
theorem dk_Chest_17 : decode bk_Chest 17 = .ok (.putfield 15, 3) := by decide +kernel
theorem dk_Chest_20 : decode bk_Chest 20 = .ok (.aload_n 0, 1) := by decide +kernel
theorem dk_Chest_21 : decode bk_Chest 21 = .ok (.bipush 12, 2) := by decide +kernel
theorem dk_Chest_23 : decode bk_Chest 23 = .ok (.newarray .int, 2) := by decide +kernel
theorem dk_Chest_25 : decode bk_Chest 25 = .ok (.putfield 18, 3) := by decide +kernel
theorem dk_Chest_28 : decode bk_Chest 28 = .ok (.aload_n 0, 1) := by decide +kernel
theorem dk_Chest_29 : decode bk_Chest 29 = .ok (.sipush 4096, 3) := by decide +kernel
theorem dk_Chest_32 : decode bk_Chest 32 = .ok (.newarray .int, 2) := by decide +kernel
theorem dk_Chest_34 : decode bk_Chest 34 = .ok (.putfield 21, 3) := by decide +kernel
theorem dk_Chest_37 : decode bk_Chest 37 = .ok (.aload_n 0, 1) := by decide +kernel
theorem dk_Chest_38 : decode bk_Chest 38 = .ok (.aload_n 1, 1) := by decide +kernel
theorem dk_Chest_39 : decode bk_Chest 39 = .ok (.putfield 24, 3) := by decide +kernel
theorem dk_Chest_42 : decode bk_Chest 42 = .ok (.return_, 1) := by decide +kernel
set_option maxHeartbeats 8000000 in
set_option maxRecDepth 100000 in
theorem c_Chest (l : Launch) (dC : Nat → ClassId) (dI : Nat → Nat → Nat) (h0 : Nat) (a1 : Nat) (sz : Nat) : Met l yk_Chest wk_Chest ({ frames := 3, cells := 4, slots := 4132, locals := 100 }) (va_Pc [.ref h0, .ref a1] (fun U => U.heap.size = sz ∧ va_P (dC, dI) vwCl [(h0, .inr (0, [.null, .null, .null, .null, .null, .int 0, .int 0, .int 0]))] U.heap ∧ va_K (dC, dI) vwCl [] U ∧ va_D (fun _ => True) [(h0, .inr (0, [.null, .null, .null, .null, .null, .int 0, .int 0, .int 0]))])) (va_Qv (fun _ : Unit => True) (fun _ t => ∃ (q1 : Nat), ∃ (k2 : ClassId), ∃ (q3 : Nat), ∃ (k4 : ClassId), ∃ (q5 : Nat), ∃ (k6 : ClassId), ∃ (q7 : Nat), ∃ (k8 : ClassId), va_P (dC, dI) vwCl [(h0, .inr (0, [.ref a1, .ref q1, .ref q3, .ref q5, .ref q7, .int 0, .int 0, .int 0])), (q1, .inl (k2, 12, .inl (fun _ => 0))), (q3, .inl (k4, 12, .inl (fun _ => 0))), (q5, .inl (k6, 12, .inl (fun _ => 0))), (q7, .inl (k8, 4096, .inl (fun _ => 0)))] t.heap ∧ va_K (dC, dI) vwCl [(k2, .int), (k4, .int), (k6, .int), (k8, .int)] t ∧ va_D (va_A [(h0, .inr (0, [.null, .null, .null, .null, .null, .int 0, .int 0, .int 0]))] sz) [(h0, .inr (0, [.ref a1, .ref q1, .ref q3, .ref q5, .ref q7, .int 0, .int 0, .int 0])), (q1, .inl (k2, 12, .inl (fun _ => 0))), (q3, .inl (k4, 12, .inl (fun _ => 0))), (q5, .inl (k6, 12, .inl (fun _ => 0))), (q7, .inl (k8, 4096, .inl (fun _ => 0)))]) (va_A [(h0, .inr (0, [.null, .null, .null, .null, .null, .int 0, .int 0, .int 0]))] sz)) 4 4132 (va_A [(h0, .inr (0, [.null, .null, .null, .null, .null, .int 0, .int 0, .int 0]))] sz) := by
  refine Met.ofW (cc := bk_Chest) (maxL := 2) (ret := none) (by decide) rfl ?_
  intro p e s m args below meth c s₁ B hml hv
  obtain ⟨rfl, hsz, hP, hK, hD0⟩ := hv
  have hx := B.exec
  have hb := B.bytes
  have hr := B.returns
  have hts : ∀ w ∈ tg, w.before _ s = true := fun w hw => atoms_spec (ws := wk_Chest) B.pre w (List.mem_cons_of_mem _ hw)
  have hown : s.vm.findClass "LargerWithin$Chest" = some m.cls := findClass_of_methodNamed B.named
  have hlocks := B.notSynchronized
  have hin : meth.name = "<init>" := (name_of_methodNamed B.named B.method).1
  subst hsz
  have hD := hD0.self (sz := s.heap.size)
  generalize hAe : va_A [(h0, .inr (0, [.null, .null, .null, .null, .null, .int 0, .int 0, .int 0]))] s.heap.size = A at hD ⊢
  have hA : ∀ q : Nat, s.heap.size ≤ q → A q := fun q h => by rw [← hAe]; exact Or.inr h
  have hS : va_S A s.heap s.heap [] := va_S.rf
  have hl := lv_entry ([.ref h0, .ref a1]) (n := 2) (Nat.le_of_ble_eq_true rfl)
  rw [lg_entry_eq]
  generalize (lg_sl ([.ref h0, .ref a1]) ++ List.replicate (2 - (lg_sl ([.ref h0, .ref a1])).length) Slot.unset).toArray = ls at hl ⊢
  have hl : lv_has ls 2 [(0, .ref h0), (1, .ref a1)] := hl
  refine lv_aload_n hx hb dk_Chest_0 rfl (lv_at hl 0 rfl) ?_
  refine W.objInit hx hb hown (hts _ (tmC2 (List.mem_of_getElem? (i := 19) rfl) rfl)) (hts _ (tmC1 (List.mem_of_getElem? (i := 28) rfl) rfl)) (hts _ (tmC1 (List.mem_of_getElem? (i := 29) rfl) rfl)) rfl (by rw [hml]; exact hl.1) rfl dk_Chest_1 (Nat.le_of_ble_eq_true rfl) (Nat.le_of_ble_eq_true rfl) ?_
  refine W.eq (g2 := F0 m 4 ls []) rfl ?_
  refine lv_aload_n hx hb dk_Chest_4 rfl (lv_at hl 0 rfl) ?_
  refine lv_bipush (v := 12) hx hb dk_Chest_5 (by decide) ?_
  refine va_newa (atype := .int) (ty := .int) (N' := 12) (a0 := (12, .inl (fun _ => 0))) hx hb (hts _ (tmC1 (List.mem_of_getElem? (i := 46) rfl) rfl)) rfl hK hP hD hS hA (fun _ => rfl) (by decide) (by decide) (by decide) (Nat.le_of_ble_eq_true rfl) (Nat.le_of_ble_eq_true rfl) dk_Chest_7 (fun q1 k2 H hK hP hD hS => ?_)
  have hP : va_P (dC, dI) vwCl [(h0, .inr (0, [.null, .null, .null, .null, .null, .int 0, .int 0, .int 0])), (q1, .inl (k2, 12, .inl (fun _ => 0)))] H := hP
  have hD : va_D A [(h0, .inr (0, [.null, .null, .null, .null, .null, .int 0, .int 0, .int 0])), (q1, .inl (k2, 12, .inl (fun _ => 0)))] := hD
  have hK : va_K (dC, dI) vwCl [(k2, .int)] s := hK
  refine W.widen (k := 1) (n := 12) (by decide) (by decide) ?_
  refine va_putF (D := (dC, dI)) (ci := 0) (v := .ref q1) (ty := (.array .int)) (C := RX0) (T := TX0) (N := 8) hx hb hts inX0 tyX0 tyX0_ok nmX0 hown hK hP hD hS 0 rfl rfl 1 (by decide) (hts _ (tmC2 (List.mem_of_getElem? (i := 21) rfl) rfl)) (fun _ h9 => h9) rfl hin rfl (by decide +kernel) rfl rfl (Nat.le_of_ble_eq_true rfl) dk_Chest_9 (fun H locs hP hD hS => ?_)
  have hP : va_P (dC, dI) vwCl [(h0, .inr (0, [.null, .ref q1, .null, .null, .null, .int 0, .int 0, .int 0])), (q1, .inl (k2, 12, .inl (fun _ => 0)))] H := hP
  have hD : va_D A [(h0, .inr (0, [.null, .ref q1, .null, .null, .null, .int 0, .int 0, .int 0])), (q1, .inl (k2, 12, .inl (fun _ => 0)))] := hD
  refine lv_aload_n hx hb dk_Chest_12 rfl (lv_at hl 0 rfl) ?_
  refine lv_bipush (v := 12) hx hb dk_Chest_13 (by decide) ?_
  refine va_newa (atype := .int) (ty := .int) (N' := 12) (a0 := (12, .inl (fun _ => 0))) hx hb (hts _ (tmC1 (List.mem_of_getElem? (i := 46) rfl) rfl)) rfl hK hP hD hS hA (fun _ => rfl) (by decide) (by decide) (by decide) (Nat.le_of_ble_eq_true rfl) (Nat.le_of_ble_eq_true rfl) dk_Chest_15 (fun q3 k4 H hK hP hD hS => ?_)
  have hP : va_P (dC, dI) vwCl [(h0, .inr (0, [.null, .ref q1, .null, .null, .null, .int 0, .int 0, .int 0])), (q1, .inl (k2, 12, .inl (fun _ => 0))), (q3, .inl (k4, 12, .inl (fun _ => 0)))] H := hP
  have hD : va_D A [(h0, .inr (0, [.null, .ref q1, .null, .null, .null, .int 0, .int 0, .int 0])), (q1, .inl (k2, 12, .inl (fun _ => 0))), (q3, .inl (k4, 12, .inl (fun _ => 0)))] := hD
  have hK : va_K (dC, dI) vwCl [(k2, .int), (k4, .int)] s := hK
  refine W.widen (k := 2) (n := 24) (by decide) (by decide) ?_
  refine va_putF (D := (dC, dI)) (ci := 0) (v := .ref q3) (ty := (.array .int)) (C := RX0) (T := TX0) (N := 8) hx hb hts inX0 tyX0 tyX0_ok nmX0 hown hK hP hD hS 0 rfl rfl 2 (by decide) (hts _ (tmC2 (List.mem_of_getElem? (i := 22) rfl) rfl)) (fun _ h9 => h9) rfl hin rfl (by decide +kernel) rfl rfl (Nat.le_of_ble_eq_true rfl) dk_Chest_17 (fun H locs hP hD hS => ?_)
  have hP : va_P (dC, dI) vwCl [(h0, .inr (0, [.null, .ref q1, .ref q3, .null, .null, .int 0, .int 0, .int 0])), (q1, .inl (k2, 12, .inl (fun _ => 0))), (q3, .inl (k4, 12, .inl (fun _ => 0)))] H := hP
  have hD : va_D A [(h0, .inr (0, [.null, .ref q1, .ref q3, .null, .null, .int 0, .int 0, .int 0])), (q1, .inl (k2, 12, .inl (fun _ => 0))), (q3, .inl (k4, 12, .inl (fun _ => 0)))] := hD
  refine lv_aload_n hx hb dk_Chest_20 rfl (lv_at hl 0 rfl) ?_
  refine lv_bipush (v := 12) hx hb dk_Chest_21 (by decide) ?_
  refine va_newa (atype := .int) (ty := .int) (N' := 12) (a0 := (12, .inl (fun _ => 0))) hx hb (hts _ (tmC1 (List.mem_of_getElem? (i := 46) rfl) rfl)) rfl hK hP hD hS hA (fun _ => rfl) (by decide) (by decide) (by decide) (Nat.le_of_ble_eq_true rfl) (Nat.le_of_ble_eq_true rfl) dk_Chest_23 (fun q5 k6 H hK hP hD hS => ?_)
  have hP : va_P (dC, dI) vwCl [(h0, .inr (0, [.null, .ref q1, .ref q3, .null, .null, .int 0, .int 0, .int 0])), (q1, .inl (k2, 12, .inl (fun _ => 0))), (q3, .inl (k4, 12, .inl (fun _ => 0))), (q5, .inl (k6, 12, .inl (fun _ => 0)))] H := hP
  have hD : va_D A [(h0, .inr (0, [.null, .ref q1, .ref q3, .null, .null, .int 0, .int 0, .int 0])), (q1, .inl (k2, 12, .inl (fun _ => 0))), (q3, .inl (k4, 12, .inl (fun _ => 0))), (q5, .inl (k6, 12, .inl (fun _ => 0)))] := hD
  have hK : va_K (dC, dI) vwCl [(k2, .int), (k4, .int), (k6, .int)] s := hK
  refine W.widen (k := 3) (n := 36) (by decide) (by decide) ?_
  refine va_putF (D := (dC, dI)) (ci := 0) (v := .ref q5) (ty := (.array .int)) (C := RX0) (T := TX0) (N := 8) hx hb hts inX0 tyX0 tyX0_ok nmX0 hown hK hP hD hS 0 rfl rfl 3 (by decide) (hts _ (tmC2 (List.mem_of_getElem? (i := 23) rfl) rfl)) (fun _ h9 => h9) rfl hin rfl (by decide +kernel) rfl rfl (Nat.le_of_ble_eq_true rfl) dk_Chest_25 (fun H locs hP hD hS => ?_)
  have hP : va_P (dC, dI) vwCl [(h0, .inr (0, [.null, .ref q1, .ref q3, .ref q5, .null, .int 0, .int 0, .int 0])), (q1, .inl (k2, 12, .inl (fun _ => 0))), (q3, .inl (k4, 12, .inl (fun _ => 0))), (q5, .inl (k6, 12, .inl (fun _ => 0)))] H := hP
  have hD : va_D A [(h0, .inr (0, [.null, .ref q1, .ref q3, .ref q5, .null, .int 0, .int 0, .int 0])), (q1, .inl (k2, 12, .inl (fun _ => 0))), (q3, .inl (k4, 12, .inl (fun _ => 0))), (q5, .inl (k6, 12, .inl (fun _ => 0)))] := hD
  refine lv_aload_n hx hb dk_Chest_28 rfl (lv_at hl 0 rfl) ?_
  refine lv_sipush (v := 4096) hx hb dk_Chest_29 (by decide) ?_
  refine va_newa (atype := .int) (ty := .int) (N' := 4096) (a0 := (4096, .inl (fun _ => 0))) hx hb (hts _ (tmC1 (List.mem_of_getElem? (i := 46) rfl) rfl)) rfl hK hP hD hS hA (fun _ => rfl) (by decide) (by decide) (by decide) (Nat.le_of_ble_eq_true rfl) (Nat.le_of_ble_eq_true rfl) dk_Chest_32 (fun q7 k8 H hK hP hD hS => ?_)
  have hP : va_P (dC, dI) vwCl [(h0, .inr (0, [.null, .ref q1, .ref q3, .ref q5, .null, .int 0, .int 0, .int 0])), (q1, .inl (k2, 12, .inl (fun _ => 0))), (q3, .inl (k4, 12, .inl (fun _ => 0))), (q5, .inl (k6, 12, .inl (fun _ => 0))), (q7, .inl (k8, 4096, .inl (fun _ => 0)))] H := hP
  have hD : va_D A [(h0, .inr (0, [.null, .ref q1, .ref q3, .ref q5, .null, .int 0, .int 0, .int 0])), (q1, .inl (k2, 12, .inl (fun _ => 0))), (q3, .inl (k4, 12, .inl (fun _ => 0))), (q5, .inl (k6, 12, .inl (fun _ => 0))), (q7, .inl (k8, 4096, .inl (fun _ => 0)))] := hD
  have hK : va_K (dC, dI) vwCl [(k2, .int), (k4, .int), (k6, .int), (k8, .int)] s := hK
  refine W.widen (k := 4) (n := 4132) (by decide) (by decide) ?_
  refine va_putF (D := (dC, dI)) (ci := 0) (v := .ref q7) (ty := (.array .int)) (C := RX0) (T := TX0) (N := 8) hx hb hts inX0 tyX0 tyX0_ok nmX0 hown hK hP hD hS 0 rfl rfl 4 (by decide) (hts _ (tmC2 (List.mem_of_getElem? (i := 24) rfl) rfl)) (fun _ h9 => h9) rfl hin rfl (by decide +kernel) rfl rfl (Nat.le_of_ble_eq_true rfl) dk_Chest_34 (fun H locs hP hD hS => ?_)
  have hP : va_P (dC, dI) vwCl [(h0, .inr (0, [.null, .ref q1, .ref q3, .ref q5, .ref q7, .int 0, .int 0, .int 0])), (q1, .inl (k2, 12, .inl (fun _ => 0))), (q3, .inl (k4, 12, .inl (fun _ => 0))), (q5, .inl (k6, 12, .inl (fun _ => 0))), (q7, .inl (k8, 4096, .inl (fun _ => 0)))] H := hP
  have hD : va_D A [(h0, .inr (0, [.null, .ref q1, .ref q3, .ref q5, .ref q7, .int 0, .int 0, .int 0])), (q1, .inl (k2, 12, .inl (fun _ => 0))), (q3, .inl (k4, 12, .inl (fun _ => 0))), (q5, .inl (k6, 12, .inl (fun _ => 0))), (q7, .inl (k8, 4096, .inl (fun _ => 0)))] := hD
  refine lv_aload_n hx hb dk_Chest_37 rfl (lv_at hl 0 rfl) ?_
  refine lv_aload_n hx hb dk_Chest_38 rfl (lv_at hl 1 rfl) ?_
  refine va_putF (D := (dC, dI)) (ci := 0) (v := .ref a1) (ty := (.object "LargerWithin$Picked")) (C := RX0) (T := TX0) (N := 8) hx hb hts inX0 tyX0 tyX0_ok nmX0 hown hK hP hD hS 0 rfl rfl 0 (by decide) (hts _ (tmC2 (List.mem_of_getElem? (i := 20) rfl) rfl)) (fun _ h9 => h9) rfl hin rfl (by decide +kernel) rfl rfl (Nat.le_of_ble_eq_true rfl) dk_Chest_39 (fun H locs hP hD hS => ?_)
  have hP : va_P (dC, dI) vwCl [(h0, .inr (0, [.ref a1, .ref q1, .ref q3, .ref q5, .ref q7, .int 0, .int 0, .int 0])), (q1, .inl (k2, 12, .inl (fun _ => 0))), (q3, .inl (k4, 12, .inl (fun _ => 0))), (q5, .inl (k6, 12, .inl (fun _ => 0))), (q7, .inl (k8, 4096, .inl (fun _ => 0)))] H := hP
  have hD : va_D A [(h0, .inr (0, [.ref a1, .ref q1, .ref q3, .ref q5, .ref q7, .int 0, .int 0, .int 0])), (q1, .inl (k2, 12, .inl (fun _ => 0))), (q3, .inl (k4, 12, .inl (fun _ => 0))), (q5, .inl (k6, 12, .inl (fun _ => 0))), (q7, .inl (k8, 4096, .inl (fun _ => 0)))] := hD
  exact W.vret hx hb hr (fun t ht hW => ⟨⟨(), rfl, trivial, q1, k2, q3, k4, q5, k6, q7, k8, by rw [ht]; exact hP, va_K.moved hW.alike hK, hD⟩, hS.F ht⟩) hS.2.2 dk_Chest_42
def yk_Household : MethodName := ⟨"LargerWithin$Household", "<init>", "(LLargerWithin$Store;LLargerWithin$Picked;)V"⟩
abbrev bk_Household : ByteArray := prog_3_method_1_code
def wk_Household : List Cond := .code yk_Household bk_Household 3 none :: tg
theorem dk_Household_0 : decode bk_Household 0 = .ok (.aload_n 0, 1) := by decide +kernel
theorem dk_Household_1 : decode bk_Household 1 = .ok (.invokespecial 3, 3) := by decide +kernel
theorem dk_Household_4 : decode bk_Household 4 = .ok (.aload_n 0, 1) := by decide +kernel
theorem dk_Household_5 : decode bk_Household 5 = .ok (.sipush 1024, 3) := by decide +kernel
theorem dk_Household_8 : decode bk_Household 8 = .ok (.newarray .int, 2) := by decide +kernel
theorem dk_Household_10 : decode bk_Household 10 = .ok (.putfield 11, 3) := by decide +kernel
theorem dk_Household_13 : decode bk_Household 13 = .ok (.aload_n 0, 1) := by decide +kernel
theorem dk_Household_14 : decode bk_Household 14 = .ok (.sipush 1024, 3) := by decide +kernel
theorem dk_Household_17 : decode bk_Household 17 = .ok (.newarray .int, 2) := by decide +kernel
theorem dk_Household_19 : decode bk_Household 19 = .ok (.putfield 15, 3) := by decide +kernel
theorem dk_Household_22 : decode bk_Household 22 = .ok (.aload_n 0, 1) := by decide +kernel
theorem dk_Household_23 : decode bk_Household 23 = .ok (.sipush 1024, 3) := by decide +kernel
theorem dk_Household_26 : decode bk_Household 26 = .ok (.newarray .int, 2) := by decide +kernel
theorem dk_Household_28 : decode bk_Household 28 = .ok (.putfield 18, 3) := by decide +kernel
theorem dk_Household_31 : decode bk_Household 31 = .ok (.aload_n 0, 1) := by decide +kernel
theorem dk_Household_32 : decode bk_Household 32 = .ok (.bipush 8, 2) := by decide +kernel
theorem dk_Household_34 : decode bk_Household 34 = .ok (.newarray .int, 2) := by decide +kernel
theorem dk_Household_36 : decode bk_Household 36 = .ok (.putfield 21, 3) := by decide +kernel
theorem dk_Household_39 : decode bk_Household 39 = .ok (.aload_n 0, 1) := by decide +kernel
theorem dk_Household_40 : decode bk_Household 40 = .ok (.bipush 8, 2) := by decide +kernel
theorem dk_Household_42 : decode bk_Household 42 = .ok (.newarray .int, 2) := by decide +kernel
theorem dk_Household_44 : decode bk_Household 44 = .ok (.putfield 24, 3) := by decide +kernel
theorem dk_Household_47 : decode bk_Household 47 = .ok (.aload_n 0, 1) := by decide +kernel
theorem dk_Household_48 : decode bk_Household 48 = .ok (.bipush 8, 2) := by decide +kernel
theorem dk_Household_50 : decode bk_Household 50 = .ok (.newarray .int, 2) := by decide +kernel
theorem dk_Household_52 : decode bk_Household 52 = .ok (.putfield 27, 3) := by decide +kernel
theorem dk_Household_55 : decode bk_Household 55 = .ok (.aload_n 0, 1) := by decide +kernel
theorem dk_Household_56 : decode bk_Household 56 = .ok (.bipush 8, 2) := by decide +kernel
theorem dk_Household_58 : decode bk_Household 58 = .ok (.newarray .int, 2) := by decide +kernel
theorem dk_Household_60 : decode bk_Household 60 = .ok (.putfield 30, 3) := by decide +kernel
theorem dk_Household_63 : decode bk_Household 63 = .ok (.aload_n 0, 1) := by decide +kernel
theorem dk_Household_64 : decode bk_Household 64 = .ok (.aload_n 1, 1) := by decide +kernel
theorem dk_Household_65 : decode bk_Household 65 = .ok (.putfield 33, 3) := by decide +kernel
theorem dk_Household_68 : decode bk_Household 68 = .ok (.aload_n 0, 1) := by decide +kernel
theorem dk_Household_69 : decode bk_Household 69 = .ok (.aload_n 2, 1) := by decide +kernel
theorem dk_Household_70 : decode bk_Household 70 = .ok (.putfield 37, 3) := by decide +kernel
theorem dk_Household_73 : decode bk_Household 73 = .ok (.return_, 1) := by decide +kernel
set_option maxHeartbeats 8000000 in
set_option maxRecDepth 100000 in
theorem c_Household (l : Launch) (dC : Nat → ClassId) (dI : Nat → Nat → Nat) (h0 : Nat) (a1 a2 : Nat) (sz : Nat) : Met l yk_Household wk_Household ({ frames := 3, cells := 7, slots := 3104, locals := 100 }) (va_Pc [.ref h0, .ref a1, .ref a2] (fun U => U.heap.size = sz ∧ va_P (dC, dI) vwCl [(h0, .inr (1, [.null, .null, .null, .null, .null, .null, .null, .null, .null, .int 0]))] U.heap ∧ va_K (dC, dI) vwCl [] U ∧ va_D (fun _ => True) [(h0, .inr (1, [.null, .null, .null, .null, .null, .null, .null, .null, .null, .int 0]))])) (va_Qv (fun _ : Unit => True) (fun _ t => ∃ (q1 : Nat), ∃ (k2 : ClassId), ∃ (q3 : Nat), ∃ (k4 : ClassId), ∃ (q5 : Nat), ∃ (k6 : ClassId), ∃ (q7 : Nat), ∃ (k8 : ClassId), ∃ (q9 : Nat), ∃ (k10 : ClassId), ∃ (q11 : Nat), ∃ (k12 : ClassId), ∃ (q13 : Nat), ∃ (k14 : ClassId), va_P (dC, dI) vwCl [(h0, .inr (1, [.ref a1, .ref a2, .ref q1, .ref q3, .ref q5, .ref q7, .ref q9, .ref q11, .ref q13, .int 0])), (q1, .inl (k2, 1024, .inl (fun _ => 0))), (q3, .inl (k4, 1024, .inl (fun _ => 0))), (q5, .inl (k6, 1024, .inl (fun _ => 0))), (q7, .inl (k8, 8, .inl (fun _ => 0))), (q9, .inl (k10, 8, .inl (fun _ => 0))), (q11, .inl (k12, 8, .inl (fun _ => 0))), (q13, .inl (k14, 8, .inl (fun _ => 0)))] t.heap ∧ va_K (dC, dI) vwCl [(k2, .int), (k4, .int), (k6, .int), (k8, .int), (k10, .int), (k12, .int), (k14, .int)] t ∧ va_D (va_A [(h0, .inr (1, [.null, .null, .null, .null, .null, .null, .null, .null, .null, .int 0]))] sz) [(h0, .inr (1, [.ref a1, .ref a2, .ref q1, .ref q3, .ref q5, .ref q7, .ref q9, .ref q11, .ref q13, .int 0])), (q1, .inl (k2, 1024, .inl (fun _ => 0))), (q3, .inl (k4, 1024, .inl (fun _ => 0))), (q5, .inl (k6, 1024, .inl (fun _ => 0))), (q7, .inl (k8, 8, .inl (fun _ => 0))), (q9, .inl (k10, 8, .inl (fun _ => 0))), (q11, .inl (k12, 8, .inl (fun _ => 0))), (q13, .inl (k14, 8, .inl (fun _ => 0)))]) (va_A [(h0, .inr (1, [.null, .null, .null, .null, .null, .null, .null, .null, .null, .int 0]))] sz)) 7 3104 (va_A [(h0, .inr (1, [.null, .null, .null, .null, .null, .null, .null, .null, .null, .int 0]))] sz) := by
  refine Met.ofW (cc := bk_Household) (maxL := 3) (ret := none) (by decide) rfl ?_
  intro p e s m args below meth c s₁ B hml hv
  obtain ⟨rfl, hsz, hP, hK, hD0⟩ := hv
  have hx := B.exec
  have hb := B.bytes
  have hr := B.returns
  have hts : ∀ w ∈ tg, w.before _ s = true := fun w hw => atoms_spec (ws := wk_Household) B.pre w (List.mem_cons_of_mem _ hw)
  have hown : s.vm.findClass "LargerWithin$Household" = some m.cls := findClass_of_methodNamed B.named
  have hlocks := B.notSynchronized
  have hin : meth.name = "<init>" := (name_of_methodNamed B.named B.method).1
  subst hsz
  have hD := hD0.self (sz := s.heap.size)
  generalize hAe : va_A [(h0, .inr (1, [.null, .null, .null, .null, .null, .null, .null, .null, .null, .int 0]))] s.heap.size = A at hD ⊢
  have hA : ∀ q : Nat, s.heap.size ≤ q → A q := fun q h => by rw [← hAe]; exact Or.inr h
  have hS : va_S A s.heap s.heap [] := va_S.rf
  have hl := lv_entry ([.ref h0, .ref a1, .ref a2]) (n := 3) (Nat.le_of_ble_eq_true rfl)
  rw [lg_entry_eq]
  generalize (lg_sl ([.ref h0, .ref a1, .ref a2]) ++ List.replicate (3 - (lg_sl ([.ref h0, .ref a1, .ref a2])).length) Slot.unset).toArray = ls at hl ⊢
  have hl : lv_has ls 3 [(0, .ref h0), (1, .ref a1), (2, .ref a2)] := hl
  refine lv_aload_n hx hb dk_Household_0 rfl (lv_at hl 0 rfl) ?_
  refine W.objInit hx hb hown (hts _ (tmC1 (List.mem_of_getElem? (i := 188) rfl) rfl)) (hts _ (tmC1 (List.mem_of_getElem? (i := 28) rfl) rfl)) (hts _ (tmC1 (List.mem_of_getElem? (i := 29) rfl) rfl)) rfl (by rw [hml]; exact hl.1) rfl dk_Household_1 (Nat.le_of_ble_eq_true rfl) (Nat.le_of_ble_eq_true rfl) ?_
  refine W.eq (g2 := F0 m 4 ls []) rfl ?_
  refine lv_aload_n hx hb dk_Household_4 rfl (lv_at hl 0 rfl) ?_
  refine lv_sipush (v := 1024) hx hb dk_Household_5 (by decide) ?_
  refine va_newa (atype := .int) (ty := .int) (N' := 1024) (a0 := (1024, .inl (fun _ => 0))) hx hb (hts _ (tmC1 (List.mem_of_getElem? (i := 46) rfl) rfl)) rfl hK hP hD hS hA (fun _ => rfl) (by decide) (by decide) (by decide) (Nat.le_of_ble_eq_true rfl) (Nat.le_of_ble_eq_true rfl) dk_Household_8 (fun q1 k2 H hK hP hD hS => ?_)
  have hP : va_P (dC, dI) vwCl [(h0, .inr (1, [.null, .null, .null, .null, .null, .null, .null, .null, .null, .int 0])), (q1, .inl (k2, 1024, .inl (fun _ => 0)))] H := hP
  have hD : va_D A [(h0, .inr (1, [.null, .null, .null, .null, .null, .null, .null, .null, .null, .int 0])), (q1, .inl (k2, 1024, .inl (fun _ => 0)))] := hD
  have hK : va_K (dC, dI) vwCl [(k2, .int)] s := hK
  refine W.widen (k := 1) (n := 1024) (by decide) (by decide) ?_
  refine va_putF (D := (dC, dI)) (ci := 1) (v := .ref q1) (ty := (.array .int)) (C := RX1) (T := TX1) (N := 10) hx hb hts inX1 tyX1 tyX1_ok nmX1 hown hK hP hD hS 0 rfl rfl 2 (by decide) (hts _ (tmC1 (List.mem_of_getElem? (i := 191) rfl) rfl)) (fun _ h9 => h9) rfl hin rfl (by decide +kernel) rfl rfl (Nat.le_of_ble_eq_true rfl) dk_Household_10 (fun H locs hP hD hS => ?_)
  have hP : va_P (dC, dI) vwCl [(h0, .inr (1, [.null, .null, .ref q1, .null, .null, .null, .null, .null, .null, .int 0])), (q1, .inl (k2, 1024, .inl (fun _ => 0)))] H := hP
  have hD : va_D A [(h0, .inr (1, [.null, .null, .ref q1, .null, .null, .null, .null, .null, .null, .int 0])), (q1, .inl (k2, 1024, .inl (fun _ => 0)))] := hD
  refine lv_aload_n hx hb dk_Household_13 rfl (lv_at hl 0 rfl) ?_
  refine lv_sipush (v := 1024) hx hb dk_Household_14 (by decide) ?_
  refine va_newa (atype := .int) (ty := .int) (N' := 1024) (a0 := (1024, .inl (fun _ => 0))) hx hb (hts _ (tmC1 (List.mem_of_getElem? (i := 46) rfl) rfl)) rfl hK hP hD hS hA (fun _ => rfl) (by decide) (by decide) (by decide) (Nat.le_of_ble_eq_true rfl) (Nat.le_of_ble_eq_true rfl) dk_Household_17 (fun q3 k4 H hK hP hD hS => ?_)
  have hP : va_P (dC, dI) vwCl [(h0, .inr (1, [.null, .null, .ref q1, .null, .null, .null, .null, .null, .null, .int 0])), (q1, .inl (k2, 1024, .inl (fun _ => 0))), (q3, .inl (k4, 1024, .inl (fun _ => 0)))] H := hP
  have hD : va_D A [(h0, .inr (1, [.null, .null, .ref q1, .null, .null, .null, .null, .null, .null, .int 0])), (q1, .inl (k2, 1024, .inl (fun _ => 0))), (q3, .inl (k4, 1024, .inl (fun _ => 0)))] := hD
  have hK : va_K (dC, dI) vwCl [(k2, .int), (k4, .int)] s := hK
  refine W.widen (k := 2) (n := 2048) (by decide) (by decide) ?_
  refine va_putF (D := (dC, dI)) (ci := 1) (v := .ref q3) (ty := (.array .int)) (C := RX1) (T := TX1) (N := 10) hx hb hts inX1 tyX1 tyX1_ok nmX1 hown hK hP hD hS 0 rfl rfl 3 (by decide) (hts _ (tmC1 (List.mem_of_getElem? (i := 192) rfl) rfl)) (fun _ h9 => h9) rfl hin rfl (by decide +kernel) rfl rfl (Nat.le_of_ble_eq_true rfl) dk_Household_19 (fun H locs hP hD hS => ?_)
  have hP : va_P (dC, dI) vwCl [(h0, .inr (1, [.null, .null, .ref q1, .ref q3, .null, .null, .null, .null, .null, .int 0])), (q1, .inl (k2, 1024, .inl (fun _ => 0))), (q3, .inl (k4, 1024, .inl (fun _ => 0)))] H := hP
  have hD : va_D A [(h0, .inr (1, [.null, .null, .ref q1, .ref q3, .null, .null, .null, .null, .null, .int 0])), (q1, .inl (k2, 1024, .inl (fun _ => 0))), (q3, .inl (k4, 1024, .inl (fun _ => 0)))] := hD
  refine lv_aload_n hx hb dk_Household_22 rfl (lv_at hl 0 rfl) ?_
  refine lv_sipush (v := 1024) hx hb dk_Household_23 (by decide) ?_
  refine va_newa (atype := .int) (ty := .int) (N' := 1024) (a0 := (1024, .inl (fun _ => 0))) hx hb (hts _ (tmC1 (List.mem_of_getElem? (i := 46) rfl) rfl)) rfl hK hP hD hS hA (fun _ => rfl) (by decide) (by decide) (by decide) (Nat.le_of_ble_eq_true rfl) (Nat.le_of_ble_eq_true rfl) dk_Household_26 (fun q5 k6 H hK hP hD hS => ?_)
  have hP : va_P (dC, dI) vwCl [(h0, .inr (1, [.null, .null, .ref q1, .ref q3, .null, .null, .null, .null, .null, .int 0])), (q1, .inl (k2, 1024, .inl (fun _ => 0))), (q3, .inl (k4, 1024, .inl (fun _ => 0))), (q5, .inl (k6, 1024, .inl (fun _ => 0)))] H := hP
  have hD : va_D A [(h0, .inr (1, [.null, .null, .ref q1, .ref q3, .null, .null, .null, .null, .null, .int 0])), (q1, .inl (k2, 1024, .inl (fun _ => 0))), (q3, .inl (k4, 1024, .inl (fun _ => 0))), (q5, .inl (k6, 1024, .inl (fun _ => 0)))] := hD
  have hK : va_K (dC, dI) vwCl [(k2, .int), (k4, .int), (k6, .int)] s := hK
  refine W.widen (k := 3) (n := 3072) (by decide) (by decide) ?_
  refine va_putF (D := (dC, dI)) (ci := 1) (v := .ref q5) (ty := (.array .int)) (C := RX1) (T := TX1) (N := 10) hx hb hts inX1 tyX1 tyX1_ok nmX1 hown hK hP hD hS 0 rfl rfl 4 (by decide) (hts _ (tmC1 (List.mem_of_getElem? (i := 193) rfl) rfl)) (fun _ h9 => h9) rfl hin rfl (by decide +kernel) rfl rfl (Nat.le_of_ble_eq_true rfl) dk_Household_28 (fun H locs hP hD hS => ?_)
  have hP : va_P (dC, dI) vwCl [(h0, .inr (1, [.null, .null, .ref q1, .ref q3, .ref q5, .null, .null, .null, .null, .int 0])), (q1, .inl (k2, 1024, .inl (fun _ => 0))), (q3, .inl (k4, 1024, .inl (fun _ => 0))), (q5, .inl (k6, 1024, .inl (fun _ => 0)))] H := hP
  have hD : va_D A [(h0, .inr (1, [.null, .null, .ref q1, .ref q3, .ref q5, .null, .null, .null, .null, .int 0])), (q1, .inl (k2, 1024, .inl (fun _ => 0))), (q3, .inl (k4, 1024, .inl (fun _ => 0))), (q5, .inl (k6, 1024, .inl (fun _ => 0)))] := hD
  refine lv_aload_n hx hb dk_Household_31 rfl (lv_at hl 0 rfl) ?_
  refine lv_bipush (v := 8) hx hb dk_Household_32 (by decide) ?_
  refine va_newa (atype := .int) (ty := .int) (N' := 8) (a0 := (8, .inl (fun _ => 0))) hx hb (hts _ (tmC1 (List.mem_of_getElem? (i := 46) rfl) rfl)) rfl hK hP hD hS hA (fun _ => rfl) (by decide) (by decide) (by decide) (Nat.le_of_ble_eq_true rfl) (Nat.le_of_ble_eq_true rfl) dk_Household_34 (fun q7 k8 H hK hP hD hS => ?_)
  have hP : va_P (dC, dI) vwCl [(h0, .inr (1, [.null, .null, .ref q1, .ref q3, .ref q5, .null, .null, .null, .null, .int 0])), (q1, .inl (k2, 1024, .inl (fun _ => 0))), (q3, .inl (k4, 1024, .inl (fun _ => 0))), (q5, .inl (k6, 1024, .inl (fun _ => 0))), (q7, .inl (k8, 8, .inl (fun _ => 0)))] H := hP
  have hD : va_D A [(h0, .inr (1, [.null, .null, .ref q1, .ref q3, .ref q5, .null, .null, .null, .null, .int 0])), (q1, .inl (k2, 1024, .inl (fun _ => 0))), (q3, .inl (k4, 1024, .inl (fun _ => 0))), (q5, .inl (k6, 1024, .inl (fun _ => 0))), (q7, .inl (k8, 8, .inl (fun _ => 0)))] := hD
  have hK : va_K (dC, dI) vwCl [(k2, .int), (k4, .int), (k6, .int), (k8, .int)] s := hK
  refine W.widen (k := 4) (n := 3080) (by decide) (by decide) ?_
  refine va_putF (D := (dC, dI)) (ci := 1) (v := .ref q7) (ty := (.array .int)) (C := RX1) (T := TX1) (N := 10) hx hb hts inX1 tyX1 tyX1_ok nmX1 hown hK hP hD hS 0 rfl rfl 5 (by decide) (hts _ (tmC1 (List.mem_of_getElem? (i := 194) rfl) rfl)) (fun _ h9 => h9) rfl hin rfl (by decide +kernel) rfl rfl (Nat.le_of_ble_eq_true rfl) dk_Household_36 (fun H locs hP hD hS => ?_)
  have hP : va_P (dC, dI) vwCl [(h0, .inr (1, [.null, .null, .ref q1, .ref q3, .ref q5, .ref q7, .null, .null, .null, .int 0])), (q1, .inl (k2, 1024, .inl (fun _ => 0))), (q3, .inl (k4, 1024, .inl (fun _ => 0))), (q5, .inl (k6, 1024, .inl (fun _ => 0))), (q7, .inl (k8, 8, .inl (fun _ => 0)))] H := hP
  have hD : va_D A [(h0, .inr (1, [.null, .null, .ref q1, .ref q3, .ref q5, .ref q7, .null, .null, .null, .int 0])), (q1, .inl (k2, 1024, .inl (fun _ => 0))), (q3, .inl (k4, 1024, .inl (fun _ => 0))), (q5, .inl (k6, 1024, .inl (fun _ => 0))), (q7, .inl (k8, 8, .inl (fun _ => 0)))] := hD
  refine lv_aload_n hx hb dk_Household_39 rfl (lv_at hl 0 rfl) ?_
  refine lv_bipush (v := 8) hx hb dk_Household_40 (by decide) ?_
  refine va_newa (atype := .int) (ty := .int) (N' := 8) (a0 := (8, .inl (fun _ => 0))) hx hb (hts _ (tmC1 (List.mem_of_getElem? (i := 46) rfl) rfl)) rfl hK hP hD hS hA (fun _ => rfl) (by decide) (by decide) (by decide) (Nat.le_of_ble_eq_true rfl) (Nat.le_of_ble_eq_true rfl) dk_Household_42 (fun q9 k10 H hK hP hD hS => ?_)
  have hP : va_P (dC, dI) vwCl [(h0, .inr (1, [.null, .null, .ref q1, .ref q3, .ref q5, .ref q7, .null, .null, .null, .int 0])), (q1, .inl (k2, 1024, .inl (fun _ => 0))), (q3, .inl (k4, 1024, .inl (fun _ => 0))), (q5, .inl (k6, 1024, .inl (fun _ => 0))), (q7, .inl (k8, 8, .inl (fun _ => 0))), (q9, .inl (k10, 8, .inl (fun _ => 0)))] H := hP
  have hD : va_D A [(h0, .inr (1, [.null, .null, .ref q1, .ref q3, .ref q5, .ref q7, .null, .null, .null, .int 0])), (q1, .inl (k2, 1024, .inl (fun _ => 0))), (q3, .inl (k4, 1024, .inl (fun _ => 0))), (q5, .inl (k6, 1024, .inl (fun _ => 0))), (q7, .inl (k8, 8, .inl (fun _ => 0))), (q9, .inl (k10, 8, .inl (fun _ => 0)))] := hD
  have hK : va_K (dC, dI) vwCl [(k2, .int), (k4, .int), (k6, .int), (k8, .int), (k10, .int)] s := hK
  refine W.widen (k := 5) (n := 3088) (by decide) (by decide) ?_
  refine va_putF (D := (dC, dI)) (ci := 1) (v := .ref q9) (ty := (.array .int)) (C := RX1) (T := TX1) (N := 10) hx hb hts inX1 tyX1 tyX1_ok nmX1 hown hK hP hD hS 0 rfl rfl 6 (by decide) (hts _ (tmC1 (List.mem_of_getElem? (i := 195) rfl) rfl)) (fun _ h9 => h9) rfl hin rfl (by decide +kernel) rfl rfl (Nat.le_of_ble_eq_true rfl) dk_Household_44 (fun H locs hP hD hS => ?_)
  have hP : va_P (dC, dI) vwCl [(h0, .inr (1, [.null, .null, .ref q1, .ref q3, .ref q5, .ref q7, .ref q9, .null, .null, .int 0])), (q1, .inl (k2, 1024, .inl (fun _ => 0))), (q3, .inl (k4, 1024, .inl (fun _ => 0))), (q5, .inl (k6, 1024, .inl (fun _ => 0))), (q7, .inl (k8, 8, .inl (fun _ => 0))), (q9, .inl (k10, 8, .inl (fun _ => 0)))] H := hP
  have hD : va_D A [(h0, .inr (1, [.null, .null, .ref q1, .ref q3, .ref q5, .ref q7, .ref q9, .null, .null, .int 0])), (q1, .inl (k2, 1024, .inl (fun _ => 0))), (q3, .inl (k4, 1024, .inl (fun _ => 0))), (q5, .inl (k6, 1024, .inl (fun _ => 0))), (q7, .inl (k8, 8, .inl (fun _ => 0))), (q9, .inl (k10, 8, .inl (fun _ => 0)))] := hD
  refine lv_aload_n hx hb dk_Household_47 rfl (lv_at hl 0 rfl) ?_
  refine lv_bipush (v := 8) hx hb dk_Household_48 (by decide) ?_
  refine va_newa (atype := .int) (ty := .int) (N' := 8) (a0 := (8, .inl (fun _ => 0))) hx hb (hts _ (tmC1 (List.mem_of_getElem? (i := 46) rfl) rfl)) rfl hK hP hD hS hA (fun _ => rfl) (by decide) (by decide) (by decide) (Nat.le_of_ble_eq_true rfl) (Nat.le_of_ble_eq_true rfl) dk_Household_50 (fun q11 k12 H hK hP hD hS => ?_)
  have hP : va_P (dC, dI) vwCl [(h0, .inr (1, [.null, .null, .ref q1, .ref q3, .ref q5, .ref q7, .ref q9, .null, .null, .int 0])), (q1, .inl (k2, 1024, .inl (fun _ => 0))), (q3, .inl (k4, 1024, .inl (fun _ => 0))), (q5, .inl (k6, 1024, .inl (fun _ => 0))), (q7, .inl (k8, 8, .inl (fun _ => 0))), (q9, .inl (k10, 8, .inl (fun _ => 0))), (q11, .inl (k12, 8, .inl (fun _ => 0)))] H := hP
  have hD : va_D A [(h0, .inr (1, [.null, .null, .ref q1, .ref q3, .ref q5, .ref q7, .ref q9, .null, .null, .int 0])), (q1, .inl (k2, 1024, .inl (fun _ => 0))), (q3, .inl (k4, 1024, .inl (fun _ => 0))), (q5, .inl (k6, 1024, .inl (fun _ => 0))), (q7, .inl (k8, 8, .inl (fun _ => 0))), (q9, .inl (k10, 8, .inl (fun _ => 0))), (q11, .inl (k12, 8, .inl (fun _ => 0)))] := hD
  have hK : va_K (dC, dI) vwCl [(k2, .int), (k4, .int), (k6, .int), (k8, .int), (k10, .int), (k12, .int)] s := hK
  refine W.widen (k := 6) (n := 3096) (by decide) (by decide) ?_
  refine va_putF (D := (dC, dI)) (ci := 1) (v := .ref q11) (ty := (.array .int)) (C := RX1) (T := TX1) (N := 10) hx hb hts inX1 tyX1 tyX1_ok nmX1 hown hK hP hD hS 0 rfl rfl 7 (by decide) (hts _ (tmC1 (List.mem_of_getElem? (i := 196) rfl) rfl)) (fun _ h9 => h9) rfl hin rfl (by decide +kernel) rfl rfl (Nat.le_of_ble_eq_true rfl) dk_Household_52 (fun H locs hP hD hS => ?_)
  have hP : va_P (dC, dI) vwCl [(h0, .inr (1, [.null, .null, .ref q1, .ref q3, .ref q5, .ref q7, .ref q9, .ref q11, .null, .int 0])), (q1, .inl (k2, 1024, .inl (fun _ => 0))), (q3, .inl (k4, 1024, .inl (fun _ => 0))), (q5, .inl (k6, 1024, .inl (fun _ => 0))), (q7, .inl (k8, 8, .inl (fun _ => 0))), (q9, .inl (k10, 8, .inl (fun _ => 0))), (q11, .inl (k12, 8, .inl (fun _ => 0)))] H := hP
  have hD : va_D A [(h0, .inr (1, [.null, .null, .ref q1, .ref q3, .ref q5, .ref q7, .ref q9, .ref q11, .null, .int 0])), (q1, .inl (k2, 1024, .inl (fun _ => 0))), (q3, .inl (k4, 1024, .inl (fun _ => 0))), (q5, .inl (k6, 1024, .inl (fun _ => 0))), (q7, .inl (k8, 8, .inl (fun _ => 0))), (q9, .inl (k10, 8, .inl (fun _ => 0))), (q11, .inl (k12, 8, .inl (fun _ => 0)))] := hD
  refine lv_aload_n hx hb dk_Household_55 rfl (lv_at hl 0 rfl) ?_
  refine lv_bipush (v := 8) hx hb dk_Household_56 (by decide) ?_
  refine va_newa (atype := .int) (ty := .int) (N' := 8) (a0 := (8, .inl (fun _ => 0))) hx hb (hts _ (tmC1 (List.mem_of_getElem? (i := 46) rfl) rfl)) rfl hK hP hD hS hA (fun _ => rfl) (by decide) (by decide) (by decide) (Nat.le_of_ble_eq_true rfl) (Nat.le_of_ble_eq_true rfl) dk_Household_58 (fun q13 k14 H hK hP hD hS => ?_)
  have hP : va_P (dC, dI) vwCl [(h0, .inr (1, [.null, .null, .ref q1, .ref q3, .ref q5, .ref q7, .ref q9, .ref q11, .null, .int 0])), (q1, .inl (k2, 1024, .inl (fun _ => 0))), (q3, .inl (k4, 1024, .inl (fun _ => 0))), (q5, .inl (k6, 1024, .inl (fun _ => 0))), (q7, .inl (k8, 8, .inl (fun _ => 0))), (q9, .inl (k10, 8, .inl (fun _ => 0))), (q11, .inl (k12, 8, .inl (fun _ => 0))), (q13, .inl (k14, 8, .inl (fun _ => 0)))] H := hP
  have hD : va_D A [(h0, .inr (1, [.null, .null, .ref q1, .ref q3, .ref q5, .ref q7, .ref q9, .ref q11, .null, .int 0])), (q1, .inl (k2, 1024, .inl (fun _ => 0))), (q3, .inl (k4, 1024, .inl (fun _ => 0))), (q5, .inl (k6, 1024, .inl (fun _ => 0))), (q7, .inl (k8, 8, .inl (fun _ => 0))), (q9, .inl (k10, 8, .inl (fun _ => 0))), (q11, .inl (k12, 8, .inl (fun _ => 0))), (q13, .inl (k14, 8, .inl (fun _ => 0)))] := hD
  have hK : va_K (dC, dI) vwCl [(k2, .int), (k4, .int), (k6, .int), (k8, .int), (k10, .int), (k12, .int), (k14, .int)] s := hK
  refine W.widen (k := 7) (n := 3104) (by decide) (by decide) ?_
  refine va_putF (D := (dC, dI)) (ci := 1) (v := .ref q13) (ty := (.array .int)) (C := RX1) (T := TX1) (N := 10) hx hb hts inX1 tyX1 tyX1_ok nmX1 hown hK hP hD hS 0 rfl rfl 8 (by decide) (hts _ (tmC1 (List.mem_of_getElem? (i := 197) rfl) rfl)) (fun _ h9 => h9) rfl hin rfl (by decide +kernel) rfl rfl (Nat.le_of_ble_eq_true rfl) dk_Household_60 (fun H locs hP hD hS => ?_)
  have hP : va_P (dC, dI) vwCl [(h0, .inr (1, [.null, .null, .ref q1, .ref q3, .ref q5, .ref q7, .ref q9, .ref q11, .ref q13, .int 0])), (q1, .inl (k2, 1024, .inl (fun _ => 0))), (q3, .inl (k4, 1024, .inl (fun _ => 0))), (q5, .inl (k6, 1024, .inl (fun _ => 0))), (q7, .inl (k8, 8, .inl (fun _ => 0))), (q9, .inl (k10, 8, .inl (fun _ => 0))), (q11, .inl (k12, 8, .inl (fun _ => 0))), (q13, .inl (k14, 8, .inl (fun _ => 0)))] H := hP
  have hD : va_D A [(h0, .inr (1, [.null, .null, .ref q1, .ref q3, .ref q5, .ref q7, .ref q9, .ref q11, .ref q13, .int 0])), (q1, .inl (k2, 1024, .inl (fun _ => 0))), (q3, .inl (k4, 1024, .inl (fun _ => 0))), (q5, .inl (k6, 1024, .inl (fun _ => 0))), (q7, .inl (k8, 8, .inl (fun _ => 0))), (q9, .inl (k10, 8, .inl (fun _ => 0))), (q11, .inl (k12, 8, .inl (fun _ => 0))), (q13, .inl (k14, 8, .inl (fun _ => 0)))] := hD
  refine lv_aload_n hx hb dk_Household_63 rfl (lv_at hl 0 rfl) ?_
  refine lv_aload_n hx hb dk_Household_64 rfl (lv_at hl 1 rfl) ?_
  refine va_putF (D := (dC, dI)) (ci := 1) (v := .ref a1) (ty := (.object "LargerWithin$Store")) (C := RX1) (T := TX1) (N := 10) hx hb hts inX1 tyX1 tyX1_ok nmX1 hown hK hP hD hS 0 rfl rfl 0 (by decide) (hts _ (tmC1 (List.mem_of_getElem? (i := 189) rfl) rfl)) (fun _ h9 => h9) rfl hin rfl (by decide +kernel) rfl rfl (Nat.le_of_ble_eq_true rfl) dk_Household_65 (fun H locs hP hD hS => ?_)
  have hP : va_P (dC, dI) vwCl [(h0, .inr (1, [.ref a1, .null, .ref q1, .ref q3, .ref q5, .ref q7, .ref q9, .ref q11, .ref q13, .int 0])), (q1, .inl (k2, 1024, .inl (fun _ => 0))), (q3, .inl (k4, 1024, .inl (fun _ => 0))), (q5, .inl (k6, 1024, .inl (fun _ => 0))), (q7, .inl (k8, 8, .inl (fun _ => 0))), (q9, .inl (k10, 8, .inl (fun _ => 0))), (q11, .inl (k12, 8, .inl (fun _ => 0))), (q13, .inl (k14, 8, .inl (fun _ => 0)))] H := hP
  have hD : va_D A [(h0, .inr (1, [.ref a1, .null, .ref q1, .ref q3, .ref q5, .ref q7, .ref q9, .ref q11, .ref q13, .int 0])), (q1, .inl (k2, 1024, .inl (fun _ => 0))), (q3, .inl (k4, 1024, .inl (fun _ => 0))), (q5, .inl (k6, 1024, .inl (fun _ => 0))), (q7, .inl (k8, 8, .inl (fun _ => 0))), (q9, .inl (k10, 8, .inl (fun _ => 0))), (q11, .inl (k12, 8, .inl (fun _ => 0))), (q13, .inl (k14, 8, .inl (fun _ => 0)))] := hD
  refine lv_aload_n hx hb dk_Household_68 rfl (lv_at hl 0 rfl) ?_
  refine lv_aload_n hx hb dk_Household_69 rfl (lv_at hl 2 rfl) ?_
  refine va_putF (D := (dC, dI)) (ci := 1) (v := .ref a2) (ty := (.object "LargerWithin$Picked")) (C := RX1) (T := TX1) (N := 10) hx hb hts inX1 tyX1 tyX1_ok nmX1 hown hK hP hD hS 0 rfl rfl 1 (by decide) (hts _ (tmC1 (List.mem_of_getElem? (i := 190) rfl) rfl)) (fun _ h9 => h9) rfl hin rfl (by decide +kernel) rfl rfl (Nat.le_of_ble_eq_true rfl) dk_Household_70 (fun H locs hP hD hS => ?_)
  have hP : va_P (dC, dI) vwCl [(h0, .inr (1, [.ref a1, .ref a2, .ref q1, .ref q3, .ref q5, .ref q7, .ref q9, .ref q11, .ref q13, .int 0])), (q1, .inl (k2, 1024, .inl (fun _ => 0))), (q3, .inl (k4, 1024, .inl (fun _ => 0))), (q5, .inl (k6, 1024, .inl (fun _ => 0))), (q7, .inl (k8, 8, .inl (fun _ => 0))), (q9, .inl (k10, 8, .inl (fun _ => 0))), (q11, .inl (k12, 8, .inl (fun _ => 0))), (q13, .inl (k14, 8, .inl (fun _ => 0)))] H := hP
  have hD : va_D A [(h0, .inr (1, [.ref a1, .ref a2, .ref q1, .ref q3, .ref q5, .ref q7, .ref q9, .ref q11, .ref q13, .int 0])), (q1, .inl (k2, 1024, .inl (fun _ => 0))), (q3, .inl (k4, 1024, .inl (fun _ => 0))), (q5, .inl (k6, 1024, .inl (fun _ => 0))), (q7, .inl (k8, 8, .inl (fun _ => 0))), (q9, .inl (k10, 8, .inl (fun _ => 0))), (q11, .inl (k12, 8, .inl (fun _ => 0))), (q13, .inl (k14, 8, .inl (fun _ => 0)))] := hD
  exact W.vret hx hb hr (fun t ht hW => ⟨⟨(), rfl, trivial, q1, k2, q3, k4, q5, k6, q7, k8, q9, k10, q11, k12, q13, k14, by rw [ht]; exact hP, va_K.moved hW.alike hK, hD⟩, hS.F ht⟩) hS.2.2 dk_Household_73
def yk_Nest : MethodName := ⟨"LargerWithin$Nest", "<init>", "(LLargerWithin$Store;)V"⟩
abbrev bk_Nest : ByteArray := prog_5_method_1_code
def wk_Nest : List Cond := .code yk_Nest bk_Nest 2 none :: tg
theorem dk_Nest_0 : decode bk_Nest 0 = .ok (.aload_n 0, 1) := by decide +kernel
theorem dk_Nest_1 : decode bk_Nest 1 = .ok (.invokespecial 3, 3) := by decide +kernel
theorem dk_Nest_4 : decode bk_Nest 4 = .ok (.aload_n 0, 1) := by decide +kernel
theorem dk_Nest_5 : decode bk_Nest 5 = .ok (.sipush 2048, 3) := by decide +kernel
theorem dk_Nest_8 : decode bk_Nest 8 = .ok (.newarray .int, 2) := by decide +kernel
theorem dk_Nest_10 : decode bk_Nest 10 = .ok (.putfield 9, 3) := by decide +kernel
theorem dk_Nest_13 : decode bk_Nest 13 = .ok (.aload_n 0, 1) := by decide +kernel
theorem dk_Nest_14 : decode bk_Nest 14 = .ok (.bipush 8, 2) := by decide +kernel
theorem dk_Nest_16 : decode bk_Nest 16 = .ok (.newarray .int, 2) := by decide +kernel
theorem dk_Nest_18 : decode bk_Nest 18 = .ok (.putfield 15, 3) := by decide +kernel
theorem dk_Nest_21 : decode bk_Nest 21 = .ok (.aload_n 0, 1) := by decide +kernel
theorem dk_Nest_22 : decode bk_Nest 22 = .ok (.bipush 8, 2) := by decide +kernel
theorem dk_Nest_24 : decode bk_Nest 24 = .ok (.newarray .int, 2) := by decide +kernel
theorem dk_Nest_26 : decode bk_Nest 26 = .ok (.putfield 18, 3) := by decide +kernel
theorem dk_Nest_29 : decode bk_Nest 29 = .ok (.aload_n 0, 1) := by decide +kernel
theorem dk_Nest_30 : decode bk_Nest 30 = .ok (.bipush 8, 2) := by decide +kernel
theorem dk_Nest_32 : decode bk_Nest 32 = .ok (.newarray .int, 2) := by decide +kernel
theorem dk_Nest_34 : decode bk_Nest 34 = .ok (.putfield 21, 3) := by decide +kernel
theorem dk_Nest_37 : decode bk_Nest 37 = .ok (.aload_n 0, 1) := by decide +kernel
theorem dk_Nest_38 : decode bk_Nest 38 = .ok (.aload_n 1, 1) := by decide +kernel
theorem dk_Nest_39 : decode bk_Nest 39 = .ok (.putfield 24, 3) := by decide +kernel
theorem dk_Nest_42 : decode bk_Nest 42 = .ok (.return_, 1) := by decide +kernel
set_option maxHeartbeats 8000000 in
set_option maxRecDepth 100000 in
theorem c_Nest (l : Launch) (dC : Nat → ClassId) (dI : Nat → Nat → Nat) (h0 : Nat) (a1 : Nat) (sz : Nat) : Met l yk_Nest wk_Nest ({ frames := 3, cells := 4, slots := 2072, locals := 100 }) (va_Pc [.ref h0, .ref a1] (fun U => U.heap.size = sz ∧ va_P (dC, dI) vwCl [(h0, .inr (3, [.null, .null, .null, .null, .null, .int 0]))] U.heap ∧ va_K (dC, dI) vwCl [] U ∧ va_D (fun _ => True) [(h0, .inr (3, [.null, .null, .null, .null, .null, .int 0]))])) (va_Qv (fun _ : Unit => True) (fun _ t => ∃ (q1 : Nat), ∃ (k2 : ClassId), ∃ (q3 : Nat), ∃ (k4 : ClassId), ∃ (q5 : Nat), ∃ (k6 : ClassId), ∃ (q7 : Nat), ∃ (k8 : ClassId), va_P (dC, dI) vwCl [(h0, .inr (3, [.ref a1, .ref q1, .ref q3, .ref q5, .ref q7, .int 0])), (q1, .inl (k2, 2048, .inl (fun _ => 0))), (q3, .inl (k4, 8, .inl (fun _ => 0))), (q5, .inl (k6, 8, .inl (fun _ => 0))), (q7, .inl (k8, 8, .inl (fun _ => 0)))] t.heap ∧ va_K (dC, dI) vwCl [(k2, .int), (k4, .int), (k6, .int), (k8, .int)] t ∧ va_D (va_A [(h0, .inr (3, [.null, .null, .null, .null, .null, .int 0]))] sz) [(h0, .inr (3, [.ref a1, .ref q1, .ref q3, .ref q5, .ref q7, .int 0])), (q1, .inl (k2, 2048, .inl (fun _ => 0))), (q3, .inl (k4, 8, .inl (fun _ => 0))), (q5, .inl (k6, 8, .inl (fun _ => 0))), (q7, .inl (k8, 8, .inl (fun _ => 0)))]) (va_A [(h0, .inr (3, [.null, .null, .null, .null, .null, .int 0]))] sz)) 4 2072 (va_A [(h0, .inr (3, [.null, .null, .null, .null, .null, .int 0]))] sz) := by
  refine Met.ofW (cc := bk_Nest) (maxL := 2) (ret := none) (by decide) rfl ?_
  intro p e s m args below meth c s₁ B hml hv
  obtain ⟨rfl, hsz, hP, hK, hD0⟩ := hv
  have hx := B.exec
  have hb := B.bytes
  have hr := B.returns
  have hts : ∀ w ∈ tg, w.before _ s = true := fun w hw => atoms_spec (ws := wk_Nest) B.pre w (List.mem_cons_of_mem _ hw)
  have hown : s.vm.findClass "LargerWithin$Nest" = some m.cls := findClass_of_methodNamed B.named
  have hlocks := B.notSynchronized
  have hin : meth.name = "<init>" := (name_of_methodNamed B.named B.method).1
  subst hsz
  have hD := hD0.self (sz := s.heap.size)
  generalize hAe : va_A [(h0, .inr (3, [.null, .null, .null, .null, .null, .int 0]))] s.heap.size = A at hD ⊢
  have hA : ∀ q : Nat, s.heap.size ≤ q → A q := fun q h => by rw [← hAe]; exact Or.inr h
  have hS : va_S A s.heap s.heap [] := va_S.rf
  have hl := lv_entry ([.ref h0, .ref a1]) (n := 2) (Nat.le_of_ble_eq_true rfl)
  rw [lg_entry_eq]
  generalize (lg_sl ([.ref h0, .ref a1]) ++ List.replicate (2 - (lg_sl ([.ref h0, .ref a1])).length) Slot.unset).toArray = ls at hl ⊢
  have hl : lv_has ls 2 [(0, .ref h0), (1, .ref a1)] := hl
  refine lv_aload_n hx hb dk_Nest_0 rfl (lv_at hl 0 rfl) ?_
  refine W.objInit hx hb hown (hts _ (tmC2 (List.mem_of_getElem? (i := 50) rfl) rfl)) (hts _ (tmC1 (List.mem_of_getElem? (i := 28) rfl) rfl)) (hts _ (tmC1 (List.mem_of_getElem? (i := 29) rfl) rfl)) rfl (by rw [hml]; exact hl.1) rfl dk_Nest_1 (Nat.le_of_ble_eq_true rfl) (Nat.le_of_ble_eq_true rfl) ?_
  refine W.eq (g2 := F0 m 4 ls []) rfl ?_
  refine lv_aload_n hx hb dk_Nest_4 rfl (lv_at hl 0 rfl) ?_
  refine lv_sipush (v := 2048) hx hb dk_Nest_5 (by decide) ?_
  refine va_newa (atype := .int) (ty := .int) (N' := 2048) (a0 := (2048, .inl (fun _ => 0))) hx hb (hts _ (tmC1 (List.mem_of_getElem? (i := 46) rfl) rfl)) rfl hK hP hD hS hA (fun _ => rfl) (by decide) (by decide) (by decide) (Nat.le_of_ble_eq_true rfl) (Nat.le_of_ble_eq_true rfl) dk_Nest_8 (fun q1 k2 H hK hP hD hS => ?_)
  have hP : va_P (dC, dI) vwCl [(h0, .inr (3, [.null, .null, .null, .null, .null, .int 0])), (q1, .inl (k2, 2048, .inl (fun _ => 0)))] H := hP
  have hD : va_D A [(h0, .inr (3, [.null, .null, .null, .null, .null, .int 0])), (q1, .inl (k2, 2048, .inl (fun _ => 0)))] := hD
  have hK : va_K (dC, dI) vwCl [(k2, .int)] s := hK
  refine W.widen (k := 1) (n := 2048) (by decide) (by decide) ?_
  refine va_putF (D := (dC, dI)) (ci := 3) (v := .ref q1) (ty := (.array .int)) (C := RX3) (T := TX3) (N := 6) hx hb hts inX3 tyX3 tyX3_ok nmX3 hown hK hP hD hS 0 rfl rfl 1 (by decide) (hts _ (tmC2 (List.mem_of_getElem? (i := 52) rfl) rfl)) (fun _ h9 => h9) rfl hin rfl (by decide +kernel) rfl rfl (Nat.le_of_ble_eq_true rfl) dk_Nest_10 (fun H locs hP hD hS => ?_)
  have hP : va_P (dC, dI) vwCl [(h0, .inr (3, [.null, .ref q1, .null, .null, .null, .int 0])), (q1, .inl (k2, 2048, .inl (fun _ => 0)))] H := hP
  have hD : va_D A [(h0, .inr (3, [.null, .ref q1, .null, .null, .null, .int 0])), (q1, .inl (k2, 2048, .inl (fun _ => 0)))] := hD
  refine lv_aload_n hx hb dk_Nest_13 rfl (lv_at hl 0 rfl) ?_
  refine lv_bipush (v := 8) hx hb dk_Nest_14 (by decide) ?_
  refine va_newa (atype := .int) (ty := .int) (N' := 8) (a0 := (8, .inl (fun _ => 0))) hx hb (hts _ (tmC1 (List.mem_of_getElem? (i := 46) rfl) rfl)) rfl hK hP hD hS hA (fun _ => rfl) (by decide) (by decide) (by decide) (Nat.le_of_ble_eq_true rfl) (Nat.le_of_ble_eq_true rfl) dk_Nest_16 (fun q3 k4 H hK hP hD hS => ?_)
  have hP : va_P (dC, dI) vwCl [(h0, .inr (3, [.null, .ref q1, .null, .null, .null, .int 0])), (q1, .inl (k2, 2048, .inl (fun _ => 0))), (q3, .inl (k4, 8, .inl (fun _ => 0)))] H := hP
  have hD : va_D A [(h0, .inr (3, [.null, .ref q1, .null, .null, .null, .int 0])), (q1, .inl (k2, 2048, .inl (fun _ => 0))), (q3, .inl (k4, 8, .inl (fun _ => 0)))] := hD
  have hK : va_K (dC, dI) vwCl [(k2, .int), (k4, .int)] s := hK
  refine W.widen (k := 2) (n := 2056) (by decide) (by decide) ?_
  refine va_putF (D := (dC, dI)) (ci := 3) (v := .ref q3) (ty := (.array .int)) (C := RX3) (T := TX3) (N := 6) hx hb hts inX3 tyX3 tyX3_ok nmX3 hown hK hP hD hS 0 rfl rfl 2 (by decide) (hts _ (tmC2 (List.mem_of_getElem? (i := 53) rfl) rfl)) (fun _ h9 => h9) rfl hin rfl (by decide +kernel) rfl rfl (Nat.le_of_ble_eq_true rfl) dk_Nest_18 (fun H locs hP hD hS => ?_)
  have hP : va_P (dC, dI) vwCl [(h0, .inr (3, [.null, .ref q1, .ref q3, .null, .null, .int 0])), (q1, .inl (k2, 2048, .inl (fun _ => 0))), (q3, .inl (k4, 8, .inl (fun _ => 0)))] H := hP
  have hD : va_D A [(h0, .inr (3, [.null, .ref q1, .ref q3, .null, .null, .int 0])), (q1, .inl (k2, 2048, .inl (fun _ => 0))), (q3, .inl (k4, 8, .inl (fun _ => 0)))] := hD
  refine lv_aload_n hx hb dk_Nest_21 rfl (lv_at hl 0 rfl) ?_
  refine lv_bipush (v := 8) hx hb dk_Nest_22 (by decide) ?_
  refine va_newa (atype := .int) (ty := .int) (N' := 8) (a0 := (8, .inl (fun _ => 0))) hx hb (hts _ (tmC1 (List.mem_of_getElem? (i := 46) rfl) rfl)) rfl hK hP hD hS hA (fun _ => rfl) (by decide) (by decide) (by decide) (Nat.le_of_ble_eq_true rfl) (Nat.le_of_ble_eq_true rfl) dk_Nest_24 (fun q5 k6 H hK hP hD hS => ?_)
  have hP : va_P (dC, dI) vwCl [(h0, .inr (3, [.null, .ref q1, .ref q3, .null, .null, .int 0])), (q1, .inl (k2, 2048, .inl (fun _ => 0))), (q3, .inl (k4, 8, .inl (fun _ => 0))), (q5, .inl (k6, 8, .inl (fun _ => 0)))] H := hP
  have hD : va_D A [(h0, .inr (3, [.null, .ref q1, .ref q3, .null, .null, .int 0])), (q1, .inl (k2, 2048, .inl (fun _ => 0))), (q3, .inl (k4, 8, .inl (fun _ => 0))), (q5, .inl (k6, 8, .inl (fun _ => 0)))] := hD
  have hK : va_K (dC, dI) vwCl [(k2, .int), (k4, .int), (k6, .int)] s := hK
  refine W.widen (k := 3) (n := 2064) (by decide) (by decide) ?_
  refine va_putF (D := (dC, dI)) (ci := 3) (v := .ref q5) (ty := (.array .int)) (C := RX3) (T := TX3) (N := 6) hx hb hts inX3 tyX3 tyX3_ok nmX3 hown hK hP hD hS 0 rfl rfl 3 (by decide) (hts _ (tmC2 (List.mem_of_getElem? (i := 54) rfl) rfl)) (fun _ h9 => h9) rfl hin rfl (by decide +kernel) rfl rfl (Nat.le_of_ble_eq_true rfl) dk_Nest_26 (fun H locs hP hD hS => ?_)
  have hP : va_P (dC, dI) vwCl [(h0, .inr (3, [.null, .ref q1, .ref q3, .ref q5, .null, .int 0])), (q1, .inl (k2, 2048, .inl (fun _ => 0))), (q3, .inl (k4, 8, .inl (fun _ => 0))), (q5, .inl (k6, 8, .inl (fun _ => 0)))] H := hP
  have hD : va_D A [(h0, .inr (3, [.null, .ref q1, .ref q3, .ref q5, .null, .int 0])), (q1, .inl (k2, 2048, .inl (fun _ => 0))), (q3, .inl (k4, 8, .inl (fun _ => 0))), (q5, .inl (k6, 8, .inl (fun _ => 0)))] := hD
  refine lv_aload_n hx hb dk_Nest_29 rfl (lv_at hl 0 rfl) ?_
  refine lv_bipush (v := 8) hx hb dk_Nest_30 (by decide) ?_
  refine va_newa (atype := .int) (ty := .int) (N' := 8) (a0 := (8, .inl (fun _ => 0))) hx hb (hts _ (tmC1 (List.mem_of_getElem? (i := 46) rfl) rfl)) rfl hK hP hD hS hA (fun _ => rfl) (by decide) (by decide) (by decide) (Nat.le_of_ble_eq_true rfl) (Nat.le_of_ble_eq_true rfl) dk_Nest_32 (fun q7 k8 H hK hP hD hS => ?_)
  have hP : va_P (dC, dI) vwCl [(h0, .inr (3, [.null, .ref q1, .ref q3, .ref q5, .null, .int 0])), (q1, .inl (k2, 2048, .inl (fun _ => 0))), (q3, .inl (k4, 8, .inl (fun _ => 0))), (q5, .inl (k6, 8, .inl (fun _ => 0))), (q7, .inl (k8, 8, .inl (fun _ => 0)))] H := hP
  have hD : va_D A [(h0, .inr (3, [.null, .ref q1, .ref q3, .ref q5, .null, .int 0])), (q1, .inl (k2, 2048, .inl (fun _ => 0))), (q3, .inl (k4, 8, .inl (fun _ => 0))), (q5, .inl (k6, 8, .inl (fun _ => 0))), (q7, .inl (k8, 8, .inl (fun _ => 0)))] := hD
  have hK : va_K (dC, dI) vwCl [(k2, .int), (k4, .int), (k6, .int), (k8, .int)] s := hK
  refine W.widen (k := 4) (n := 2072) (by decide) (by decide) ?_
  refine va_putF (D := (dC, dI)) (ci := 3) (v := .ref q7) (ty := (.array .int)) (C := RX3) (T := TX3) (N := 6) hx hb hts inX3 tyX3 tyX3_ok nmX3 hown hK hP hD hS 0 rfl rfl 4 (by decide) (hts _ (tmC2 (List.mem_of_getElem? (i := 55) rfl) rfl)) (fun _ h9 => h9) rfl hin rfl (by decide +kernel) rfl rfl (Nat.le_of_ble_eq_true rfl) dk_Nest_34 (fun H locs hP hD hS => ?_)
  have hP : va_P (dC, dI) vwCl [(h0, .inr (3, [.null, .ref q1, .ref q3, .ref q5, .ref q7, .int 0])), (q1, .inl (k2, 2048, .inl (fun _ => 0))), (q3, .inl (k4, 8, .inl (fun _ => 0))), (q5, .inl (k6, 8, .inl (fun _ => 0))), (q7, .inl (k8, 8, .inl (fun _ => 0)))] H := hP
  have hD : va_D A [(h0, .inr (3, [.null, .ref q1, .ref q3, .ref q5, .ref q7, .int 0])), (q1, .inl (k2, 2048, .inl (fun _ => 0))), (q3, .inl (k4, 8, .inl (fun _ => 0))), (q5, .inl (k6, 8, .inl (fun _ => 0))), (q7, .inl (k8, 8, .inl (fun _ => 0)))] := hD
  refine lv_aload_n hx hb dk_Nest_37 rfl (lv_at hl 0 rfl) ?_
  refine lv_aload_n hx hb dk_Nest_38 rfl (lv_at hl 1 rfl) ?_
  refine va_putF (D := (dC, dI)) (ci := 3) (v := .ref a1) (ty := (.object "LargerWithin$Store")) (C := RX3) (T := TX3) (N := 6) hx hb hts inX3 tyX3 tyX3_ok nmX3 hown hK hP hD hS 0 rfl rfl 0 (by decide) (hts _ (tmC2 (List.mem_of_getElem? (i := 51) rfl) rfl)) (fun _ h9 => h9) rfl hin rfl (by decide +kernel) rfl rfl (Nat.le_of_ble_eq_true rfl) dk_Nest_39 (fun H locs hP hD hS => ?_)
  have hP : va_P (dC, dI) vwCl [(h0, .inr (3, [.ref a1, .ref q1, .ref q3, .ref q5, .ref q7, .int 0])), (q1, .inl (k2, 2048, .inl (fun _ => 0))), (q3, .inl (k4, 8, .inl (fun _ => 0))), (q5, .inl (k6, 8, .inl (fun _ => 0))), (q7, .inl (k8, 8, .inl (fun _ => 0)))] H := hP
  have hD : va_D A [(h0, .inr (3, [.ref a1, .ref q1, .ref q3, .ref q5, .ref q7, .int 0])), (q1, .inl (k2, 2048, .inl (fun _ => 0))), (q3, .inl (k4, 8, .inl (fun _ => 0))), (q5, .inl (k6, 8, .inl (fun _ => 0))), (q7, .inl (k8, 8, .inl (fun _ => 0)))] := hD
  exact W.vret hx hb hr (fun t ht hW => ⟨⟨(), rfl, trivial, q1, k2, q3, k4, q5, k6, q7, k8, by rw [ht]; exact hP, va_K.moved hW.alike hK, hD⟩, hS.F ht⟩) hS.2.2 dk_Nest_42
def yk_Picked : MethodName := ⟨"LargerWithin$Picked", "<init>", "(LLargerWithin$Store;)V"⟩
abbrev bk_Picked : ByteArray := prog_7_method_1_code
def wk_Picked : List Cond := .code yk_Picked bk_Picked 2 none :: tg
theorem dk_Picked_0 : decode bk_Picked 0 = .ok (.aload_n 0, 1) := by decide +kernel
theorem dk_Picked_1 : decode bk_Picked 1 = .ok (.invokespecial 3, 3) := by decide +kernel
theorem dk_Picked_4 : decode bk_Picked 4 = .ok (.aload_n 0, 1) := by decide +kernel
theorem dk_Picked_5 : decode bk_Picked 5 = .ok (.bipush 12, 2) := by decide +kernel
theorem dk_Picked_7 : decode bk_Picked 7 = .ok (.newarray .int, 2) := by decide +kernel
theorem dk_Picked_9 : decode bk_Picked 9 = .ok (.putfield 9, 3) := by decide +kernel
theorem dk_Picked_12 : decode bk_Picked 12 = .ok (.aload_n 0, 1) := by decide +kernel
theorem dk_Picked_13 : decode bk_Picked 13 = .ok (.sipush 128, 3) := by decide +kernel
theorem dk_Picked_16 : decode bk_Picked 16 = .ok (.newarray .int, 2) := by decide +kernel
theorem dk_Picked_18 : decode bk_Picked 18 = .ok (.putfield 15, 3) := by decide +kernel
theorem dk_Picked_21 : decode bk_Picked 21 = .ok (.aload_n 0, 1) := by decide +kernel
theorem dk_Picked_22 : decode bk_Picked 22 = .ok (.sipush 128, 3) := by decide +kernel
theorem dk_Picked_25 : decode bk_Picked 25 = .ok (.newarray .int, 2) := by decide +kernel
theorem dk_Picked_27 : decode bk_Picked 27 = .ok (.putfield 18, 3) := by decide +kernel
theorem dk_Picked_30 : decode bk_Picked 30 = .ok (.aload_n 0, 1) := by decide +kernel
theorem dk_Picked_31 : decode bk_Picked 31 = .ok (.sipush 128, 3) := by decide +kernel
theorem dk_Picked_34 : decode bk_Picked 34 = .ok (.newarray .int, 2) := by decide +kernel
theorem dk_Picked_36 : decode bk_Picked 36 = .ok (.putfield 21, 3) := by decide +kernel
theorem dk_Picked_39 : decode bk_Picked 39 = .ok (.aload_n 0, 1) := by decide +kernel
theorem dk_Picked_40 : decode bk_Picked 40 = .ok (.sipush 128, 3) := by decide +kernel
theorem dk_Picked_43 : decode bk_Picked 43 = .ok (.newarray .int, 2) := by decide +kernel
theorem dk_Picked_45 : decode bk_Picked 45 = .ok (.putfield 24, 3) := by decide +kernel
theorem dk_Picked_48 : decode bk_Picked 48 = .ok (.aload_n 0, 1) := by decide +kernel
theorem dk_Picked_49 : decode bk_Picked 49 = .ok (.aload_n 1, 1) := by decide +kernel
theorem dk_Picked_50 : decode bk_Picked 50 = .ok (.putfield 27, 3) := by decide +kernel
theorem dk_Picked_53 : decode bk_Picked 53 = .ok (.return_, 1) := by decide +kernel
set_option maxHeartbeats 8000000 in
set_option maxRecDepth 100000 in
theorem c_Picked (l : Launch) (dC : Nat → ClassId) (dI : Nat → Nat → Nat) (h0 : Nat) (a1 : Nat) (sz : Nat) : Met l yk_Picked wk_Picked ({ frames := 3, cells := 5, slots := 524, locals := 100 }) (va_Pc [.ref h0, .ref a1] (fun U => U.heap.size = sz ∧ va_P (dC, dI) vwCl [(h0, .inr (5, [.null, .null, .null, .null, .null, .null, .int 0]))] U.heap ∧ va_K (dC, dI) vwCl [] U ∧ va_D (fun _ => True) [(h0, .inr (5, [.null, .null, .null, .null, .null, .null, .int 0]))])) (va_Qv (fun _ : Unit => True) (fun _ t => ∃ (q1 : Nat), ∃ (k2 : ClassId), ∃ (q3 : Nat), ∃ (k4 : ClassId), ∃ (q5 : Nat), ∃ (k6 : ClassId), ∃ (q7 : Nat), ∃ (k8 : ClassId), ∃ (q9 : Nat), ∃ (k10 : ClassId), va_P (dC, dI) vwCl [(h0, .inr (5, [.ref a1, .ref q1, .ref q3, .ref q5, .ref q7, .ref q9, .int 0])), (q1, .inl (k2, 12, .inl (fun _ => 0))), (q3, .inl (k4, 128, .inl (fun _ => 0))), (q5, .inl (k6, 128, .inl (fun _ => 0))), (q7, .inl (k8, 128, .inl (fun _ => 0))), (q9, .inl (k10, 128, .inl (fun _ => 0)))] t.heap ∧ va_K (dC, dI) vwCl [(k2, .int), (k4, .int), (k6, .int), (k8, .int), (k10, .int)] t ∧ va_D (va_A [(h0, .inr (5, [.null, .null, .null, .null, .null, .null, .int 0]))] sz) [(h0, .inr (5, [.ref a1, .ref q1, .ref q3, .ref q5, .ref q7, .ref q9, .int 0])), (q1, .inl (k2, 12, .inl (fun _ => 0))), (q3, .inl (k4, 128, .inl (fun _ => 0))), (q5, .inl (k6, 128, .inl (fun _ => 0))), (q7, .inl (k8, 128, .inl (fun _ => 0))), (q9, .inl (k10, 128, .inl (fun _ => 0)))]) (va_A [(h0, .inr (5, [.null, .null, .null, .null, .null, .null, .int 0]))] sz)) 5 524 (va_A [(h0, .inr (5, [.null, .null, .null, .null, .null, .null, .int 0]))] sz) := by
  refine Met.ofW (cc := bk_Picked) (maxL := 2) (ret := none) (by decide) rfl ?_
  intro p e s m args below meth c s₁ B hml hv
  obtain ⟨rfl, hsz, hP, hK, hD0⟩ := hv
  have hx := B.exec
  have hb := B.bytes
  have hr := B.returns
  have hts : ∀ w ∈ tg, w.before _ s = true := fun w hw => atoms_spec (ws := wk_Picked) B.pre w (List.mem_cons_of_mem _ hw)
  have hown : s.vm.findClass "LargerWithin$Picked" = some m.cls := findClass_of_methodNamed B.named
  have hlocks := B.notSynchronized
  have hin : meth.name = "<init>" := (name_of_methodNamed B.named B.method).1
  subst hsz
  have hD := hD0.self (sz := s.heap.size)
  generalize hAe : va_A [(h0, .inr (5, [.null, .null, .null, .null, .null, .null, .int 0]))] s.heap.size = A at hD ⊢
  have hA : ∀ q : Nat, s.heap.size ≤ q → A q := fun q h => by rw [← hAe]; exact Or.inr h
  have hS : va_S A s.heap s.heap [] := va_S.rf
  have hl := lv_entry ([.ref h0, .ref a1]) (n := 2) (Nat.le_of_ble_eq_true rfl)
  rw [lg_entry_eq]
  generalize (lg_sl ([.ref h0, .ref a1]) ++ List.replicate (2 - (lg_sl ([.ref h0, .ref a1])).length) Slot.unset).toArray = ls at hl ⊢
  have hl : lv_has ls 2 [(0, .ref h0), (1, .ref a1)] := hl
  refine lv_aload_n hx hb dk_Picked_0 rfl (lv_at hl 0 rfl) ?_
  refine W.objInit hx hb hown (hts _ (tmC1 (List.mem_of_getElem? (i := 160) rfl) rfl)) (hts _ (tmC1 (List.mem_of_getElem? (i := 28) rfl) rfl)) (hts _ (tmC1 (List.mem_of_getElem? (i := 29) rfl) rfl)) rfl (by rw [hml]; exact hl.1) rfl dk_Picked_1 (Nat.le_of_ble_eq_true rfl) (Nat.le_of_ble_eq_true rfl) ?_
  refine W.eq (g2 := F0 m 4 ls []) rfl ?_
  refine lv_aload_n hx hb dk_Picked_4 rfl (lv_at hl 0 rfl) ?_
  refine lv_bipush (v := 12) hx hb dk_Picked_5 (by decide) ?_
  refine va_newa (atype := .int) (ty := .int) (N' := 12) (a0 := (12, .inl (fun _ => 0))) hx hb (hts _ (tmC1 (List.mem_of_getElem? (i := 46) rfl) rfl)) rfl hK hP hD hS hA (fun _ => rfl) (by decide) (by decide) (by decide) (Nat.le_of_ble_eq_true rfl) (Nat.le_of_ble_eq_true rfl) dk_Picked_7 (fun q1 k2 H hK hP hD hS => ?_)
  have hP : va_P (dC, dI) vwCl [(h0, .inr (5, [.null, .null, .null, .null, .null, .null, .int 0])), (q1, .inl (k2, 12, .inl (fun _ => 0)))] H := hP
  have hD : va_D A [(h0, .inr (5, [.null, .null, .null, .null, .null, .null, .int 0])), (q1, .inl (k2, 12, .inl (fun _ => 0)))] := hD
  have hK : va_K (dC, dI) vwCl [(k2, .int)] s := hK
  refine W.widen (k := 1) (n := 12) (by decide) (by decide) ?_
  refine va_putF (D := (dC, dI)) (ci := 5) (v := .ref q1) (ty := (.array .int)) (C := RX5) (T := TX5) (N := 7) hx hb hts inX5 tyX5 tyX5_ok nmX5 hown hK hP hD hS 0 rfl rfl 1 (by decide) (hts _ (tmC1 (List.mem_of_getElem? (i := 162) rfl) rfl)) (fun _ h9 => h9) rfl hin rfl (by decide +kernel) rfl rfl (Nat.le_of_ble_eq_true rfl) dk_Picked_9 (fun H locs hP hD hS => ?_)
  have hP : va_P (dC, dI) vwCl [(h0, .inr (5, [.null, .ref q1, .null, .null, .null, .null, .int 0])), (q1, .inl (k2, 12, .inl (fun _ => 0)))] H := hP
  have hD : va_D A [(h0, .inr (5, [.null, .ref q1, .null, .null, .null, .null, .int 0])), (q1, .inl (k2, 12, .inl (fun _ => 0)))] := hD
  refine lv_aload_n hx hb dk_Picked_12 rfl (lv_at hl 0 rfl) ?_
  refine lv_sipush (v := 128) hx hb dk_Picked_13 (by decide) ?_
  refine va_newa (atype := .int) (ty := .int) (N' := 128) (a0 := (128, .inl (fun _ => 0))) hx hb (hts _ (tmC1 (List.mem_of_getElem? (i := 46) rfl) rfl)) rfl hK hP hD hS hA (fun _ => rfl) (by decide) (by decide) (by decide) (Nat.le_of_ble_eq_true rfl) (Nat.le_of_ble_eq_true rfl) dk_Picked_16 (fun q3 k4 H hK hP hD hS => ?_)
  have hP : va_P (dC, dI) vwCl [(h0, .inr (5, [.null, .ref q1, .null, .null, .null, .null, .int 0])), (q1, .inl (k2, 12, .inl (fun _ => 0))), (q3, .inl (k4, 128, .inl (fun _ => 0)))] H := hP
  have hD : va_D A [(h0, .inr (5, [.null, .ref q1, .null, .null, .null, .null, .int 0])), (q1, .inl (k2, 12, .inl (fun _ => 0))), (q3, .inl (k4, 128, .inl (fun _ => 0)))] := hD
  have hK : va_K (dC, dI) vwCl [(k2, .int), (k4, .int)] s := hK
  refine W.widen (k := 2) (n := 140) (by decide) (by decide) ?_
  refine va_putF (D := (dC, dI)) (ci := 5) (v := .ref q3) (ty := (.array .int)) (C := RX5) (T := TX5) (N := 7) hx hb hts inX5 tyX5 tyX5_ok nmX5 hown hK hP hD hS 0 rfl rfl 2 (by decide) (hts _ (tmC1 (List.mem_of_getElem? (i := 163) rfl) rfl)) (fun _ h9 => h9) rfl hin rfl (by decide +kernel) rfl rfl (Nat.le_of_ble_eq_true rfl) dk_Picked_18 (fun H locs hP hD hS => ?_)
  have hP : va_P (dC, dI) vwCl [(h0, .inr (5, [.null, .ref q1, .ref q3, .null, .null, .null, .int 0])), (q1, .inl (k2, 12, .inl (fun _ => 0))), (q3, .inl (k4, 128, .inl (fun _ => 0)))] H := hP
  have hD : va_D A [(h0, .inr (5, [.null, .ref q1, .ref q3, .null, .null, .null, .int 0])), (q1, .inl (k2, 12, .inl (fun _ => 0))), (q3, .inl (k4, 128, .inl (fun _ => 0)))] := hD
  refine lv_aload_n hx hb dk_Picked_21 rfl (lv_at hl 0 rfl) ?_
  refine lv_sipush (v := 128) hx hb dk_Picked_22 (by decide) ?_
  refine va_newa (atype := .int) (ty := .int) (N' := 128) (a0 := (128, .inl (fun _ => 0))) hx hb (hts _ (tmC1 (List.mem_of_getElem? (i := 46) rfl) rfl)) rfl hK hP hD hS hA (fun _ => rfl) (by decide) (by decide) (by decide) (Nat.le_of_ble_eq_true rfl) (Nat.le_of_ble_eq_true rfl) dk_Picked_25 (fun q5 k6 H hK hP hD hS => ?_)
  have hP : va_P (dC, dI) vwCl [(h0, .inr (5, [.null, .ref q1, .ref q3, .null, .null, .null, .int 0])), (q1, .inl (k2, 12, .inl (fun _ => 0))), (q3, .inl (k4, 128, .inl (fun _ => 0))), (q5, .inl (k6, 128, .inl (fun _ => 0)))] H := hP
  have hD : va_D A [(h0, .inr (5, [.null, .ref q1, .ref q3, .null, .null, .null, .int 0])), (q1, .inl (k2, 12, .inl (fun _ => 0))), (q3, .inl (k4, 128, .inl (fun _ => 0))), (q5, .inl (k6, 128, .inl (fun _ => 0)))] := hD
  have hK : va_K (dC, dI) vwCl [(k2, .int), (k4, .int), (k6, .int)] s := hK
  refine W.widen (k := 3) (n := 268) (by decide) (by decide) ?_
  refine va_putF (D := (dC, dI)) (ci := 5) (v := .ref q5) (ty := (.array .int)) (C := RX5) (T := TX5) (N := 7) hx hb hts inX5 tyX5 tyX5_ok nmX5 hown hK hP hD hS 0 rfl rfl 3 (by decide) (hts _ (tmC1 (List.mem_of_getElem? (i := 164) rfl) rfl)) (fun _ h9 => h9) rfl hin rfl (by decide +kernel) rfl rfl (Nat.le_of_ble_eq_true rfl) dk_Picked_27 (fun H locs hP hD hS => ?_)
  have hP : va_P (dC, dI) vwCl [(h0, .inr (5, [.null, .ref q1, .ref q3, .ref q5, .null, .null, .int 0])), (q1, .inl (k2, 12, .inl (fun _ => 0))), (q3, .inl (k4, 128, .inl (fun _ => 0))), (q5, .inl (k6, 128, .inl (fun _ => 0)))] H := hP
  have hD : va_D A [(h0, .inr (5, [.null, .ref q1, .ref q3, .ref q5, .null, .null, .int 0])), (q1, .inl (k2, 12, .inl (fun _ => 0))), (q3, .inl (k4, 128, .inl (fun _ => 0))), (q5, .inl (k6, 128, .inl (fun _ => 0)))] := hD
  refine lv_aload_n hx hb dk_Picked_30 rfl (lv_at hl 0 rfl) ?_
  refine lv_sipush (v := 128) hx hb dk_Picked_31 (by decide) ?_
  refine va_newa (atype := .int) (ty := .int) (N' := 128) (a0 := (128, .inl (fun _ => 0))) hx hb (hts _ (tmC1 (List.mem_of_getElem? (i := 46) rfl) rfl)) rfl hK hP hD hS hA (fun _ => rfl) (by decide) (by decide) (by decide) (Nat.le_of_ble_eq_true rfl) (Nat.le_of_ble_eq_true rfl) dk_Picked_34 (fun q7 k8 H hK hP hD hS => ?_)
  have hP : va_P (dC, dI) vwCl [(h0, .inr (5, [.null, .ref q1, .ref q3, .ref q5, .null, .null, .int 0])), (q1, .inl (k2, 12, .inl (fun _ => 0))), (q3, .inl (k4, 128, .inl (fun _ => 0))), (q5, .inl (k6, 128, .inl (fun _ => 0))), (q7, .inl (k8, 128, .inl (fun _ => 0)))] H := hP
  have hD : va_D A [(h0, .inr (5, [.null, .ref q1, .ref q3, .ref q5, .null, .null, .int 0])), (q1, .inl (k2, 12, .inl (fun _ => 0))), (q3, .inl (k4, 128, .inl (fun _ => 0))), (q5, .inl (k6, 128, .inl (fun _ => 0))), (q7, .inl (k8, 128, .inl (fun _ => 0)))] := hD
  have hK : va_K (dC, dI) vwCl [(k2, .int), (k4, .int), (k6, .int), (k8, .int)] s := hK
  refine W.widen (k := 4) (n := 396) (by decide) (by decide) ?_
  refine va_putF (D := (dC, dI)) (ci := 5) (v := .ref q7) (ty := (.array .int)) (C := RX5) (T := TX5) (N := 7) hx hb hts inX5 tyX5 tyX5_ok nmX5 hown hK hP hD hS 0 rfl rfl 4 (by decide) (hts _ (tmC1 (List.mem_of_getElem? (i := 165) rfl) rfl)) (fun _ h9 => h9) rfl hin rfl (by decide +kernel) rfl rfl (Nat.le_of_ble_eq_true rfl) dk_Picked_36 (fun H locs hP hD hS => ?_)
  have hP : va_P (dC, dI) vwCl [(h0, .inr (5, [.null, .ref q1, .ref q3, .ref q5, .ref q7, .null, .int 0])), (q1, .inl (k2, 12, .inl (fun _ => 0))), (q3, .inl (k4, 128, .inl (fun _ => 0))), (q5, .inl (k6, 128, .inl (fun _ => 0))), (q7, .inl (k8, 128, .inl (fun _ => 0)))] H := hP
  have hD : va_D A [(h0, .inr (5, [.null, .ref q1, .ref q3, .ref q5, .ref q7, .null, .int 0])), (q1, .inl (k2, 12, .inl (fun _ => 0))), (q3, .inl (k4, 128, .inl (fun _ => 0))), (q5, .inl (k6, 128, .inl (fun _ => 0))), (q7, .inl (k8, 128, .inl (fun _ => 0)))] := hD
  refine lv_aload_n hx hb dk_Picked_39 rfl (lv_at hl 0 rfl) ?_
  refine lv_sipush (v := 128) hx hb dk_Picked_40 (by decide) ?_
  refine va_newa (atype := .int) (ty := .int) (N' := 128) (a0 := (128, .inl (fun _ => 0))) hx hb (hts _ (tmC1 (List.mem_of_getElem? (i := 46) rfl) rfl)) rfl hK hP hD hS hA (fun _ => rfl) (by decide) (by decide) (by decide) (Nat.le_of_ble_eq_true rfl) (Nat.le_of_ble_eq_true rfl) dk_Picked_43 (fun q9 k10 H hK hP hD hS => ?_)
  have hP : va_P (dC, dI) vwCl [(h0, .inr (5, [.null, .ref q1, .ref q3, .ref q5, .ref q7, .null, .int 0])), (q1, .inl (k2, 12, .inl (fun _ => 0))), (q3, .inl (k4, 128, .inl (fun _ => 0))), (q5, .inl (k6, 128, .inl (fun _ => 0))), (q7, .inl (k8, 128, .inl (fun _ => 0))), (q9, .inl (k10, 128, .inl (fun _ => 0)))] H := hP
  have hD : va_D A [(h0, .inr (5, [.null, .ref q1, .ref q3, .ref q5, .ref q7, .null, .int 0])), (q1, .inl (k2, 12, .inl (fun _ => 0))), (q3, .inl (k4, 128, .inl (fun _ => 0))), (q5, .inl (k6, 128, .inl (fun _ => 0))), (q7, .inl (k8, 128, .inl (fun _ => 0))), (q9, .inl (k10, 128, .inl (fun _ => 0)))] := hD
  have hK : va_K (dC, dI) vwCl [(k2, .int), (k4, .int), (k6, .int), (k8, .int), (k10, .int)] s := hK
  refine W.widen (k := 5) (n := 524) (by decide) (by decide) ?_
  refine va_putF (D := (dC, dI)) (ci := 5) (v := .ref q9) (ty := (.array .int)) (C := RX5) (T := TX5) (N := 7) hx hb hts inX5 tyX5 tyX5_ok nmX5 hown hK hP hD hS 0 rfl rfl 5 (by decide) (hts _ (tmC1 (List.mem_of_getElem? (i := 166) rfl) rfl)) (fun _ h9 => h9) rfl hin rfl (by decide +kernel) rfl rfl (Nat.le_of_ble_eq_true rfl) dk_Picked_45 (fun H locs hP hD hS => ?_)
  have hP : va_P (dC, dI) vwCl [(h0, .inr (5, [.null, .ref q1, .ref q3, .ref q5, .ref q7, .ref q9, .int 0])), (q1, .inl (k2, 12, .inl (fun _ => 0))), (q3, .inl (k4, 128, .inl (fun _ => 0))), (q5, .inl (k6, 128, .inl (fun _ => 0))), (q7, .inl (k8, 128, .inl (fun _ => 0))), (q9, .inl (k10, 128, .inl (fun _ => 0)))] H := hP
  have hD : va_D A [(h0, .inr (5, [.null, .ref q1, .ref q3, .ref q5, .ref q7, .ref q9, .int 0])), (q1, .inl (k2, 12, .inl (fun _ => 0))), (q3, .inl (k4, 128, .inl (fun _ => 0))), (q5, .inl (k6, 128, .inl (fun _ => 0))), (q7, .inl (k8, 128, .inl (fun _ => 0))), (q9, .inl (k10, 128, .inl (fun _ => 0)))] := hD
  refine lv_aload_n hx hb dk_Picked_48 rfl (lv_at hl 0 rfl) ?_
  refine lv_aload_n hx hb dk_Picked_49 rfl (lv_at hl 1 rfl) ?_
  refine va_putF (D := (dC, dI)) (ci := 5) (v := .ref a1) (ty := (.object "LargerWithin$Store")) (C := RX5) (T := TX5) (N := 7) hx hb hts inX5 tyX5 tyX5_ok nmX5 hown hK hP hD hS 0 rfl rfl 0 (by decide) (hts _ (tmC1 (List.mem_of_getElem? (i := 161) rfl) rfl)) (fun _ h9 => h9) rfl hin rfl (by decide +kernel) rfl rfl (Nat.le_of_ble_eq_true rfl) dk_Picked_50 (fun H locs hP hD hS => ?_)
  have hP : va_P (dC, dI) vwCl [(h0, .inr (5, [.ref a1, .ref q1, .ref q3, .ref q5, .ref q7, .ref q9, .int 0])), (q1, .inl (k2, 12, .inl (fun _ => 0))), (q3, .inl (k4, 128, .inl (fun _ => 0))), (q5, .inl (k6, 128, .inl (fun _ => 0))), (q7, .inl (k8, 128, .inl (fun _ => 0))), (q9, .inl (k10, 128, .inl (fun _ => 0)))] H := hP
  have hD : va_D A [(h0, .inr (5, [.ref a1, .ref q1, .ref q3, .ref q5, .ref q7, .ref q9, .int 0])), (q1, .inl (k2, 12, .inl (fun _ => 0))), (q3, .inl (k4, 128, .inl (fun _ => 0))), (q5, .inl (k6, 128, .inl (fun _ => 0))), (q7, .inl (k8, 128, .inl (fun _ => 0))), (q9, .inl (k10, 128, .inl (fun _ => 0)))] := hD
  exact W.vret hx hb hr (fun t ht hW => ⟨⟨(), rfl, trivial, q1, k2, q3, k4, q5, k6, q7, k8, q9, k10, by rw [ht]; exact hP, va_K.moved hW.alike hK, hD⟩, hS.F ht⟩) hS.2.2 dk_Picked_53
def yk_Shutting : MethodName := ⟨"LargerWithin$Shutting", "<init>", "(LLargerWithin$Store;)V"⟩
abbrev bk_Shutting : ByteArray := prog_10_method_1_code
def wk_Shutting : List Cond := .code yk_Shutting bk_Shutting 2 none :: tg
theorem dk_Shutting_0 : decode bk_Shutting 0 = .ok (.aload_n 0, 1) := by decide +kernel
theorem dk_Shutting_1 : decode bk_Shutting 1 = .ok (.invokespecial 3, 3) := by decide +kernel
theorem dk_Shutting_4 : decode bk_Shutting 4 = .ok (.aload_n 0, 1) := by decide +kernel
theorem dk_Shutting_5 : decode bk_Shutting 5 = .ok (.bipush 6, 2) := by decide +kernel
theorem dk_Shutting_7 : decode bk_Shutting 7 = .ok (.newarray .int, 2) := by decide +kernel
theorem dk_Shutting_9 : decode bk_Shutting 9 = .ok (.putfield 9, 3) := by decide +kernel
theorem dk_Shutting_12 : decode bk_Shutting 12 = .ok (.aload_n 0, 1) := by decide +kernel
theorem dk_Shutting_13 : decode bk_Shutting 13 = .ok (.bipush 24, 2) := by decide +kernel
theorem dk_Shutting_15 : decode bk_Shutting 15 = .ok (.newarray .int, 2) := by decide +kernel
theorem dk_Shutting_17 : decode bk_Shutting 17 = .ok (.putfield 15, 3) := by decide +kernel
theorem dk_Shutting_20 : decode bk_Shutting 20 = .ok (.aload_n 0, 1) := by decide +kernel
theorem dk_Shutting_21 : decode bk_Shutting 21 = .ok (.bipush 8, 2) := by decide +kernel
theorem dk_Shutting_23 : decode bk_Shutting 23 = .ok (.newarray .int, 2) := by decide +kernel
theorem dk_Shutting_25 : decode bk_Shutting 25 = .ok (.putfield 18, 3) := by decide +kernel
theorem dk_Shutting_28 : decode bk_Shutting 28 = .ok (.aload_n 0, 1) := by decide +kernel
theorem dk_Shutting_29 : decode bk_Shutting 29 = .ok (.bipush 8, 2) := by decide +kernel
theorem dk_Shutting_31 : decode bk_Shutting 31 = .ok (.newarray .int, 2) := by decide +kernel
theorem dk_Shutting_33 : decode bk_Shutting 33 = .ok (.putfield 21, 3) := by decide +kernel
theorem dk_Shutting_36 : decode bk_Shutting 36 = .ok (.aload_n 0, 1) := by decide +kernel
theorem dk_Shutting_37 : decode bk_Shutting 37 = .ok (.bipush 8, 2) := by decide +kernel
theorem dk_Shutting_39 : decode bk_Shutting 39 = .ok (.newarray .int, 2) := by decide +kernel
theorem dk_Shutting_41 : decode bk_Shutting 41 = .ok (.putfield 24, 3) := by decide +kernel
theorem dk_Shutting_44 : decode bk_Shutting 44 = .ok (.aload_n 0, 1) := by decide +kernel
theorem dk_Shutting_45 : decode bk_Shutting 45 = .ok (.aload_n 1, 1) := by decide +kernel
theorem dk_Shutting_46 : decode bk_Shutting 46 = .ok (.putfield 27, 3) := by decide +kernel
theorem dk_Shutting_49 : decode bk_Shutting 49 = .ok (.return_, 1) := by decide +kernel
set_option maxHeartbeats 8000000 in
set_option maxRecDepth 100000 in
theorem c_Shutting (l : Launch) (dC : Nat → ClassId) (dI : Nat → Nat → Nat) (h0 : Nat) (a1 : Nat) (sz : Nat) : Met l yk_Shutting wk_Shutting ({ frames := 3, cells := 5, slots := 54, locals := 100 }) (va_Pc [.ref h0, .ref a1] (fun U => U.heap.size = sz ∧ va_P (dC, dI) vwCl [(h0, .inr (8, [.null, .null, .null, .null, .null, .null, .int 0, .int 0, .int 0]))] U.heap ∧ va_K (dC, dI) vwCl [] U ∧ va_D (fun _ => True) [(h0, .inr (8, [.null, .null, .null, .null, .null, .null, .int 0, .int 0, .int 0]))])) (va_Qv (fun _ : Unit => True) (fun _ t => ∃ (q1 : Nat), ∃ (k2 : ClassId), ∃ (q3 : Nat), ∃ (k4 : ClassId), ∃ (q5 : Nat), ∃ (k6 : ClassId), ∃ (q7 : Nat), ∃ (k8 : ClassId), ∃ (q9 : Nat), ∃ (k10 : ClassId), va_P (dC, dI) vwCl [(h0, .inr (8, [.ref a1, .ref q1, .ref q3, .ref q5, .ref q7, .ref q9, .int 0, .int 0, .int 0])), (q1, .inl (k2, 6, .inl (fun _ => 0))), (q3, .inl (k4, 24, .inl (fun _ => 0))), (q5, .inl (k6, 8, .inl (fun _ => 0))), (q7, .inl (k8, 8, .inl (fun _ => 0))), (q9, .inl (k10, 8, .inl (fun _ => 0)))] t.heap ∧ va_K (dC, dI) vwCl [(k2, .int), (k4, .int), (k6, .int), (k8, .int), (k10, .int)] t ∧ va_D (va_A [(h0, .inr (8, [.null, .null, .null, .null, .null, .null, .int 0, .int 0, .int 0]))] sz) [(h0, .inr (8, [.ref a1, .ref q1, .ref q3, .ref q5, .ref q7, .ref q9, .int 0, .int 0, .int 0])), (q1, .inl (k2, 6, .inl (fun _ => 0))), (q3, .inl (k4, 24, .inl (fun _ => 0))), (q5, .inl (k6, 8, .inl (fun _ => 0))), (q7, .inl (k8, 8, .inl (fun _ => 0))), (q9, .inl (k10, 8, .inl (fun _ => 0)))]) (va_A [(h0, .inr (8, [.null, .null, .null, .null, .null, .null, .int 0, .int 0, .int 0]))] sz)) 5 54 (va_A [(h0, .inr (8, [.null, .null, .null, .null, .null, .null, .int 0, .int 0, .int 0]))] sz) := by
  refine Met.ofW (cc := bk_Shutting) (maxL := 2) (ret := none) (by decide) rfl ?_
  intro p e s m args below meth c s₁ B hml hv
  obtain ⟨rfl, hsz, hP, hK, hD0⟩ := hv
  have hx := B.exec
  have hb := B.bytes
  have hr := B.returns
  have hts : ∀ w ∈ tg, w.before _ s = true := fun w hw => atoms_spec (ws := wk_Shutting) B.pre w (List.mem_cons_of_mem _ hw)
  have hown : s.vm.findClass "LargerWithin$Shutting" = some m.cls := findClass_of_methodNamed B.named
  have hlocks := B.notSynchronized
  have hin : meth.name = "<init>" := (name_of_methodNamed B.named B.method).1
  subst hsz
  have hD := hD0.self (sz := s.heap.size)
  generalize hAe : va_A [(h0, .inr (8, [.null, .null, .null, .null, .null, .null, .int 0, .int 0, .int 0]))] s.heap.size = A at hD ⊢
  have hA : ∀ q : Nat, s.heap.size ≤ q → A q := fun q h => by rw [← hAe]; exact Or.inr h
  have hS : va_S A s.heap s.heap [] := va_S.rf
  have hl := lv_entry ([.ref h0, .ref a1]) (n := 2) (Nat.le_of_ble_eq_true rfl)
  rw [lg_entry_eq]
  generalize (lg_sl ([.ref h0, .ref a1]) ++ List.replicate (2 - (lg_sl ([.ref h0, .ref a1])).length) Slot.unset).toArray = ls at hl ⊢
  have hl : lv_has ls 2 [(0, .ref h0), (1, .ref a1)] := hl
  refine lv_aload_n hx hb dk_Shutting_0 rfl (lv_at hl 0 rfl) ?_
  refine W.objInit hx hb hown (hts _ (tmC1 (List.mem_of_getElem? (i := 225) rfl) rfl)) (hts _ (tmC1 (List.mem_of_getElem? (i := 28) rfl) rfl)) (hts _ (tmC1 (List.mem_of_getElem? (i := 29) rfl) rfl)) rfl (by rw [hml]; exact hl.1) rfl dk_Shutting_1 (Nat.le_of_ble_eq_true rfl) (Nat.le_of_ble_eq_true rfl) ?_
  refine W.eq (g2 := F0 m 4 ls []) rfl ?_
  refine lv_aload_n hx hb dk_Shutting_4 rfl (lv_at hl 0 rfl) ?_
  refine lv_bipush (v := 6) hx hb dk_Shutting_5 (by decide) ?_
  refine va_newa (atype := .int) (ty := .int) (N' := 6) (a0 := (6, .inl (fun _ => 0))) hx hb (hts _ (tmC1 (List.mem_of_getElem? (i := 46) rfl) rfl)) rfl hK hP hD hS hA (fun _ => rfl) (by decide) (by decide) (by decide) (Nat.le_of_ble_eq_true rfl) (Nat.le_of_ble_eq_true rfl) dk_Shutting_7 (fun q1 k2 H hK hP hD hS => ?_)
  have hP : va_P (dC, dI) vwCl [(h0, .inr (8, [.null, .null, .null, .null, .null, .null, .int 0, .int 0, .int 0])), (q1, .inl (k2, 6, .inl (fun _ => 0)))] H := hP
  have hD : va_D A [(h0, .inr (8, [.null, .null, .null, .null, .null, .null, .int 0, .int 0, .int 0])), (q1, .inl (k2, 6, .inl (fun _ => 0)))] := hD
  have hK : va_K (dC, dI) vwCl [(k2, .int)] s := hK
  refine W.widen (k := 1) (n := 6) (by decide) (by decide) ?_
  refine va_putF (D := (dC, dI)) (ci := 8) (v := .ref q1) (ty := (.array .int)) (C := RX8) (T := TX8) (N := 9) hx hb hts inX8 tyX8 tyX8_ok nmX8 hown hK hP hD hS 0 rfl rfl 1 (by decide) (hts _ (tmC1 (List.mem_of_getElem? (i := 227) rfl) rfl)) (fun _ h9 => h9) rfl hin rfl (by decide +kernel) rfl rfl (Nat.le_of_ble_eq_true rfl) dk_Shutting_9 (fun H locs hP hD hS => ?_)
  have hP : va_P (dC, dI) vwCl [(h0, .inr (8, [.null, .ref q1, .null, .null, .null, .null, .int 0, .int 0, .int 0])), (q1, .inl (k2, 6, .inl (fun _ => 0)))] H := hP
  have hD : va_D A [(h0, .inr (8, [.null, .ref q1, .null, .null, .null, .null, .int 0, .int 0, .int 0])), (q1, .inl (k2, 6, .inl (fun _ => 0)))] := hD
  refine lv_aload_n hx hb dk_Shutting_12 rfl (lv_at hl 0 rfl) ?_
  refine lv_bipush (v := 24) hx hb dk_Shutting_13 (by decide) ?_
  refine va_newa (atype := .int) (ty := .int) (N' := 24) (a0 := (24, .inl (fun _ => 0))) hx hb (hts _ (tmC1 (List.mem_of_getElem? (i := 46) rfl) rfl)) rfl hK hP hD hS hA (fun _ => rfl) (by decide) (by decide) (by decide) (Nat.le_of_ble_eq_true rfl) (Nat.le_of_ble_eq_true rfl) dk_Shutting_15 (fun q3 k4 H hK hP hD hS => ?_)
  have hP : va_P (dC, dI) vwCl [(h0, .inr (8, [.null, .ref q1, .null, .null, .null, .null, .int 0, .int 0, .int 0])), (q1, .inl (k2, 6, .inl (fun _ => 0))), (q3, .inl (k4, 24, .inl (fun _ => 0)))] H := hP
  have hD : va_D A [(h0, .inr (8, [.null, .ref q1, .null, .null, .null, .null, .int 0, .int 0, .int 0])), (q1, .inl (k2, 6, .inl (fun _ => 0))), (q3, .inl (k4, 24, .inl (fun _ => 0)))] := hD
  have hK : va_K (dC, dI) vwCl [(k2, .int), (k4, .int)] s := hK
  refine W.widen (k := 2) (n := 30) (by decide) (by decide) ?_
  refine va_putF (D := (dC, dI)) (ci := 8) (v := .ref q3) (ty := (.array .int)) (C := RX8) (T := TX8) (N := 9) hx hb hts inX8 tyX8 tyX8_ok nmX8 hown hK hP hD hS 0 rfl rfl 2 (by decide) (hts _ (tmC1 (List.mem_of_getElem? (i := 228) rfl) rfl)) (fun _ h9 => h9) rfl hin rfl (by decide +kernel) rfl rfl (Nat.le_of_ble_eq_true rfl) dk_Shutting_17 (fun H locs hP hD hS => ?_)
  have hP : va_P (dC, dI) vwCl [(h0, .inr (8, [.null, .ref q1, .ref q3, .null, .null, .null, .int 0, .int 0, .int 0])), (q1, .inl (k2, 6, .inl (fun _ => 0))), (q3, .inl (k4, 24, .inl (fun _ => 0)))] H := hP
  have hD : va_D A [(h0, .inr (8, [.null, .ref q1, .ref q3, .null, .null, .null, .int 0, .int 0, .int 0])), (q1, .inl (k2, 6, .inl (fun _ => 0))), (q3, .inl (k4, 24, .inl (fun _ => 0)))] := hD
  refine lv_aload_n hx hb dk_Shutting_20 rfl (lv_at hl 0 rfl) ?_
  refine lv_bipush (v := 8) hx hb dk_Shutting_21 (by decide) ?_
  refine va_newa (atype := .int) (ty := .int) (N' := 8) (a0 := (8, .inl (fun _ => 0))) hx hb (hts _ (tmC1 (List.mem_of_getElem? (i := 46) rfl) rfl)) rfl hK hP hD hS hA (fun _ => rfl) (by decide) (by decide) (by decide) (Nat.le_of_ble_eq_true rfl) (Nat.le_of_ble_eq_true rfl) dk_Shutting_23 (fun q5 k6 H hK hP hD hS => ?_)
  have hP : va_P (dC, dI) vwCl [(h0, .inr (8, [.null, .ref q1, .ref q3, .null, .null, .null, .int 0, .int 0, .int 0])), (q1, .inl (k2, 6, .inl (fun _ => 0))), (q3, .inl (k4, 24, .inl (fun _ => 0))), (q5, .inl (k6, 8, .inl (fun _ => 0)))] H := hP
  have hD : va_D A [(h0, .inr (8, [.null, .ref q1, .ref q3, .null, .null, .null, .int 0, .int 0, .int 0])), (q1, .inl (k2, 6, .inl (fun _ => 0))), (q3, .inl (k4, 24, .inl (fun _ => 0))), (q5, .inl (k6, 8, .inl (fun _ => 0)))] := hD
  have hK : va_K (dC, dI) vwCl [(k2, .int), (k4, .int), (k6, .int)] s := hK
  refine W.widen (k := 3) (n := 38) (by decide) (by decide) ?_
  refine va_putF (D := (dC, dI)) (ci := 8) (v := .ref q5) (ty := (.array .int)) (C := RX8) (T := TX8) (N := 9) hx hb hts inX8 tyX8 tyX8_ok nmX8 hown hK hP hD hS 0 rfl rfl 3 (by decide) (hts _ (tmC1 (List.mem_of_getElem? (i := 229) rfl) rfl)) (fun _ h9 => h9) rfl hin rfl (by decide +kernel) rfl rfl (Nat.le_of_ble_eq_true rfl) dk_Shutting_25 (fun H locs hP hD hS => ?_)
  have hP : va_P (dC, dI) vwCl [(h0, .inr (8, [.null, .ref q1, .ref q3, .ref q5, .null, .null, .int 0, .int 0, .int 0])), (q1, .inl (k2, 6, .inl (fun _ => 0))), (q3, .inl (k4, 24, .inl (fun _ => 0))), (q5, .inl (k6, 8, .inl (fun _ => 0)))] H := hP
  have hD : va_D A [(h0, .inr (8, [.null, .ref q1, .ref q3, .ref q5, .null, .null, .int 0, .int 0, .int 0])), (q1, .inl (k2, 6, .inl (fun _ => 0))), (q3, .inl (k4, 24, .inl (fun _ => 0))), (q5, .inl (k6, 8, .inl (fun _ => 0)))] := hD
  refine lv_aload_n hx hb dk_Shutting_28 rfl (lv_at hl 0 rfl) ?_
  refine lv_bipush (v := 8) hx hb dk_Shutting_29 (by decide) ?_
  refine va_newa (atype := .int) (ty := .int) (N' := 8) (a0 := (8, .inl (fun _ => 0))) hx hb (hts _ (tmC1 (List.mem_of_getElem? (i := 46) rfl) rfl)) rfl hK hP hD hS hA (fun _ => rfl) (by decide) (by decide) (by decide) (Nat.le_of_ble_eq_true rfl) (Nat.le_of_ble_eq_true rfl) dk_Shutting_31 (fun q7 k8 H hK hP hD hS => ?_)
  have hP : va_P (dC, dI) vwCl [(h0, .inr (8, [.null, .ref q1, .ref q3, .ref q5, .null, .null, .int 0, .int 0, .int 0])), (q1, .inl (k2, 6, .inl (fun _ => 0))), (q3, .inl (k4, 24, .inl (fun _ => 0))), (q5, .inl (k6, 8, .inl (fun _ => 0))), (q7, .inl (k8, 8, .inl (fun _ => 0)))] H := hP
  have hD : va_D A [(h0, .inr (8, [.null, .ref q1, .ref q3, .ref q5, .null, .null, .int 0, .int 0, .int 0])), (q1, .inl (k2, 6, .inl (fun _ => 0))), (q3, .inl (k4, 24, .inl (fun _ => 0))), (q5, .inl (k6, 8, .inl (fun _ => 0))), (q7, .inl (k8, 8, .inl (fun _ => 0)))] := hD
  have hK : va_K (dC, dI) vwCl [(k2, .int), (k4, .int), (k6, .int), (k8, .int)] s := hK
  refine W.widen (k := 4) (n := 46) (by decide) (by decide) ?_
  refine va_putF (D := (dC, dI)) (ci := 8) (v := .ref q7) (ty := (.array .int)) (C := RX8) (T := TX8) (N := 9) hx hb hts inX8 tyX8 tyX8_ok nmX8 hown hK hP hD hS 0 rfl rfl 4 (by decide) (hts _ (tmC1 (List.mem_of_getElem? (i := 230) rfl) rfl)) (fun _ h9 => h9) rfl hin rfl (by decide +kernel) rfl rfl (Nat.le_of_ble_eq_true rfl) dk_Shutting_33 (fun H locs hP hD hS => ?_)
  have hP : va_P (dC, dI) vwCl [(h0, .inr (8, [.null, .ref q1, .ref q3, .ref q5, .ref q7, .null, .int 0, .int 0, .int 0])), (q1, .inl (k2, 6, .inl (fun _ => 0))), (q3, .inl (k4, 24, .inl (fun _ => 0))), (q5, .inl (k6, 8, .inl (fun _ => 0))), (q7, .inl (k8, 8, .inl (fun _ => 0)))] H := hP
  have hD : va_D A [(h0, .inr (8, [.null, .ref q1, .ref q3, .ref q5, .ref q7, .null, .int 0, .int 0, .int 0])), (q1, .inl (k2, 6, .inl (fun _ => 0))), (q3, .inl (k4, 24, .inl (fun _ => 0))), (q5, .inl (k6, 8, .inl (fun _ => 0))), (q7, .inl (k8, 8, .inl (fun _ => 0)))] := hD
  refine lv_aload_n hx hb dk_Shutting_36 rfl (lv_at hl 0 rfl) ?_
  refine lv_bipush (v := 8) hx hb dk_Shutting_37 (by decide) ?_
  refine va_newa (atype := .int) (ty := .int) (N' := 8) (a0 := (8, .inl (fun _ => 0))) hx hb (hts _ (tmC1 (List.mem_of_getElem? (i := 46) rfl) rfl)) rfl hK hP hD hS hA (fun _ => rfl) (by decide) (by decide) (by decide) (Nat.le_of_ble_eq_true rfl) (Nat.le_of_ble_eq_true rfl) dk_Shutting_39 (fun q9 k10 H hK hP hD hS => ?_)
  have hP : va_P (dC, dI) vwCl [(h0, .inr (8, [.null, .ref q1, .ref q3, .ref q5, .ref q7, .null, .int 0, .int 0, .int 0])), (q1, .inl (k2, 6, .inl (fun _ => 0))), (q3, .inl (k4, 24, .inl (fun _ => 0))), (q5, .inl (k6, 8, .inl (fun _ => 0))), (q7, .inl (k8, 8, .inl (fun _ => 0))), (q9, .inl (k10, 8, .inl (fun _ => 0)))] H := hP
  have hD : va_D A [(h0, .inr (8, [.null, .ref q1, .ref q3, .ref q5, .ref q7, .null, .int 0, .int 0, .int 0])), (q1, .inl (k2, 6, .inl (fun _ => 0))), (q3, .inl (k4, 24, .inl (fun _ => 0))), (q5, .inl (k6, 8, .inl (fun _ => 0))), (q7, .inl (k8, 8, .inl (fun _ => 0))), (q9, .inl (k10, 8, .inl (fun _ => 0)))] := hD
  have hK : va_K (dC, dI) vwCl [(k2, .int), (k4, .int), (k6, .int), (k8, .int), (k10, .int)] s := hK
  refine W.widen (k := 5) (n := 54) (by decide) (by decide) ?_
  refine va_putF (D := (dC, dI)) (ci := 8) (v := .ref q9) (ty := (.array .int)) (C := RX8) (T := TX8) (N := 9) hx hb hts inX8 tyX8 tyX8_ok nmX8 hown hK hP hD hS 0 rfl rfl 5 (by decide) (hts _ (tmC1 (List.mem_of_getElem? (i := 231) rfl) rfl)) (fun _ h9 => h9) rfl hin rfl (by decide +kernel) rfl rfl (Nat.le_of_ble_eq_true rfl) dk_Shutting_41 (fun H locs hP hD hS => ?_)
  have hP : va_P (dC, dI) vwCl [(h0, .inr (8, [.null, .ref q1, .ref q3, .ref q5, .ref q7, .ref q9, .int 0, .int 0, .int 0])), (q1, .inl (k2, 6, .inl (fun _ => 0))), (q3, .inl (k4, 24, .inl (fun _ => 0))), (q5, .inl (k6, 8, .inl (fun _ => 0))), (q7, .inl (k8, 8, .inl (fun _ => 0))), (q9, .inl (k10, 8, .inl (fun _ => 0)))] H := hP
  have hD : va_D A [(h0, .inr (8, [.null, .ref q1, .ref q3, .ref q5, .ref q7, .ref q9, .int 0, .int 0, .int 0])), (q1, .inl (k2, 6, .inl (fun _ => 0))), (q3, .inl (k4, 24, .inl (fun _ => 0))), (q5, .inl (k6, 8, .inl (fun _ => 0))), (q7, .inl (k8, 8, .inl (fun _ => 0))), (q9, .inl (k10, 8, .inl (fun _ => 0)))] := hD
  refine lv_aload_n hx hb dk_Shutting_44 rfl (lv_at hl 0 rfl) ?_
  refine lv_aload_n hx hb dk_Shutting_45 rfl (lv_at hl 1 rfl) ?_
  refine va_putF (D := (dC, dI)) (ci := 8) (v := .ref a1) (ty := (.object "LargerWithin$Store")) (C := RX8) (T := TX8) (N := 9) hx hb hts inX8 tyX8 tyX8_ok nmX8 hown hK hP hD hS 0 rfl rfl 0 (by decide) (hts _ (tmC1 (List.mem_of_getElem? (i := 226) rfl) rfl)) (fun _ h9 => h9) rfl hin rfl (by decide +kernel) rfl rfl (Nat.le_of_ble_eq_true rfl) dk_Shutting_46 (fun H locs hP hD hS => ?_)
  have hP : va_P (dC, dI) vwCl [(h0, .inr (8, [.ref a1, .ref q1, .ref q3, .ref q5, .ref q7, .ref q9, .int 0, .int 0, .int 0])), (q1, .inl (k2, 6, .inl (fun _ => 0))), (q3, .inl (k4, 24, .inl (fun _ => 0))), (q5, .inl (k6, 8, .inl (fun _ => 0))), (q7, .inl (k8, 8, .inl (fun _ => 0))), (q9, .inl (k10, 8, .inl (fun _ => 0)))] H := hP
  have hD : va_D A [(h0, .inr (8, [.ref a1, .ref q1, .ref q3, .ref q5, .ref q7, .ref q9, .int 0, .int 0, .int 0])), (q1, .inl (k2, 6, .inl (fun _ => 0))), (q3, .inl (k4, 24, .inl (fun _ => 0))), (q5, .inl (k6, 8, .inl (fun _ => 0))), (q7, .inl (k8, 8, .inl (fun _ => 0))), (q9, .inl (k10, 8, .inl (fun _ => 0)))] := hD
  exact W.vret hx hb hr (fun t ht hW => ⟨⟨(), rfl, trivial, q1, k2, q3, k4, q5, k6, q7, k8, q9, k10, by rw [ht]; exact hP, va_K.moved hW.alike hK, hD⟩, hS.F ht⟩) hS.2.2 dk_Shutting_49
def yk_Voyage : MethodName := ⟨"LargerWithin$Voyage", "<init>", "(LLargerWithin$Store;LLargerWithin$Layout;)V"⟩
abbrev bk_Voyage : ByteArray := prog_12_method_1_code
def wk_Voyage : List Cond := .code yk_Voyage bk_Voyage 3 none :: tg
theorem dk_Voyage_0 : decode bk_Voyage 0 = .ok (.aload_n 0, 1) := by decide +kernel
theorem dk_Voyage_1 : decode bk_Voyage 1 = .ok (.invokespecial 3, 3) := by decide +kernel
theorem dk_Voyage_4 : decode bk_Voyage 4 = .ok (.aload_n 0, 1) := by decide +kernel
theorem dk_Voyage_5 : decode bk_Voyage 5 = .ok (.iconst 5, 1) := by decide +kernel
theorem dk_Voyage_6 : decode bk_Voyage 6 = .ok (.newarray .int, 2) := by decide +kernel
theorem dk_Voyage_8 : decode bk_Voyage 8 = .ok (.putfield 9, 3) := by decide +kernel
theorem dk_Voyage_11 : decode bk_Voyage 11 = .ok (.aload_n 0, 1) := by decide +kernel
theorem dk_Voyage_12 : decode bk_Voyage 12 = .ok (.iconst 5, 1) := by decide +kernel
theorem dk_Voyage_13 : decode bk_Voyage 13 = .ok (.newarray .int, 2) := by decide +kernel
theorem dk_Voyage_15 : decode bk_Voyage 15 = .ok (.putfield 15, 3) := by decide +kernel
theorem dk_Voyage_18 : decode bk_Voyage 18 = .ok (.aload_n 0, 1) := by decide +kernel
theorem dk_Voyage_19 : decode bk_Voyage 19 = .ok (.bipush 32, 2) := by decide +kernel
theorem dk_Voyage_21 : decode bk_Voyage 21 = .ok (.newarray .int, 2) := by decide +kernel
theorem dk_Voyage_23 : decode bk_Voyage 23 = .ok (.putfield 18, 3) := by decide +kernel
theorem dk_Voyage_26 : decode bk_Voyage 26 = .ok (.aload_n 0, 1) := by decide +kernel
theorem dk_Voyage_27 : decode bk_Voyage 27 = .ok (.bipush 32, 2) := by decide +kernel
theorem dk_Voyage_29 : decode bk_Voyage 29 = .ok (.newarray .int, 2) := by decide +kernel
theorem dk_Voyage_31 : decode bk_Voyage 31 = .ok (.putfield 21, 3) := by decide +kernel
theorem dk_Voyage_34 : decode bk_Voyage 34 = .ok (.aload_n 0, 1) := by decide +kernel
theorem dk_Voyage_35 : decode bk_Voyage 35 = .ok (.aload_n 1, 1) := by decide +kernel
theorem dk_Voyage_36 : decode bk_Voyage 36 = .ok (.putfield 24, 3) := by decide +kernel
theorem dk_Voyage_39 : decode bk_Voyage 39 = .ok (.aload_n 0, 1) := by decide +kernel
theorem dk_Voyage_40 : decode bk_Voyage 40 = .ok (.aload_n 2, 1) := by decide +kernel
theorem dk_Voyage_41 : decode bk_Voyage 41 = .ok (.putfield 28, 3) := by decide +kernel
theorem dk_Voyage_44 : decode bk_Voyage 44 = .ok (.return_, 1) := by decide +kernel
set_option maxHeartbeats 8000000 in
set_option maxRecDepth 100000 in
theorem c_Voyage (l : Launch) (dC : Nat → ClassId) (dI : Nat → Nat → Nat) (h0 : Nat) (a1 a2 : Nat) (sz : Nat) : Met l yk_Voyage wk_Voyage ({ frames := 3, cells := 4, slots := 74, locals := 100 }) (va_Pc [.ref h0, .ref a1, .ref a2] (fun U => U.heap.size = sz ∧ va_P (dC, dI) vwCl [(h0, .inr (10, [.null, .null, .null, .null, .null, .null, .int 0]))] U.heap ∧ va_K (dC, dI) vwCl [] U ∧ va_D (fun _ => True) [(h0, .inr (10, [.null, .null, .null, .null, .null, .null, .int 0]))])) (va_Qv (fun _ : Unit => True) (fun _ t => ∃ (q1 : Nat), ∃ (k2 : ClassId), ∃ (q3 : Nat), ∃ (k4 : ClassId), ∃ (q5 : Nat), ∃ (k6 : ClassId), ∃ (q7 : Nat), ∃ (k8 : ClassId), va_P (dC, dI) vwCl [(h0, .inr (10, [.ref a1, .ref a2, .ref q1, .ref q3, .ref q5, .ref q7, .int 0])), (q1, .inl (k2, 5, .inl (fun _ => 0))), (q3, .inl (k4, 5, .inl (fun _ => 0))), (q5, .inl (k6, 32, .inl (fun _ => 0))), (q7, .inl (k8, 32, .inl (fun _ => 0)))] t.heap ∧ va_K (dC, dI) vwCl [(k2, .int), (k4, .int), (k6, .int), (k8, .int)] t ∧ va_D (va_A [(h0, .inr (10, [.null, .null, .null, .null, .null, .null, .int 0]))] sz) [(h0, .inr (10, [.ref a1, .ref a2, .ref q1, .ref q3, .ref q5, .ref q7, .int 0])), (q1, .inl (k2, 5, .inl (fun _ => 0))), (q3, .inl (k4, 5, .inl (fun _ => 0))), (q5, .inl (k6, 32, .inl (fun _ => 0))), (q7, .inl (k8, 32, .inl (fun _ => 0)))]) (va_A [(h0, .inr (10, [.null, .null, .null, .null, .null, .null, .int 0]))] sz)) 4 74 (va_A [(h0, .inr (10, [.null, .null, .null, .null, .null, .null, .int 0]))] sz) := by
  refine Met.ofW (cc := bk_Voyage) (maxL := 3) (ret := none) (by decide) rfl ?_
  intro p e s m args below meth c s₁ B hml hv
  obtain ⟨rfl, hsz, hP, hK, hD0⟩ := hv
  have hx := B.exec
  have hb := B.bytes
  have hr := B.returns
  have hts : ∀ w ∈ tg, w.before _ s = true := fun w hw => atoms_spec (ws := wk_Voyage) B.pre w (List.mem_cons_of_mem _ hw)
  have hown : s.vm.findClass "LargerWithin$Voyage" = some m.cls := findClass_of_methodNamed B.named
  have hlocks := B.notSynchronized
  have hin : meth.name = "<init>" := (name_of_methodNamed B.named B.method).1
  subst hsz
  have hD := hD0.self (sz := s.heap.size)
  generalize hAe : va_A [(h0, .inr (10, [.null, .null, .null, .null, .null, .null, .int 0]))] s.heap.size = A at hD ⊢
  have hA : ∀ q : Nat, s.heap.size ≤ q → A q := fun q h => by rw [← hAe]; exact Or.inr h
  have hS : va_S A s.heap s.heap [] := va_S.rf
  have hl := lv_entry ([.ref h0, .ref a1, .ref a2]) (n := 3) (Nat.le_of_ble_eq_true rfl)
  rw [lg_entry_eq]
  generalize (lg_sl ([.ref h0, .ref a1, .ref a2]) ++ List.replicate (3 - (lg_sl ([.ref h0, .ref a1, .ref a2])).length) Slot.unset).toArray = ls at hl ⊢
  have hl : lv_has ls 3 [(0, .ref h0), (1, .ref a1), (2, .ref a2)] := hl
  refine lv_aload_n hx hb dk_Voyage_0 rfl (lv_at hl 0 rfl) ?_
  refine W.objInit hx hb hown (hts _ (tmC2 (List.mem_of_getElem? (i := 75) rfl) rfl)) (hts _ (tmC1 (List.mem_of_getElem? (i := 28) rfl) rfl)) (hts _ (tmC1 (List.mem_of_getElem? (i := 29) rfl) rfl)) rfl (by rw [hml]; exact hl.1) rfl dk_Voyage_1 (Nat.le_of_ble_eq_true rfl) (Nat.le_of_ble_eq_true rfl) ?_
  refine W.eq (g2 := F0 m 4 ls []) rfl ?_
  refine lv_aload_n hx hb dk_Voyage_4 rfl (lv_at hl 0 rfl) ?_
  refine lv_iconst (v := 5) hx hb dk_Voyage_5 (by decide) ?_
  refine va_newa (atype := .int) (ty := .int) (N' := 5) (a0 := (5, .inl (fun _ => 0))) hx hb (hts _ (tmC1 (List.mem_of_getElem? (i := 46) rfl) rfl)) rfl hK hP hD hS hA (fun _ => rfl) (by decide) (by decide) (by decide) (Nat.le_of_ble_eq_true rfl) (Nat.le_of_ble_eq_true rfl) dk_Voyage_6 (fun q1 k2 H hK hP hD hS => ?_)
  have hP : va_P (dC, dI) vwCl [(h0, .inr (10, [.null, .null, .null, .null, .null, .null, .int 0])), (q1, .inl (k2, 5, .inl (fun _ => 0)))] H := hP
  have hD : va_D A [(h0, .inr (10, [.null, .null, .null, .null, .null, .null, .int 0])), (q1, .inl (k2, 5, .inl (fun _ => 0)))] := hD
  have hK : va_K (dC, dI) vwCl [(k2, .int)] s := hK
  refine W.widen (k := 1) (n := 5) (by decide) (by decide) ?_
  refine va_putF (D := (dC, dI)) (ci := 10) (v := .ref q1) (ty := (.array .int)) (C := RX10) (T := TX10) (N := 7) hx hb hts inX10 tyX10 tyX10_ok nmX10 hown hK hP hD hS 0 rfl rfl 2 (by decide) (hts _ (tmC2 (List.mem_of_getElem? (i := 78) rfl) rfl)) (fun _ h9 => h9) rfl hin rfl (by decide +kernel) rfl rfl (Nat.le_of_ble_eq_true rfl) dk_Voyage_8 (fun H locs hP hD hS => ?_)
  have hP : va_P (dC, dI) vwCl [(h0, .inr (10, [.null, .null, .ref q1, .null, .null, .null, .int 0])), (q1, .inl (k2, 5, .inl (fun _ => 0)))] H := hP
  have hD : va_D A [(h0, .inr (10, [.null, .null, .ref q1, .null, .null, .null, .int 0])), (q1, .inl (k2, 5, .inl (fun _ => 0)))] := hD
  refine lv_aload_n hx hb dk_Voyage_11 rfl (lv_at hl 0 rfl) ?_
  refine lv_iconst (v := 5) hx hb dk_Voyage_12 (by decide) ?_
  refine va_newa (atype := .int) (ty := .int) (N' := 5) (a0 := (5, .inl (fun _ => 0))) hx hb (hts _ (tmC1 (List.mem_of_getElem? (i := 46) rfl) rfl)) rfl hK hP hD hS hA (fun _ => rfl) (by decide) (by decide) (by decide) (Nat.le_of_ble_eq_true rfl) (Nat.le_of_ble_eq_true rfl) dk_Voyage_13 (fun q3 k4 H hK hP hD hS => ?_)
  have hP : va_P (dC, dI) vwCl [(h0, .inr (10, [.null, .null, .ref q1, .null, .null, .null, .int 0])), (q1, .inl (k2, 5, .inl (fun _ => 0))), (q3, .inl (k4, 5, .inl (fun _ => 0)))] H := hP
  have hD : va_D A [(h0, .inr (10, [.null, .null, .ref q1, .null, .null, .null, .int 0])), (q1, .inl (k2, 5, .inl (fun _ => 0))), (q3, .inl (k4, 5, .inl (fun _ => 0)))] := hD
  have hK : va_K (dC, dI) vwCl [(k2, .int), (k4, .int)] s := hK
  refine W.widen (k := 2) (n := 10) (by decide) (by decide) ?_
  refine va_putF (D := (dC, dI)) (ci := 10) (v := .ref q3) (ty := (.array .int)) (C := RX10) (T := TX10) (N := 7) hx hb hts inX10 tyX10 tyX10_ok nmX10 hown hK hP hD hS 0 rfl rfl 3 (by decide) (hts _ (tmC2 (List.mem_of_getElem? (i := 79) rfl) rfl)) (fun _ h9 => h9) rfl hin rfl (by decide +kernel) rfl rfl (Nat.le_of_ble_eq_true rfl) dk_Voyage_15 (fun H locs hP hD hS => ?_)
  have hP : va_P (dC, dI) vwCl [(h0, .inr (10, [.null, .null, .ref q1, .ref q3, .null, .null, .int 0])), (q1, .inl (k2, 5, .inl (fun _ => 0))), (q3, .inl (k4, 5, .inl (fun _ => 0)))] H := hP
  have hD : va_D A [(h0, .inr (10, [.null, .null, .ref q1, .ref q3, .null, .null, .int 0])), (q1, .inl (k2, 5, .inl (fun _ => 0))), (q3, .inl (k4, 5, .inl (fun _ => 0)))] := hD
  refine lv_aload_n hx hb dk_Voyage_18 rfl (lv_at hl 0 rfl) ?_
  refine lv_bipush (v := 32) hx hb dk_Voyage_19 (by decide) ?_
  refine va_newa (atype := .int) (ty := .int) (N' := 32) (a0 := (32, .inl (fun _ => 0))) hx hb (hts _ (tmC1 (List.mem_of_getElem? (i := 46) rfl) rfl)) rfl hK hP hD hS hA (fun _ => rfl) (by decide) (by decide) (by decide) (Nat.le_of_ble_eq_true rfl) (Nat.le_of_ble_eq_true rfl) dk_Voyage_21 (fun q5 k6 H hK hP hD hS => ?_)
  have hP : va_P (dC, dI) vwCl [(h0, .inr (10, [.null, .null, .ref q1, .ref q3, .null, .null, .int 0])), (q1, .inl (k2, 5, .inl (fun _ => 0))), (q3, .inl (k4, 5, .inl (fun _ => 0))), (q5, .inl (k6, 32, .inl (fun _ => 0)))] H := hP
  have hD : va_D A [(h0, .inr (10, [.null, .null, .ref q1, .ref q3, .null, .null, .int 0])), (q1, .inl (k2, 5, .inl (fun _ => 0))), (q3, .inl (k4, 5, .inl (fun _ => 0))), (q5, .inl (k6, 32, .inl (fun _ => 0)))] := hD
  have hK : va_K (dC, dI) vwCl [(k2, .int), (k4, .int), (k6, .int)] s := hK
  refine W.widen (k := 3) (n := 42) (by decide) (by decide) ?_
  refine va_putF (D := (dC, dI)) (ci := 10) (v := .ref q5) (ty := (.array .int)) (C := RX10) (T := TX10) (N := 7) hx hb hts inX10 tyX10 tyX10_ok nmX10 hown hK hP hD hS 0 rfl rfl 4 (by decide) (hts _ (tmC2 (List.mem_of_getElem? (i := 80) rfl) rfl)) (fun _ h9 => h9) rfl hin rfl (by decide +kernel) rfl rfl (Nat.le_of_ble_eq_true rfl) dk_Voyage_23 (fun H locs hP hD hS => ?_)
  have hP : va_P (dC, dI) vwCl [(h0, .inr (10, [.null, .null, .ref q1, .ref q3, .ref q5, .null, .int 0])), (q1, .inl (k2, 5, .inl (fun _ => 0))), (q3, .inl (k4, 5, .inl (fun _ => 0))), (q5, .inl (k6, 32, .inl (fun _ => 0)))] H := hP
  have hD : va_D A [(h0, .inr (10, [.null, .null, .ref q1, .ref q3, .ref q5, .null, .int 0])), (q1, .inl (k2, 5, .inl (fun _ => 0))), (q3, .inl (k4, 5, .inl (fun _ => 0))), (q5, .inl (k6, 32, .inl (fun _ => 0)))] := hD
  refine lv_aload_n hx hb dk_Voyage_26 rfl (lv_at hl 0 rfl) ?_
  refine lv_bipush (v := 32) hx hb dk_Voyage_27 (by decide) ?_
  refine va_newa (atype := .int) (ty := .int) (N' := 32) (a0 := (32, .inl (fun _ => 0))) hx hb (hts _ (tmC1 (List.mem_of_getElem? (i := 46) rfl) rfl)) rfl hK hP hD hS hA (fun _ => rfl) (by decide) (by decide) (by decide) (Nat.le_of_ble_eq_true rfl) (Nat.le_of_ble_eq_true rfl) dk_Voyage_29 (fun q7 k8 H hK hP hD hS => ?_)
  have hP : va_P (dC, dI) vwCl [(h0, .inr (10, [.null, .null, .ref q1, .ref q3, .ref q5, .null, .int 0])), (q1, .inl (k2, 5, .inl (fun _ => 0))), (q3, .inl (k4, 5, .inl (fun _ => 0))), (q5, .inl (k6, 32, .inl (fun _ => 0))), (q7, .inl (k8, 32, .inl (fun _ => 0)))] H := hP
  have hD : va_D A [(h0, .inr (10, [.null, .null, .ref q1, .ref q3, .ref q5, .null, .int 0])), (q1, .inl (k2, 5, .inl (fun _ => 0))), (q3, .inl (k4, 5, .inl (fun _ => 0))), (q5, .inl (k6, 32, .inl (fun _ => 0))), (q7, .inl (k8, 32, .inl (fun _ => 0)))] := hD
  have hK : va_K (dC, dI) vwCl [(k2, .int), (k4, .int), (k6, .int), (k8, .int)] s := hK
  refine W.widen (k := 4) (n := 74) (by decide) (by decide) ?_
  refine va_putF (D := (dC, dI)) (ci := 10) (v := .ref q7) (ty := (.array .int)) (C := RX10) (T := TX10) (N := 7) hx hb hts inX10 tyX10 tyX10_ok nmX10 hown hK hP hD hS 0 rfl rfl 5 (by decide) (hts _ (tmC2 (List.mem_of_getElem? (i := 81) rfl) rfl)) (fun _ h9 => h9) rfl hin rfl (by decide +kernel) rfl rfl (Nat.le_of_ble_eq_true rfl) dk_Voyage_31 (fun H locs hP hD hS => ?_)
  have hP : va_P (dC, dI) vwCl [(h0, .inr (10, [.null, .null, .ref q1, .ref q3, .ref q5, .ref q7, .int 0])), (q1, .inl (k2, 5, .inl (fun _ => 0))), (q3, .inl (k4, 5, .inl (fun _ => 0))), (q5, .inl (k6, 32, .inl (fun _ => 0))), (q7, .inl (k8, 32, .inl (fun _ => 0)))] H := hP
  have hD : va_D A [(h0, .inr (10, [.null, .null, .ref q1, .ref q3, .ref q5, .ref q7, .int 0])), (q1, .inl (k2, 5, .inl (fun _ => 0))), (q3, .inl (k4, 5, .inl (fun _ => 0))), (q5, .inl (k6, 32, .inl (fun _ => 0))), (q7, .inl (k8, 32, .inl (fun _ => 0)))] := hD
  refine lv_aload_n hx hb dk_Voyage_34 rfl (lv_at hl 0 rfl) ?_
  refine lv_aload_n hx hb dk_Voyage_35 rfl (lv_at hl 1 rfl) ?_
  refine va_putF (D := (dC, dI)) (ci := 10) (v := .ref a1) (ty := (.object "LargerWithin$Store")) (C := RX10) (T := TX10) (N := 7) hx hb hts inX10 tyX10 tyX10_ok nmX10 hown hK hP hD hS 0 rfl rfl 0 (by decide) (hts _ (tmC2 (List.mem_of_getElem? (i := 76) rfl) rfl)) (fun _ h9 => h9) rfl hin rfl (by decide +kernel) rfl rfl (Nat.le_of_ble_eq_true rfl) dk_Voyage_36 (fun H locs hP hD hS => ?_)
  have hP : va_P (dC, dI) vwCl [(h0, .inr (10, [.ref a1, .null, .ref q1, .ref q3, .ref q5, .ref q7, .int 0])), (q1, .inl (k2, 5, .inl (fun _ => 0))), (q3, .inl (k4, 5, .inl (fun _ => 0))), (q5, .inl (k6, 32, .inl (fun _ => 0))), (q7, .inl (k8, 32, .inl (fun _ => 0)))] H := hP
  have hD : va_D A [(h0, .inr (10, [.ref a1, .null, .ref q1, .ref q3, .ref q5, .ref q7, .int 0])), (q1, .inl (k2, 5, .inl (fun _ => 0))), (q3, .inl (k4, 5, .inl (fun _ => 0))), (q5, .inl (k6, 32, .inl (fun _ => 0))), (q7, .inl (k8, 32, .inl (fun _ => 0)))] := hD
  refine lv_aload_n hx hb dk_Voyage_39 rfl (lv_at hl 0 rfl) ?_
  refine lv_aload_n hx hb dk_Voyage_40 rfl (lv_at hl 2 rfl) ?_
  refine va_putF (D := (dC, dI)) (ci := 10) (v := .ref a2) (ty := (.object "LargerWithin$Layout")) (C := RX10) (T := TX10) (N := 7) hx hb hts inX10 tyX10 tyX10_ok nmX10 hown hK hP hD hS 0 rfl rfl 1 (by decide) (hts _ (tmC2 (List.mem_of_getElem? (i := 77) rfl) rfl)) (fun _ h9 => h9) rfl hin rfl (by decide +kernel) rfl rfl (Nat.le_of_ble_eq_true rfl) dk_Voyage_41 (fun H locs hP hD hS => ?_)
  have hP : va_P (dC, dI) vwCl [(h0, .inr (10, [.ref a1, .ref a2, .ref q1, .ref q3, .ref q5, .ref q7, .int 0])), (q1, .inl (k2, 5, .inl (fun _ => 0))), (q3, .inl (k4, 5, .inl (fun _ => 0))), (q5, .inl (k6, 32, .inl (fun _ => 0))), (q7, .inl (k8, 32, .inl (fun _ => 0)))] H := hP
  have hD : va_D A [(h0, .inr (10, [.ref a1, .ref a2, .ref q1, .ref q3, .ref q5, .ref q7, .int 0])), (q1, .inl (k2, 5, .inl (fun _ => 0))), (q3, .inl (k4, 5, .inl (fun _ => 0))), (q5, .inl (k6, 32, .inl (fun _ => 0))), (q7, .inl (k8, 32, .inl (fun _ => 0)))] := hD
  exact W.vret hx hb hr (fun t ht hW => ⟨⟨(), rfl, trivial, q1, k2, q3, k4, q5, k6, q7, k8, by rw [ht]; exact hP, va_K.moved hW.alike hK, hD⟩, hS.F ht⟩) hS.2.2 dk_Voyage_44
