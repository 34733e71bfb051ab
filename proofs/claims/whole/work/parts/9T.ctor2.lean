/-! ===== the constructors of Reader, Packing (printed by wip/gen/ctor.py) ===== -/
def yk_Reader : MethodName := ⟨"LargerWithin$Reader", "<init>", "()V"⟩
abbrev bk_Reader : ByteArray := prog_8_method_1_code
def wk_Reader : List Cond := .code yk_Reader bk_Reader 1 none :: tg
theorem dk_Reader_0 : decode bk_Reader 0 = .ok (.aload_n 0, 1) := by decide +kernel
theorem dk_Reader_1 : decode bk_Reader 1 = .ok (.invokespecial 3, 3) := by decide +kernel
theorem dk_Reader_4 : decode bk_Reader 4 = .ok (.aload_n 0, 1) := by decide +kernel
theorem dk_Reader_5 : decode bk_Reader 5 = .ok (.sipush 900, 3) := by decide +kernel
theorem dk_Reader_8 : decode bk_Reader 8 = .ok (.newarray .int, 2) := by decide +kernel
theorem dk_Reader_10 : decode bk_Reader 10 = .ok (.putfield 9, 3) := by decide +kernel
theorem dk_Reader_13 : decode bk_Reader 13 = .ok (.aload_n 0, 1) := by decide +kernel
theorem dk_Reader_14 : decode bk_Reader 14 = .ok (.new 15, 3) := by decide +kernel
theorem dk_Reader_17 : decode bk_Reader 17 = .ok (.dup, 1) := by decide +kernel
theorem dk_Reader_18 : decode bk_Reader 18 = .ok (.invokespecial 17, 3) := by decide +kernel
theorem dk_Reader_21 : decode bk_Reader 21 = .ok (.putfield 18, 3) := by decide +kernel
theorem dk_Reader_24 : decode bk_Reader 24 = .ok (.aload_n 0, 1) := by decide +kernel
theorem dk_Reader_25 : decode bk_Reader 25 = .ok (.iconst (-1), 1) := by decide +kernel
theorem dk_Reader_26 : decode bk_Reader 26 = .ok (.putfield 22, 3) := by decide +kernel
theorem dk_Reader_29 : decode bk_Reader 29 = .ok (.aload_n 0, 1) := by decide +kernel
theorem dk_Reader_30 : decode bk_Reader 30 = .ok (.ldc 26, 2) := by decide +kernel
theorem dk_Reader_32 : decode bk_Reader 32 = .ok (.putfield 28, 3) := by decide +kernel
theorem dk_Reader_35 : decode bk_Reader 35 = .ok (.return_, 1) := by decide +kernel
set_option maxHeartbeats 8000000 in
set_option maxRecDepth 100000 in
theorem c_Reader (l : Launch) (dC : Nat → ClassId) (dI : Nat → Nat → Nat) (h0 : Nat) (aS : Nat) (sz : Nat) : Met l yk_Reader wk_Reader ({ frames := 5, cells := 3, slots := 1071, locals := 200 }) (va_Pc [.ref h0] (fun U => U.heap.size = sz ∧ va_P (dC, dI) vwCl [(h0, .inr (6, [.null, .null, .int 0, .int 0, .int 0, .int 0, .null, .int 0, .int 0, .int 0]))] U.heap ∧ va_K (dC, dI) vwCl [] U ∧ va_D (fun _ => True) [(h0, .inr (6, [.null, .null, .int 0, .int 0, .int 0, .int 0, .null, .int 0, .int 0, .int 0]))] ∧ va_Nw (.methodLinkNest "LargerWithin$Reader" 17 ⟨"LargerWithin$Store", "<init>", "()V"⟩ "LargerWithin") U ∧ vk_R "LargerWithin$Reader" 26 "" aS U)) (va_Qv (fun _ : Unit => True) (fun _ t => ∃ (q1 : Nat), ∃ (k2 : ClassId), ∃ (q3 : Nat), ∃ (q4 : Nat), ∃ (k5 : ClassId), va_P (dC, dI) vwCl [(h0, .inr (6, [.ref q1, .ref q3, .int 0, .int 0, .int 0, .int (-1), .ref aS, .int 0, .int 0, .int 0])), (q1, .inl (k2, 900, .inl (fun _ => 0))), (q3, .inr (9, [.ref q4, .int 0, .int 0])), (q4, .inl (k5, 168, .inl (fun _ => 0)))] t.heap ∧ va_K (dC, dI) vwCl [(k2, .int), (k5, .int)] t ∧ va_D (va_A [(h0, .inr (6, [.null, .null, .int 0, .int 0, .int 0, .int 0, .null, .int 0, .int 0, .int 0]))] sz) [(h0, .inr (6, [.ref q1, .ref q3, .int 0, .int 0, .int 0, .int (-1), .ref aS, .int 0, .int 0, .int 0])), (q1, .inl (k2, 900, .inl (fun _ => 0))), (q3, .inr (9, [.ref q4, .int 0, .int 0])), (q4, .inl (k5, 168, .inl (fun _ => 0)))]) (va_A [(h0, .inr (6, [.null, .null, .int 0, .int 0, .int 0, .int 0, .null, .int 0, .int 0, .int 0]))] sz)) 3 1071 (va_A [(h0, .inr (6, [.null, .null, .int 0, .int 0, .int 0, .int 0, .null, .int 0, .int 0, .int 0]))] sz) := by
  refine Met.ofW (cc := bk_Reader) (maxL := 1) (ret := none) (by decide) rfl ?_
  intro p e s m args below meth c s₁ B hml hv
  obtain ⟨rfl, hsz, hP, hK, hD0, hnw_Store, hstr⟩ := hv
  have hx := B.exec
  have hb := B.bytes
  have hr := B.returns
  have hts : ∀ w ∈ tg, w.before _ s = true := fun w hw => atoms_spec (ws := wk_Reader) B.pre w (List.mem_cons_of_mem _ hw)
  have hown : s.vm.findClass "LargerWithin$Reader" = some m.cls := findClass_of_methodNamed B.named
  have hlocks := B.notSynchronized
  have hin : meth.name = "<init>" := (name_of_methodNamed B.named B.method).1
  subst hsz
  have hD := hD0.self (sz := s.heap.size)
  generalize hAe : va_A [(h0, .inr (6, [.null, .null, .int 0, .int 0, .int 0, .int 0, .null, .int 0, .int 0, .int 0]))] s.heap.size = A at hD ⊢
  have hA : ∀ q : Nat, s.heap.size ≤ q → A q := fun q h => by rw [← hAe]; exact Or.inr h
  have hS : va_S A s.heap s.heap [] := va_S.rf
  have hl := lv_entry ([.ref h0]) (n := 1) (Nat.le_of_ble_eq_true rfl)
  rw [lg_entry_eq]
  generalize (lg_sl ([.ref h0]) ++ List.replicate (1 - (lg_sl ([.ref h0])).length) Slot.unset).toArray = ls at hl ⊢
  have hl : lv_has ls 1 [(0, .ref h0)] := hl
  refine lv_aload_n hx hb dk_Reader_0 rfl (lv_at hl 0 rfl) ?_
  refine W.objInit hx hb hown (hts _ (tmC1 (List.mem_of_getElem? (i := 74) rfl) rfl)) (hts _ (tmC1 (List.mem_of_getElem? (i := 28) rfl) rfl)) (hts _ (tmC1 (List.mem_of_getElem? (i := 29) rfl) rfl)) rfl (by rw [hml]; exact hl.1) rfl dk_Reader_1 (Nat.le_of_ble_eq_true rfl) (Nat.le_of_ble_eq_true rfl) ?_
  refine W.eq (g2 := F0 m 4 ls []) rfl ?_
  refine lv_aload_n hx hb dk_Reader_4 rfl (lv_at hl 0 rfl) ?_
  refine lv_sipush (v := 900) hx hb dk_Reader_5 (by decide) ?_
  refine va_newa (atype := .int) (ty := .int) (N' := 900) (a0 := (900, .inl (fun _ => 0))) hx hb (hts _ (tmC1 (List.mem_of_getElem? (i := 46) rfl) rfl)) rfl hK hP hD hS hA (fun _ => rfl) (by decide) (by decide) (by decide) (Nat.le_of_ble_eq_true rfl) (Nat.le_of_ble_eq_true rfl) dk_Reader_8 (fun q1 k2 H hK hP hD hS => ?_)
  have hP : va_P (dC, dI) vwCl [(h0, .inr (6, [.null, .null, .int 0, .int 0, .int 0, .int 0, .null, .int 0, .int 0, .int 0])), (q1, .inl (k2, 900, .inl (fun _ => 0)))] H := hP
  have hD : va_D A [(h0, .inr (6, [.null, .null, .int 0, .int 0, .int 0, .int 0, .null, .int 0, .int 0, .int 0])), (q1, .inl (k2, 900, .inl (fun _ => 0)))] := hD
  have hK : va_K (dC, dI) vwCl [(k2, .int)] s := hK
  refine W.widen (k := 1) (n := 900) (by decide) (by decide) ?_
  refine va_putF (D := (dC, dI)) (ci := 6) (v := .ref q1) (ty := (.array .int)) (C := RX6) (T := TX6) (N := 10) hx hb hts inX6 tyX6 tyX6_ok nmX6 hown hK hP hD hS 0 rfl rfl 0 (by decide) (hts _ (tmC1 (List.mem_of_getElem? (i := 78) rfl) rfl)) (fun _ h9 => h9) rfl hin rfl (by decide +kernel) rfl rfl (Nat.le_of_ble_eq_true rfl) dk_Reader_10 (fun H locs hP hD hS => ?_)
  have hP : va_P (dC, dI) vwCl [(h0, .inr (6, [.ref q1, .null, .int 0, .int 0, .int 0, .int 0, .null, .int 0, .int 0, .int 0])), (q1, .inl (k2, 900, .inl (fun _ => 0)))] H := hP
  have hD : va_D A [(h0, .inr (6, [.ref q1, .null, .int 0, .int 0, .int 0, .int 0, .null, .int 0, .int 0, .int 0])), (q1, .inl (k2, 900, .inl (fun _ => 0)))] := hD
  refine lv_aload_n hx hb dk_Reader_13 rfl (lv_at hl 0 rfl) ?_
  refine va_new (ci := 9) (fs := [.null, .int 0, .int 0]) (C := RX9) (T := TX9) (N := 3) hx hb hts inX9 tyX9 tyX9_ok hown (hts _ (tmC1 (List.mem_of_getElem? (i := 75) rfl) rfl)) (hts _ (tmC1 (List.mem_of_getElem? (i := 31) rfl) rfl)) (hts _ (tmC1 (List.mem_of_getElem? (i := 2) rfl) rfl)) hK hP hD hS hA rfl (fun j hj => by rcases (show j = 0 ∨ j = 1 ∨ j = 2 by omega) with rfl | rfl | rfl <;> rfl) (Nat.le_of_ble_eq_true rfl) (Nat.le_of_ble_eq_true rfl) dk_Reader_14 (fun q3 H hP hD hS => ?_)
  have hP : va_P (dC, dI) vwCl [(h0, .inr (6, [.ref q1, .null, .int 0, .int 0, .int 0, .int 0, .null, .int 0, .int 0, .int 0])), (q1, .inl (k2, 900, .inl (fun _ => 0))), (q3, .inr (9, [.null, .int 0, .int 0]))] H := hP
  have hD : va_D A [(h0, .inr (6, [.ref q1, .null, .int 0, .int 0, .int 0, .int 0, .null, .int 0, .int 0, .int 0])), (q1, .inl (k2, 900, .inl (fun _ => 0))), (q3, .inr (9, [.null, .int 0, .int 0]))] := hD
  refine W.widen (k := 2) (n := 903) (by decide) (by decide) ?_
  refine lv_dup hx hb dk_Reader_17 rfl ?_
  have hPc := hP.sub (ws' := [(q3, .inr (9, [.null, .int 0, .int 0]))]) [2] rfl
  have hDc := hD.sub (ws' := [(q3, .inr (9, [.null, .int 0, .int 0]))]) [2] (by decide) rfl
  have hKc := hK.sub (tys' := []) [] rfl
  have hFc := va_free (wc := [(q3, .inr (9, [.null, .int 0, .int 0]))]) hD hS hA [2] rfl
  refine va_callv (va_runIN (As := []) (rest := [.ref q3, .ref h0]) ⟨hx, hb, hml, hown, hts⟩ (c_Store l dC dI q3 H.size) ⟨va_cnB 0 hts (goodC (tmC1 (List.mem_of_getElem? (i := 34) rfl) rfl)) rfl rfl rfl hnw_Store (hts _ (tmC1 (List.mem_of_getElem? (i := 2) rfl) rfl)) (by decide +kernel) ⟨Nat.le_of_ble_eq_true rfl, Nat.le_of_ble_eq_true rfl⟩, rfl, (hts _ (tmC1 (List.mem_of_getElem? (i := 33) rfl) rfl))⟩ ⟨fun a U g mk q => by obtain ⟨q0, q1, qP, qK, qD⟩ := q; exact ⟨q0, q1, qP, va_K.moved (u := U) (U := U.calling g mk a) (Vm.Alike.refl U.vm) qK, qD⟩, fun U hU hW => ⟨rfl, by rw [hU], by rw [hU]; exact hPc, va_K.moved hW.alike hKc, hDc.weaken (fun _ _ _ _ => trivial)⟩⟩ rfl rfl hl.1 rfl (lv_room (Nat.le_of_ble_eq_true rfl)) dk_Reader_18 ⟨Nat.le_of_ble_eq_true rfl, Nat.le_of_ble_eq_true rfl⟩) hS (fun q _ h => hFc q h) hFc (fun u t H1 locs ht hvm hw hB hz1 hk1 hS => ?_)
  obtain ⟨q4, k5, hP1, hK1, hD1⟩ := hB
  rw [ht] at hP1
  have hK1 := va_K.moved hvm.symm hK1
  obtain ⟨hP, hD⟩ := va_join (wr := [(h0, .inr (6, [.ref q1, .null, .int 0, .int 0, .int 0, .int 0, .null, .int 0, .int 0, .int 0])), (q1, .inl (k2, 900, .inl (fun _ => 0)))]) (w1 := [(q3, .inr (9, [.ref q4, .int 0, .int 0])), (q4, .inl (k5, 168, .inl (fun _ => 0)))]) hP hD [2] [0, 1] rfl rfl (by decide) (by decide) hk1 hFc hP1 hD1
  have hK := hK.app hK1
  generalize H1 = H at hP hS ⊢
  have hP : va_P (dC, dI) vwCl [(h0, .inr (6, [.ref q1, .null, .int 0, .int 0, .int 0, .int 0, .null, .int 0, .int 0, .int 0])), (q1, .inl (k2, 900, .inl (fun _ => 0))), (q3, .inr (9, [.ref q4, .int 0, .int 0])), (q4, .inl (k5, 168, .inl (fun _ => 0)))] H := hP
  have hD : va_D A [(h0, .inr (6, [.ref q1, .null, .int 0, .int 0, .int 0, .int 0, .null, .int 0, .int 0, .int 0])), (q1, .inl (k2, 900, .inl (fun _ => 0))), (q3, .inr (9, [.ref q4, .int 0, .int 0])), (q4, .inl (k5, 168, .inl (fun _ => 0)))] := hD
  have hK : va_K (dC, dI) vwCl [(k2, .int), (k5, .int)] s := hK
  refine W.widen (k := 3) (n := 1071) (by decide) (by decide) ?_
  refine va_putF (D := (dC, dI)) (ci := 6) (v := .ref q3) (ty := (.object "LargerWithin$Store")) (C := RX6) (T := TX6) (N := 10) hx hb hts inX6 tyX6 tyX6_ok nmX6 hown hK hP hD hS 0 rfl rfl 1 (by decide) (hts _ (tmC1 (List.mem_of_getElem? (i := 79) rfl) rfl)) (fun _ h9 => h9) rfl hin rfl (by decide +kernel) rfl rfl (Nat.le_of_ble_eq_true rfl) dk_Reader_21 (fun H locs hP hD hS => ?_)
  have hP : va_P (dC, dI) vwCl [(h0, .inr (6, [.ref q1, .ref q3, .int 0, .int 0, .int 0, .int 0, .null, .int 0, .int 0, .int 0])), (q1, .inl (k2, 900, .inl (fun _ => 0))), (q3, .inr (9, [.ref q4, .int 0, .int 0])), (q4, .inl (k5, 168, .inl (fun _ => 0)))] H := hP
  have hD : va_D A [(h0, .inr (6, [.ref q1, .ref q3, .int 0, .int 0, .int 0, .int 0, .null, .int 0, .int 0, .int 0])), (q1, .inl (k2, 900, .inl (fun _ => 0))), (q3, .inr (9, [.ref q4, .int 0, .int 0])), (q4, .inl (k5, 168, .inl (fun _ => 0)))] := hD
  refine lv_aload_n hx hb dk_Reader_24 rfl (lv_at hl 0 rfl) ?_
  refine lv_iconst (v := (-1)) hx hb dk_Reader_25 (by decide) ?_
  refine va_put (D := (dC, dI)) (ci := 6) (v := .int (-1)) (ty := .int) (C := RX6) (T := TX6) (N := 10) hx hb hts inX6 tyX6 tyX6_ok nmX6 hown hK hP hD hS 0 rfl rfl 5 (by decide) (hts _ (tmC1 (List.mem_of_getElem? (i := 83) rfl) rfl)) (fun _ h9 => h9) rfl (by decide +kernel) rfl rfl (Nat.le_of_ble_eq_true rfl) dk_Reader_26 (fun H locs hP hD hS => ?_)
  have hP : va_P (dC, dI) vwCl [(h0, .inr (6, [.ref q1, .ref q3, .int 0, .int 0, .int 0, .int (-1), .null, .int 0, .int 0, .int 0])), (q1, .inl (k2, 900, .inl (fun _ => 0))), (q3, .inr (9, [.ref q4, .int 0, .int 0])), (q4, .inl (k5, 168, .inl (fun _ => 0)))] H := hP
  have hD : va_D A [(h0, .inr (6, [.ref q1, .ref q3, .int 0, .int 0, .int 0, .int (-1), .null, .int 0, .int 0, .int 0])), (q1, .inl (k2, 900, .inl (fun _ => 0))), (q3, .inr (9, [.ref q4, .int 0, .int 0])), (q4, .inl (k5, 168, .inl (fun _ => 0)))] := hD
  refine lv_aload_n hx hb dk_Reader_29 rfl (lv_at hl 0 rfl) ?_
  refine va_ldcS hx hb hown hstr dk_Reader_30 ?_
  refine va_put (D := (dC, dI)) (ci := 6) (v := .ref aS) (ty := (.object "java/lang/String")) (C := RX6) (T := TX6) (N := 10) hx hb hts inX6 tyX6 tyX6_ok nmX6 hown hK hP hD hS 0 rfl rfl 6 (by decide) (hts _ (tmC1 (List.mem_of_getElem? (i := 84) rfl) rfl)) (fun _ h9 => h9) rfl (by decide +kernel) rfl rfl (Nat.le_of_ble_eq_true rfl) dk_Reader_32 (fun H locs hP hD hS => ?_)
  have hP : va_P (dC, dI) vwCl [(h0, .inr (6, [.ref q1, .ref q3, .int 0, .int 0, .int 0, .int (-1), .ref aS, .int 0, .int 0, .int 0])), (q1, .inl (k2, 900, .inl (fun _ => 0))), (q3, .inr (9, [.ref q4, .int 0, .int 0])), (q4, .inl (k5, 168, .inl (fun _ => 0)))] H := hP
  have hD : va_D A [(h0, .inr (6, [.ref q1, .ref q3, .int 0, .int 0, .int 0, .int (-1), .ref aS, .int 0, .int 0, .int 0])), (q1, .inl (k2, 900, .inl (fun _ => 0))), (q3, .inr (9, [.ref q4, .int 0, .int 0])), (q4, .inl (k5, 168, .inl (fun _ => 0)))] := hD
  exact W.vret hx hb hr (fun t ht hW => ⟨⟨(), rfl, trivial, q1, k2, q3, q4, k5, by rw [ht]; exact hP, va_K.moved hW.alike hK, hD⟩, hS.F ht⟩) hS.2.2 dk_Reader_35
def yk_Packing : MethodName := ⟨"LargerWithin$Packing", "<init>", "(LLargerWithin$Store;)V"⟩
abbrev bk_Packing : ByteArray := prog_6_method_1_code
def wk_Packing : List Cond := .code yk_Packing bk_Packing 2 none :: tg
theorem dk_Packing_0 : decode bk_Packing 0 = .ok (.aload_n 0, 1) := by decide +kernel
theorem dk_Packing_1 : decode bk_Packing 1 = .ok (.invokespecial 3, 3) := by decide +kernel
theorem dk_Packing_4 : decode bk_Packing 4 = .ok (.aload_n 0, 1) := by decide +kernel
theorem dk_Packing_5 : decode bk_Packing 5 = .ok (.aload_n 1, 1) := by decide +kernel
theorem dk_Packing_6 : decode bk_Packing 6 = .ok (.putfield 9, 3) := by decide +kernel
theorem dk_Packing_9 : decode bk_Packing 9 = .ok (.aload_n 0, 1) := by decide +kernel
theorem dk_Packing_10 : decode bk_Packing 10 = .ok (.new 15, 3) := by decide +kernel
theorem dk_Packing_13 : decode bk_Packing 13 = .ok (.dup, 1) := by decide +kernel
theorem dk_Packing_14 : decode bk_Packing 14 = .ok (.aload_n 1, 1) := by decide +kernel
theorem dk_Packing_15 : decode bk_Packing 15 = .ok (.invokespecial 17, 3) := by decide +kernel
theorem dk_Packing_18 : decode bk_Packing 18 = .ok (.putfield 20, 3) := by decide +kernel
theorem dk_Packing_21 : decode bk_Packing 21 = .ok (.return_, 1) := by decide +kernel
set_option maxHeartbeats 8000000 in
set_option maxRecDepth 100000 in
theorem c_Packing (l : Launch) (dC : Nat → ClassId) (dI : Nat → Nat → Nat) (h0 : Nat) (a1 : Nat) (sz : Nat) : Met l yk_Packing wk_Packing ({ frames := 5, cells := 3, slots := 52, locals := 200 }) (va_Pc [.ref h0, .ref a1] (fun U => U.heap.size = sz ∧ va_P (dC, dI) vwCl [(h0, .inr (4, [.null, .null, .int 0, .int 0, .int 0]))] U.heap ∧ va_K (dC, dI) vwCl [] U ∧ va_D (fun _ => True) [(h0, .inr (4, [.null, .null, .int 0, .int 0, .int 0]))])) (va_Qv (fun _ : Unit => True) (fun _ t => ∃ (q1 : Nat), ∃ (q2 : Nat), ∃ (k3 : ClassId), ∃ (q4 : Nat), ∃ (k5 : ClassId), ∃ (f6 : Nat → Int32), (∀ j, j < 24 → f6 j = (-1)) ∧ va_P (dC, dI) vwCl [(h0, .inr (4, [.ref a1, .ref q1, .int 0, .int 0, .int 0])), (q1, .inr (2, [.ref a1, .ref q2, .ref q4, .int 0])), (q4, .inl (k5, 24, .inl (fun _ => 0))), (q2, .inl (k3, 24, .inl f6))] t.heap ∧ va_K (dC, dI) vwCl [(k3, .int), (k5, .int)] t ∧ va_D (va_A [(h0, .inr (4, [.null, .null, .int 0, .int 0, .int 0]))] sz) [(h0, .inr (4, [.ref a1, .ref q1, .int 0, .int 0, .int 0])), (q1, .inr (2, [.ref a1, .ref q2, .ref q4, .int 0])), (q4, .inl (k5, 24, .inl (fun _ => 0))), (q2, .inl (k3, 24, .inl f6))]) (va_A [(h0, .inr (4, [.null, .null, .int 0, .int 0, .int 0]))] sz)) 3 52 (va_A [(h0, .inr (4, [.null, .null, .int 0, .int 0, .int 0]))] sz) := by
  refine Met.ofW (cc := bk_Packing) (maxL := 2) (ret := none) (by decide) rfl ?_
  intro p e s m args below meth c s₁ B hml hv
  obtain ⟨rfl, hsz, hP, hK, hD0⟩ := hv
  have hx := B.exec
  have hb := B.bytes
  have hr := B.returns
  have hts : ∀ w ∈ tg, w.before _ s = true := fun w hw => atoms_spec (ws := wk_Packing) B.pre w (List.mem_cons_of_mem _ hw)
  have hown : s.vm.findClass "LargerWithin$Packing" = some m.cls := findClass_of_methodNamed B.named
  have hlocks := B.notSynchronized
  have hin : meth.name = "<init>" := (name_of_methodNamed B.named B.method).1
  subst hsz
  have hD := hD0.self (sz := s.heap.size)
  generalize hAe : va_A [(h0, .inr (4, [.null, .null, .int 0, .int 0, .int 0]))] s.heap.size = A at hD ⊢
  have hA : ∀ q : Nat, s.heap.size ≤ q → A q := fun q h => by rw [← hAe]; exact Or.inr h
  have hS : va_S A s.heap s.heap [] := va_S.rf
  have hl := lv_entry ([.ref h0, .ref a1]) (n := 2) (Nat.le_of_ble_eq_true rfl)
  rw [lg_entry_eq]
  generalize (lg_sl ([.ref h0, .ref a1]) ++ List.replicate (2 - (lg_sl ([.ref h0, .ref a1])).length) Slot.unset).toArray = ls at hl ⊢
  have hl : lv_has ls 2 [(0, .ref h0), (1, .ref a1)] := hl
  refine lv_aload_n hx hb dk_Packing_0 rfl (lv_at hl 0 rfl) ?_
  refine W.objInit hx hb hown (hts _ (tmC1 (List.mem_of_getElem? (i := 135) rfl) rfl)) (hts _ (tmC1 (List.mem_of_getElem? (i := 28) rfl) rfl)) (hts _ (tmC1 (List.mem_of_getElem? (i := 29) rfl) rfl)) rfl (by rw [hml]; exact hl.1) rfl dk_Packing_1 (Nat.le_of_ble_eq_true rfl) (Nat.le_of_ble_eq_true rfl) ?_
  refine W.eq (g2 := F0 m 4 ls []) rfl ?_
  refine lv_aload_n hx hb dk_Packing_4 rfl (lv_at hl 0 rfl) ?_
  refine lv_aload_n hx hb dk_Packing_5 rfl (lv_at hl 1 rfl) ?_
  refine va_putF (D := (dC, dI)) (ci := 4) (v := .ref a1) (ty := (.object "LargerWithin$Store")) (C := RX4) (T := TX4) (N := 5) hx hb hts inX4 tyX4 tyX4_ok nmX4 hown hK hP hD hS 0 rfl rfl 0 (by decide) (hts _ (tmC1 (List.mem_of_getElem? (i := 138) rfl) rfl)) (fun _ h9 => h9) rfl hin rfl (by decide +kernel) rfl rfl (Nat.le_of_ble_eq_true rfl) dk_Packing_6 (fun H locs hP hD hS => ?_)
  have hP : va_P (dC, dI) vwCl [(h0, .inr (4, [.ref a1, .null, .int 0, .int 0, .int 0]))] H := hP
  have hD : va_D A [(h0, .inr (4, [.ref a1, .null, .int 0, .int 0, .int 0]))] := hD
  refine lv_aload_n hx hb dk_Packing_9 rfl (lv_at hl 0 rfl) ?_
  refine va_new (ci := 2) (fs := [.null, .null, .null, .int 0]) (C := RX2) (T := TX2) (N := 4) hx hb hts inX2 tyX2 tyX2_ok hown (hts _ (tmC1 (List.mem_of_getElem? (i := 136) rfl) rfl)) (hts _ (tmC1 (List.mem_of_getElem? (i := 48) rfl) rfl)) (hts _ (tmC1 (List.mem_of_getElem? (i := 3) rfl) rfl)) hK hP hD hS hA rfl (fun j hj => by rcases (show j = 0 ∨ j = 1 ∨ j = 2 ∨ j = 3 by omega) with rfl | rfl | rfl | rfl <;> rfl) (Nat.le_of_ble_eq_true rfl) (Nat.le_of_ble_eq_true rfl) dk_Packing_10 (fun q1 H hP hD hS => ?_)
  have hP : va_P (dC, dI) vwCl [(h0, .inr (4, [.ref a1, .null, .int 0, .int 0, .int 0])), (q1, .inr (2, [.null, .null, .null, .int 0]))] H := hP
  have hD : va_D A [(h0, .inr (4, [.ref a1, .null, .int 0, .int 0, .int 0])), (q1, .inr (2, [.null, .null, .null, .int 0]))] := hD
  refine W.widen (k := 1) (n := 4) (by decide) (by decide) ?_
  refine lv_dup hx hb dk_Packing_13 rfl ?_
  refine lv_aload_n hx hb dk_Packing_14 rfl (lv_at hl 1 rfl) ?_
  have hPc := hP.sub (ws' := [(q1, .inr (2, [.null, .null, .null, .int 0]))]) [1] rfl
  have hDc := hD.sub (ws' := [(q1, .inr (2, [.null, .null, .null, .int 0]))]) [1] (by decide) rfl
  have hKc := hK.sub (tys' := []) [] rfl
  have hFc := va_free (wc := [(q1, .inr (2, [.null, .null, .null, .int 0]))]) hD hS hA [1] rfl
  refine va_callv (va_runI (As := [.ref a1]) (rest := [.ref q1, .ref h0]) ⟨hx, hb, hml, hown, hts⟩ (c_Layout l dC dI q1 a1 H.size) (cwI 1 hts (goodC (tmC1 (List.mem_of_getElem? (i := 51) rfl) rfl)) rfl rfl rfl (hts _ (tmC1 (List.mem_of_getElem? (i := 3) rfl) rfl)) (hts _ (tmC1 (List.mem_of_getElem? (i := 137) rfl) rfl)) (hts _ (tmC1 (List.mem_of_getElem? (i := 50) rfl) rfl)) rfl (by decide +kernel) ⟨Nat.le_of_ble_eq_true rfl, Nat.le_of_ble_eq_true rfl⟩) ⟨fun a U g mk q => by obtain ⟨q0, q1, qP, qK, qD⟩ := q; exact ⟨q0, q1, qP, va_K.moved (u := U) (U := U.calling g mk a) (Vm.Alike.refl U.vm) qK, qD⟩, fun U hU hW => ⟨rfl, by rw [hU], by rw [hU]; exact hPc, va_K.moved hW.alike hKc, hDc.weaken (fun _ _ _ _ => trivial)⟩⟩ rfl rfl hl.1 rfl (lv_room (Nat.le_of_ble_eq_true rfl)) dk_Packing_15 ⟨Nat.le_of_ble_eq_true rfl, Nat.le_of_ble_eq_true rfl⟩) hS (fun q _ h => hFc q h) hFc (fun u t H1 locs ht hvm hw hB hz1 hk1 hS => ?_)
  obtain ⟨q2, k3, q4, k5, f6, hf7, hP1, hK1, hD1⟩ := hB
  rw [ht] at hP1
  have hK1 := va_K.moved hvm.symm hK1
  obtain ⟨hP, hD⟩ := va_join (wr := [(h0, .inr (4, [.ref a1, .null, .int 0, .int 0, .int 0]))]) (w1 := [(q1, .inr (2, [.ref a1, .ref q2, .ref q4, .int 0])), (q4, .inl (k5, 24, .inl (fun _ => 0))), (q2, .inl (k3, 24, .inl f6))]) hP hD [1] [0] rfl rfl (by decide) (by decide) hk1 hFc hP1 hD1
  have hK := hK.app hK1
  generalize H1 = H at hP hS ⊢
  have hP : va_P (dC, dI) vwCl [(h0, .inr (4, [.ref a1, .null, .int 0, .int 0, .int 0])), (q1, .inr (2, [.ref a1, .ref q2, .ref q4, .int 0])), (q4, .inl (k5, 24, .inl (fun _ => 0))), (q2, .inl (k3, 24, .inl f6))] H := hP
  have hD : va_D A [(h0, .inr (4, [.ref a1, .null, .int 0, .int 0, .int 0])), (q1, .inr (2, [.ref a1, .ref q2, .ref q4, .int 0])), (q4, .inl (k5, 24, .inl (fun _ => 0))), (q2, .inl (k3, 24, .inl f6))] := hD
  have hK : va_K (dC, dI) vwCl [(k3, .int), (k5, .int)] s := hK
  refine W.widen (k := 3) (n := 52) (by decide) (by decide) ?_
  refine va_putF (D := (dC, dI)) (ci := 4) (v := .ref q1) (ty := (.object "LargerWithin$Layout")) (C := RX4) (T := TX4) (N := 5) hx hb hts inX4 tyX4 tyX4_ok nmX4 hown hK hP hD hS 0 rfl rfl 1 (by decide) (hts _ (tmC1 (List.mem_of_getElem? (i := 139) rfl) rfl)) (fun _ h9 => h9) rfl hin rfl (by decide +kernel) rfl rfl (Nat.le_of_ble_eq_true rfl) dk_Packing_18 (fun H locs hP hD hS => ?_)
  have hP : va_P (dC, dI) vwCl [(h0, .inr (4, [.ref a1, .ref q1, .int 0, .int 0, .int 0])), (q1, .inr (2, [.ref a1, .ref q2, .ref q4, .int 0])), (q4, .inl (k5, 24, .inl (fun _ => 0))), (q2, .inl (k3, 24, .inl f6))] H := hP
  have hD : va_D A [(h0, .inr (4, [.ref a1, .ref q1, .int 0, .int 0, .int 0])), (q1, .inr (2, [.ref a1, .ref q2, .ref q4, .int 0])), (q4, .inl (k5, 24, .inl (fun _ => 0))), (q2, .inl (k3, 24, .inl f6))] := hD
  exact W.vret hx hb hr (fun t ht hW => ⟨⟨(), rfl, trivial, q1, q2, k3, q4, k5, f6, hf7, by rw [ht]; exact hP, va_K.moved hW.alike hK, hD⟩, hS.F ht⟩) hS.2.2 dk_Packing_21
