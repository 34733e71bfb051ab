/-! ===== both objects at the beginning (printed by wip/gen/start.py) ===== -/
def ini0 : Nat → Nat → Int32 := fun i k => match i, k with
  | 9, 5 => (-1)
  | 9, 6 => (nI 950)
  | 14, 2 => (-1)
  | 16, 2 => (-1)
  | 18, 2 => (-1)
  | 20, 2 => (-1)
  | 74, 14 => (-1)
  | _, _ => 0
def hp0 (g0 g1 g2 g3 g4 : Nat → Int32) : Hp := (ini0, fun i => match i with
  | 4 => g0
  | 7 => g1
  | 28 => g2
  | 33 => g3
  | 37 => g4
  | 93 => (upd (upd (upd (upd (fun _ => 0) (0 : Int32).toNatClampNeg (-1)) (1 : Int32).toNatClampNeg (-1)) (2 : Int32).toNatClampNeg (-1)) (3 : Int32).toNatClampNeg (-1))
  | _ => fun _ => 0, fun _ _ => 0)
def adr0 (AL : List Nat) (b t1 t2 t3 t4 : Nat) (aK : Nat → Nat) : Nat → Nat := fun i => if i < 96 then AL.getD i 0 else if i = 900 then b else if i = 901 then t1 else if i = 902 then t2 else if i = 903 then t3 else if i = 904 then t4 else aK (i - 950)
def E0 (AL : List Nat) (KL : List ClassId) (dC : Nat → ClassId) (dI : Nat → Nat → Nat) (L : Nat) (xs : Nat → Int32) (l : Launch) (b t1 t2 t3 t4 : Nat) (aK aV : Nat → Nat) : EnvX := (adr0 AL b t1 t2 t3 t4 aK, fun i => KL.getD i 0, dC, dI, L, xs, l, aV)
theorem inv_0 {g0 g1 g2 g3 g4 : Nat → Int32} (e0 : ∀ j, j < 24 → g0 j = -1) (e1 : ∀ j, j < 24 → g1 j = -1) (e2 : ∀ j, j < 24 → g2 j = -1) (e3 : ∀ j, j < 24 → g3 j = -1) (e4 : ∀ j, j < 24 → g4 j = -1) : Inv (hp0 g0 g1 g2 g3 g4) 0 := by
  have c1 : cls 1 = 9 := by decide +kernel
  have c3 : cls 3 = 2 := by decide +kernel
  refine ⟨by decide, ⟨0, 0, fun _ _ => 0, fun _ => 0, fun _ => 0, fun _ => 0, 0, Nat.le_refl _, ⟨c1, rfl, rfl, by decide, by decide, fun i k hi hk => ⟨rfl, Nat.zero_le _⟩⟩, ⟨c3, fun i hi => ⟨e0 i hi, Nat.zero_le _⟩, fun i hi => ⟨rfl, Nat.zero_le _⟩⟩, ⟨⟨by decide, by decide, by decide⟩, ⟨rfl, rfl, rfl, rfl⟩, fun i k hi hk => ⟨rfl, Nat.zero_le _⟩, fun i hi => ⟨rfl, Nat.zero_le _⟩, fun i hi => ⟨rfl, show 0 < 1073741824 by decide⟩, fun i hi _ => rfl⟩, acy_none, OrdV_none (fun _ _ => Nat.le_refl _), tvB0⟩, fun r hr => Or.inl ?_, ⟨0, by decide, rfl, rfl, fun k hk => absurd hk (Nat.not_lt_zero k)⟩, ⟨rfl, rfl⟩, fun i hi => Or.inl ⟨rfl, rfl⟩, fun a h1 h2 => ?_⟩
  · rcases (show r = 0 ∨ r = 1 ∨ r = 2 ∨ r = 3 by omega) with rfl | rfl | rfl | rfl <;> exact ⟨rfl, rfl⟩
  · rcases (show a = 41 ∨ a = 42 ∨ a = 43 ∨ a = 44 by omega) with rfl | rfl | rfl | rfl <;> exact ⟨rfl, rfl⟩
theorem tlC1 {w : Cond} (h : w ∈ tables_1_1) : w ∈ lw_tbl := List.mem_append_right _ (List.mem_append_left _ h)
theorem tlC2 {w : Cond} (h : w ∈ tables_1_2) : w ∈ lw_tbl := List.mem_append_right _ (List.mem_append_right _ (List.mem_append_left _ h))
theorem tlC3 {w : Cond} (h : w ∈ tables_1_3) : w ∈ lw_tbl := List.mem_append_right _ (List.mem_append_right _ (List.mem_append_right _ (List.mem_append_left _ h)))
theorem tlC4 {w : Cond} (h : w ∈ tables_1_4) : w ∈ lw_tbl := List.mem_append_right _ (List.mem_append_right _ (List.mem_append_right _ (List.mem_append_right _ (List.mem_append_left _ h))))
theorem tlC5 {w : Cond} (h : w ∈ tables_1_5) : w ∈ lw_tbl := List.mem_append_right _ (List.mem_append_right _ (List.mem_append_right _ (List.mem_append_right _ (List.mem_append_right _ (List.mem_append_left _ h)))))
theorem tlC6 {w : Cond} (h : w ∈ tables_1_6) : w ∈ lw_tbl := List.mem_append_right _ (List.mem_append_right _ (List.mem_append_right _ (List.mem_append_right _ (List.mem_append_right _ (List.mem_append_right _ (List.mem_append_left _ h))))))
theorem tlC7 {w : Cond} (h : w ∈ tables_1_7) : w ∈ lw_tbl := List.mem_append_right _ (List.mem_append_right _ (List.mem_append_right _ (List.mem_append_right _ (List.mem_append_right _ (List.mem_append_right _ (List.mem_append_right _ (List.mem_append_left _ h)))))))
theorem tlC8 {w : Cond} (h : w ∈ tables_1_8) : w ∈ lw_tbl := List.mem_append_right _ (List.mem_append_right _ (List.mem_append_right _ (List.mem_append_right _ (List.mem_append_right _ (List.mem_append_right _ (List.mem_append_right _ (List.mem_append_right _ (List.mem_append_left _ h))))))))
theorem tlC9 {w : Cond} (h : w ∈ tables_1_9) : w ∈ lw_tbl := List.mem_append_right _ (List.mem_append_right _ (List.mem_append_right _ (List.mem_append_right _ (List.mem_append_right _ (List.mem_append_right _ (List.mem_append_right _ (List.mem_append_right _ (List.mem_append_right _ (h)))))))))
theorem adr_s (AL : List Nat) (b t1 t2 t3 t4 : Nat) (aK : Nat → Nat) (i : Nat) : adr0 AL b t1 t2 t3 t4 aK (950 + i) = aK i := by
  unfold adr0
  rw [if_neg (by omega), if_neg (by omega), if_neg (by omega), if_neg (by omega), if_neg (by omega), if_neg (by omega), Nat.add_sub_cancel_left]
def tmS (i : Nat) : Term := match i with
  | 0 => .string "LargerWithin$Reader" 26
  | 1 => .string "LargerWithin$Reader" 100
  | 2 => .string "LargerWithin$Reader" 106
  | _ => .string "LargerWithinModel" 89
def gvL : List Cond := flatC (Jvm.Cond.and given_1 narrow_1)
section Given
variable {args : Array Value} {s : State} {A : Nat → Prop}
theorem gv_BOX_KINDS (hts : ∀ w ∈ lw_tbl, w.before args s = true) (hgv : (Jvm.Cond.and given_1 narrow_1).before args s = true) (hA : ∀ a : Nat, a < s.heap.size → ¬ A a) : ∃ t : Nat, va_T .int t 6 (fun j => .int (([0, 1, 4, 5, 2, 6] : List Int32).getD j 0)) A s s.heap ∧ va_Z "LargerWithin$Reader" "BOX_KINDS" "[I" (.ref t) A s s.heap := by
  have hs := flat_of_before _ hgv
  obtain ⟨t, ht, hT⟩ := va_Tof (tm := .static "LargerWithin$Reader" "BOX_KINDS" "[I") (ty := .int) (N := 6) (f := fun j => .int (([0, 1, 4, 5, 2, 6] : List Int32).getD j 0)) (A := A) (by decide) (hs _ (by decide +kernel)) (va_eqt (hs _ (by decide +kernel))) (fun j hj => va_eqt (hs _ ((show ∀ j, j < 6 → Cond.eq (.elem (.static "LargerWithin$Reader" "BOX_KINDS" "[I") (.int (Int32.ofNat j))) (.int (([0, 1, 4, 5, 2, 6] : List Int32).getD j 0)) ∈ gvL by decide +kernel) j hj))) hA
  exact ⟨t, hT, va_Zref (hts _ (tlC3 (List.mem_of_getElem? (i := 48) rfl))) (hts _ (tlC1 (List.mem_of_getElem? (i := 5) rfl))) ht hA⟩
theorem gv_BOX_MOST (hts : ∀ w ∈ lw_tbl, w.before args s = true) (hgv : (Jvm.Cond.and given_1 narrow_1).before args s = true) (hA : ∀ a : Nat, a < s.heap.size → ¬ A a) : ∃ t : Nat, va_T .int t 6 (fun j => .int (([99, 99, 99, 64, 99, 9999] : List Int32).getD j 0)) A s s.heap ∧ va_Z "LargerWithin$Reader" "BOX_MOST" "[I" (.ref t) A s s.heap := by
  have hs := flat_of_before _ hgv
  obtain ⟨t, ht, hT⟩ := va_Tof (tm := .static "LargerWithin$Reader" "BOX_MOST" "[I") (ty := .int) (N := 6) (f := fun j => .int (([99, 99, 99, 64, 99, 9999] : List Int32).getD j 0)) (A := A) (by decide) (hs _ (by decide +kernel)) (va_eqt (hs _ (by decide +kernel))) (fun j hj => va_eqt (hs _ ((show ∀ j, j < 6 → Cond.eq (.elem (.static "LargerWithin$Reader" "BOX_MOST" "[I") (.int (Int32.ofNat j))) (.int (([99, 99, 99, 64, 99, 9999] : List Int32).getD j 0)) ∈ gvL by decide +kernel) j hj))) hA
  exact ⟨t, hT, va_Zref (hts _ (tlC3 (List.mem_of_getElem? (i := 40) rfl))) (hts _ (tlC1 (List.mem_of_getElem? (i := 5) rfl))) ht hA⟩
theorem gv_THING_KINDS (hts : ∀ w ∈ lw_tbl, w.before args s = true) (hgv : (Jvm.Cond.and given_1 narrow_1).before args s = true) (hA : ∀ a : Nat, a < s.heap.size → ¬ A a) : ∃ t : Nat, va_T .int t 4 (fun j => .int (([0, 1, 2, 3] : List Int32).getD j 0)) A s s.heap ∧ va_Z "LargerWithin$Reader" "THING_KINDS" "[I" (.ref t) A s s.heap := by
  have hs := flat_of_before _ hgv
  obtain ⟨t, ht, hT⟩ := va_Tof (tm := .static "LargerWithin$Reader" "THING_KINDS" "[I") (ty := .int) (N := 4) (f := fun j => .int (([0, 1, 2, 3] : List Int32).getD j 0)) (A := A) (by decide) (hs _ (by decide +kernel)) (va_eqt (hs _ (by decide +kernel))) (fun j hj => va_eqt (hs _ ((show ∀ j, j < 4 → Cond.eq (.elem (.static "LargerWithin$Reader" "THING_KINDS" "[I") (.int (Int32.ofNat j))) (.int (([0, 1, 2, 3] : List Int32).getD j 0)) ∈ gvL by decide +kernel) j hj))) hA
  exact ⟨t, hT, va_Zref (hts _ (tlC3 (List.mem_of_getElem? (i := 50) rfl))) (hts _ (tlC1 (List.mem_of_getElem? (i := 5) rfl))) ht hA⟩
theorem gv_THING_MOST (hts : ∀ w ∈ lw_tbl, w.before args s = true) (hgv : (Jvm.Cond.and given_1 narrow_1).before args s = true) (hA : ∀ a : Nat, a < s.heap.size → ¬ A a) : ∃ t : Nat, va_T .int t 4 (fun j => .int (([999, 99, 99, 99] : List Int32).getD j 0)) A s s.heap ∧ va_Z "LargerWithin$Reader" "THING_MOST" "[I" (.ref t) A s s.heap := by
  have hs := flat_of_before _ hgv
  obtain ⟨t, ht, hT⟩ := va_Tof (tm := .static "LargerWithin$Reader" "THING_MOST" "[I") (ty := .int) (N := 4) (f := fun j => .int (([999, 99, 99, 99] : List Int32).getD j 0)) (A := A) (by decide) (hs _ (by decide +kernel)) (va_eqt (hs _ (by decide +kernel))) (fun j hj => va_eqt (hs _ ((show ∀ j, j < 4 → Cond.eq (.elem (.static "LargerWithin$Reader" "THING_MOST" "[I") (.int (Int32.ofNat j))) (.int (([999, 99, 99, 99] : List Int32).getD j 0)) ∈ gvL by decide +kernel) j hj))) hA
  exact ⟨t, hT, va_Zref (hts _ (tlC3 (List.mem_of_getElem? (i := 42) rfl))) (hts _ (tlC1 (List.mem_of_getElem? (i := 5) rfl))) ht hA⟩
theorem gv_S (hgv : (Jvm.Cond.and given_1 narrow_1).before args s = true) (hA : ∀ a : Nat, a < s.heap.size → ¬ A a) : ∃ aK aV : Nat → Nat, vk_S 4 [0, 31, 23, 43] [sB0, sB1, sB2, sB3] aK aV A s s.heap ∧ ∀ i : Nat, i < 4 → (tmS i).eval args s none [] s = some (.ref (aK i)) := by
  have hs := flat_of_before _ hgv
  refine vk_Sof (tm := tmS) (fun i hi => (show ∀ i, i < 4 → ([0, 31, 23, 43] : List Nat).getD i 0 < 2 ^ 31 by decide) i hi) (fun i hi => hs _ ((show ∀ i, i < 4 → Cond.exactly (tmS i) "java/lang/String" ∈ gvL by decide +kernel) i hi)) (fun i hi => hs _ ((show ∀ i, i < 4 → Cond.eq (.field (tmS i) "java/lang/String" "coder" "B") (.int 0) ∈ gvL by decide +kernel) i hi)) (fun i hi => hs _ ((show ∀ i, i < 4 → Cond.arrayOf (.field (tmS i) "java/lang/String" "value" "[B") .byte ∈ gvL by decide +kernel) i hi)) (fun i hi => hs _ ((show ∀ i, i < 4 → Cond.eq (.length (.field (tmS i) "java/lang/String" "value" "[B")) (.int (Int32.ofNat (([0, 31, 23, 43] : List Nat).getD i 0))) ∈ gvL by decide +kernel) i hi)) (fun i hi j hj => hs _ ((show ∀ i, i < 4 → ∀ j, j < ([0, 31, 23, 43] : List Nat).getD i 0 → Cond.eq (.elem (.field (tmS i) "java/lang/String" "value" "[B") (.int (Int32.ofNat j))) (.int ((([sB0, sB1, sB2, sB3] : List (List Int32)).getD i []).getD j 0)) ∈ gvL by decide +kernel) i hi j hj)) (fun i j hi hj hij => ?_) hA
  exact ((show ∀ i, i < 4 → ∀ j, j < 4 → i ≠ j → (Cond.not (Cond.eq (tmS i) (tmS j)) ∈ gvL ∨ Cond.not (Cond.eq (tmS j) (tmS i)) ∈ gvL) by decide +kernel) i hi j hj hij).elim (fun q => Or.inl (hs _ q)) (fun q => Or.inr (hs _ q))
theorem gv_C (hts : ∀ w ∈ lw_tbl, w.before args s = true) (hgv : (Jvm.Cond.and given_1 narrow_1).before args s = true) (hA : ∀ a : Nat, a < s.heap.size → ¬ A a) : va_Z "java/lang/String" "COMPACT_STRINGS" "Z" (.int 1) A s s.heap := va_Zof (hts _ (tlC2 (List.mem_of_getElem? (i := 218) rfl))) (hts _ (tlC1 (List.mem_of_getElem? (i := 16) rfl))) (va_eqi (flat_of_before _ hgv _ (by decide +kernel))) hA
theorem gv_F (hts : ∀ w ∈ lw_tbl, w.before args s = true) (hgv : (Jvm.Cond.and given_1 narrow_1).before args s = true) (hA : ∀ a : Nat, a < s.heap.size → ¬ A a) : va_Zq "jdk/internal/util/Preconditions" "SIOOBE_FORMATTER" "Ljava/util/function/BiFunction;" A s s.heap := va_Zqof (hts _ (tlC2 (List.mem_of_getElem? (i := 234) rfl))) (hts _ (tlC1 (List.mem_of_getElem? (i := 18) rfl))) (flat_of_before _ hgv _ (by decide +kernel)) hA
theorem sx_of (hts : ∀ w ∈ lw_tbl, w.before args s = true) (hgv : (Jvm.Cond.and given_1 narrow_1).before args s = true) (hA : ∀ a : Nat, a < s.heap.size → ¬ A a) {b L : Nat} {xs : Nat → Int32} (hX : va_X b L xs s s.heap) (hbl : b < s.heap.size) : ∃ (t1 t2 t3 t4 : Nat) (aK aV : Nat → Nat), (∀ (AL : List Nat) (KL : List ClassId) (dC : Nat → ClassId) (dI : Nat → Nat → Nat) (l : Launch), Sx (E0 AL KL dC dI L xs l b t1 t2 t3 t4 aK aV) A s) ∧ vk_R "LargerWithin$Reader" 26 "" (aK 0) s := by
  obtain ⟨t1, T1, Z1⟩ := gv_BOX_KINDS hts hgv hA
  obtain ⟨t2, T2, Z2⟩ := gv_BOX_MOST hts hgv hA
  obtain ⟨t3, T3, Z3⟩ := gv_THING_KINDS hts hgv hA
  obtain ⟨t4, T4, Z4⟩ := gv_THING_MOST hts hgv hA
  obtain ⟨aK, aV, hS, h4⟩ := gv_S hgv hA
  have r0 : vk_R "LargerWithin$Reader" 26 "" (aK 0) s := vk_R.of (hts _ (tlC1 (List.mem_of_getElem? (i := 77) rfl))) (h4 0 (by decide))
  refine ⟨t1, t2, t3, t4, aK, aV, fun AL KL dC dI l => ⟨fun a h1 h2 => ?_, fun a h1 h2 => ?_, ?_, ⟨r0, vk_R.of (hts _ (tlC3 (List.mem_of_getElem? (i := 21) rfl))) (h4 1 (by decide)), vk_R.of (hts _ (tlC3 (List.mem_of_getElem? (i := 22) rfl))) (h4 2 (by decide)), vk_R.of (hts _ (tlC7 (List.mem_of_getElem? (i := 105) rfl))) (h4 3 (by decide))⟩, gv_C hts hgv hA, gv_F hts hgv hA, va_Nw.of rfl (hts _ (tlC3 (List.mem_of_getElem? (i := 173) rfl)))⟩, r0⟩
  · rcases (show a = 900 ∨ a = 901 ∨ a = 902 ∨ a = 903 ∨ a = 904 by omega) with rfl | rfl | rfl | rfl | rfl
    · obtain ⟨scr, x1, x2, x3, x4, x5⟩ := hX
      exact ⟨scr, x1, x2, x3, by show L ≤ scr.slots.size; omega, by rw [x4]; rfl, x5, hA b hbl⟩
    · exact T1
    · exact T2
    · exact T3
    · exact T4
  · rcases (show a = 901 ∨ a = 902 ∨ a = 903 ∨ a = 904 by omega) with rfl | rfl | rfl | rfl
    · exact Z1
    · exact Z2
    · exact Z3
    · exact Z4
  · have ea : ∀ i, (E0 AL KL dC dI L xs l b t1 t2 t3 t4 aK aV).1 (950 + i) = aK i := fun i => adr_s AL b t1 t2 t3 t4 aK i
    refine ⟨fun i hi => ?_, fun i j hi hj e => hS.2 i j hi hj ?_⟩
    · show va_O _ ((E0 AL KL dC dI L xs l b t1 t2 t3 t4 aK aV).1 (950 + i)) _ _ _ ∧ _
      have q := hS.1 i hi
      rw [← ea i] at q
      exact q
    · rw [← ea i, ← ea j]; exact e
end Given
