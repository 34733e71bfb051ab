/-! ===== calls that the machine does itself ===== -/
theorem NatOk_min {mi i : Nat} (hlk : Cond.methodLink (md mi).2.2.2.2.1 i Lib.Math.min.name ∈ tg) (hst : Cond.static Lib.Math.min.name ∈ tg) (hin : Cond.initialized "java/lang/Math" ∈ tg) (hco : Cond.code Lib.Math.min.name Lib.Math.min.code 2 (some .int) ∈ tg) : NatOk mi 994 (.invokestatic i) := by
  intro E L t p e R s m args below meth c H locs cells slots A Qm lsr pc st h k C hP hS hl hd hn kk
  obtain ⟨hx, hb, hml, hown, hts, hKa, hSx, hE, hA1, hR, hth⟩ := C
  obtain ⟨x, y, r, rfl, hc, hn⟩ := pII_of hn
  have hc2 := Nat.le_of_ble_eq_true hc
  exact va_mmin hx hb (hml.trans hl.symm) hown (hts _ hlk) (hts _ hst) (hts _ hin) (hts _ hco) (by omega) (by rw [cats_map]; omega) hR.2.2.2.1 hR.2.2.2.2 hd (kk _ h H locs hn hP hS)
theorem NatOk_max {mi i : Nat} (hlk : Cond.methodLink (md mi).2.2.2.2.1 i Lib.Math.max.name ∈ tg) (hst : Cond.static Lib.Math.max.name ∈ tg) (hin : Cond.initialized "java/lang/Math" ∈ tg) (hco : Cond.code Lib.Math.max.name Lib.Math.max.code 2 (some .int) ∈ tg) : NatOk mi 995 (.invokestatic i) := by
  intro E L t p e R s m args below meth c H locs cells slots A Qm lsr pc st h k C hP hS hl hd hn kk
  obtain ⟨hx, hb, hml, hown, hts, hKa, hSx, hE, hA1, hR, hth⟩ := C
  obtain ⟨x, y, r, rfl, hc, hn⟩ := pII_of hn
  have hc2 := Nat.le_of_ble_eq_true hc
  exact va_mmax hx hb (hml.trans hl.symm) hown (hts _ hlk) (hts _ hst) (hts _ hin) (hts _ hco) (by omega) (by rw [cats_map]; omega) hR.2.2.2.1 hR.2.2.2.2 hd (kk _ h H locs hn hP hS)
theorem NatOk_abs {mi i : Nat} (hlk : Cond.methodLink (md mi).2.2.2.2.1 i Lib.Math.abs.name ∈ tg) (hst : Cond.static Lib.Math.abs.name ∈ tg) (hin : Cond.initialized "java/lang/Math" ∈ tg) (hco : Cond.code Lib.Math.abs.name Lib.Math.abs.code 1 (some .int) ∈ tg) : NatOk mi 996 (.invokestatic i) := by
  intro E L t p e R s m args below meth c H locs cells slots A Qm lsr pc st h k C hP hS hl hd hn kk
  obtain ⟨hx, hb, hml, hown, hts, hKa, hSx, hE, hA1, hR, hth⟩ := C
  obtain ⟨x, r, rfl, hc, hn⟩ := pI_of hn
  have hc2 := Nat.le_of_ble_eq_true hc
  exact va_mabs hx hb (hml.trans hl.symm) hown (hts _ hlk) (hts _ hst) (hts _ hin) (hts _ hco) (by omega) (by rw [cats_map]; omega) hR.2.2.2.1 hR.2.2.2.2 hd (kk _ h H locs hn hP hS)
theorem NatOk_copy {mi i : Nat} (hlk : Cond.methodLink (md mi).2.2.2.2.1 i arraycopyName ∈ tg) (hnt : Cond.native arraycopyName ∈ tg) (hst : Cond.static arraycopyName ∈ tg) (hin : Cond.initialized "java/lang/System" ∈ tg) : NatOk mi 993 (.invokestatic i) := by
  intro E L t p e R s m args below meth c H locs cells slots A Qm lsr pc st h k C hP hS hl hd hn kk
  obtain ⟨hx, hb, hml, hown, hts, hKa, hSx, hE, hA1, hR, hth⟩ := C
  match st, hn with
  | .int n :: .int dp :: .ref q1 :: .int sp :: .ref q0 :: r, hn =>
    obtain ⟨hc, ⟨k0, k1, hne, h1, h2, h3, h4, h5⟩, hk⟩ := hn
    have hc2 := Nat.le_of_ble_eq_true hc
    obtain ⟨a1, t0, a2⟩ := arr1 (E := E) (h := h) k0
    obtain ⟨b1, t1, b2⟩ := arr1 (E := E) (h := h) k1
    have pos : ∀ {z : Int32}, 0 ≤ z → ¬ z < 0 := fun {z} hz hz2 => by
      have e1 := Int32.le_iff_toInt_le.mp hz
      have e2 := Int32.lt_iff_toInt_lt.mp hz2
      have e3 : (0 : Int32).toInt = 0 := rfl
      omega
    refine va_copyi hx hb (hml.trans hl.symm) hown (hts _ hlk) (hts _ hnt) (hts _ hst) (hts _ hin) hKa hP (vaD_of hE hA1 h) hS q0 q1 t0 t1 a1 b1 a2 b2 rfl (pos h1) (pos h2) (pos h3) h4 h5 (fun _ _ => rfl) (by omega) ?_ hd (fun H1 locs1 hP1 hD1 hS1 => kk _ _ H1 locs1 hk ?_ hS1)
    · rw [cats_map]
      have : nativeFrameWords "java/lang/System" "arraycopy" 5 ≤ 20 := by decide
      omega
    · rw [← sC_set k1]
      exact hP1
/-! ===== the texts: what String.length, isEmpty, charAt answer of the four constants ===== -/
def yS_coder : MethodName := ⟨"java/lang/String", "coder", "()B"⟩
def wS_coder : List Cond := Cond.code yS_coder prog_17_method_152_code 1 (Option.some Jvm.ClassFile.FieldType.byte) :: tg
theorem cS_coder : Cond.code yS_coder prog_17_method_152_code 1 (Option.some Jvm.ClassFile.FieldType.byte) ∈ tg := tmC2 (List.mem_of_getElem? (i := 216) rfl) rfl
theorem gS_coder : GoodIn tg wS_coder := fun w hw => (List.mem_cons.mp hw).elim (fun e => by rw [e]; exact ⟨cS_coder, tg_good _ cS_coder⟩) (fun h => ⟨h, tg_good _ h⟩)
theorem dS_coder_0 : decode prog_17_method_152_code 0 = .ok (.getstatic 38, 3) := by decide +kernel
theorem dS_coder_3 : decode prog_17_method_152_code 3 = .ok (.ifCond .eq 10, 3) := by decide +kernel
theorem dS_coder_6 : decode prog_17_method_152_code 6 = .ok (.aload_n 0, 1) := by decide +kernel
theorem dS_coder_7 : decode prog_17_method_152_code 7 = .ok (.getfield 15, 3) := by decide +kernel
theorem dS_coder_10 : decode prog_17_method_152_code 10 = .ok (.goto 4, 3) := by decide +kernel
theorem dS_coder_13 : decode prog_17_method_152_code 13 = .ok (.iconst 1, 1) := by decide +kernel
theorem dS_coder_14 : decode prog_17_method_152_code 14 = .ok (.ireturn, 1) := by decide +kernel
def yS_isL : MethodName := ⟨"java/lang/String", "isLatin1", "()Z"⟩
def wS_isL : List Cond := Cond.code yS_isL prog_17_method_154_code 1 (Option.some Jvm.ClassFile.FieldType.boolean) :: tg
theorem cS_isL : Cond.code yS_isL prog_17_method_154_code 1 (Option.some Jvm.ClassFile.FieldType.boolean) ∈ tg := tmC2 (List.mem_of_getElem? (i := 226) rfl) rfl
theorem gS_isL : GoodIn tg wS_isL := fun w hw => (List.mem_cons.mp hw).elim (fun e => by rw [e]; exact ⟨cS_isL, tg_good _ cS_isL⟩) (fun h => ⟨h, tg_good _ h⟩)
theorem dS_isL_0 : decode prog_17_method_154_code 0 = .ok (.getstatic 38, 3) := by decide +kernel
theorem dS_isL_3 : decode prog_17_method_154_code 3 = .ok (.ifCond .eq 14, 3) := by decide +kernel
theorem dS_isL_6 : decode prog_17_method_154_code 6 = .ok (.aload_n 0, 1) := by decide +kernel
theorem dS_isL_7 : decode prog_17_method_154_code 7 = .ok (.getfield 15, 3) := by decide +kernel
theorem dS_isL_10 : decode prog_17_method_154_code 10 = .ok (.ifCond .ne 7, 3) := by decide +kernel
theorem dS_isL_13 : decode prog_17_method_154_code 13 = .ok (.iconst 1, 1) := by decide +kernel
theorem dS_isL_14 : decode prog_17_method_154_code 14 = .ok (.goto 4, 3) := by decide +kernel
theorem dS_isL_17 : decode prog_17_method_154_code 17 = .ok (.iconst 0, 1) := by decide +kernel
theorem dS_isL_18 : decode prog_17_method_154_code 18 = .ok (.ireturn, 1) := by decide +kernel
def yS_len : MethodName := ⟨"java/lang/String", "length", "()I"⟩
def wS_len : List Cond := Cond.code yS_len prog_17_method_54_code 1 (Option.some Jvm.ClassFile.FieldType.int) :: tg
theorem cS_len : Cond.code yS_len prog_17_method_54_code 1 (Option.some Jvm.ClassFile.FieldType.int) ∈ tg := tmC2 (List.mem_of_getElem? (i := 212) rfl) rfl
theorem gS_len : GoodIn tg wS_len := fun w hw => (List.mem_cons.mp hw).elim (fun e => by rw [e]; exact ⟨cS_len, tg_good _ cS_len⟩) (fun h => ⟨h, tg_good _ h⟩)
theorem dS_len_0 : decode prog_17_method_54_code 0 = .ok (.aload_n 0, 1) := by decide +kernel
theorem dS_len_1 : decode prog_17_method_54_code 1 = .ok (.getfield 9, 3) := by decide +kernel
theorem dS_len_4 : decode prog_17_method_54_code 4 = .ok (.arraylength, 1) := by decide +kernel
theorem dS_len_5 : decode prog_17_method_54_code 5 = .ok (.aload_n 0, 1) := by decide +kernel
theorem dS_len_6 : decode prog_17_method_54_code 6 = .ok (.invokevirtual 335, 3) := by decide +kernel
theorem dS_len_9 : decode prog_17_method_54_code 9 = .ok (.ishr, 1) := by decide +kernel
theorem dS_len_10 : decode prog_17_method_54_code 10 = .ok (.ireturn, 1) := by decide +kernel
def yS_emp : MethodName := ⟨"java/lang/String", "isEmpty", "()Z"⟩
def wS_emp : List Cond := Cond.code yS_emp prog_17_method_55_code 1 (Option.some Jvm.ClassFile.FieldType.boolean) :: tg
theorem cS_emp : Cond.code yS_emp prog_17_method_55_code 1 (Option.some Jvm.ClassFile.FieldType.boolean) ∈ tg := tmC2 (List.mem_of_getElem? (i := 201) rfl) rfl
theorem gS_emp : GoodIn tg wS_emp := fun w hw => (List.mem_cons.mp hw).elim (fun e => by rw [e]; exact ⟨cS_emp, tg_good _ cS_emp⟩) (fun h => ⟨h, tg_good _ h⟩)
theorem dS_emp_0 : decode prog_17_method_55_code 0 = .ok (.aload_n 0, 1) := by decide +kernel
theorem dS_emp_1 : decode prog_17_method_55_code 1 = .ok (.getfield 9, 3) := by decide +kernel
theorem dS_emp_4 : decode prog_17_method_55_code 4 = .ok (.arraylength, 1) := by decide +kernel
theorem dS_emp_5 : decode prog_17_method_55_code 5 = .ok (.ifCond .ne 7, 3) := by decide +kernel
theorem dS_emp_8 : decode prog_17_method_55_code 8 = .ok (.iconst 1, 1) := by decide +kernel
theorem dS_emp_9 : decode prog_17_method_55_code 9 = .ok (.goto 4, 3) := by decide +kernel
theorem dS_emp_12 : decode prog_17_method_55_code 12 = .ok (.iconst 0, 1) := by decide +kernel
theorem dS_emp_13 : decode prog_17_method_55_code 13 = .ok (.ireturn, 1) := by decide +kernel
def yS_chr : MethodName := ⟨"java/lang/String", "charAt", "(I)C"⟩
def wS_chr : List Cond := Cond.code yS_chr prog_17_method_56_code 2 (Option.some Jvm.ClassFile.FieldType.char) :: tg
theorem cS_chr : Cond.code yS_chr prog_17_method_56_code 2 (Option.some Jvm.ClassFile.FieldType.char) ∈ tg := tmC2 (List.mem_of_getElem? (i := 222) rfl) rfl
theorem gS_chr : GoodIn tg wS_chr := fun w hw => (List.mem_cons.mp hw).elim (fun e => by rw [e]; exact ⟨cS_chr, tg_good _ cS_chr⟩) (fun h => ⟨h, tg_good _ h⟩)
theorem dS_chr_0 : decode prog_17_method_56_code 0 = .ok (.aload_n 0, 1) := by decide +kernel
theorem dS_chr_1 : decode prog_17_method_56_code 1 = .ok (.invokevirtual 492, 3) := by decide +kernel
theorem dS_chr_4 : decode prog_17_method_56_code 4 = .ok (.ifCond .eq 12, 3) := by decide +kernel
theorem dS_chr_7 : decode prog_17_method_56_code 7 = .ok (.aload_n 0, 1) := by decide +kernel
theorem dS_chr_8 : decode prog_17_method_56_code 8 = .ok (.getfield 9, 3) := by decide +kernel
theorem dS_chr_11 : decode prog_17_method_56_code 11 = .ok (.iload_n 1, 1) := by decide +kernel
theorem dS_chr_12 : decode prog_17_method_56_code 12 = .ok (.invokestatic 495, 3) := by decide +kernel
theorem dS_chr_15 : decode prog_17_method_56_code 15 = .ok (.ireturn, 1) := by decide +kernel
theorem dS_chr_16 : decode prog_17_method_56_code 16 = .ok (.aload_n 0, 1) := by decide +kernel
theorem dS_chr_17 : decode prog_17_method_56_code 17 = .ok (.getfield 9, 3) := by decide +kernel
theorem dS_chr_20 : decode prog_17_method_56_code 20 = .ok (.iload_n 1, 1) := by decide +kernel
theorem dS_chr_21 : decode prog_17_method_56_code 21 = .ok (.invokestatic 498, 3) := by decide +kernel
theorem dS_chr_24 : decode prog_17_method_56_code 24 = .ok (.ireturn, 1) := by decide +kernel
def yS_lch : MethodName := ⟨"java/lang/StringLatin1", "charAt", "([BI)C"⟩
def wS_lch : List Cond := Cond.code yS_lch prog_18_method_2_code 2 (Option.some Jvm.ClassFile.FieldType.char) :: tg
theorem cS_lch : Cond.code yS_lch prog_18_method_2_code 2 (Option.some Jvm.ClassFile.FieldType.char) ∈ tg := tmC2 (List.mem_of_getElem? (i := 229) rfl) rfl
theorem gS_lch : GoodIn tg wS_lch := fun w hw => (List.mem_cons.mp hw).elim (fun e => by rw [e]; exact ⟨cS_lch, tg_good _ cS_lch⟩) (fun h => ⟨h, tg_good _ h⟩)
theorem dS_lch_0 : decode prog_18_method_2_code 0 = .ok (.iload_n 1, 1) := by decide +kernel
theorem dS_lch_1 : decode prog_18_method_2_code 1 = .ok (.aload_n 0, 1) := by decide +kernel
theorem dS_lch_2 : decode prog_18_method_2_code 2 = .ok (.arraylength, 1) := by decide +kernel
theorem dS_lch_3 : decode prog_18_method_2_code 3 = .ok (.invokestatic 9, 3) := by decide +kernel
theorem dS_lch_6 : decode prog_18_method_2_code 6 = .ok (.aload_n 0, 1) := by decide +kernel
theorem dS_lch_7 : decode prog_18_method_2_code 7 = .ok (.iload_n 1, 1) := by decide +kernel
theorem dS_lch_8 : decode prog_18_method_2_code 8 = .ok (.baload, 1) := by decide +kernel
theorem dS_lch_9 : decode prog_18_method_2_code 9 = .ok (.sipush 255, 3) := by decide +kernel
theorem dS_lch_12 : decode prog_18_method_2_code 12 = .ok (.iand, 1) := by decide +kernel
theorem dS_lch_13 : decode prog_18_method_2_code 13 = .ok (.i2c, 1) := by decide +kernel
theorem dS_lch_14 : decode prog_18_method_2_code 14 = .ok (.ireturn, 1) := by decide +kernel
def yS_chk : MethodName := ⟨"java/lang/String", "checkIndex", "(II)V"⟩
def wS_chk : List Cond := Cond.code yS_chk prog_17_method_155_code 2 (Option.none : Option Jvm.ClassFile.FieldType) :: tg
theorem cS_chk : Cond.code yS_chk prog_17_method_155_code 2 (Option.none : Option Jvm.ClassFile.FieldType) ∈ tg := tmC2 (List.mem_of_getElem? (i := 232) rfl) rfl
theorem gS_chk : GoodIn tg wS_chk := fun w hw => (List.mem_cons.mp hw).elim (fun e => by rw [e]; exact ⟨cS_chk, tg_good _ cS_chk⟩) (fun h => ⟨h, tg_good _ h⟩)
theorem dS_chk_0 : decode prog_17_method_155_code 0 = .ok (.iload_n 0, 1) := by decide +kernel
theorem dS_chk_1 : decode prog_17_method_155_code 1 = .ok (.iload_n 1, 1) := by decide +kernel
theorem dS_chk_2 : decode prog_17_method_155_code 2 = .ok (.getstatic 1053, 3) := by decide +kernel
theorem dS_chk_5 : decode prog_17_method_155_code 5 = .ok (.invokestatic 1059, 3) := by decide +kernel
theorem dS_chk_8 : decode prog_17_method_155_code 8 = .ok (.pop, 1) := by decide +kernel
theorem dS_chk_9 : decode prog_17_method_155_code 9 = .ok (.return_, 1) := by decide +kernel
def yS_pck : MethodName := ⟨"jdk/internal/util/Preconditions", "checkIndex", "(IILjava/util/function/BiFunction;)I"⟩
def wS_pck : List Cond := Cond.code yS_pck prog_22_method_11_code 3 (Option.some Jvm.ClassFile.FieldType.int) :: tg
theorem cS_pck : Cond.code yS_pck prog_22_method_11_code 3 (Option.some Jvm.ClassFile.FieldType.int) ∈ tg := tmC2 (List.mem_of_getElem? (i := 237) rfl) rfl
theorem gS_pck : GoodIn tg wS_pck := fun w hw => (List.mem_cons.mp hw).elim (fun e => by rw [e]; exact ⟨cS_pck, tg_good _ cS_pck⟩) (fun h => ⟨h, tg_good _ h⟩)
theorem dS_pck_0 : decode prog_22_method_11_code 0 = .ok (.iload_n 0, 1) := by decide +kernel
theorem dS_pck_1 : decode prog_22_method_11_code 1 = .ok (.ifCond .lt 8, 3) := by decide +kernel
theorem dS_pck_4 : decode prog_22_method_11_code 4 = .ok (.iload_n 0, 1) := by decide +kernel
theorem dS_pck_5 : decode prog_22_method_11_code 5 = .ok (.iload_n 1, 1) := by decide +kernel
theorem dS_pck_6 : decode prog_22_method_11_code 6 = .ok (.if_icmp .lt 10, 3) := by decide +kernel
theorem dS_pck_9 : decode prog_22_method_11_code 9 = .ok (.aload_n 2, 1) := by decide +kernel
theorem dS_pck_10 : decode prog_22_method_11_code 10 = .ok (.iload_n 0, 1) := by decide +kernel
theorem dS_pck_11 : decode prog_22_method_11_code 11 = .ok (.iload_n 1, 1) := by decide +kernel
theorem dS_pck_12 : decode prog_22_method_11_code 12 = .ok (.invokestatic 95, 3) := by decide +kernel
theorem dS_pck_15 : decode prog_22_method_11_code 15 = .ok (.athrow, 1) := by decide +kernel
theorem dS_pck_16 : decode prog_22_method_11_code 16 = .ok (.iload_n 0, 1) := by decide +kernel
theorem dS_pck_17 : decode prog_22_method_11_code 17 = .ok (.ireturn, 1) := by decide +kernel
/-- what a String's method is called with -/
def PcS (E : EnvX) (as : List Value) : Array Value → State → Prop := fun v U => v = as.toArray ∧ Sx E (A1 E) U
def rmS (k : Nat) : Room := { frames := k, cells := 0, slots := 0, locals := 60 * k }
theorem PcS_blind (E : EnvX) (as : List Value) : FrameBlind (PcS E as) := fun a U g mk q => ⟨q.1, q.2.same rfl rfl⟩
theorem PcS_at {E : EnvX} {A : Nat → Prop} {s U : State} {H : Heap} {locs : List Loc} {as : List Value} (hSx : Sx E A s) (hS : va_S A s.heap H locs) (hA : ∀ q, A1 E q → A q) (hU : U.heap = H) (hW : s.WarmedH U.vm) : PcS E as as.toArray U := ⟨rfl, hSx.move hW hU hS hA⟩
def MetS (E : EnvX) (y : MethodName) (ws : List Cond) (k : Nat) (as : List Value) (r : Int32) : Prop := ∀ l, Met l y ws (rmS k) (PcS E as) (QcRead r) 0 0 (fun _ => False)

set_option maxHeartbeats 4000000 in
set_option maxRecDepth 100000 in
theorem mS_coder {E : EnvX} {i : Nat} (hi : i < 4) : MetS E yS_coder wS_coder 1 ([Value.ref (E.1 (950 + i))]) (0) := by
  intro l
  refine Met.ofW (cc := prog_17_method_152_code) (maxL := 1) (ret := (Option.some Jvm.ClassFile.FieldType.byte)) (by decide) rfl ?_
  intro p e s m args below meth c s₁ B hml hv
  obtain ⟨rfl, hSx⟩ := hv
  have hx := B.exec
  have hb := B.bytes
  have hr := B.returns
  have hts0 := atoms_spec (ws := wS_coder) B.pre
  have hts : ∀ w ∈ tg, w.before ([Value.ref (E.1 (950 + i))] : List Value).toArray s = true := fun w hw => hts0 w (List.mem_cons_of_mem _ hw)
  have hown : s.vm.findClass "java/lang/String" = some m.cls := findClass_of_methodNamed B.named
  have hlocks := B.notSynchronized
  have hS : va_S (A1 E) s.heap s.heap [] := va_S.rf
  have hl := lv_entry ([Value.ref (E.1 (950 + i))]) (n := 1) (Nat.le_of_ble_eq_true rfl)
  rw [lg_entry_eq]
  generalize (lg_sl ([Value.ref (E.1 (950 + i))]) ++ List.replicate (1 - (lg_sl ([Value.ref (E.1 (950 + i))])).length) Slot.unset).toArray = ls at hl ⊢
  obtain ⟨-, -, hV, -, hZ, hQ, -⟩ := hSx
  obtain ⟨hO, hC, hVa, hT⟩ := hV.1 i hi
  refine va_gets hx hb hZ hS hown (hts _ (tmC2 (List.mem_of_getElem? (i := 217) rfl) rfl)) (fun _ h9 => h9) dS_coder_0 ?_
  refine lv_if_eq (tgt := 13) hx hb dS_coder_3 (by decide) (fun h9 => absurd h9 (by decide)) (fun _ => ?_)
  refine lv_aload_n hx hb dS_coder_6 rfl (lv_at hl 0 rfl) ?_
  refine vk_getf hx hb hC hS hown (hts _ (tmC9 (List.mem_of_getElem? (i := 65) rfl) rfl)) (fun _ h9 => h9) dS_coder_7 ?_
  refine lv_goto (tgt := 14) hx hb dS_coder_10 (by decide) ?_
  exact W.zret (ty := .byte) hx hb hr rfl (fun t ht hW => ⟨rfl, ht⟩) (fun q hq => by cases hq) dS_coder_14
set_option maxHeartbeats 4000000 in
set_option maxRecDepth 100000 in
theorem mS_isL {E : EnvX} {i : Nat} (hi : i < 4) : MetS E yS_isL wS_isL 1 ([Value.ref (E.1 (950 + i))]) (1) := by
  intro l
  refine Met.ofW (cc := prog_17_method_154_code) (maxL := 1) (ret := (Option.some Jvm.ClassFile.FieldType.boolean)) (by decide) rfl ?_
  intro p e s m args below meth c s₁ B hml hv
  obtain ⟨rfl, hSx⟩ := hv
  have hx := B.exec
  have hb := B.bytes
  have hr := B.returns
  have hts0 := atoms_spec (ws := wS_isL) B.pre
  have hts : ∀ w ∈ tg, w.before ([Value.ref (E.1 (950 + i))] : List Value).toArray s = true := fun w hw => hts0 w (List.mem_cons_of_mem _ hw)
  have hown : s.vm.findClass "java/lang/String" = some m.cls := findClass_of_methodNamed B.named
  have hlocks := B.notSynchronized
  have hS : va_S (A1 E) s.heap s.heap [] := va_S.rf
  have hl := lv_entry ([Value.ref (E.1 (950 + i))]) (n := 1) (Nat.le_of_ble_eq_true rfl)
  rw [lg_entry_eq]
  generalize (lg_sl ([Value.ref (E.1 (950 + i))]) ++ List.replicate (1 - (lg_sl ([Value.ref (E.1 (950 + i))])).length) Slot.unset).toArray = ls at hl ⊢
  obtain ⟨-, -, hV, -, hZ, hQ, -⟩ := hSx
  obtain ⟨hO, hC, hVa, hT⟩ := hV.1 i hi
  refine va_gets hx hb hZ hS hown (hts _ (tmC2 (List.mem_of_getElem? (i := 217) rfl) rfl)) (fun _ h9 => h9) dS_isL_0 ?_
  refine lv_if_eq (tgt := 17) hx hb dS_isL_3 (by decide) (fun h9 => absurd h9 (by decide)) (fun _ => ?_)
  refine lv_aload_n hx hb dS_isL_6 rfl (lv_at hl 0 rfl) ?_
  refine vk_getf hx hb hC hS hown (hts _ (tmC9 (List.mem_of_getElem? (i := 65) rfl) rfl)) (fun _ h9 => h9) dS_isL_7 ?_
  refine lv_if_ne (tgt := 17) hx hb dS_isL_10 (by decide) (fun h9 => absurd rfl h9) (fun _ => ?_)
  refine lv_iconst (v := 1) hx hb dS_isL_13 (by decide) ?_
  refine lv_goto (tgt := 18) hx hb dS_isL_14 (by decide) ?_
  exact W.zret (ty := .boolean) hx hb hr rfl (fun t ht hW => ⟨rfl, ht⟩) (fun q hq => by cases hq) dS_isL_18
set_option maxHeartbeats 4000000 in
set_option maxRecDepth 100000 in
theorem mS_len {E : EnvX} {i : Nat} (hi : i < 4) : MetS E yS_len wS_len 2 ([Value.ref (E.1 (950 + i))]) (nI (sBy i).length) := by
  intro l
  refine Met.ofW (cc := prog_17_method_54_code) (maxL := 1) (ret := (Option.some Jvm.ClassFile.FieldType.int)) (by decide) rfl ?_
  intro p e s m args below meth c s₁ B hml hv
  obtain ⟨rfl, hSx⟩ := hv
  have hx := B.exec
  have hb := B.bytes
  have hr := B.returns
  have hts0 := atoms_spec (ws := wS_len) B.pre
  have hts : ∀ w ∈ tg, w.before ([Value.ref (E.1 (950 + i))] : List Value).toArray s = true := fun w hw => hts0 w (List.mem_cons_of_mem _ hw)
  have hown : s.vm.findClass "java/lang/String" = some m.cls := findClass_of_methodNamed B.named
  have hlocks := B.notSynchronized
  have hS : va_S (A1 E) s.heap s.heap [] := va_S.rf
  have hl := lv_entry ([Value.ref (E.1 (950 + i))]) (n := 1) (Nat.le_of_ble_eq_true rfl)
  rw [lg_entry_eq]
  generalize (lg_sl ([Value.ref (E.1 (950 + i))]) ++ List.replicate (1 - (lg_sl ([Value.ref (E.1 (950 + i))])).length) Slot.unset).toArray = ls at hl ⊢
  have hSx0 := hSx
  obtain ⟨-, -, hV, -, hZ, hQ, -⟩ := hSx
  obtain ⟨hO, hC, hVa, hT⟩ := hV.1 i hi
  have hlen : ([0, 31, 23, 43] : List Nat).getD i 0 = (sBy i).length := by rcases (show i = 0 ∨ i = 1 ∨ i = 2 ∨ i = 3 by omega) with rfl | rfl | rfl | rfl <;> rfl
  refine lv_aload_n hx hb dS_len_0 rfl (lv_at hl 0 rfl) ?_
  refine vk_getf hx hb hVa hS hown (hts _ (tmC9 (List.mem_of_getElem? (i := 64) rfl) rfl)) (fun _ h9 => h9) dS_len_1 ?_
  refine va_tlen hx hb hT hS rfl dS_len_4 ?_
  refine lv_aload_n hx hb dS_len_5 rfl (lv_at hl 0 rfl) ?_
  refine W.callR (W.runV (Ts := tg) (C := "java/lang/String") (As := []) ⟨hx, hb, hml, hown, hts⟩ (mS_coder (E := E) hi l) ⟨(callB_of (ws := wS_coder) 0 hts gS_coder rfl rfl rfl (hts _ (tmC1 (List.mem_of_getElem? (i := 16) rfl) rfl)) (hts _ (tmC2 (List.mem_of_getElem? (i := 213) rfl) rfl)) ⟨by decide, by decide, by decide +kernel⟩ ⟨Nat.le_of_ble_eq_true rfl, Nat.le_of_ble_eq_true rfl⟩), hts _ (tmC2 (List.mem_of_getElem? (i := 214) rfl) rfl), hts _ (tmC2 (List.mem_of_getElem? (i := 215) rfl) rfl)⟩ ⟨PcS_blind E _, (vk_recv hV hi hS), fun U hU hW => PcS_at hSx0 hS (fun _ h => h) hU hW⟩ rfl rfl hl.1 rfl (lv_room (Nat.le_of_ble_eq_true rfl)) dS_len_6 ⟨Nat.le_refl _, Nat.le_refl _⟩) ?_
  refine lv_ishr hx hb dS_len_9 ?_
  rw [sb_shr0, hlen]
  exact W.zret (ty := .int) hx hb hr rfl (fun t ht hW => ⟨rfl, ht⟩) (fun q hq => by cases hq) dS_len_10
set_option maxHeartbeats 4000000 in
set_option maxRecDepth 100000 in
theorem mS_emp {E : EnvX} {i : Nat} (hi : i < 4) : MetS E yS_emp wS_emp 1 ([Value.ref (E.1 (950 + i))]) (if 950 + i = 950 then 1 else 0) := by
  intro l
  refine Met.ofW (cc := prog_17_method_55_code) (maxL := 1) (ret := (Option.some Jvm.ClassFile.FieldType.boolean)) (by decide) rfl ?_
  intro p e s m args below meth c s₁ B hml hv
  obtain ⟨rfl, hSx⟩ := hv
  have hx := B.exec
  have hb := B.bytes
  have hr := B.returns
  have hts0 := atoms_spec (ws := wS_emp) B.pre
  have hts : ∀ w ∈ tg, w.before ([Value.ref (E.1 (950 + i))] : List Value).toArray s = true := fun w hw => hts0 w (List.mem_cons_of_mem _ hw)
  have hown : s.vm.findClass "java/lang/String" = some m.cls := findClass_of_methodNamed B.named
  have hlocks := B.notSynchronized
  have hS : va_S (A1 E) s.heap s.heap [] := va_S.rf
  have hl := lv_entry ([Value.ref (E.1 (950 + i))]) (n := 1) (Nat.le_of_ble_eq_true rfl)
  rw [lg_entry_eq]
  generalize (lg_sl ([Value.ref (E.1 (950 + i))]) ++ List.replicate (1 - (lg_sl ([Value.ref (E.1 (950 + i))])).length) Slot.unset).toArray = ls at hl ⊢
  obtain ⟨-, -, hV, -, hZ, hQ, -⟩ := hSx
  obtain ⟨hO, hC, hVa, hT⟩ := hV.1 i hi
  refine lv_aload_n hx hb dS_emp_0 rfl (lv_at hl 0 rfl) ?_
  refine vk_getf hx hb hVa hS hown (hts _ (tmC9 (List.mem_of_getElem? (i := 64) rfl) rfl)) (fun _ h9 => h9) dS_emp_1 ?_
  refine va_tlen hx hb hT hS rfl dS_emp_4 ?_
  refine lv_if_ne (tgt := 12) hx hb dS_emp_5 (by decide) (fun h9 => ?_) (fun h9 => ?_)
  · refine lv_iconst (v := 0) hx hb dS_emp_12 (by decide) ?_
    refine W.zret (ty := .boolean) hx hb hr rfl (fun t ht hW => ⟨?_, ht⟩) (fun q hq => by cases hq) dS_emp_13
    rcases (show i = 0 ∨ i = 1 ∨ i = 2 ∨ i = 3 by omega) with rfl | rfl | rfl | rfl
    · exact absurd rfl h9
    · rfl
    · rfl
    · rfl
  · refine lv_iconst (v := 1) hx hb dS_emp_8 (by decide) ?_
    refine lv_goto (tgt := 13) hx hb dS_emp_9 (by decide) ?_
    refine W.zret (ty := .boolean) hx hb hr rfl (fun t ht hW => ⟨?_, ht⟩) (fun q hq => by cases hq) dS_emp_13
    rcases (show i = 0 ∨ i = 1 ∨ i = 2 ∨ i = 3 by omega) with rfl | rfl | rfl | rfl
    · rfl
    · exact absurd h9 (by decide)
    · exact absurd h9 (by decide)
    · exact absurd h9 (by decide)
theorem isS_of {q : Nat} (h : isS q) : ∃ j : Nat, q = 950 + j ∧ j < 4 := by
  unfold isS at h
  exact ⟨q - 950, by omega, by omega⟩
set_option maxHeartbeats 4000000 in
set_option maxRecDepth 100000 in
theorem mS_pckN {E : EnvX} {x n : Int32} (h0 : ¬ x < 0) (h1 : x < n) : MetS E yS_pck wS_pck 1 [Value.int x, Value.int n, Value.null] x := by
  intro l
  refine Met.ofW (cc := prog_22_method_11_code) (maxL := 3) (ret := (Option.some Jvm.ClassFile.FieldType.int)) (by decide) rfl ?_
  intro p e s m args below meth c s₁ B hml hv
  obtain ⟨rfl, hSx⟩ := hv
  have hx := B.exec
  have hb := B.bytes
  have hr := B.returns
  have hts0 := atoms_spec (ws := wS_pck) B.pre
  have hts : ∀ w ∈ tg, w.before ([Value.int x, Value.int n, Value.null] : List Value).toArray s = true := fun w hw => hts0 w (List.mem_cons_of_mem _ hw)
  have hown : s.vm.findClass "jdk/internal/util/Preconditions" = some m.cls := findClass_of_methodNamed B.named
  have hlocks := B.notSynchronized
  have hS : va_S (A1 E) s.heap s.heap [] := va_S.rf
  have hl := lv_entry ([Value.int x, Value.int n, Value.null]) (n := 3) (Nat.le_of_ble_eq_true rfl)
  rw [lg_entry_eq]
  generalize (lg_sl ([Value.int x, Value.int n, Value.null]) ++ List.replicate (3 - (lg_sl ([Value.int x, Value.int n, Value.null])).length) Slot.unset).toArray = ls at hl ⊢
  refine lv_iload_n hx hb dS_pck_0 rfl (lv_at hl 0 rfl) ?_
  refine lv_if_lt (tgt := 9) hx hb dS_pck_1 (by decide) (fun h9 => absurd h9 h0) (fun _ => ?_)
  refine lv_iload_n hx hb dS_pck_4 rfl (lv_at hl 0 rfl) ?_
  refine lv_iload_n hx hb dS_pck_5 rfl (lv_at hl 1 rfl) ?_
  refine lv_icmp_lt (tgt := 16) hx hb dS_pck_6 (by decide) (fun _ => ?_) (fun h9 => absurd h1 h9)
  refine lv_iload_n hx hb dS_pck_16 rfl (lv_at hl 0 rfl) ?_
  exact W.zret (ty := .int) hx hb hr rfl (fun t ht hW => ⟨rfl, ht⟩) (fun q hq => by cases hq) dS_pck_17
set_option maxHeartbeats 4000000 in
set_option maxRecDepth 100000 in
theorem mS_pckR {E : EnvX} {x n : Int32} (z : Nat) (h0 : ¬ x < 0) (h1 : x < n) : MetS E yS_pck wS_pck 1 [Value.int x, Value.int n, Value.ref z] x := by
  intro l
  refine Met.ofW (cc := prog_22_method_11_code) (maxL := 3) (ret := (Option.some Jvm.ClassFile.FieldType.int)) (by decide) rfl ?_
  intro p e s m args below meth c s₁ B hml hv
  obtain ⟨rfl, hSx⟩ := hv
  have hx := B.exec
  have hb := B.bytes
  have hr := B.returns
  have hts0 := atoms_spec (ws := wS_pck) B.pre
  have hts : ∀ w ∈ tg, w.before ([Value.int x, Value.int n, Value.ref z] : List Value).toArray s = true := fun w hw => hts0 w (List.mem_cons_of_mem _ hw)
  have hown : s.vm.findClass "jdk/internal/util/Preconditions" = some m.cls := findClass_of_methodNamed B.named
  have hlocks := B.notSynchronized
  have hS : va_S (A1 E) s.heap s.heap [] := va_S.rf
  have hl := lv_entry ([Value.int x, Value.int n, Value.ref z]) (n := 3) (Nat.le_of_ble_eq_true rfl)
  rw [lg_entry_eq]
  generalize (lg_sl ([Value.int x, Value.int n, Value.ref z]) ++ List.replicate (3 - (lg_sl ([Value.int x, Value.int n, Value.ref z])).length) Slot.unset).toArray = ls at hl ⊢
  refine lv_iload_n hx hb dS_pck_0 rfl (lv_at hl 0 rfl) ?_
  refine lv_if_lt (tgt := 9) hx hb dS_pck_1 (by decide) (fun h9 => absurd h9 h0) (fun _ => ?_)
  refine lv_iload_n hx hb dS_pck_4 rfl (lv_at hl 0 rfl) ?_
  refine lv_iload_n hx hb dS_pck_5 rfl (lv_at hl 1 rfl) ?_
  refine lv_icmp_lt (tgt := 16) hx hb dS_pck_6 (by decide) (fun _ => ?_) (fun h9 => absurd h1 h9)
  refine lv_iload_n hx hb dS_pck_16 rfl (lv_at hl 0 rfl) ?_
  exact W.zret (ty := .int) hx hb hr rfl (fun t ht hW => ⟨rfl, ht⟩) (fun q hq => by cases hq) dS_pck_17
def QcNo : Array Value → State → Outcome → State → Prop := fun _ st o t => o = .returned none ∧ t.heap = st.heap
set_option maxHeartbeats 4000000 in
set_option maxRecDepth 100000 in
theorem mS_chk {E : EnvX} {x n : Int32} (h0 : ¬ x < 0) (h1 : x < n) : ∀ l, Met l yS_chk wS_chk (rmS 2) (PcS E [Value.int x, Value.int n]) QcNo 0 0 (fun _ => False) := by
  intro l
  refine Met.ofW (cc := prog_17_method_155_code) (maxL := 2) (ret := (Option.none : Option Jvm.ClassFile.FieldType)) (by decide) rfl ?_
  intro p e s m args below meth c s₁ B hml hv
  obtain ⟨rfl, hSx⟩ := hv
  have hx := B.exec
  have hb := B.bytes
  have hr := B.returns
  have hts0 := atoms_spec (ws := wS_chk) B.pre
  have hts : ∀ w ∈ tg, w.before ([Value.int x, Value.int n] : List Value).toArray s = true := fun w hw => hts0 w (List.mem_cons_of_mem _ hw)
  have hown : s.vm.findClass "java/lang/String" = some m.cls := findClass_of_methodNamed B.named
  have hlocks := B.notSynchronized
  have hS : va_S (A1 E) s.heap s.heap [] := va_S.rf
  have hl := lv_entry ([Value.int x, Value.int n]) (n := 2) (Nat.le_of_ble_eq_true rfl)
  rw [lg_entry_eq]
  generalize (lg_sl ([Value.int x, Value.int n]) ++ List.replicate (2 - (lg_sl ([Value.int x, Value.int n])).length) Slot.unset).toArray = ls at hl ⊢
  have hSx0 := hSx
  obtain ⟨-, -, hV, -, hZ, hQ, -⟩ := hSx
  refine lv_iload_n hx hb dS_chk_0 rfl (lv_at hl 0 rfl) ?_
  refine lv_iload_n hx hb dS_chk_1 rfl (lv_at hl 1 rfl) ?_
  rcases hQ with hQ | ⟨z, hQ⟩
  · refine va_gets hx hb hQ hS hown (hts _ (tmC2 (List.mem_of_getElem? (i := 233) rfl) rfl)) (fun _ h9 => h9) dS_chk_2 ?_
    refine W.callR (W.runS (Ts := tg) (As := [Value.int x, Value.int n, Value.null]) (rest := []) ⟨hx, hb, hml, hown, hts⟩ (mS_pckN (E := E) h0 h1 l) ⟨(callB_of (ws := wS_pck) 3 hts gS_pck rfl rfl rfl (hts _ (tmC1 (List.mem_of_getElem? (i := 18) rfl) rfl)) (hts _ (tmC2 (List.mem_of_getElem? (i := 235) rfl) rfl)) ⟨by decide, by decide, by decide +kernel⟩ ⟨Nat.le_of_ble_eq_true rfl, Nat.le_of_ble_eq_true rfl⟩), hts _ (tmC2 (List.mem_of_getElem? (i := 236) rfl) rfl)⟩ ⟨PcS_blind E _, fun U hU hW => PcS_at hSx0 hS (fun _ h => h) hU hW⟩ rfl rfl hl.1 rfl (lv_room (Nat.le_of_ble_eq_true rfl)) dS_chk_5 ⟨Nat.le_refl _, Nat.le_refl _⟩) ?_
    refine lv_pop hx hb dS_chk_8 rfl ?_
    exact W.vret hx hb hr (fun t ht hW => ⟨rfl, ht⟩) (fun q hq => by cases hq) dS_chk_9
  · refine va_gets hx hb hQ hS hown (hts _ (tmC2 (List.mem_of_getElem? (i := 233) rfl) rfl)) (fun _ h9 => h9) dS_chk_2 ?_
    refine W.callR (W.runS (Ts := tg) (As := [Value.int x, Value.int n, Value.ref z]) (rest := []) ⟨hx, hb, hml, hown, hts⟩ (mS_pckR z (E := E) h0 h1 l) ⟨(callB_of (ws := wS_pck) 3 hts gS_pck rfl rfl rfl (hts _ (tmC1 (List.mem_of_getElem? (i := 18) rfl) rfl)) (hts _ (tmC2 (List.mem_of_getElem? (i := 235) rfl) rfl)) ⟨by decide, by decide, by decide +kernel⟩ ⟨Nat.le_of_ble_eq_true rfl, Nat.le_of_ble_eq_true rfl⟩), hts _ (tmC2 (List.mem_of_getElem? (i := 236) rfl) rfl)⟩ ⟨PcS_blind E _, fun U hU hW => PcS_at hSx0 hS (fun _ h => h) hU hW⟩ rfl rfl hl.1 rfl (lv_room (Nat.le_of_ble_eq_true rfl)) dS_chk_5 ⟨Nat.le_refl _, Nat.le_refl _⟩) ?_
    refine lv_pop hx hb dS_chk_8 rfl ?_
    exact W.vret hx hb hr (fun t ht hW => ⟨rfl, ht⟩) (fun q hq => by cases hq) dS_chk_9
theorem sB_c2 {i j : Nat} (hi : i < 4) (hj : j < (sBy i).length) : (((([sB0, sB1, sB2, sB3] : List (List Int32)).getD i []).getD j 0 &&& 255).toUInt32 % 65536).toInt32 = (sBy i).getD j 0 ∧ narrow .char (.int ((sBy i).getD j 0)) = .int ((sBy i).getD j 0) := by
  have h0 : (List.range 4).all (fun i => (List.range 43).all (fun j => decide ((((([sB0, sB1, sB2, sB3] : List (List Int32)).getD i []).getD j 0 &&& 255).toUInt32 % 65536).toInt32 = (sBy i).getD j 0 ∧ narrow .char (.int ((sBy i).getD j 0)) = .int ((sBy i).getD j 0)))) = true := by decide +kernel
  have h1 := List.all_eq_true.mp (List.all_eq_true.mp h0 i (List.mem_range.mpr hi)) j (List.mem_range.mpr (by
    have : (sBy i).length ≤ 43 := by rcases (show i = 0 ∨ i = 1 ∨ i = 2 ∨ i = 3 by omega) with rfl | rfl | rfl | rfl <;> decide
    omega))
  exact of_decide_eq_true h1
set_option maxHeartbeats 4000000 in
set_option maxRecDepth 100000 in
theorem mS_lch {E : EnvX} {i : Nat} {x : Int32} (hi : i < 4) (hin : vp_in x (sBy i).length) : MetS E yS_lch wS_lch 3 [Value.ref (E.2.2.2.2.2.2.2 i), Value.int x] ((sBy i).getD x.toNatClampNeg 0) := by
  intro l
  refine Met.ofW (cc := prog_18_method_2_code) (maxL := 2) (ret := (Option.some Jvm.ClassFile.FieldType.char)) (by decide) rfl ?_
  intro p e s m args below meth c s₁ B hml hv
  obtain ⟨rfl, hSx⟩ := hv
  have hx := B.exec
  have hb := B.bytes
  have hr := B.returns
  have hts0 := atoms_spec (ws := wS_lch) B.pre
  have hts : ∀ w ∈ tg, w.before ([Value.ref (E.2.2.2.2.2.2.2 i), Value.int x] : List Value).toArray s = true := fun w hw => hts0 w (List.mem_cons_of_mem _ hw)
  have hown : s.vm.findClass "java/lang/StringLatin1" = some m.cls := findClass_of_methodNamed B.named
  have hlocks := B.notSynchronized
  have hS : va_S (A1 E) s.heap s.heap [] := va_S.rf
  have hl := lv_entry ([Value.ref (E.2.2.2.2.2.2.2 i), Value.int x]) (n := 2) (Nat.le_of_ble_eq_true rfl)
  rw [lg_entry_eq]
  generalize (lg_sl ([Value.ref (E.2.2.2.2.2.2.2 i), Value.int x]) ++ List.replicate (2 - (lg_sl ([Value.ref (E.2.2.2.2.2.2.2 i), Value.int x])).length) Slot.unset).toArray = ls at hl ⊢
  have hSx0 := hSx
  obtain ⟨-, -, hV, -, hZ, hQ, -⟩ := hSx
  obtain ⟨hO, hC, hVa, hT⟩ := hV.1 i hi
  have hlen : ([0, 31, 23, 43] : List Nat).getD i 0 = (sBy i).length := by rcases (show i = 0 ∨ i = 1 ∨ i = 2 ∨ i = 3 by omega) with rfl | rfl | rfl | rfl <;> rfl
  have hl43 : (sBy i).length ≤ 43 := by rcases (show i = 0 ∨ i = 1 ∨ i = 2 ∨ i = 3 by omega) with rfl | rfl | rfl | rfl <;> decide
  rw [hlen] at hT
  obtain ⟨j, hj, rfl⟩ := vp_in_of hin (by omega)
  have hcl : (nI j).toNatClampNeg = j := nI_clamp (by omega)
  refine lv_iload_n hx hb dS_lch_0 rfl (lv_at hl 1 rfl) ?_
  refine lv_aload_n hx hb dS_lch_1 rfl (lv_at hl 0 rfl) ?_
  refine va_tlen hx hb hT hS rfl dS_lch_2 ?_
  refine W.callX (W.runS (Ts := tg) (As := [Value.int (nI j), Value.int (Int32.ofNat (sBy i).length)]) (rest := []) ⟨hx, hb, hml, hown, hts⟩ (mS_chk (E := E) (nI_pos (by omega)) (nI_lt hj (by omega)) l) ⟨(callB_of (ws := wS_chk) 2 hts gS_chk rfl rfl rfl (hts _ (tmC1 (List.mem_of_getElem? (i := 16) rfl) rfl)) (hts _ (tmC2 (List.mem_of_getElem? (i := 230) rfl) rfl)) ⟨by decide, by decide, by decide +kernel⟩ ⟨Nat.le_of_ble_eq_true rfl, Nat.le_of_ble_eq_true rfl⟩), hts _ (tmC2 (List.mem_of_getElem? (i := 231) rfl) rfl)⟩ ⟨PcS_blind E _, fun U hU hW => PcS_at hSx0 hS (fun _ h => h) hU hW⟩ rfl rfl hl.1 rfl (lv_room (Nat.le_of_ble_eq_true rfl)) dS_lch_3 ⟨Nat.le_refl _, Nat.le_refl _⟩) (fun _ h => h.elim) (fun v st0 t0 h8 h9 => ?_)
  obtain ⟨e1, e2⟩ := h9
  cases e1
  rw [e2, h8]
  refine lv_aload_n hx hb dS_lch_6 rfl (lv_at hl 0 rfl) ?_
  refine lv_iload_n hx hb dS_lch_7 rfl (lv_at hl 1 rfl) ?_
  refine va_tb hx hb hT hS hin rfl dS_lch_8 ?_
  refine lv_sipush (v := 255) hx hb dS_lch_9 (by decide) ?_
  refine lv_iand hx hb dS_lch_12 ?_
  obtain ⟨g1, g2⟩ := sB_c2 hi hj
  rw [hcl]
  refine lv_i2c hx hb dS_lch_13 g1 ?_
  exact W.zret (ty := .char) hx hb hr g2 (fun t ht hW => ⟨rfl, ht⟩) (fun q hq => by cases hq) dS_lch_14
set_option maxHeartbeats 4000000 in
set_option maxRecDepth 100000 in
theorem mS_chr {E : EnvX} {i : Nat} {x : Int32} (hi : i < 4) (hin : vp_in x (sBy i).length) : MetS E yS_chr wS_chr 4 [Value.ref (E.1 (950 + i)), Value.int x] ((sBy i).getD x.toNatClampNeg 0) := by
  intro l
  refine Met.ofW (cc := prog_17_method_56_code) (maxL := 2) (ret := (Option.some Jvm.ClassFile.FieldType.char)) (by decide) rfl ?_
  intro p e s m args below meth c s₁ B hml hv
  obtain ⟨rfl, hSx⟩ := hv
  have hx := B.exec
  have hb := B.bytes
  have hr := B.returns
  have hts0 := atoms_spec (ws := wS_chr) B.pre
  have hts : ∀ w ∈ tg, w.before ([Value.ref (E.1 (950 + i)), Value.int x] : List Value).toArray s = true := fun w hw => hts0 w (List.mem_cons_of_mem _ hw)
  have hown : s.vm.findClass "java/lang/String" = some m.cls := findClass_of_methodNamed B.named
  have hlocks := B.notSynchronized
  have hS : va_S (A1 E) s.heap s.heap [] := va_S.rf
  have hl := lv_entry ([Value.ref (E.1 (950 + i)), Value.int x]) (n := 2) (Nat.le_of_ble_eq_true rfl)
  rw [lg_entry_eq]
  generalize (lg_sl ([Value.ref (E.1 (950 + i)), Value.int x]) ++ List.replicate (2 - (lg_sl ([Value.ref (E.1 (950 + i)), Value.int x])).length) Slot.unset).toArray = ls at hl ⊢
  have hSx0 := hSx
  obtain ⟨-, -, hV, -, hZ, hQ, -⟩ := hSx
  obtain ⟨hO, hC, hVa, hT⟩ := hV.1 i hi
  have hl43 : (sBy i).length ≤ 43 := by rcases (show i = 0 ∨ i = 1 ∨ i = 2 ∨ i = 3 by omega) with rfl | rfl | rfl | rfl <;> decide
  obtain ⟨j, hj, hxj⟩ := vp_in_of hin (by omega)
  refine lv_aload_n hx hb dS_chr_0 rfl (lv_at hl 0 rfl) ?_
  refine W.callR (W.runV (Ts := tg) (C := "java/lang/String") (As := []) (rest := []) ⟨hx, hb, hml, hown, hts⟩ (mS_isL (E := E) hi l) ⟨(callB_of (ws := wS_isL) 0 hts gS_isL rfl rfl rfl (hts _ (tmC1 (List.mem_of_getElem? (i := 16) rfl) rfl)) (hts _ (tmC2 (List.mem_of_getElem? (i := 223) rfl) rfl)) ⟨by decide, by decide, by decide +kernel⟩ ⟨Nat.le_of_ble_eq_true rfl, Nat.le_of_ble_eq_true rfl⟩), hts _ (tmC2 (List.mem_of_getElem? (i := 224) rfl) rfl), hts _ (tmC2 (List.mem_of_getElem? (i := 225) rfl) rfl)⟩ ⟨PcS_blind E _, (vk_recv hV hi hS), fun U hU hW => PcS_at hSx0 hS (fun _ h => h) hU hW⟩ rfl rfl hl.1 rfl (lv_room (Nat.le_of_ble_eq_true rfl)) dS_chr_1 ⟨Nat.le_refl _, Nat.le_refl _⟩) ?_
  refine W.eq (g2 := F0 m 4 ls [.int 1]) rfl ?_
  refine lv_if_eq (tgt := 16) hx hb dS_chr_4 (by decide) (fun h9 => absurd h9 (by decide)) (fun _ => ?_)
  refine lv_aload_n hx hb dS_chr_7 rfl (lv_at hl 0 rfl) ?_
  refine vk_getf hx hb hVa hS hown (hts _ (tmC9 (List.mem_of_getElem? (i := 64) rfl) rfl)) (fun _ h9 => h9) dS_chr_8 ?_
  refine lv_iload_n hx hb dS_chr_11 rfl (lv_at hl 1 rfl) ?_
  refine W.callR (W.runS (Ts := tg) (As := [Value.ref (E.2.2.2.2.2.2.2 i), Value.int x]) (rest := []) ⟨hx, hb, hml, hown, hts⟩ (mS_lch (E := E) hi hin l) ⟨(callB_of (ws := wS_lch) 2 hts gS_lch rfl rfl rfl (hts _ (tmC1 (List.mem_of_getElem? (i := 17) rfl) rfl)) (hts _ (tmC2 (List.mem_of_getElem? (i := 227) rfl) rfl)) ⟨by decide, by decide, by decide +kernel⟩ ⟨Nat.le_of_ble_eq_true rfl, Nat.le_of_ble_eq_true rfl⟩), hts _ (tmC2 (List.mem_of_getElem? (i := 228) rfl) rfl)⟩ ⟨PcS_blind E _, fun U hU hW => PcS_at hSx0 hS (fun _ h => h) hU hW⟩ rfl rfl hl.1 rfl (lv_room (Nat.le_of_ble_eq_true rfl)) dS_chr_12 ⟨Nat.le_refl _, Nat.le_refl _⟩) ?_
  refine W.zret (ty := .char) hx hb hr ?_ (fun t ht hW => ⟨rfl, ht⟩) (fun q hq => by cases hq) dS_chr_15
  rw [hxj, nI_clamp (by omega)]
  exact (sB_c2 hi hj).2
set_option maxHeartbeats 4000000 in
set_option maxRecDepth 100000 in
theorem NatOk_len {mi i : Nat} (hlk : Cond.methodLink (md mi).2.2.2.2.1 i yS_len ∈ tg) : NatOk mi 990 (.invokevirtual i) := by
  intro E L t p e R s m args below meth c H locs cells slots A Qm lsr pc st h k C hP hS hl hd hn kk
  obtain ⟨hx, hb, hml, hown, hts, hKa, hSx, hE, hA1, hR, hth⟩ := C
  obtain ⟨q, r, rfl, hq, hc, hn⟩ := pR_of hn
  have hc2 := Nat.le_of_ble_eq_true hc
  obtain ⟨j, rfl, hj⟩ := isS_of hq
  try simp only [Nat.add_sub_cancel_left] at *
  refine W.callR (W.runV (Ts := tg) (C := "java/lang/String") (As := []) ⟨hx, hb, hml, hown, hts⟩ (mS_len (E := E) hj E.2.2.2.2.2.2.1) ⟨callB_of (ws := wS_len) 0 hts gS_len rfl rfl rfl (hts _ (tmC1 (List.mem_of_getElem? (i := 16) rfl) rfl)) (hts _ hlk) ⟨by decide, by decide, by decide +kernel⟩ ⟨by show 2 + 1 ≤ R.frames; omega, by show 8 + (1 + 11) + 60 * 2 ≤ R.locals; omega⟩, hts _ (tmC2 (List.mem_of_getElem? (i := 210) rfl) rfl), hts _ (tmC2 (List.mem_of_getElem? (i := 211) rfl) rfl)⟩ ⟨PcS_blind E _, vk_recv hSx.2.2.1 hj hS, fun U hU hW => PcS_at hSx hS hA1 hU hW⟩ rfl rfl hl rfl (lv_room (by rw [cats_map]; exact hc2)) hd ⟨hR.2.2.2.1, hR.2.2.2.2⟩) ?_
  exact kk _ h H locs hn hP hS
set_option maxHeartbeats 4000000 in
set_option maxRecDepth 100000 in
theorem NatOk_isEmpty {mi i : Nat} (hlk : Cond.methodLink (md mi).2.2.2.2.1 i yS_emp ∈ tg) : NatOk mi 991 (.invokevirtual i) := by
  intro E L t p e R s m args below meth c H locs cells slots A Qm lsr pc st h k C hP hS hl hd hn kk
  obtain ⟨hx, hb, hml, hown, hts, hKa, hSx, hE, hA1, hR, hth⟩ := C
  obtain ⟨q, r, rfl, hq, hc, hn⟩ := pR_of hn
  have hc2 := Nat.le_of_ble_eq_true hc
  obtain ⟨j, rfl, hj⟩ := isS_of hq
  try simp only [Nat.add_sub_cancel_left] at *
  refine W.callR (W.runV (Ts := tg) (C := "java/lang/String") (As := []) ⟨hx, hb, hml, hown, hts⟩ (mS_emp (E := E) hj E.2.2.2.2.2.2.1) ⟨callB_of (ws := wS_emp) 0 hts gS_emp rfl rfl rfl (hts _ (tmC1 (List.mem_of_getElem? (i := 16) rfl) rfl)) (hts _ hlk) ⟨by decide, by decide, by decide +kernel⟩ ⟨by show 1 + 1 ≤ R.frames; omega, by show 8 + (1 + 11) + 60 * 1 ≤ R.locals; omega⟩, hts _ (tmC2 (List.mem_of_getElem? (i := 199) rfl) rfl), hts _ (tmC2 (List.mem_of_getElem? (i := 200) rfl) rfl)⟩ ⟨PcS_blind E _, vk_recv hSx.2.2.1 hj hS, fun U hU hW => PcS_at hSx hS hA1 hU hW⟩ rfl rfl hl rfl (lv_room (by rw [cats_map]; exact hc2)) hd ⟨hR.2.2.2.1, hR.2.2.2.2⟩) ?_
  exact kk _ h H locs hn hP hS
set_option maxHeartbeats 4000000 in
set_option maxRecDepth 100000 in
theorem NatOk_charAt {mi i : Nat} (hlk : Cond.methodLink (md mi).2.2.2.2.1 i yS_chr ∈ tg) : NatOk mi 992 (.invokevirtual i) := by
  intro E L t p e R s m args below meth c H locs cells slots A Qm lsr pc st h k C hP hS hl hd hn kk
  obtain ⟨hx, hb, hml, hown, hts, hKa, hSx, hE, hA1, hR, hth⟩ := C
  obtain ⟨q, x, r, rfl, hq, hc, hin, hn⟩ := pIR_of hn
  have hc2 := Nat.le_of_ble_eq_true hc
  obtain ⟨j, rfl, hj⟩ := isS_of hq
  try simp only [Nat.add_sub_cancel_left] at *
  refine W.callR (W.runV (Ts := tg) (C := "java/lang/String") (As := [Value.int x]) ⟨hx, hb, hml, hown, hts⟩ (mS_chr (E := E) hj hin E.2.2.2.2.2.2.1) ⟨callB_of (ws := wS_chr) 1 hts gS_chr rfl rfl rfl (hts _ (tmC1 (List.mem_of_getElem? (i := 16) rfl) rfl)) (hts _ hlk) ⟨by decide, by decide, by decide +kernel⟩ ⟨by show 4 + 1 ≤ R.frames; omega, by show 8 + (2 + 11) + 60 * 4 ≤ R.locals; omega⟩, hts _ (tmC2 (List.mem_of_getElem? (i := 220) rfl) rfl), hts _ (tmC2 (List.mem_of_getElem? (i := 221) rfl) rfl)⟩ ⟨PcS_blind E _, vk_recv hSx.2.2.1 hj hS, fun U hU hW => PcS_at hSx hS hA1 hU hW⟩ rfl rfl hl rfl (lv_room (by rw [cats_map]; exact hc2)) hd ⟨hR.2.2.2.1, hR.2.2.2.2⟩) ?_
  exact kk _ h H locs hn hP hS
