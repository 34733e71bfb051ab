/-! ===== calls that the machine does itself ===== -/
theorem NatOk_min {mi i : Nat} (hlk : Cond.methodLink (md mi).2.2.2.2.1 i Lib.Math.min.name ∈ tg) (hst : Cond.static Lib.Math.min.name ∈ tg) (hin : Cond.initialized "java/lang/Math" ∈ tg) (hco : Cond.code Lib.Math.min.name Lib.Math.min.code 2 (some .int) ∈ tg) : NatOk mi 994 (.invokestatic i) := by
  intro E L t p e R s m args below meth c H locs cells slots A Qm lsr pc st h k C hP hS hl hd hn kk
  obtain ⟨hx, hb, hml, hown, hts, hKa, hSx, hE, hA1, hR, hth⟩ := C
  obtain ⟨x, y, r, rfl, hc, hn⟩ := pII_of hn
  have hc2 := Nat.le_of_ble_eq_true hc
  exact va_mmin hx hb (hml.trans hl.symm) hown (hts _ hlk) (hts _ hst) (hts _ hin) (hts _ hco) (by omega) (by rw [cats_map]; omega) hR.2.2.2.1 hR.2.2.2.2 hd (kk _ h H locs hn hP hS)
theorem NatOk_max {mi i : Nat} (hlk : Cond.methodLink (md mi).2.2.2.2.1 i Lib.Math.max.name ∈ tg) (hst : Cond.static Lib.Math.max.name ∈ tg) (hin : Cond.initialized "java/lang/Math" ∈ tg) (hco : Cond.code Lib.Math.max.name Lib.Math.max.code 2 (some .int) ∈ tg) : NatOk mi 995 (.invokestatic i) := by
  intro E L t p e R s m args below meth c H locs cells slots A Qm lsr pc st h k C hP hS hl hd hn kk
  obtain ⟨hx, hb, hml, hown, hts, hKa, hSx, hE, hA1, hR, hth⟩ := C
  obtain ⟨x, y, r, rfl, hc, hn⟩ := pII_of hn
  have hc2 := Nat.le_of_ble_eq_true hc
  exact va_mmax hx hb (hml.trans hl.symm) hown (hts _ hlk) (hts _ hst) (hts _ hin) (hts _ hco) (by omega) (by rw [cats_map]; omega) hR.2.2.2.1 hR.2.2.2.2 hd (kk _ h H locs hn hP hS)
theorem NatOk_abs {mi i : Nat} (hlk : Cond.methodLink (md mi).2.2.2.2.1 i Lib.Math.abs.name ∈ tg) (hst : Cond.static Lib.Math.abs.name ∈ tg) (hin : Cond.initialized "java/lang/Math" ∈ tg) (hco : Cond.code Lib.Math.abs.name Lib.Math.abs.code 1 (some .int) ∈ tg) : NatOk mi 996 (.invokestatic i) := by
  intro E L t p e R s m args below meth c H locs cells slots A Qm lsr pc st h k C hP hS hl hd hn kk
  obtain ⟨hx, hb, hml, hown, hts, hKa, hSx, hE, hA1, hR, hth⟩ := C
  obtain ⟨x, r, rfl, hc, hn⟩ := pI_of hn
  have hc2 := Nat.le_of_ble_eq_true hc
  exact va_mabs hx hb (hml.trans hl.symm) hown (hts _ hlk) (hts _ hst) (hts _ hin) (hts _ hco) (by omega) (by rw [cats_map]; omega) hR.2.2.2.1 hR.2.2.2.2 hd (kk _ h H locs hn hP hS)
theorem NatOk_copy {mi i : Nat} (hlk : Cond.methodLink (md mi).2.2.2.2.1 i arraycopyName ∈ tg) (hnt : Cond.native arraycopyName ∈ tg) (hst : Cond.static arraycopyName ∈ tg) (hin : Cond.initialized "java/lang/System" ∈ tg) : NatOk mi 993 (.invokestatic i) := by
  intro E L t p e R s m args below meth c H locs cells slots A Qm lsr pc st h k C hP hS hl hd hn kk
  obtain ⟨hx, hb, hml, hown, hts, hKa, hSx, hE, hA1, hR, hth⟩ := C
  match st, hn with
  | .int n :: .int dp :: .ref q1 :: .int sp :: .ref q0 :: r, hn =>
    obtain ⟨hc, ⟨k0, k1, hne, h1, h2, h3, h4, h5⟩, hk⟩ := hn
    have hc2 := Nat.le_of_ble_eq_true hc
    obtain ⟨a1, t0, a2⟩ := arr1 (E := E) (h := h) k0
    obtain ⟨b1, t1, b2⟩ := arr1 (E := E) (h := h) k1
    have pos : ∀ {z : Int32}, 0 ≤ z → ¬ z < 0 := fun {z} hz hz2 => by
      have e1 := Int32.le_iff_toInt_le.mp hz
      have e2 := Int32.lt_iff_toInt_lt.mp hz2
      have e3 : (0 : Int32).toInt = 0 := rfl
      omega
    refine va_copyi hx hb (hml.trans hl.symm) hown (hts _ hlk) (hts _ hnt) (hts _ hst) (hts _ hin) hKa hP (vaD_of hE hA1 h) hS q0 q1 t0 t1 a1 b1 a2 b2 rfl (pos h1) (pos h2) (pos h3) h4 h5 (fun _ _ => rfl) (by omega) ?_ hd (fun H1 locs1 hP1 hD1 hS1 => kk _ _ H1 locs1 hk ?_ hS1)
    · rw [cats_map]
      have : nativeFrameWords "java/lang/System" "arraycopy" 5 ≤ 20 := by decide
      omega
    · rw [← sC_set k1]
      exact hP1
theorem NatOk_len {mi i : Nat} (hlk : Cond.methodLink (md mi).2.2.2.2.1 i ⟨"java/lang/String", "length", "()I"⟩ ∈ tg) : NatOk mi 990 (.invokevirtual i) := sorry
theorem NatOk_isEmpty {mi i : Nat} (hlk : Cond.methodLink (md mi).2.2.2.2.1 i ⟨"java/lang/String", "isEmpty", "()Z"⟩ ∈ tg) : NatOk mi 991 (.invokevirtual i) := sorry
theorem NatOk_charAt {mi i : Nat} (hlk : Cond.methodLink (md mi).2.2.2.2.1 i ⟨"java/lang/String", "charAt", "(I)C"⟩ ∈ tg) : NatOk mi 992 (.invokevirtual i) := sorry
