/-! ===== small numbers as sets of places ===== -/
theorem nI_bv (c : Nat) : (nI c).toBitVec = BitVec.ofNat 32 c := rfl
theorem mk_nat {c : Nat} (hc : c < 2 ^ 24) : Mk (nI c) (fun i => c.testBit i) := fun i hi => by
  rw [nI_bv, BitVec.getLsbD_ofNat, decide_eq_true hi, Bool.true_and]
  by_cases h : i < 24
  · rw [decide_eq_true h, Bool.true_and]
  · rw [decide_eq_false h, Bool.false_and]
    exact Nat.testBit_lt_two_pow (Nat.lt_of_lt_of_le hc (Nat.pow_le_pow_right (by decide) (by omega)))
theorem mk_and {v w : Int32} {P Q : Nat → Bool} (a : Mk v P) (b : Mk w Q) : Mk (v &&& w) (fun i => P i && Q i) := fun i hi => by
  rw [Int32.toBitVec_and, BitVec.getLsbD_and, a i hi, b i hi]
  cases decide (i < 24) <;> simp
theorem mk_orr {v w : Int32} {P Q : Nat → Bool} (a : Mk v P) (b : Mk w Q) : Mk (v ||| w) (fun i => P i || Q i) := fun i hi => by
  rw [Int32.toBitVec_or, BitVec.getLsbD_or, a i hi, b i hi]
  cases decide (i < 24) <;> simp
theorem mk_xor {v w : Int32} {P Q : Nat → Bool} (a : Mk v P) (b : Mk w Q) : Mk (v ^^^ w) (fun i => P i ^^ Q i) := fun i hi => by
  rw [Int32.toBitVec_xor, BitVec.getLsbD_xor, a i hi, b i hi]
  cases decide (i < 24) <;> simp
theorem mk_ndel {v w : Int32} {P Q : Nat → Bool} (a : Mk v P) (b : Mk w Q) : Mk (v &&& (w ^^^ (-1))) (fun i => P i && !(Q i)) := fun i hi => by
  rw [Int32.toBitVec_and, BitVec.getLsbD_and, a i hi, Int32.toBitVec_xor, BitVec.getLsbD_xor, b i hi]
  have : (-1 : Int32).toBitVec.getLsbD i = true := (show ∀ i, i < 32 → (-1 : Int32).toBitVec.getLsbD i = true by decide) i hi
  rw [this]
  cases decide (i < 24) <;> simp
theorem andN {a b : Nat} (ha : a < 2 ^ 24) (hb : b < 2 ^ 24) : nI a &&& nI b = nI (a &&& b) :=
  mk_eq (mk_and (mk_nat ha) (mk_nat hb)) (mk_cong (mk_nat (Nat.lt_of_le_of_lt Nat.and_le_left ha)) (fun i _ => Nat.testBit_and a b i))
theorem orN {a b : Nat} (ha : a < 2 ^ 24) (hb : b < 2 ^ 24) : nI a ||| nI b = nI (a ||| b) :=
  mk_eq (mk_orr (mk_nat ha) (mk_nat hb)) (mk_cong (mk_nat (Nat.or_lt_two_pow ha hb)) (fun i _ => Nat.testBit_or a b i))
theorem xorN {a b : Nat} (ha : a < 2 ^ 24) (hb : b < 2 ^ 24) : nI a ^^^ nI b = nI (a ^^^ b) :=
  mk_eq (mk_xor (mk_nat ha) (mk_nat hb)) (mk_cong (mk_nat (Nat.xor_lt_two_pow ha hb)) (fun i _ => Nat.testBit_xor a b i))
theorem bitN {c k : Nat} (hc : c < 2 ^ 24) (hk : k < 24) : ((nI c >>> (nI k &&& 31)) &&& 1) = if c.testBit k = true then 1 else 0 := mk_test (mk_nat hc) hk
theorem shlN {n : Nat} (hn : n < 24) : (1 : Int32) <<< (nI n &&& 31) = nI (2 ^ n) := (show ∀ n, n < 24 → (1 : Int32) <<< (nI n &&& 31) = nI (2 ^ n) by decide) n hn
theorem pow13 {n : Nat} (hn : n < 13) : 2 ^ n ≤ 4096 ∧ 0 < 2 ^ n := (show ∀ n, n < 13 → 2 ^ n ≤ 4096 ∧ 0 < 2 ^ n by decide) n hn
theorem bit_hi {c n k : Nat} (hc : c < 2 ^ n) (hk : n ≤ k) : c.testBit k = false := Nat.testBit_lt_two_pow (Nat.lt_of_lt_of_le hc (Nat.pow_le_pow_right (by decide) hk))
/-- the greatest of some numbers -/
def mE (f : Nat → Nat) : Nat → Nat
  | 0 => 0
  | n + 1 => if mE f n < f n then f n else mE f n
theorem mE_le {f : Nat → Nat} {x : Nat} : ∀ {n : Nat}, mE f n ≤ x ↔ ∀ k, k < n → f k ≤ x
  | 0 => ⟨fun _ k hk => absurd hk (Nat.not_lt_zero k), fun _ => Nat.zero_le _⟩
  | n + 1 => by
    have ih := mE_le (f := f) (x := x) (n := n)
    show (if mE f n < f n then f n else mE f n) ≤ x ↔ _
    by_cases c : mE f n < f n
    · rw [if_pos c]
      refine ⟨fun h k hk => ?_, fun h => h n (by omega)⟩
      by_cases e : k = n
      · rw [e]; exact h
      · exact ih.mp (by omega) k (by omega)
    · rw [if_neg c]
      refine ⟨fun h k hk => ?_, fun h => ih.mpr (fun k hk => h k (by omega))⟩
      by_cases e : k = n
      · rw [e]; omega
      · exact ih.mp h k (by omega)
theorem eq_le {a b : Nat} (h : ∀ x, a ≤ x ↔ b ≤ x) : a = b := Nat.le_antisymm ((h b).mpr (Nat.le_refl _)) ((h a).mp (Nat.le_refl _))
theorem mx_le {a b x : Nat} : (if a < b then b else a) ≤ x ↔ a ≤ x ∧ b ≤ x := by
  split <;> omega
