/-! ===== sets of items as bits of an int ===== -/
def Mk (v : Int32) (P : Nat → Bool) : Prop := ∀ i, i < 32 → v.toBitVec.getLsbD i = (decide (i < 24) && P i)
theorem mk_0 : Mk 0 (fun _ => false) := fun i hi => by
  rw [Bool.and_false]
  show (BitVec.ofNat 32 0).getLsbD i = false
  simp
theorem mk_eq {v w : Int32} {P : Nat → Bool} (a : Mk v P) (b : Mk w P) : v = w := by
  apply Int32.toBitVec_inj.1
  apply BitVec.eq_of_getLsbD_eq
  intro i hi
  rw [a i hi, b i hi]
theorem mk_cong {v : Int32} {P Q : Nat → Bool} (a : Mk v P) (h : ∀ i, i < 24 → P i = Q i) : Mk v Q := fun i hi => by
  rw [a i hi]
  by_cases c : i < 24
  · rw [h i c]
  · rw [decide_eq_false c]; rfl
theorem mk_inj {v : Int32} {P Q : Nat → Bool} (a : Mk v P) (b : Mk v Q) : ∀ i, i < 24 → P i = Q i := fun i hi => by
  have h1 := a i (by omega)
  rw [b i (by omega), decide_eq_true hi, Bool.true_and, Bool.true_and] at h1
  exact h1.symm
theorem sh31 {i : Nat} (hi : i < 24) : nI i &&& 31 = nI i := (show ∀ i, i < 24 → nI i &&& 31 = nI i by decide) i hi
theorem one_shl {i : Nat} (hi : i < 24) : ((1 : Int32) <<< (nI i &&& 31)).toBitVec = BitVec.twoPow 32 i := (show ∀ i, i < 24 → ((1 : Int32) <<< (nI i &&& 31)).toBitVec = BitVec.twoPow 32 i by decide) i hi
theorem mk_or {v : Int32} {P : Nat → Bool} (a : Mk v P) {i : Nat} (hi : i < 24) : Mk (v ||| ((1 : Int32) <<< (nI i &&& 31))) (fun j => P j || decide (j = i)) := fun j hj => by
  rw [Int32.toBitVec_or, BitVec.getLsbD_or, a j hj, one_shl hi, BitVec.getLsbD_twoPow]
  by_cases c : j < 24
  · by_cases d : i = j
    · simp [c, d, show j < 32 by omega]
    · simp [c, d, Ne.symm d, show i < 32 by omega]
  · have d : ¬ i = j := by omega
    simp [c, d]
theorem sshr (v : Int32) {s : Nat} (hs : s ≤ 24) : (v >>> (nI s)).toBitVec = v.toBitVec.sshiftRight s := by
  have h1 : ((nI s).toBitVec.smod 32).toNat = s := by
    have : ∀ s, s < 25 → ((nI s).toBitVec.smod 32).toNat = s := by decide
    exact this s (by omega)
  rw [Int32.toBitVec_shiftRight]
  show v.toBitVec.sshiftRight ((nI s).toBitVec.smod 32).toNat = _
  rw [h1]
theorem mk_test {v : Int32} {P : Nat → Bool} (a : Mk v P) {i : Nat} (hi : i < 24) : (v >>> (nI i &&& 31)) &&& 1 = if P i = true then 1 else 0 := by
  rw [sh31 hi, pk_and _ 1 (by decide), sshr v (by omega)]
  have h2 := BitVec.getLsbD_sshiftRight v.toBitVec i 0
  rw [BitVec.getLsbD] at h2
  have h3 := a i (by omega)
  rw [decide_eq_true hi, Bool.true_and] at h3
  have h4 : (v.toBitVec.sshiftRight i).toNat % 2 ^ 1 = if P i = true then 1 else 0 := by
    rw [Nat.pow_one]
    have h5 : (v.toBitVec.sshiftRight i).toNat.testBit 0 = P i := by
      rw [h2, ← h3]
      simp [show i < 32 by omega]
    rw [Nat.testBit_zero] at h5
    by_cases c : P i = true
    · rw [if_pos c]; rw [c] at h5; exact of_decide_eq_true h5
    · rw [if_neg c]
      have c2 : P i = false := by simpa using c
      rw [c2] at h5
      have := of_decide_eq_false h5
      omega
  rw [h4]
  by_cases c : P i = true
  · rw [if_pos c, if_pos c]; rfl
  · rw [if_neg c, if_neg c]; rfl
