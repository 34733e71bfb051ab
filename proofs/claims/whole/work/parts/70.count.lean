/-! ===== how many bits ===== -/
theorem andA (a b : Nat) : nI a &&& nI b = nI (a &&& b) := by
  apply Int32.toBitVec_inj.1
  apply BitVec.eq_of_getLsbD_eq
  intro i hi
  rw [Int32.toBitVec_and, BitVec.getLsbD_and, nI_bv, nI_bv, nI_bv, BitVec.getLsbD_ofNat, BitVec.getLsbD_ofNat, BitVec.getLsbD_ofNat, Nat.testBit_and, decide_eq_true hi]
  simp
theorem land8 (x m : Nat) : x &&& m = (x % 256 &&& m % 256) + 256 * (x / 256 &&& m / 256) := by
  have h1 := Nat.and_mod_two_pow (a := x) (b := m) (n := 8)
  have h2 := Nat.and_div_two_pow (a := x) (b := m) (n := 8)
  have h3 := Nat.mod_add_div (x &&& m) 256
  rw [show (2 : Nat) ^ 8 = 256 from rfl] at h1 h2
  rw [h1, h2] at h3
  exact h3.symm
theorem land24 {y m : Nat} (hy : y < 16777216) : y &&& m = y &&& m % 16777216 := by
  have h1 := Nat.and_mod_two_pow (a := y) (b := m) (n := 24)
  rw [show (2 : Nat) ^ 24 = 16777216 from rfl, Nat.mod_eq_of_lt hy] at h1
  rw [← h1, Nat.mod_eq_of_lt (Nat.lt_of_le_of_lt Nat.and_le_left hy)]
def bcA (x : Nat) : Nat := x - (x / 2 &&& 1431655765)
def bcB (x : Nat) : Nat := (x &&& 858993459) + (x / 4 &&& 858993459)
def bcC (x : Nat) : Nat := (x + x / 16) &&& 252645135
theorem bcA_s {a b : Nat} (ha : a < 256) (hb : b < 65536) : bcA (a + 256 * b) = bcA a + 256 * bcA b := by
  have e1 : (a + 256 * b) / 2 % 256 = a / 2 + 128 * (b % 2) := by omega
  have e2 : (a + 256 * b) / 2 / 256 = b / 2 := by omega
  have e3 : (a / 2 + 128 * (b % 2)) &&& 85 = a / 2 &&& 1431655765 := by
    have : ∀ a, a < 256 → ∀ t, t < 2 → (a / 2 + 128 * t) &&& 85 = a / 2 &&& 1431655765 := by decide +kernel
    exact this a ha _ (Nat.mod_lt _ (by decide))
  have e4 : b / 2 &&& 1431655765 = b / 2 &&& 5592405 := land24 (by omega)
  have l1 : a / 2 &&& 1431655765 ≤ a / 2 := Nat.and_le_left
  have l2 : b / 2 &&& 5592405 ≤ b / 2 := Nat.and_le_left
  unfold bcA
  rw [land8 ((a + 256 * b) / 2), e1, e2, show 1431655765 % 256 = 85 from rfl, show 1431655765 / 256 = 5592405 from rfl, e3, e4]
  omega
theorem bcB_s {a b : Nat} (ha : a < 256) (hb : b < 65536) : bcB (a + 256 * b) = bcB a + 256 * bcB b := by
  have e0 : (a + 256 * b) % 256 = a := by omega
  have e00 : (a + 256 * b) / 256 = b := by omega
  have e1 : (a + 256 * b) / 4 % 256 = a / 4 + 64 * (b % 4) := by omega
  have e2 : (a + 256 * b) / 4 / 256 = b / 4 := by omega
  have e3 : (a / 4 + 64 * (b % 4)) &&& 51 = a / 4 &&& 858993459 := by
    have : ∀ a, a < 256 → ∀ t, t < 4 → (a / 4 + 64 * t) &&& 51 = a / 4 &&& 858993459 := by decide +kernel
    exact this a ha _ (Nat.mod_lt _ (by decide))
  have e33 : a &&& 51 = a &&& 858993459 := (show ∀ a, a < 256 → a &&& 51 = a &&& 858993459 by decide +kernel) a ha
  have e4 : b / 4 &&& 858993459 = b / 4 &&& 3355443 := land24 (by omega)
  have e44 : b &&& 858993459 = b &&& 3355443 := land24 (by omega)
  unfold bcB
  rw [land8 (a + 256 * b), land8 ((a + 256 * b) / 4), e0, e00, e1, e2, show 858993459 % 256 = 51 from rfl, show 858993459 / 256 = 3355443 from rfl, e3, e33, e4, e44]
  omega
theorem bcC_s {a b : Nat} (ha : a < 69) (hb : b < 65536) (hb4 : b % 16 < 5) : bcC (a + 256 * b) = bcC a + 256 * bcC b := by
  have e1 : (a + 256 * b + (a + 256 * b) / 16) % 256 = a + a / 16 + 16 * (b % 16) := by omega
  have e2 : (a + 256 * b + (a + 256 * b) / 16) / 256 = b + b / 16 := by omega
  have e3 : (a + a / 16 + 16 * (b % 16)) &&& 15 = (a + a / 16) &&& 252645135 := by
    have : ∀ a, a < 69 → ∀ t, t < 5 → (a + a / 16 + 16 * t) &&& 15 = (a + a / 16) &&& 252645135 := by decide +kernel
    exact this a ha _ hb4
  have e4 : (b + b / 16) &&& 252645135 = (b + b / 16) &&& 986895 := land24 (by omega)
  unfold bcC
  rw [land8 (a + 256 * b + (a + 256 * b) / 16), e1, e2, show 252645135 % 256 = 15 from rfl, show 252645135 / 256 = 986895 from rfl, e3, e4]
def pc8 (a : Nat) : Nat := sE (fun k => if a.testBit k = true then 1 else 0) 8
theorem bc8 {a : Nat} (ha : a < 256) : (bcA a < 256 ∧ bcB (bcA a) < 69 ∧ bcB (bcA a) % 16 < 5) ∧ bcC (bcB (bcA a)) = pc8 a ∧ pc8 a < 9 := (show ∀ a, a < 256 → (bcA a < 256 ∧ bcB (bcA a) < 69 ∧ bcB (bcA a) % 16 < 5) ∧ bcC (bcB (bcA a)) = pc8 a ∧ pc8 a < 9 by decide +kernel) a ha
def pcn (x : Nat) : Nat := sE (fun k => if x.testBit k = true then 1 else 0) 24
theorem pcn_split {a b c : Nat} (ha : a < 256) (hb : b < 256) (hc : c < 256) : pcn (a + 256 * (b + 256 * c)) = pc8 a + (pc8 b + pc8 c) := by
  have t0 : ∀ x y k, x < 256 → k < 8 → (x + 256 * y).testBit k = x.testBit k := fun x y k hx hk => by
    have := Nat.testBit_mod_two_pow (x + 256 * y) 8 k
    rw [decide_eq_true hk, Bool.true_and, show (2 : Nat) ^ 8 = 256 from rfl, show (x + 256 * y) % 256 = x by omega] at this
    exact this.symm
  have t1 : ∀ x y k, x < 256 → (x + 256 * y).testBit (8 + k) = y.testBit k := fun x y k hx => by
    rw [show y = (x + 256 * y) / 256 by omega, show (x + 256 * ((x + 256 * y) / 256)) = x + 256 * y by omega, show (x + 256 * y) / 256 = (x + 256 * y) >>> 8 from (Nat.shiftRight_eq_div_pow _ 8).symm, Nat.testBit_shiftRight]
  unfold pcn pc8
  rw [show (24 : Nat) = 8 + (8 + 8) from rfl, sE_split, sE_split]
  congr 1
  · exact sE_cong (n := 8) (fun k hk => by rw [t0 _ _ k ha hk])
  · congr 1
    · exact sE_cong (n := 8) (fun k hk => by rw [t1 _ _ k ha, t0 _ _ k hb hk])
    · exact sE_cong (n := 8) (fun k hk => by rw [t1 _ _ _ ha, t1 _ _ k hb])
theorem bcN {x : Nat} (hx : x < 16777216) : (bcC (bcB (bcA x)) + bcC (bcB (bcA x)) / 256 + (bcC (bcB (bcA x)) + bcC (bcB (bcA x)) / 256) / 65536) % 64 = pcn x ∧ pcn x ≤ 24 := by
  obtain ⟨a, b, c, ha, hb, hc, ex⟩ : ∃ a b c, a < 256 ∧ b < 256 ∧ c < 256 ∧ x = a + 256 * (b + 256 * c) := ⟨x % 256, x / 256 % 256, x / 65536, by omega, by omega, by omega, by omega⟩
  obtain ⟨⟨a1, a2, a3⟩, a4, a5⟩ := bc8 ha
  obtain ⟨⟨b1, b2, b3⟩, b4, b5⟩ := bc8 hb
  obtain ⟨⟨c1, c2, c3⟩, c4, c5⟩ := bc8 hc
  have e1 : bcA x = bcA a + 256 * (bcA b + 256 * bcA c) := by rw [ex, bcA_s ha (by omega), bcA_s hb (by omega)]
  have e2 : bcB (bcA x) = bcB (bcA a) + 256 * (bcB (bcA b) + 256 * bcB (bcA c)) := by rw [e1, bcB_s a1 (by omega), bcB_s b1 (by omega)]
  have e3 : bcC (bcB (bcA x)) = bcC (bcB (bcA a)) + 256 * (bcC (bcB (bcA b)) + 256 * bcC (bcB (bcA c))) := by rw [e2, bcC_s a2 (by omega) (by omega), bcC_s b2 (by omega) (by omega)]
  rw [e3, a4, b4, c4, ex, pcn_split ha hb hc]
  have fin : ∀ A B C : Nat, A < 9 → B < 9 → C < 9 → (A + 256 * (B + 256 * C) + (A + 256 * (B + 256 * C)) / 256 + (A + 256 * (B + 256 * C) + (A + 256 * (B + 256 * C)) / 256) / 65536) % 64 = A + (B + C) := by
    intro A B C qA qB qC
    have d1 : (A + 256 * (B + 256 * C)) / 256 = B + 256 * C := by omega
    rw [d1]
    have d2 : (A + 256 * (B + 256 * C) + (B + 256 * C)) / 65536 = C := by omega
    rw [d2]
    omega
  exact ⟨fin _ _ _ a5 b5 c5, by omega⟩
section Count
variable {E : EnvX} {L : Nat} {h : Hp}
theorem i_bitCount (hE : EOk E) (hL : 1 ≤ L) {x : Nat} (hx : x < 16777216) : RdI E L m_Integer_bitCount 0 [.int (nI x)] h (nI (pcn x)) := by
  refine B_Integer_bitCount hE hL ⟨?_, rfl⟩
  have u1 : ∀ {y : Nat}, y < 2 ^ 32 → ((nI y).toUInt32 >>> ((1 : Int32).toUInt32 &&& Int32.toUInt32 31)).toInt32 = nI (y / 2) := fun hy => pk_ushrN hy 1 1 (by decide)
  have u2 : ∀ {y : Nat}, y < 2 ^ 32 → ((nI y).toUInt32 >>> ((2 : Int32).toUInt32 &&& Int32.toUInt32 31)).toInt32 = nI (y / 4) := fun hy => pk_ushrN hy 2 2 (by decide)
  have u4 : ∀ {y : Nat}, y < 2 ^ 32 → ((nI y).toUInt32 >>> ((4 : Int32).toUInt32 &&& Int32.toUInt32 31)).toInt32 = nI (y / 16) := fun hy => pk_ushrN hy 4 4 (by decide)
  have u8 : ∀ {y : Nat}, y < 2 ^ 32 → ((nI y).toUInt32 >>> ((8 : Int32).toUInt32 &&& Int32.toUInt32 31)).toInt32 = nI (y / 256) := fun hy => pk_ushrN hy 8 8 (by decide)
  have u16 : ∀ {y : Nat}, y < 2 ^ 32 → ((nI y).toUInt32 >>> ((16 : Int32).toUInt32 &&& Int32.toUInt32 31)).toInt32 = nI (y / 65536) := fun hy => pk_ushrN hy 16 16 (by decide)
  have hA : bcA x ≤ x := Nat.sub_le _ _
  have hB : bcB (bcA x) ≤ 2 * x := by
    have l1 : bcA x &&& 858993459 ≤ bcA x := Nat.and_le_left
    have l2 : bcA x / 4 &&& 858993459 ≤ bcA x / 4 := Nat.and_le_left
    unfold bcB; omega
  have hC : bcC (bcB (bcA x)) ≤ 4 * x := by
    have l1 : (bcB (bcA x) + bcB (bcA x) / 16) &&& 252645135 ≤ bcB (bcA x) + bcB (bcA x) / 16 := Nat.and_le_left
    unfold bcC; omega
  have q1 : x / 2 &&& 1431655765 ≤ x := Nat.le_trans Nat.and_le_left (by omega)
  rw [u1 (by omega), show (1431655765 : Int32) = nI 1431655765 from rfl, andA, nI_sub q1, show x - (x / 2 &&& 1431655765) = bcA x from rfl, u2 (by omega), show (858993459 : Int32) = nI 858993459 from rfl, andA, andA, nI_add, show (bcA x &&& 858993459) + (bcA x / 4 &&& 858993459) = bcB (bcA x) from rfl, u4 (by omega), nI_add, show (252645135 : Int32) = nI 252645135 from rfl, andA, show (bcB (bcA x) + bcB (bcA x) / 16) &&& 252645135 = bcC (bcB (bcA x)) from rfl, u8 (by omega), nI_add, u16 (by omega), nI_add, pk_andN (by omega) 6 (by decide)]
  rw [show (2 : Nat) ^ 6 = 64 from rfl, (bcN hx).1]
theorem m_bitsOf (hE : EOk E) (hL : 1 ≤ L) {x : Nat} (hx : x < 16777216) : RdI E L m_M_bitsOf 0 [.int (nI x)] h (nI (pcn x)) := by
  refine B_M_bitsOf hE (by omega) ?_
  refine upto (P := fun k => at_M_bitsOf_4 E L h _ (nI x) (nI (sE (fun k => if x.testBit k = true then 1 else 0) k)) (nI k)) (n := 24) ?_ (fun k hk ih => ?_) 0 (by omega)
  · exact B_M_bitsOf_4 (brT (nEnd 24) ⟨rfl, rfl⟩)
  · refine B_M_bitsOf_4 (brF (nG 24 hk) ?_)
    rw [sE_s _ k] at ih
    rw [bitN (by omega) hk, show (if x.testBit k = true then (1 : Int32) else 0) = nI (if x.testBit k = true then 1 else 0) by split <;> rfl, nI_add, nI_1]
    exact ih
end Count
