section EvenP
theorem sub_neg32 (x y : Int32) : 0 - (x - y) = y - x := by
  apply Int32.toBitVec_inj.1
  rw [Int32.toBitVec_sub, Int32.toBitVec_sub, Int32.toBitVec_sub]
  show 0#32 - (x.toBitVec - y.toBitVec) = y.toBitVec - x.toBitVec
  rw [BitVec.sub_eq_add_neg, BitVec.sub_eq_add_neg, BitVec.sub_eq_add_neg, BitVec.neg_add, BitVec.sub_eq_add_neg, BitVec.neg_neg, BitVec.zero_add, BitVec.add_comm]
theorem neg32 (x y : Int32) : -(x - y) = y - x := by
  apply Int32.toBitVec_inj.1
  rw [Int32.toBitVec_neg, Int32.toBitVec_sub, Int32.toBitVec_sub, BitVec.sub_eq_add_neg, BitVec.sub_eq_add_neg, BitVec.neg_add, BitVec.sub_eq_add_neg, BitVec.neg_neg, BitVec.add_comm]
def dif (a b : Nat) : Nat := if b ≤ a then a - b else b - a
theorem dif_x {a b : Nat} (ha : a < 1073741824) (hb : b < 1073741824) : (if 0 ≤ nI a - nI b then nI a - nI b else 0 - (nI a - nI b)) = nI (dif a b) := by
  unfold dif
  have e0 : (0 : Int32).toInt = 0 := rfl
  by_cases c : b ≤ a
  · rw [if_pos c, if_pos (by rw [i32_le, pk_sub_toInt (by omega) (by omega)]; omega), nI_sub c]
  · rw [if_neg c, if_neg (by rw [i32_le, pk_sub_toInt (by omega) (by omega)]; omega), sub_neg32, nI_sub (by omega)]
theorem dif_m {a b : Nat} (ha : a < 1073741824) (hb : b < 1073741824) : (0 ≤ nI a - nI b → nI a - nI b = nI (dif a b)) ∧ (¬ 0 ≤ nI a - nI b → -(nI a - nI b) = nI (dif a b)) := by
  unfold dif
  have e0 : (0 : Int32).toInt = 0 := rfl
  rw [i32_le, pk_sub_toInt (by omega) (by omega)]
  refine ⟨fun c => ?_, fun c => ?_⟩
  · rw [if_pos (by omega), nI_sub (by omega)]
  · rw [if_neg (by omega), neg32, nI_sub (by omega)]
theorem sF_rest {tv : Nat → Nat → Nat} {mem : Nat → Nat} {w n c : Nat} : sF tv mem w n ((2 ^ n - 1) ^^^ c) + sF tv mem w n c = sF tv mem w n (2 ^ n - 1) := by
  unfold sF
  rw [← sE_add]
  refine sE_cong (n := n) (fun k hk => ?_)
  rw [Nat.testBit_xor, bitAll, decide_eq_true hk]
  cases c.testBit k <;> simp
theorem only_nat {v w : Int32} (h : v &&& (w ^^^ (-1)) = 0) (hw : ∀ i, 24 ≤ i → i < 32 → bt w i = false) : ∃ x, x < 16777216 ∧ v = nI x := by
  refine ⟨v.toBitVec.toNat, ?_, Int32.toBitVec_inj.mp (by show _ = BitVec.ofNat 32 _; simp)⟩
  refine Nat.lt_pow_two_of_testBit (n := 24) _ (fun i hi => ?_)
  by_cases h32 : i < 32
  · cases hb : v.toBitVec.toNat.testBit i
    · rfl
    · have := only_bt h h32 (show bt v i = true from hb)
      rw [hw i hi h32] at this; cases this
  · exact bit_hi (n := 32) v.toBitVec.isLt (by omega)
end EvenP
section Even
variable {E : EnvX} {L : Nat} {h : Hp} {K : Nat} {nB nT : Nat} {tv : Nat → Nat → Nat} {pk lv sn : Nat → Nat} {ck : Nat}
/-- a set of at most ten things, for both -/
theorem thingSet (hE : EOk E) (hL : 3 ≤ L) (S : StV h 1 nB nT tv) (v : Int32) : (RdI E L m_X_isThingSet 0 [.int v, .int 10] h 0 ∧ ∀ h', MdV h' nB nT tv pk sn ck → RdI E L m_M_isHousehold 74 [.int v] h' 0) ∨ (RdI E L m_X_isThingSet 0 [.int v, .int 10] h 1 ∧ (∀ h', MdV h' nB nT tv pk sn ck → RdI E L m_M_isHousehold 74 [.int v] h' 1) ∧ ∃ x, x < 16777216 ∧ v = nI x ∧ pcn x ≤ 10 ∧ v &&& (tAll nT ^^^ (-1)) = 0) := by
  have h16 := S.2.2.2.2.1
  have ho := x_hasOnly (h := h) hE (L := L - 1) (by omega) v (tAll nT)
  by_cases hs : v &&& (tAll nT ^^^ (-1)) = 0
  · rw [if_pos hs] at ho
    obtain ⟨x, hx, rfl⟩ := only_nat hs (fun i h1 h2 => by rw [bt_tAll (by omega) h2, decide_eq_false (by omega)])
    have pl := (bcN hx).2
    by_cases q : pcn x ≤ 10
    · refine Or.inr ⟨B_X_isThingSet hE (by omega) ((st_thingBits hE (by omega) S).use (ho.use (brF (by decide) ((i_bitCount hE (by omega) hx).use (brF ?_ ⟨rfl, rfl⟩))))), fun h' M => B_M_isHousehold hE (by omega) ((m_thingsAll hE (by omega) M).use (brT' hs ((m_bitsOf hE (by omega) hx).use (brF ?_ ⟨rfl, rfl⟩)))), x, hx, rfl, q, hs⟩
      · rw [show (10 : Int32) = nI 10 from rfl, nIt (by omega) (by omega)]; omega
      · rw [show (10 : Int32) = nI 10 from rfl, nIt (by omega) (by omega)]; omega
    · refine Or.inl ⟨B_X_isThingSet hE (by omega) ((st_thingBits hE (by omega) S).use (ho.use (brF (by decide) ((i_bitCount hE (by omega) hx).use (brT ?_ ⟨rfl, rfl⟩))))), fun h' M => B_M_isHousehold hE (by omega) ((m_thingsAll hE (by omega) M).use (brT' hs ((m_bitsOf hE (by omega) hx).use (brT ?_ ⟨rfl, rfl⟩))))⟩
      · rw [show (10 : Int32) = nI 10 from rfl, nIt (by omega) (by omega)]; omega
      · rw [show (10 : Int32) = nI 10 from rfl, nIt (by omega) (by omega)]; omega
  · rw [if_neg hs] at ho
    exact Or.inl ⟨B_X_isThingSet hE (by omega) ((st_thingBits hE (by omega) S).use (ho.use (brT rfl ⟨rfl, rfl⟩))), fun h' M => B_M_isHousehold hE (by omega) ((m_thingsAll hE (by omega) M).use (brF' hs ⟨rfl, rfl⟩))⟩
def evP (tv : Nat → Nat → Nat) (mem : Nat → Nat) (n b o c : Nat) : Bool := goB tv mem n b c && goB tv mem n o ((2 ^ n - 1) ^^^ c)
def evF (tv : Nat → Nat → Nat) (mem : Nat → Nat) (n c : Nat) : Nat := dif (2 * sF tv mem 3 n c) (sF tv mem 3 n (2 ^ n - 1))
theorem evF_x {mem : Nat → Nat} {n c : Nat} : dif (sF tv mem 3 n c) (sF tv mem 3 n ((2 ^ n - 1) ^^^ c)) = evF tv mem n c := by
  have := sF_rest (tv := tv) (mem := mem) (w := 3) (n := n) (c := c)
  unfold evF dif
  split <;> split <;> omega
theorem pc_apart (hE : EOk E) (hL : 5 ≤ L) (S : StV h 1 nB nT tv) {n c : Nat} {mem : Nat → Nat} (P : PcV h n mem tv) (hc : c < 2 ^ n) : RdI E L m_Picked_worthApart 39 [.int (nI c)] h (nI (evF tv mem n c)) := by
  have n12 := P.1.2.1
  have p4 := pow13 (n := n) (by omega)
  have xl : (2 ^ n - 1) ^^^ c < 2 ^ n := Nat.xor_lt_two_pow (by omega) hc
  have s1 := sF_lt (w := 3) S P hc (by omega)
  have s2 := sF_lt (w := 3) S P xl (by omega)
  refine B_Picked_worthApart hE (by omega) ((pc_size hE (by omega) P hc).2.2.use ((pc_choices hE (by omega) P.1).use ?_))
  rw [pred1 (by omega), xorN (by omega) (by omega)]
  refine (pc_size hE (by omega) P xl).2.2.use ⟨rfl, ?_, rfl⟩
  rw [dif_x (by omega) (by omega), evF_x]
theorem pc_evenest (hE : EOk E) (hL : 7 ≤ L) (S : StV h 1 nB nT tv) {n b o : Nat} {mem : Nat → Nat} (P : PcV h n mem tv) (hb : b < 24) (ho : o < 24) : RdI E L m_Picked_evenest 39 [.int (nI b), .int (nI o)] h (bx (am (evP tv mem n b o) (evF tv mem n) (2 ^ n)).1) := by
  have n12 := P.1.2.1
  have p4 := pow13 (n := n) (by omega)
  refine B_Picked_evenest hE (by omega) ((pc_choices hE (by omega) P.1).use ?_)
  rw [pred1 (by omega)]
  have main : ∀ f c, f + c = 2 ^ n → at_Picked_evenest_13 E L h (fun y h' => y = bx (am (evP tv mem n b o) (evF tv mem n) (2 ^ n)).1 ∧ h' = h) (nI b) (nI o) (nI (2 ^ n - 1)) (bx (am (evP tv mem n b o) (evF tv mem n) c).1) (nI c) := by
    intro f
    induction f with
    | zero =>
      intro c hc
      rw [show c = 2 ^ n by omega]
      exact B_Picked_evenest_13 (brT (nI_lt (by omega) (by omega)) ⟨rfl, rfl⟩)
    | succ f ih =>
      intro c hc
      have hcn : c < 2 ^ n := by omega
      have xl : (2 ^ n - 1) ^^^ c < 2 ^ n := Nat.xor_lt_two_pow (by omega) hcn
      have ih1 := ih (c + 1) (by omega)
      have ex := xorN (a := 2 ^ n - 1) (b := c) (by omega) (by omega)
      have fb : ∀ x, x < 2 ^ n → evF tv mem n x < 1000000 := fun x hx => by
        have s1 := sF_lt (w := 3) S P hx (by omega)
        have s2 := sF_lt (w := 3) (c := 2 ^ n - 1) S P (by omega) (by omega)
        unfold evF dif; split <;> omega
      have aN := am_no (p := evP tv mem n b o) (f := evF tv mem n) (k := c)
      have aU := am_up (p := evP tv mem n b o) (f := evF tv mem n) (k := c)
      have aK := am_kp (p := evP tv mem n b o) (f := evF tv mem n) (k := c)
      have ay := fun z => am_yes (p := evP tv mem n b o) (f := evF tv mem n) (n := c) z
      have am1 : (am (evP tv mem n b o) (evF tv mem n) c).1 ≤ c := by
        by_cases z : (am (evP tv mem n b o) (evF tv mem n) c).1 = 0
        · omega
        · exact (ay z).1
      generalize am (evP tv mem n b o) (evF tv mem n) (c + 1) = A' at *
      generalize am (evP tv mem n b o) (evF tv mem n) c = A at *
      have tail : (A.1 = 0 ∨ evF tv mem n c < A.2) → ConI E (L - 1) m_Picked_goInto 39 [.int (nI c), .int (nI b)] h (fun y4 h3 => ((y4 = 0 → at_Picked_evenest_13 E L h3 (fun y h' => y = bx (am (evP tv mem n b o) (evF tv mem n) (2 ^ n)).1 ∧ h' = h) (nI b) (nI o) (nI (2 ^ n - 1)) (bx A.1) (nI c + 1)) ∧ (¬ y4 = 0 → ConI E (L - 1) m_Picked_goInto 39 [.int (nI (2 ^ n - 1) ^^^ nI c), .int (nI o)] h3 (fun y6 h5 => ((y6 = 0 → at_Picked_evenest_13 E L h5 (fun y h' => y = bx (am (evP tv mem n b o) (evF tv mem n) (2 ^ n)).1 ∧ h' = h) (nI b) (nI o) (nI (2 ^ n - 1)) (bx A.1) (nI c + 1)) ∧ (¬ y6 = 0 → at_Picked_evenest_13 E L h5 (fun y h' => y = bx (am (evP tv mem n b o) (evF tv mem n) (2 ^ n)).1 ∧ h' = h) (nI b) (nI o) (nI (2 ^ n - 1)) (nI c) (nI c + 1))))))) := fun bet => by
        rw [nI_1, ex]
        refine (pc_goInto hE (by omega) S P hcn hb).use ?_
        by_cases g1 : goB tv mem n b c = true
        · rw [if_pos g1]
          refine brF (by decide) ((pc_goInto hE (by omega) S P xl ho).use ?_)
          by_cases g2 : goB tv mem n o ((2 ^ n - 1) ^^^ c) = true
          · rw [if_pos g2]
            rw [aU (by unfold evP; rw [g1, g2]; rfl) bet, show ((c + 1, evF tv mem n c) : Nat × Nat).1 = c + 1 from rfl, bx_S] at ih1
            exact brF (by decide) ih1
          · rw [if_neg g2]
            rw [aN (by unfold evP; rw [show goB tv mem n o ((2 ^ n - 1) ^^^ c) = false by simpa using g2, Bool.and_false])] at ih1
            exact brT rfl ih1
        · rw [if_neg g1]
          rw [aN (by unfold evP; rw [show goB tv mem n b c = false by simpa using g1, Bool.false_and])] at ih1
          exact brT rfl ih1
      refine B_Picked_evenest_13 (brF (nI_nlt (by omega) (by omega)) ?_)
      rw [bx_m1 (by omega)]
      refine ⟨fun A0 => brF (by decide) (tail (Or.inl A0)), fun A0 => ?_⟩
      obtain ⟨y1, y2, y3⟩ := ay A0
      have f1 := fb c hcn
      have f2 := fb (A.1 - 1) (by omega)
      refine (pc_apart hE (by omega) S P hcn).use ?_
      have pa := pc_apart hE (L := L - 1) (by omega) S P (show A.1 - 1 < 2 ^ n by omega)
      rw [← bx_pos (by omega)] at pa
      refine pa.use ?_
      rw [← y3, nIl (by omega) (by omega)]
      refine ⟨fun d => brT rfl ?_, fun d => brF (by decide) (tail (Or.inr (by omega)))⟩
      rw [nI_1]
      by_cases e : evP tv mem n b o c = true
      · rw [aK e A0 (by omega)] at ih1; exact ih1
      · rw [aN (by simpa using e)] at ih1; exact ih1
  exact main (2 ^ n) 0 (by omega)
end Even
